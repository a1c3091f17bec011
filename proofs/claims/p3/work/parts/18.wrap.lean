/-! the law's own methods on a new object -/
theorem dL_matches_0 : decode cL_matches 0 = .ok (.aload_n 1, 1) := by decide +kernel
theorem dL_matches_1 : decode cL_matches 1 = .ok (.iconst 0, 1) := by decide +kernel
theorem dL_matches_2 : decode cL_matches 2 = .ok (.aload_n 0, 1) := by decide +kernel
theorem dL_matches_3 : decode cL_matches 3 = .ok (.invokevirtual 15, 3) := by decide +kernel
theorem dL_matches_18 : decode cL_matches 18 = .ok (.astore_n 2, 1) := by decide +kernel
theorem dL_matches_19 : decode cL_matches 19 = .ok (.iconst 1, 1) := by decide +kernel
theorem dL_matches_20 : decode cL_matches 20 = .ok (.ireturn, 1) := by decide +kernel
set_option maxHeartbeats 4000000 in
set_option maxRecDepth 100000 in
theorem l_matches (l : Launch) (G : PG) (hst : l.stackTraces = false) (h se tx rs sp md pf pt : Nat) (mt mf mo pcs : Int32) (msp : Int64) (ou : Nat) (fo : Nat → Int64) : CiT l yL_matches (Cond.codeWith yL_matches cL_matches 3 (some .int) [(0, 15, 18, 19)] :: aW) { frames := 7, cells := 1, slots := 6, locals := 130 } G [(h, .inr (5, [.ref se, .ref tx, .ref rs, .ref sp, .int 0, .int mt, .int mf, .int mo, .long msp, .ref md, .ref pf, .ref pt, .int pcs])), (ou, .inl (G.2 1, 1, .inr (.inl fo)))] [.ref h, .ref ou] (fun (r9 : Int32) (_ : Unit) => r9 = 1) (fun (_ : Unit) => [(h, .inr (5, [.ref se, .ref tx, .ref rs, .ref sp, .int 0, .int mt, .int mf, .int mo, .long msp, .ref md, .ref pf, .ref pt, .int pcs])), (ou, .inl (G.2 1, 1, .inr (.inl fo)))]) 1 6 := by
  refine ofBT (y := yL_matches) (G := G) (cc := cL_matches) (maxL := 3) (ret := (some .int)) (hh := [(0, 15, 18, 19)]) (Qc := fun A => va_Qi (fun (r9 : Int32) (_ : Unit) => r9 = 1) (oB G A (fun (_ : Unit) => [(h, .inr (5, [.ref se, .ref tx, .ref rs, .ref sp, .int 0, .int mt, .int mf, .int mo, .long msp, .ref md, .ref pf, .ref pt, .int pcs])), (ou, .inl (G.2 1, 1, .inr (.inl fo)))])) A) (by decide) rfl ?_
  intro p e s m below meth c A F hK hT htab hA hP hD
  have hx := F.1.1; have hb := F.1.2.1; have hml := F.1.2.2.1; have hts := F.1.2.2.2.2
  have hown : s.vm.findClass RL = some m.cls := F.1.2.2.2.1
  have hS : va_S A s.heap s.heap [] := va_S.rf
  have hl := lv_entry ([.ref h, .ref ou]) (n := 3) (Nat.le_of_ble_eq_true rfl)
  rw [lg_entry_eq]
  generalize (lg_sl ([.ref h, .ref ou]) ++ List.replicate (3 - (lg_sl ([.ref h, .ref ou])).length) Slot.unset).toArray = ls at hl ⊢
  have hl : lv_has ls 3 [(0, .ref h), (1, .ref ou)] := hl
  refine lv_aload_n hx hb dL_matches_0 rfl (lv_at hl 1 rfl) ?_
  refine lv_iconst (v := 0) hx hb dL_matches_1 (by decide) ?_
  refine lv_aload_n hx hb dL_matches_2 rfl (lv_at hl 0 rfl) ?_
  have hPc := hP.sub (ws' := [(h, .inr (5, [.ref se, .ref tx, .ref rs, .ref sp, .int 0, .int mt, .int mf, .int mo, .long msp, .ref md, .ref pf, .ref pt, .int pcs]))]) [0] rfl
  have hDc := hD.sub (ws' := [(h, .inr (5, [.ref se, .ref tx, .ref rs, .ref sp, .int 0, .int mt, .int mf, .int mo, .long msp, .ref md, .ref pf, .ref pt, .int pcs]))]) [0] (by decide) rfl
  have hqc : 0 + 1 ≤ 1 ∧ 0 + 6 ≤ 6 := ⟨by omega, by omega⟩
  refine xc_V (As := []) (rest := [.int 0, .ref ou]) F.1 (x_matches l G hst _ _ _ _ _ _ _ _ _ _ _ _ _  _) (cwV 0 hts (aw_V w_598 w_599 w_600 w_1 w_601) rfl rfl rfl (by decide +kernel) ⟨by decide, by decide⟩) ⟨xS_blind, va_recv (q := (RX5, TX5, 13)) (ci := 5) (q0 := 0) hK.1 hPc rfl rfl, xS_pre hPc hDc hK hT (fun _ _ => rfl)⟩ rfl hl.1 (lv_room (Nat.le_of_ble_eq_true rfl)) dL_matches_3 hqc (fun E q9 ce H hE hce hcv hcl hz hk => ?_)
  subst hE
  refine xc_catch (own := RL) (name := xISE) (E := xISE) hown [] ⟨0, 15, 18, 19⟩ [] htab (fun _ h => by cases h) (by decide) (by decide) (hts _ w_597) (va_Nw.use rfl (hT.1 _ (List.mem_of_getElem? (i := 0) rfl))) hce hcv hcl ?_
  have hP := hP.more hk
  have hS := hS.more hz hk
  have hP : va_P G.1 vwCl [(h, .inr (5, [.ref se, .ref tx, .ref rs, .ref sp, .int 0, .int mt, .int mf, .int mo, .long msp, .ref md, .ref pf, .ref pt, .int pcs])), (ou, .inl (G.2 1, 1, .inr (.inl fo)))] H := hP
  have hD : va_D A [(h, .inr (5, [.ref se, .ref tx, .ref rs, .ref sp, .int 0, .int mt, .int mf, .int mo, .long msp, .ref md, .ref pf, .ref pt, .int pcs])), (ou, .inl (G.2 1, 1, .inr (.inl fo)))] := hD
  refine lv_astore_n hx hb dL_matches_18 rfl hl (by decide) rfl (fun ls hl => ?_)
  have hl : lv_has ls 3 [(2, .ref q9), (0, .ref h), (1, .ref ou)] := hl
  refine lv_iconst (v := 1) hx hb dL_matches_19 (by decide) ?_
  exact en_i F hS 1 () (by rfl) rfl hP hD (by omega) (by omega) dL_matches_20

theorem dL_looking_0 : decode cL_looking 0 = .ok (.aload_n 1, 1) := by decide +kernel
theorem dL_looking_1 : decode cL_looking 1 = .ok (.iconst 0, 1) := by decide +kernel
theorem dL_looking_2 : decode cL_looking 2 = .ok (.aload_n 0, 1) := by decide +kernel
theorem dL_looking_3 : decode cL_looking 3 = .ok (.invokevirtual 21, 3) := by decide +kernel
theorem dL_looking_18 : decode cL_looking 18 = .ok (.astore_n 2, 1) := by decide +kernel
theorem dL_looking_19 : decode cL_looking 19 = .ok (.iconst 1, 1) := by decide +kernel
theorem dL_looking_20 : decode cL_looking 20 = .ok (.ireturn, 1) := by decide +kernel
set_option maxHeartbeats 4000000 in
set_option maxRecDepth 100000 in
theorem l_looking (l : Launch) (G : PG) (hst : l.stackTraces = false) (h se tx rs sp md pf pt : Nat) (mt mf mo pcs : Int32) (msp : Int64) (ou : Nat) (fo : Nat → Int64) : CiT l yL_looking (Cond.codeWith yL_looking cL_looking 3 (some .int) [(0, 15, 18, 19)] :: aW) { frames := 7, cells := 1, slots := 6, locals := 130 } G [(h, .inr (5, [.ref se, .ref tx, .ref rs, .ref sp, .int 0, .int mt, .int mf, .int mo, .long msp, .ref md, .ref pf, .ref pt, .int pcs])), (ou, .inl (G.2 1, 1, .inr (.inl fo)))] [.ref h, .ref ou] (fun (r9 : Int32) (_ : Unit) => r9 = 1) (fun (_ : Unit) => [(h, .inr (5, [.ref se, .ref tx, .ref rs, .ref sp, .int 0, .int mt, .int mf, .int mo, .long msp, .ref md, .ref pf, .ref pt, .int pcs])), (ou, .inl (G.2 1, 1, .inr (.inl fo)))]) 1 6 := by
  refine ofBT (y := yL_looking) (G := G) (cc := cL_looking) (maxL := 3) (ret := (some .int)) (hh := [(0, 15, 18, 19)]) (Qc := fun A => va_Qi (fun (r9 : Int32) (_ : Unit) => r9 = 1) (oB G A (fun (_ : Unit) => [(h, .inr (5, [.ref se, .ref tx, .ref rs, .ref sp, .int 0, .int mt, .int mf, .int mo, .long msp, .ref md, .ref pf, .ref pt, .int pcs])), (ou, .inl (G.2 1, 1, .inr (.inl fo)))])) A) (by decide) rfl ?_
  intro p e s m below meth c A F hK hT htab hA hP hD
  have hx := F.1.1; have hb := F.1.2.1; have hml := F.1.2.2.1; have hts := F.1.2.2.2.2
  have hown : s.vm.findClass RL = some m.cls := F.1.2.2.2.1
  have hS : va_S A s.heap s.heap [] := va_S.rf
  have hl := lv_entry ([.ref h, .ref ou]) (n := 3) (Nat.le_of_ble_eq_true rfl)
  rw [lg_entry_eq]
  generalize (lg_sl ([.ref h, .ref ou]) ++ List.replicate (3 - (lg_sl ([.ref h, .ref ou])).length) Slot.unset).toArray = ls at hl ⊢
  have hl : lv_has ls 3 [(0, .ref h), (1, .ref ou)] := hl
  refine lv_aload_n hx hb dL_looking_0 rfl (lv_at hl 1 rfl) ?_
  refine lv_iconst (v := 0) hx hb dL_looking_1 (by decide) ?_
  refine lv_aload_n hx hb dL_looking_2 rfl (lv_at hl 0 rfl) ?_
  have hPc := hP.sub (ws' := [(h, .inr (5, [.ref se, .ref tx, .ref rs, .ref sp, .int 0, .int mt, .int mf, .int mo, .long msp, .ref md, .ref pf, .ref pt, .int pcs]))]) [0] rfl
  have hDc := hD.sub (ws' := [(h, .inr (5, [.ref se, .ref tx, .ref rs, .ref sp, .int 0, .int mt, .int mf, .int mo, .long msp, .ref md, .ref pf, .ref pt, .int pcs]))]) [0] (by decide) rfl
  have hqc : 0 + 1 ≤ 1 ∧ 0 + 6 ≤ 6 := ⟨by omega, by omega⟩
  refine xc_V (As := []) (rest := [.int 0, .ref ou]) F.1 (x_looking l G hst _ _ _ _ _ _ _ _ _ _ _ _ _  _) (cwV 0 hts (aw_V w_731 w_732 w_733 w_1 w_734) rfl rfl rfl (by decide +kernel) ⟨by decide, by decide⟩) ⟨xS_blind, va_recv (q := (RX5, TX5, 13)) (ci := 5) (q0 := 0) hK.1 hPc rfl rfl, xS_pre hPc hDc hK hT (fun _ _ => rfl)⟩ rfl hl.1 (lv_room (Nat.le_of_ble_eq_true rfl)) dL_looking_3 hqc (fun E q9 ce H hE hce hcv hcl hz hk => ?_)
  subst hE
  refine xc_catch (own := RL) (name := xISE) (E := xISE) hown [] ⟨0, 15, 18, 19⟩ [] htab (fun _ h => by cases h) (by decide) (by decide) (hts _ w_597) (va_Nw.use rfl (hT.1 _ (List.mem_of_getElem? (i := 0) rfl))) hce hcv hcl ?_
  have hP := hP.more hk
  have hS := hS.more hz hk
  have hP : va_P G.1 vwCl [(h, .inr (5, [.ref se, .ref tx, .ref rs, .ref sp, .int 0, .int mt, .int mf, .int mo, .long msp, .ref md, .ref pf, .ref pt, .int pcs])), (ou, .inl (G.2 1, 1, .inr (.inl fo)))] H := hP
  have hD : va_D A [(h, .inr (5, [.ref se, .ref tx, .ref rs, .ref sp, .int 0, .int mt, .int mf, .int mo, .long msp, .ref md, .ref pf, .ref pt, .int pcs])), (ou, .inl (G.2 1, 1, .inr (.inl fo)))] := hD
  refine lv_astore_n hx hb dL_looking_18 rfl hl (by decide) rfl (fun ls hl => ?_)
  have hl : lv_has ls 3 [(2, .ref q9), (0, .ref h), (1, .ref ou)] := hl
  refine lv_iconst (v := 1) hx hb dL_looking_19 (by decide) ?_
  exact en_i F hS 1 () (by rfl) rfl hP hD (by omega) (by omega) dL_looking_20

theorem dL_replace_0 : decode cL_replace 0 = .ok (.aload_n 1, 1) := by decide +kernel
theorem dL_replace_1 : decode cL_replace 1 = .ok (.iconst 0, 1) := by decide +kernel
theorem dL_replace_2 : decode cL_replace 2 = .ok (.aload_n 0, 1) := by decide +kernel
theorem dL_replace_3 : decode cL_replace 3 = .ok (.invokevirtual 36, 3) := by decide +kernel
theorem dL_replace_11 : decode cL_replace 11 = .ok (.astore_n 2, 1) := by decide +kernel
theorem dL_replace_12 : decode cL_replace 12 = .ok (.iconst 1, 1) := by decide +kernel
theorem dL_replace_13 : decode cL_replace 13 = .ok (.ireturn, 1) := by decide +kernel
set_option maxHeartbeats 4000000 in
set_option maxRecDepth 100000 in
theorem l_replace (l : Launch) (G : PG) (hst : l.stackTraces = false) (h se tx rs sp md pf pt : Nat) (mt mf mo pcs : Int32) (msp : Int64) (ou : Nat) (fo : Nat → Int64) : CiT l yL_replace (Cond.codeWith yL_replace cL_replace 3 (some .int) [(0, 8, 11, 19), (0, 8, 14, 13), (0, 8, 17, 28)] :: aW) { frames := 7, cells := 1, slots := 6, locals := 130 } G [(h, .inr (5, [.ref se, .ref tx, .ref rs, .ref sp, .int 0, .int mt, .int mf, .int mo, .long msp, .ref md, .ref pf, .ref pt, .int pcs])), (ou, .inl (G.2 1, 1, .inr (.inl fo)))] [.ref h, .ref ou] (fun (r9 : Int32) (_ : Unit) => r9 = 1) (fun (_ : Unit) => [(h, .inr (5, [.ref se, .ref tx, .ref rs, .ref sp, .int 0, .int mt, .int mf, .int mo, .long msp, .ref md, .ref pf, .ref pt, .int pcs])), (ou, .inl (G.2 1, 1, .inr (.inl fo)))]) 1 6 := by
  refine ofBT (y := yL_replace) (G := G) (cc := cL_replace) (maxL := 3) (ret := (some .int)) (hh := [(0, 8, 11, 19), (0, 8, 14, 13), (0, 8, 17, 28)]) (Qc := fun A => va_Qi (fun (r9 : Int32) (_ : Unit) => r9 = 1) (oB G A (fun (_ : Unit) => [(h, .inr (5, [.ref se, .ref tx, .ref rs, .ref sp, .int 0, .int mt, .int mf, .int mo, .long msp, .ref md, .ref pf, .ref pt, .int pcs])), (ou, .inl (G.2 1, 1, .inr (.inl fo)))])) A) (by decide) rfl ?_
  intro p e s m below meth c A F hK hT htab hA hP hD
  have hx := F.1.1; have hb := F.1.2.1; have hml := F.1.2.2.1; have hts := F.1.2.2.2.2
  have hown : s.vm.findClass RL = some m.cls := F.1.2.2.2.1
  have hS : va_S A s.heap s.heap [] := va_S.rf
  have hl := lv_entry ([.ref h, .ref ou]) (n := 3) (Nat.le_of_ble_eq_true rfl)
  rw [lg_entry_eq]
  generalize (lg_sl ([.ref h, .ref ou]) ++ List.replicate (3 - (lg_sl ([.ref h, .ref ou])).length) Slot.unset).toArray = ls at hl ⊢
  have hl : lv_has ls 3 [(0, .ref h), (1, .ref ou)] := hl
  refine lv_aload_n hx hb dL_replace_0 rfl (lv_at hl 1 rfl) ?_
  refine lv_iconst (v := 0) hx hb dL_replace_1 (by decide) ?_
  refine lv_aload_n hx hb dL_replace_2 rfl (lv_at hl 0 rfl) ?_
  have hPc := hP.sub (ws' := [(h, .inr (5, [.ref se, .ref tx, .ref rs, .ref sp, .int 0, .int mt, .int mf, .int mo, .long msp, .ref md, .ref pf, .ref pt, .int pcs]))]) [0] rfl
  have hDc := hD.sub (ws' := [(h, .inr (5, [.ref se, .ref tx, .ref rs, .ref sp, .int 0, .int mt, .int mf, .int mo, .long msp, .ref md, .ref pf, .ref pt, .int pcs]))]) [0] (by decide) rfl
  have hqc : 0 + 1 ≤ 1 ∧ 0 + 6 ≤ 6 := ⟨by omega, by omega⟩
  refine xc_V (As := []) (rest := [.int 0, .ref ou]) F.1 (x_replace l G hst _ _ _ _ _ _ _ _ _ _ _ _ _  _) (cwV 0 hts (aw_V w_787 w_788 w_789 w_1 w_790) rfl rfl rfl (by decide +kernel) ⟨by decide, by decide⟩) ⟨xS_blind, va_recv (q := (RX5, TX5, 13)) (ci := 5) (q0 := 0) hK.1 hPc rfl rfl, xS_pre hPc hDc hK hT (fun _ _ => rfl)⟩ rfl hl.1 (lv_room (Nat.le_of_ble_eq_true rfl)) dL_replace_3 hqc (fun E q9 ce H hE hce hcv hcl hz hk => ?_)
  subst hE
  refine xc_catch (own := RL) (name := xISE) (E := xISE) hown [] ⟨0, 8, 11, 19⟩ [⟨0, 8, 14, 13⟩, ⟨0, 8, 17, 28⟩] htab (fun _ h => by cases h) (by decide) (by decide) (hts _ w_597) (va_Nw.use rfl (hT.1 _ (List.mem_of_getElem? (i := 0) rfl))) hce hcv hcl ?_
  have hP := hP.more hk
  have hS := hS.more hz hk
  have hP : va_P G.1 vwCl [(h, .inr (5, [.ref se, .ref tx, .ref rs, .ref sp, .int 0, .int mt, .int mf, .int mo, .long msp, .ref md, .ref pf, .ref pt, .int pcs])), (ou, .inl (G.2 1, 1, .inr (.inl fo)))] H := hP
  have hD : va_D A [(h, .inr (5, [.ref se, .ref tx, .ref rs, .ref sp, .int 0, .int mt, .int mf, .int mo, .long msp, .ref md, .ref pf, .ref pt, .int pcs])), (ou, .inl (G.2 1, 1, .inr (.inl fo)))] := hD
  refine lv_astore_n hx hb dL_replace_11 rfl hl (by decide) rfl (fun ls hl => ?_)
  have hl : lv_has ls 3 [(2, .ref q9), (0, .ref h), (1, .ref ou)] := hl
  refine lv_iconst (v := 1) hx hb dL_replace_12 (by decide) ?_
  exact en_i F hS 1 () (by rfl) rfl hP hD (by omega) (by omega) dL_replace_13

theorem dL_split_0 : decode cL_split 0 = .ok (.aload_n 1, 1) := by decide +kernel
theorem dL_split_1 : decode cL_split 1 = .ok (.iconst 0, 1) := by decide +kernel
theorem dL_split_2 : decode cL_split 2 = .ok (.aload_n 0, 1) := by decide +kernel
theorem dL_split_3 : decode cL_split 3 = .ok (.invokevirtual 43, 3) := by decide +kernel
theorem dL_split_11 : decode cL_split 11 = .ok (.astore_n 2, 1) := by decide +kernel
theorem dL_split_12 : decode cL_split 12 = .ok (.iconst 1, 1) := by decide +kernel
theorem dL_split_13 : decode cL_split 13 = .ok (.ireturn, 1) := by decide +kernel
set_option maxHeartbeats 4000000 in
set_option maxRecDepth 100000 in
theorem l_split (l : Launch) (G : PG) (hst : l.stackTraces = false) (h se tx rs sp md pf pt : Nat) (mt mf mo pcs : Int32) (msp : Int64) (ou : Nat) (fo : Nat → Int64) : CiT l yL_split (Cond.codeWith yL_split cL_split 3 (some .int) [(0, 8, 11, 19)] :: aW) { frames := 7, cells := 1, slots := 6, locals := 130 } G [(h, .inr (5, [.ref se, .ref tx, .ref rs, .ref sp, .int 0, .int mt, .int mf, .int mo, .long msp, .ref md, .ref pf, .ref pt, .int pcs])), (ou, .inl (G.2 1, 1, .inr (.inl fo)))] [.ref h, .ref ou] (fun (r9 : Int32) (_ : Unit) => r9 = 1) (fun (_ : Unit) => [(h, .inr (5, [.ref se, .ref tx, .ref rs, .ref sp, .int 0, .int mt, .int mf, .int mo, .long msp, .ref md, .ref pf, .ref pt, .int pcs])), (ou, .inl (G.2 1, 1, .inr (.inl fo)))]) 1 6 := by
  refine ofBT (y := yL_split) (G := G) (cc := cL_split) (maxL := 3) (ret := (some .int)) (hh := [(0, 8, 11, 19)]) (Qc := fun A => va_Qi (fun (r9 : Int32) (_ : Unit) => r9 = 1) (oB G A (fun (_ : Unit) => [(h, .inr (5, [.ref se, .ref tx, .ref rs, .ref sp, .int 0, .int mt, .int mf, .int mo, .long msp, .ref md, .ref pf, .ref pt, .int pcs])), (ou, .inl (G.2 1, 1, .inr (.inl fo)))])) A) (by decide) rfl ?_
  intro p e s m below meth c A F hK hT htab hA hP hD
  have hx := F.1.1; have hb := F.1.2.1; have hml := F.1.2.2.1; have hts := F.1.2.2.2.2
  have hown : s.vm.findClass RL = some m.cls := F.1.2.2.2.1
  have hS : va_S A s.heap s.heap [] := va_S.rf
  have hl := lv_entry ([.ref h, .ref ou]) (n := 3) (Nat.le_of_ble_eq_true rfl)
  rw [lg_entry_eq]
  generalize (lg_sl ([.ref h, .ref ou]) ++ List.replicate (3 - (lg_sl ([.ref h, .ref ou])).length) Slot.unset).toArray = ls at hl ⊢
  have hl : lv_has ls 3 [(0, .ref h), (1, .ref ou)] := hl
  refine lv_aload_n hx hb dL_split_0 rfl (lv_at hl 1 rfl) ?_
  refine lv_iconst (v := 0) hx hb dL_split_1 (by decide) ?_
  refine lv_aload_n hx hb dL_split_2 rfl (lv_at hl 0 rfl) ?_
  have hPc := hP.sub (ws' := [(h, .inr (5, [.ref se, .ref tx, .ref rs, .ref sp, .int 0, .int mt, .int mf, .int mo, .long msp, .ref md, .ref pf, .ref pt, .int pcs]))]) [0] rfl
  have hDc := hD.sub (ws' := [(h, .inr (5, [.ref se, .ref tx, .ref rs, .ref sp, .int 0, .int mt, .int mf, .int mo, .long msp, .ref md, .ref pf, .ref pt, .int pcs]))]) [0] (by decide) rfl
  have hqc : 0 + 1 ≤ 1 ∧ 0 + 6 ≤ 6 := ⟨by omega, by omega⟩
  refine xc_V (As := []) (rest := [.int 0, .ref ou]) F.1 (x_split l G hst _ _ _ _ _ _ _ _ _ _ _ _ _  _) (cwV 0 hts (aw_V w_821 w_822 w_823 w_1 w_824) rfl rfl rfl (by decide +kernel) ⟨by decide, by decide⟩) ⟨xS_blind, va_recv (q := (RX5, TX5, 13)) (ci := 5) (q0 := 0) hK.1 hPc rfl rfl, xS_pre hPc hDc hK hT (fun _ _ => rfl)⟩ rfl hl.1 (lv_room (Nat.le_of_ble_eq_true rfl)) dL_split_3 hqc (fun E q9 ce H hE hce hcv hcl hz hk => ?_)
  subst hE
  refine xc_catch (own := RL) (name := xISE) (E := xISE) hown [] ⟨0, 8, 11, 19⟩ [] htab (fun _ h => by cases h) (by decide) (by decide) (hts _ w_597) (va_Nw.use rfl (hT.1 _ (List.mem_of_getElem? (i := 0) rfl))) hce hcv hcl ?_
  have hP := hP.more hk
  have hS := hS.more hz hk
  have hP : va_P G.1 vwCl [(h, .inr (5, [.ref se, .ref tx, .ref rs, .ref sp, .int 0, .int mt, .int mf, .int mo, .long msp, .ref md, .ref pf, .ref pt, .int pcs])), (ou, .inl (G.2 1, 1, .inr (.inl fo)))] H := hP
  have hD : va_D A [(h, .inr (5, [.ref se, .ref tx, .ref rs, .ref sp, .int 0, .int mt, .int mf, .int mo, .long msp, .ref md, .ref pf, .ref pt, .int pcs])), (ou, .inl (G.2 1, 1, .inr (.inl fo)))] := hD
  refine lv_astore_n hx hb dL_split_11 rfl hl (by decide) rfl (fun ls hl => ?_)
  have hl : lv_has ls 3 [(2, .ref q9), (0, .ref h), (1, .ref ou)] := hl
  refine lv_iconst (v := 1) hx hb dL_split_12 (by decide) ?_
  exact en_i F hS 1 () (by rfl) rfl hP hD (by omega) (by omega) dL_split_13

theorem dL_start_0 : decode cL_start 0 = .ok (.aload_n 2, 1) := by decide +kernel
theorem dL_start_1 : decode cL_start 1 = .ok (.iconst 0, 1) := by decide +kernel
theorem dL_start_2 : decode cL_start 2 = .ok (.aload_n 0, 1) := by decide +kernel
theorem dL_start_3 : decode cL_start 3 = .ok (.iload_n 1, 1) := by decide +kernel
theorem dL_start_4 : decode cL_start 4 = .ok (.invokevirtual 30, 3) := by decide +kernel
theorem dL_start_12 : decode cL_start 12 = .ok (.astore_n 3, 1) := by decide +kernel
theorem dL_start_13 : decode cL_start 13 = .ok (.iconst 1, 1) := by decide +kernel
theorem dL_start_14 : decode cL_start 14 = .ok (.ireturn, 1) := by decide +kernel
set_option maxHeartbeats 4000000 in
set_option maxRecDepth 100000 in
theorem l_start (l : Launch) (G : PG) (hst : l.stackTraces = false) (h se tx rs sp md pf pt : Nat) (cp mf mo pcs : Int32) (msp : Int64) (g : Int32) (ou : Nat) (fo : Nat → Int64) : CiT l yL_start (Cond.codeWith yL_start cL_start 4 (some .int) [(0, 9, 12, 19), (0, 9, 15, 28)] :: aW) { frames := 7, cells := 1, slots := 6, locals := 130 } G [(h, .inr (5, [.ref se, .ref tx, .ref rs, .ref sp, .int cp, .int 0, .int mf, .int mo, .long msp, .ref md, .ref pf, .ref pt, .int pcs])), (ou, .inl (G.2 1, 1, .inr (.inl fo)))] [.ref h, .int g, .ref ou] (fun (r9 : Int32) (_ : Unit) => r9 = 1) (fun (_ : Unit) => [(h, .inr (5, [.ref se, .ref tx, .ref rs, .ref sp, .int cp, .int 0, .int mf, .int mo, .long msp, .ref md, .ref pf, .ref pt, .int pcs])), (ou, .inl (G.2 1, 1, .inr (.inl fo)))]) 1 6 := by
  refine ofBT (y := yL_start) (G := G) (cc := cL_start) (maxL := 4) (ret := (some .int)) (hh := [(0, 9, 12, 19), (0, 9, 15, 28)]) (Qc := fun A => va_Qi (fun (r9 : Int32) (_ : Unit) => r9 = 1) (oB G A (fun (_ : Unit) => [(h, .inr (5, [.ref se, .ref tx, .ref rs, .ref sp, .int cp, .int 0, .int mf, .int mo, .long msp, .ref md, .ref pf, .ref pt, .int pcs])), (ou, .inl (G.2 1, 1, .inr (.inl fo)))])) A) (by decide) rfl ?_
  intro p e s m below meth c A F hK hT htab hA hP hD
  have hx := F.1.1; have hb := F.1.2.1; have hml := F.1.2.2.1; have hts := F.1.2.2.2.2
  have hown : s.vm.findClass RL = some m.cls := F.1.2.2.2.1
  have hS : va_S A s.heap s.heap [] := va_S.rf
  have hl := lv_entry ([.ref h, .int g, .ref ou]) (n := 4) (Nat.le_of_ble_eq_true rfl)
  rw [lg_entry_eq]
  generalize (lg_sl ([.ref h, .int g, .ref ou]) ++ List.replicate (4 - (lg_sl ([.ref h, .int g, .ref ou])).length) Slot.unset).toArray = ls at hl ⊢
  have hl : lv_has ls 4 [(0, .ref h), (1, .int g), (2, .ref ou)] := hl
  refine lv_aload_n hx hb dL_start_0 rfl (lv_at hl 2 rfl) ?_
  refine lv_iconst (v := 0) hx hb dL_start_1 (by decide) ?_
  refine lv_aload_n hx hb dL_start_2 rfl (lv_at hl 0 rfl) ?_
  refine lv_iload_n hx hb dL_start_3 rfl (lv_at hl 1 rfl) ?_
  have hPc := hP.sub (ws' := [(h, .inr (5, [.ref se, .ref tx, .ref rs, .ref sp, .int cp, .int 0, .int mf, .int mo, .long msp, .ref md, .ref pf, .ref pt, .int pcs]))]) [0] rfl
  have hDc := hD.sub (ws' := [(h, .inr (5, [.ref se, .ref tx, .ref rs, .ref sp, .int cp, .int 0, .int mf, .int mo, .long msp, .ref md, .ref pf, .ref pt, .int pcs]))]) [0] (by decide) rfl
  have hqc : 0 + 1 ≤ 1 ∧ 0 + 6 ≤ 6 := ⟨by omega, by omega⟩
  refine xc_V (As := [.int g]) (rest := [.int 0, .ref ou]) F.1 (x_start l G hst _ _ _ _ _ _ _ _ _ _ _ _ _ _ _) (cwV 1 hts (aw_V w_761 w_762 w_763 w_1 w_764) rfl rfl rfl (by decide +kernel) ⟨by decide, by decide⟩) ⟨xS_blind, va_recv (q := (RX5, TX5, 13)) (ci := 5) (q0 := 0) hK.1 hPc rfl rfl, xS_pre hPc hDc hK hT (fun _ _ => rfl)⟩ rfl hl.1 (lv_room (Nat.le_of_ble_eq_true rfl)) dL_start_4 hqc (fun E q9 ce H hE hce hcv hcl hz hk => ?_)
  subst hE
  refine xc_catch (own := RL) (name := xISE) (E := xISE) hown [] ⟨0, 9, 12, 19⟩ [⟨0, 9, 15, 28⟩] htab (fun _ h => by cases h) (by decide) (by decide) (hts _ w_597) (va_Nw.use rfl (hT.1 _ (List.mem_of_getElem? (i := 0) rfl))) hce hcv hcl ?_
  have hP := hP.more hk
  have hS := hS.more hz hk
  have hP : va_P G.1 vwCl [(h, .inr (5, [.ref se, .ref tx, .ref rs, .ref sp, .int cp, .int 0, .int mf, .int mo, .long msp, .ref md, .ref pf, .ref pt, .int pcs])), (ou, .inl (G.2 1, 1, .inr (.inl fo)))] H := hP
  have hD : va_D A [(h, .inr (5, [.ref se, .ref tx, .ref rs, .ref sp, .int cp, .int 0, .int mf, .int mo, .long msp, .ref md, .ref pf, .ref pt, .int pcs])), (ou, .inl (G.2 1, 1, .inr (.inl fo)))] := hD
  refine lv_astore_n hx hb dL_start_12 rfl hl (by decide) rfl (fun ls hl => ?_)
  have hl : lv_has ls 4 [(3, .ref q9), (0, .ref h), (1, .int g), (2, .ref ou)] := hl
  refine lv_iconst (v := 1) hx hb dL_start_13 (by decide) ?_
  exact en_i F hS 1 () (by rfl) rfl hP hD (by omega) (by omega) dL_start_14

theorem dL_end_0 : decode cL_end 0 = .ok (.aload_n 2, 1) := by decide +kernel
theorem dL_end_1 : decode cL_end 1 = .ok (.iconst 0, 1) := by decide +kernel
theorem dL_end_2 : decode cL_end 2 = .ok (.aload_n 0, 1) := by decide +kernel
theorem dL_end_3 : decode cL_end 3 = .ok (.iload_n 1, 1) := by decide +kernel
theorem dL_end_4 : decode cL_end 4 = .ok (.invokevirtual 33, 3) := by decide +kernel
theorem dL_end_12 : decode cL_end 12 = .ok (.astore_n 3, 1) := by decide +kernel
theorem dL_end_13 : decode cL_end 13 = .ok (.iconst 1, 1) := by decide +kernel
theorem dL_end_14 : decode cL_end 14 = .ok (.ireturn, 1) := by decide +kernel
set_option maxHeartbeats 4000000 in
set_option maxRecDepth 100000 in
theorem l_end (l : Launch) (G : PG) (hst : l.stackTraces = false) (h se tx rs sp md pf pt : Nat) (cp mf mo pcs : Int32) (msp : Int64) (g : Int32) (ou : Nat) (fo : Nat → Int64) : CiT l yL_end (Cond.codeWith yL_end cL_end 4 (some .int) [(0, 9, 12, 19), (0, 9, 15, 28)] :: aW) { frames := 7, cells := 1, slots := 6, locals := 130 } G [(h, .inr (5, [.ref se, .ref tx, .ref rs, .ref sp, .int cp, .int 0, .int mf, .int mo, .long msp, .ref md, .ref pf, .ref pt, .int pcs])), (ou, .inl (G.2 1, 1, .inr (.inl fo)))] [.ref h, .int g, .ref ou] (fun (r9 : Int32) (_ : Unit) => r9 = 1) (fun (_ : Unit) => [(h, .inr (5, [.ref se, .ref tx, .ref rs, .ref sp, .int cp, .int 0, .int mf, .int mo, .long msp, .ref md, .ref pf, .ref pt, .int pcs])), (ou, .inl (G.2 1, 1, .inr (.inl fo)))]) 1 6 := by
  refine ofBT (y := yL_end) (G := G) (cc := cL_end) (maxL := 4) (ret := (some .int)) (hh := [(0, 9, 12, 19), (0, 9, 15, 28)]) (Qc := fun A => va_Qi (fun (r9 : Int32) (_ : Unit) => r9 = 1) (oB G A (fun (_ : Unit) => [(h, .inr (5, [.ref se, .ref tx, .ref rs, .ref sp, .int cp, .int 0, .int mf, .int mo, .long msp, .ref md, .ref pf, .ref pt, .int pcs])), (ou, .inl (G.2 1, 1, .inr (.inl fo)))])) A) (by decide) rfl ?_
  intro p e s m below meth c A F hK hT htab hA hP hD
  have hx := F.1.1; have hb := F.1.2.1; have hml := F.1.2.2.1; have hts := F.1.2.2.2.2
  have hown : s.vm.findClass RL = some m.cls := F.1.2.2.2.1
  have hS : va_S A s.heap s.heap [] := va_S.rf
  have hl := lv_entry ([.ref h, .int g, .ref ou]) (n := 4) (Nat.le_of_ble_eq_true rfl)
  rw [lg_entry_eq]
  generalize (lg_sl ([.ref h, .int g, .ref ou]) ++ List.replicate (4 - (lg_sl ([.ref h, .int g, .ref ou])).length) Slot.unset).toArray = ls at hl ⊢
  have hl : lv_has ls 4 [(0, .ref h), (1, .int g), (2, .ref ou)] := hl
  refine lv_aload_n hx hb dL_end_0 rfl (lv_at hl 2 rfl) ?_
  refine lv_iconst (v := 0) hx hb dL_end_1 (by decide) ?_
  refine lv_aload_n hx hb dL_end_2 rfl (lv_at hl 0 rfl) ?_
  refine lv_iload_n hx hb dL_end_3 rfl (lv_at hl 1 rfl) ?_
  have hPc := hP.sub (ws' := [(h, .inr (5, [.ref se, .ref tx, .ref rs, .ref sp, .int cp, .int 0, .int mf, .int mo, .long msp, .ref md, .ref pf, .ref pt, .int pcs]))]) [0] rfl
  have hDc := hD.sub (ws' := [(h, .inr (5, [.ref se, .ref tx, .ref rs, .ref sp, .int cp, .int 0, .int mf, .int mo, .long msp, .ref md, .ref pf, .ref pt, .int pcs]))]) [0] (by decide) rfl
  have hqc : 0 + 1 ≤ 1 ∧ 0 + 6 ≤ 6 := ⟨by omega, by omega⟩
  refine xc_V (As := [.int g]) (rest := [.int 0, .ref ou]) F.1 (x_end l G hst _ _ _ _ _ _ _ _ _ _ _ _ _ _ _) (cwV 1 hts (aw_V w_776 w_777 w_778 w_1 w_779) rfl rfl rfl (by decide +kernel) ⟨by decide, by decide⟩) ⟨xS_blind, va_recv (q := (RX5, TX5, 13)) (ci := 5) (q0 := 0) hK.1 hPc rfl rfl, xS_pre hPc hDc hK hT (fun _ _ => rfl)⟩ rfl hl.1 (lv_room (Nat.le_of_ble_eq_true rfl)) dL_end_4 hqc (fun E q9 ce H hE hce hcv hcl hz hk => ?_)
  subst hE
  refine xc_catch (own := RL) (name := xISE) (E := xISE) hown [] ⟨0, 9, 12, 19⟩ [⟨0, 9, 15, 28⟩] htab (fun _ h => by cases h) (by decide) (by decide) (hts _ w_597) (va_Nw.use rfl (hT.1 _ (List.mem_of_getElem? (i := 0) rfl))) hce hcv hcl ?_
  have hP := hP.more hk
  have hS := hS.more hz hk
  have hP : va_P G.1 vwCl [(h, .inr (5, [.ref se, .ref tx, .ref rs, .ref sp, .int cp, .int 0, .int mf, .int mo, .long msp, .ref md, .ref pf, .ref pt, .int pcs])), (ou, .inl (G.2 1, 1, .inr (.inl fo)))] H := hP
  have hD : va_D A [(h, .inr (5, [.ref se, .ref tx, .ref rs, .ref sp, .int cp, .int 0, .int mf, .int mo, .long msp, .ref md, .ref pf, .ref pt, .int pcs])), (ou, .inl (G.2 1, 1, .inr (.inl fo)))] := hD
  refine lv_astore_n hx hb dL_end_12 rfl hl (by decide) rfl (fun ls hl => ?_)
  have hl : lv_has ls 4 [(3, .ref q9), (0, .ref h), (1, .int g), (2, .ref ou)] := hl
  refine lv_iconst (v := 1) hx hb dL_end_13 (by decide) ?_
  exact en_i F hS 1 () (by rfl) rfl hP hD (by omega) (by omega) dL_end_14

theorem dL_find_0 : decode cL_find 0 = .ok (.aload_n 2, 1) := by decide +kernel
theorem dL_find_1 : decode cL_find 1 = .ok (.iconst 0, 1) := by decide +kernel
theorem dL_find_2 : decode cL_find 2 = .ok (.aload_n 0, 1) := by decide +kernel
theorem dL_find_3 : decode cL_find 3 = .ok (.iload_n 1, 1) := by decide +kernel
theorem dL_find_4 : decode cL_find 4 = .ok (.invokevirtual 24, 3) := by decide +kernel
theorem dL_find_15 : decode cL_find 15 = .ok (.astore_n 3, 1) := by decide +kernel
theorem dL_find_16 : decode cL_find 16 = .ok (.iconst 2, 1) := by decide +kernel
theorem dL_find_17 : decode cL_find 17 = .ok (.ireturn, 1) := by decide +kernel
set_option maxHeartbeats 4000000 in
set_option maxRecDepth 100000 in
theorem l_find_ise (l : Launch) (G : PG) (hst : l.stackTraces = false) (h se tx rs sp md pf pt : Nat) (mt mf mo pcs : Int32) (msp : Int64) (tc j1 : Nat) (g1 : Nat → Int32) (fr : Int32) (h0 : ¬ fr < 0) (h1 : fr ≤ nI j1) (ou : Nat) (fo : Nat → Int64) : CiT l yL_find (Cond.codeWith yL_find cL_find 4 (some .int) [(0, 9, 12, 28), (0, 9, 15, 19)] :: aW) { frames := 7, cells := 1, slots := 6, locals := 130 } G [(h, .inr (5, [.ref se, .ref tx, .ref rs, .ref sp, .int 0, .int mt, .int mf, .int mo, .long msp, .ref md, .ref pf, .ref pt, .int pcs])), (tx, .inr (3, [.ref tc, .int (nI j1)])), (tc, .inl (G.2 2, 8, .inl g1)), (ou, .inl (G.2 1, 1, .inr (.inl fo)))] [.ref h, .int fr, .ref ou] (fun (r9 : Int32) (_ : Unit) => r9 = 2) (fun (_ : Unit) => [(h, .inr (5, [.ref se, .ref tx, .ref rs, .ref sp, .int 0, .int mt, .int mf, .int mo, .long msp, .ref md, .ref pf, .ref pt, .int pcs])), (tx, .inr (3, [.ref tc, .int (nI j1)])), (tc, .inl (G.2 2, 8, .inl g1)), (ou, .inl (G.2 1, 1, .inr (.inl fo)))]) 1 6 := by
  refine ofBT (y := yL_find) (G := G) (cc := cL_find) (maxL := 4) (ret := (some .int)) (hh := [(0, 9, 12, 28), (0, 9, 15, 19)]) (Qc := fun A => va_Qi (fun (r9 : Int32) (_ : Unit) => r9 = 2) (oB G A (fun (_ : Unit) => [(h, .inr (5, [.ref se, .ref tx, .ref rs, .ref sp, .int 0, .int mt, .int mf, .int mo, .long msp, .ref md, .ref pf, .ref pt, .int pcs])), (tx, .inr (3, [.ref tc, .int (nI j1)])), (tc, .inl (G.2 2, 8, .inl g1)), (ou, .inl (G.2 1, 1, .inr (.inl fo)))])) A) (by decide) rfl ?_
  intro p e s m below meth c A F hK hT htab hA hP hD
  have hx := F.1.1; have hb := F.1.2.1; have hml := F.1.2.2.1; have hts := F.1.2.2.2.2
  have hown : s.vm.findClass RL = some m.cls := F.1.2.2.2.1
  have hS : va_S A s.heap s.heap [] := va_S.rf
  have hl := lv_entry ([.ref h, .int fr, .ref ou]) (n := 4) (Nat.le_of_ble_eq_true rfl)
  rw [lg_entry_eq]
  generalize (lg_sl ([.ref h, .int fr, .ref ou]) ++ List.replicate (4 - (lg_sl ([.ref h, .int fr, .ref ou])).length) Slot.unset).toArray = ls at hl ⊢
  have hl : lv_has ls 4 [(0, .ref h), (1, .int fr), (2, .ref ou)] := hl
  refine lv_aload_n hx hb dL_find_0 rfl (lv_at hl 2 rfl) ?_
  refine lv_iconst (v := 0) hx hb dL_find_1 (by decide) ?_
  refine lv_aload_n hx hb dL_find_2 rfl (lv_at hl 0 rfl) ?_
  refine lv_iload_n hx hb dL_find_3 rfl (lv_at hl 1 rfl) ?_
  have hPc := hP.sub (ws' := [(h, .inr (5, [.ref se, .ref tx, .ref rs, .ref sp, .int 0, .int mt, .int mf, .int mo, .long msp, .ref md, .ref pf, .ref pt, .int pcs])), (tx, .inr (3, [.ref tc, .int (nI j1)])), (tc, .inl (G.2 2, 8, .inl g1))]) [0, 1, 2] rfl
  have hDc := hD.sub (ws' := [(h, .inr (5, [.ref se, .ref tx, .ref rs, .ref sp, .int 0, .int mt, .int mf, .int mo, .long msp, .ref md, .ref pf, .ref pt, .int pcs])), (tx, .inr (3, [.ref tc, .int (nI j1)])), (tc, .inl (G.2 2, 8, .inl g1))]) [0, 1, 2] (by decide) rfl
  have hqc : 0 + 1 ≤ 1 ∧ 0 + 6 ≤ 6 := ⟨by omega, by omega⟩
  refine xc_V (As := [.int fr]) (rest := [.int 0, .ref ou]) F.1 (x_find_ise l G hst _ _ _ _ _ _ _ _ _ _ _ _ _ _ _ _ _ h0 h1 _) (cwV 1 hts (aw_V w_739 w_740 w_741 w_1 w_742) rfl rfl rfl (by decide +kernel) ⟨by decide, by decide⟩) ⟨xS_blind, va_recv (q := (RX5, TX5, 13)) (ci := 5) (q0 := 0) hK.1 hPc rfl rfl, xS_pre hPc hDc hK hT (fun _ _ => rfl)⟩ rfl hl.1 (lv_room (Nat.le_of_ble_eq_true rfl)) dL_find_4 hqc (fun E q9 ce H hE hce hcv hcl hz hk => ?_)
  subst hE
  refine xc_catch (own := RL) (name := xISE) (E := xISE) hown [⟨0, 9, 12, 28⟩] ⟨0, 9, 15, 19⟩ [] htab (fun z hz => by simp only [List.mem_cons, List.not_mem_nil, or_false] at hz; rcases hz with rfl <;> first | exact ⟨by decide, by decide, xIOO, hts _ w_738, hT.2.2.2.1⟩) (by decide) (by decide) (hts _ w_597) (va_Nw.use rfl (hT.1 _ (List.mem_of_getElem? (i := 0) rfl))) hce hcv hcl ?_
  have hP := hP.more hk
  have hS := hS.more hz hk
  have hP : va_P G.1 vwCl [(h, .inr (5, [.ref se, .ref tx, .ref rs, .ref sp, .int 0, .int mt, .int mf, .int mo, .long msp, .ref md, .ref pf, .ref pt, .int pcs])), (tx, .inr (3, [.ref tc, .int (nI j1)])), (tc, .inl (G.2 2, 8, .inl g1)), (ou, .inl (G.2 1, 1, .inr (.inl fo)))] H := hP
  have hD : va_D A [(h, .inr (5, [.ref se, .ref tx, .ref rs, .ref sp, .int 0, .int mt, .int mf, .int mo, .long msp, .ref md, .ref pf, .ref pt, .int pcs])), (tx, .inr (3, [.ref tc, .int (nI j1)])), (tc, .inl (G.2 2, 8, .inl g1)), (ou, .inl (G.2 1, 1, .inr (.inl fo)))] := hD
  refine lv_astore_n hx hb dL_find_15 rfl hl (by decide) rfl (fun ls hl => ?_)
  have hl : lv_has ls 4 [(3, .ref q9), (0, .ref h), (1, .int fr), (2, .ref ou)] := hl
  refine lv_iconst (v := 2) hx hb dL_find_16 (by decide) ?_
  exact en_i F hS 2 () (by rfl) rfl hP hD (by omega) (by omega) dL_find_17

theorem dL_find_12 : decode cL_find 12 = .ok (.astore_n 3, 1) := by decide +kernel
theorem dL_find_13 : decode cL_find 13 = .ok (.iconst 1, 1) := by decide +kernel
theorem dL_find_14 : decode cL_find 14 = .ok (.ireturn, 1) := by decide +kernel
set_option maxHeartbeats 4000000 in
set_option maxRecDepth 100000 in
theorem l_find_oob (l : Launch) (G : PG) (hst : l.stackTraces = false) (h se tx rs sp md pf pt : Nat) (cp mt mf mo pcs : Int32) (msp : Int64) (tc j1 : Nat) (g1 : Nat → Int32) (fr : Int32) (hb9 : fr < 0 ∨ nI j1 < fr) (ou : Nat) (fo : Nat → Int64) : CiT l yL_find (Cond.codeWith yL_find cL_find 4 (some .int) [(0, 9, 12, 28), (0, 9, 15, 19)] :: aW) { frames := 7, cells := 1, slots := 6, locals := 130 } G [(h, .inr (5, [.ref se, .ref tx, .ref rs, .ref sp, .int cp, .int mt, .int mf, .int mo, .long msp, .ref md, .ref pf, .ref pt, .int pcs])), (tx, .inr (3, [.ref tc, .int (nI j1)])), (tc, .inl (G.2 2, 8, .inl g1)), (ou, .inl (G.2 1, 1, .inr (.inl fo)))] [.ref h, .int fr, .ref ou] (fun (r9 : Int32) (_ : Unit) => r9 = 1) (fun (_ : Unit) => [(h, .inr (5, [.ref se, .ref tx, .ref rs, .ref sp, .int cp, .int mt, .int mf, .int mo, .long msp, .ref md, .ref pf, .ref pt, .int pcs])), (tx, .inr (3, [.ref tc, .int (nI j1)])), (tc, .inl (G.2 2, 8, .inl g1)), (ou, .inl (G.2 1, 1, .inr (.inl fo)))]) 1 6 := by
  refine ofBT (y := yL_find) (G := G) (cc := cL_find) (maxL := 4) (ret := (some .int)) (hh := [(0, 9, 12, 28), (0, 9, 15, 19)]) (Qc := fun A => va_Qi (fun (r9 : Int32) (_ : Unit) => r9 = 1) (oB G A (fun (_ : Unit) => [(h, .inr (5, [.ref se, .ref tx, .ref rs, .ref sp, .int cp, .int mt, .int mf, .int mo, .long msp, .ref md, .ref pf, .ref pt, .int pcs])), (tx, .inr (3, [.ref tc, .int (nI j1)])), (tc, .inl (G.2 2, 8, .inl g1)), (ou, .inl (G.2 1, 1, .inr (.inl fo)))])) A) (by decide) rfl ?_
  intro p e s m below meth c A F hK hT htab hA hP hD
  have hx := F.1.1; have hb := F.1.2.1; have hml := F.1.2.2.1; have hts := F.1.2.2.2.2
  have hown : s.vm.findClass RL = some m.cls := F.1.2.2.2.1
  have hS : va_S A s.heap s.heap [] := va_S.rf
  have hl := lv_entry ([.ref h, .int fr, .ref ou]) (n := 4) (Nat.le_of_ble_eq_true rfl)
  rw [lg_entry_eq]
  generalize (lg_sl ([.ref h, .int fr, .ref ou]) ++ List.replicate (4 - (lg_sl ([.ref h, .int fr, .ref ou])).length) Slot.unset).toArray = ls at hl ⊢
  have hl : lv_has ls 4 [(0, .ref h), (1, .int fr), (2, .ref ou)] := hl
  refine lv_aload_n hx hb dL_find_0 rfl (lv_at hl 2 rfl) ?_
  refine lv_iconst (v := 0) hx hb dL_find_1 (by decide) ?_
  refine lv_aload_n hx hb dL_find_2 rfl (lv_at hl 0 rfl) ?_
  refine lv_iload_n hx hb dL_find_3 rfl (lv_at hl 1 rfl) ?_
  have hPc := hP.sub (ws' := [(h, .inr (5, [.ref se, .ref tx, .ref rs, .ref sp, .int cp, .int mt, .int mf, .int mo, .long msp, .ref md, .ref pf, .ref pt, .int pcs])), (tx, .inr (3, [.ref tc, .int (nI j1)])), (tc, .inl (G.2 2, 8, .inl g1))]) [0, 1, 2] rfl
  have hDc := hD.sub (ws' := [(h, .inr (5, [.ref se, .ref tx, .ref rs, .ref sp, .int cp, .int mt, .int mf, .int mo, .long msp, .ref md, .ref pf, .ref pt, .int pcs])), (tx, .inr (3, [.ref tc, .int (nI j1)])), (tc, .inl (G.2 2, 8, .inl g1))]) [0, 1, 2] (by decide) rfl
  have hqc : 0 + 1 ≤ 1 ∧ 0 + 6 ≤ 6 := ⟨by omega, by omega⟩
  refine xc_V (As := [.int fr]) (rest := [.int 0, .ref ou]) F.1 (x_find_oob l G hst _ _ _ _ _ _ _ _ _ _ _ _ _ _ _ _ _ _ hb9 _) (cwV 1 hts (aw_V w_739 w_740 w_741 w_1 w_742) rfl rfl rfl (by decide +kernel) ⟨by decide, by decide⟩) ⟨xS_blind, va_recv (q := (RX5, TX5, 13)) (ci := 5) (q0 := 0) hK.1 hPc rfl rfl, xS_pre hPc hDc hK hT (fun _ _ => rfl)⟩ rfl hl.1 (lv_room (Nat.le_of_ble_eq_true rfl)) dL_find_4 hqc (fun E q9 ce H hE hce hcv hcl hz hk => ?_)
  subst hE
  refine xc_catch (own := RL) (name := xIOO) (E := xIOO) hown [] ⟨0, 9, 12, 28⟩ [⟨0, 9, 15, 19⟩] htab (fun _ h => by cases h) (by decide) (by decide) (hts _ w_738) (va_Nw.use rfl (hT.1 _ (List.mem_of_getElem? (i := 2) rfl))) hce hcv hcl ?_
  have hP := hP.more hk
  have hS := hS.more hz hk
  have hP : va_P G.1 vwCl [(h, .inr (5, [.ref se, .ref tx, .ref rs, .ref sp, .int cp, .int mt, .int mf, .int mo, .long msp, .ref md, .ref pf, .ref pt, .int pcs])), (tx, .inr (3, [.ref tc, .int (nI j1)])), (tc, .inl (G.2 2, 8, .inl g1)), (ou, .inl (G.2 1, 1, .inr (.inl fo)))] H := hP
  have hD : va_D A [(h, .inr (5, [.ref se, .ref tx, .ref rs, .ref sp, .int cp, .int mt, .int mf, .int mo, .long msp, .ref md, .ref pf, .ref pt, .int pcs])), (tx, .inr (3, [.ref tc, .int (nI j1)])), (tc, .inl (G.2 2, 8, .inl g1)), (ou, .inl (G.2 1, 1, .inr (.inl fo)))] := hD
  refine lv_astore_n hx hb dL_find_12 rfl hl (by decide) rfl (fun ls hl => ?_)
  have hl : lv_has ls 4 [(3, .ref q9), (0, .ref h), (1, .int fr), (2, .ref ou)] := hl
  refine lv_iconst (v := 1) hx hb dL_find_13 (by decide) ?_
  exact en_i F hS 1 () (by rfl) rfl hP hD (by omega) (by omega) dL_find_14

theorem dL_replaced_0 : decode cL_replaced 0 = .ok (.aload_n 2, 1) := by decide +kernel
theorem dL_replaced_1 : decode cL_replaced 1 = .ok (.iconst 0, 1) := by decide +kernel
theorem dL_replaced_2 : decode cL_replaced 2 = .ok (.aload_n 0, 1) := by decide +kernel
theorem dL_replaced_3 : decode cL_replaced 3 = .ok (.iload_n 1, 1) := by decide +kernel
theorem dL_replaced_4 : decode cL_replaced 4 = .ok (.invokevirtual 39, 3) := by decide +kernel
theorem dL_replaced_12 : decode cL_replaced 12 = .ok (.astore_n 3, 1) := by decide +kernel
theorem dL_replaced_13 : decode cL_replaced 13 = .ok (.iconst 1, 1) := by decide +kernel
theorem dL_replaced_14 : decode cL_replaced 14 = .ok (.ireturn, 1) := by decide +kernel
set_option maxHeartbeats 4000000 in
set_option maxRecDepth 100000 in
theorem l_replaced (l : Launch) (G : PG) (hst : l.stackTraces = false) (h se tx rs sp md pf pt : Nat) (cp mt mf mo pcs : Int32) (msp : Int64) (mc j9 : Nat) (g9 : Nat → Int32) (i : Int32) (hb9 : i < 0 ∨ nI j9 ≤ i) (ou : Nat) (fo : Nat → Int64) : CiT l yL_replaced (Cond.codeWith yL_replaced cL_replaced 4 (some .int) [(0, 9, 12, 28)] :: aW) { frames := 7, cells := 1, slots := 6, locals := 130 } G [(h, .inr (5, [.ref se, .ref tx, .ref rs, .ref sp, .int cp, .int mt, .int mf, .int mo, .long msp, .ref md, .ref pf, .ref pt, .int pcs])), (md, .inr (3, [.ref mc, .int (nI j9)])), (mc, .inl (G.2 2, 296, .inl g9)), (ou, .inl (G.2 1, 1, .inr (.inl fo)))] [.ref h, .int i, .ref ou] (fun (r9 : Int32) (_ : Unit) => r9 = 1) (fun (_ : Unit) => [(h, .inr (5, [.ref se, .ref tx, .ref rs, .ref sp, .int cp, .int mt, .int mf, .int mo, .long msp, .ref md, .ref pf, .ref pt, .int pcs])), (md, .inr (3, [.ref mc, .int (nI j9)])), (mc, .inl (G.2 2, 296, .inl g9)), (ou, .inl (G.2 1, 1, .inr (.inl fo)))]) 1 6 := by
  refine ofBT (y := yL_replaced) (G := G) (cc := cL_replaced) (maxL := 4) (ret := (some .int)) (hh := [(0, 9, 12, 28)]) (Qc := fun A => va_Qi (fun (r9 : Int32) (_ : Unit) => r9 = 1) (oB G A (fun (_ : Unit) => [(h, .inr (5, [.ref se, .ref tx, .ref rs, .ref sp, .int cp, .int mt, .int mf, .int mo, .long msp, .ref md, .ref pf, .ref pt, .int pcs])), (md, .inr (3, [.ref mc, .int (nI j9)])), (mc, .inl (G.2 2, 296, .inl g9)), (ou, .inl (G.2 1, 1, .inr (.inl fo)))])) A) (by decide) rfl ?_
  intro p e s m below meth c A F hK hT htab hA hP hD
  have hx := F.1.1; have hb := F.1.2.1; have hml := F.1.2.2.1; have hts := F.1.2.2.2.2
  have hown : s.vm.findClass RL = some m.cls := F.1.2.2.2.1
  have hS : va_S A s.heap s.heap [] := va_S.rf
  have hl := lv_entry ([.ref h, .int i, .ref ou]) (n := 4) (Nat.le_of_ble_eq_true rfl)
  rw [lg_entry_eq]
  generalize (lg_sl ([.ref h, .int i, .ref ou]) ++ List.replicate (4 - (lg_sl ([.ref h, .int i, .ref ou])).length) Slot.unset).toArray = ls at hl ⊢
  have hl : lv_has ls 4 [(0, .ref h), (1, .int i), (2, .ref ou)] := hl
  refine lv_aload_n hx hb dL_replaced_0 rfl (lv_at hl 2 rfl) ?_
  refine lv_iconst (v := 0) hx hb dL_replaced_1 (by decide) ?_
  refine lv_aload_n hx hb dL_replaced_2 rfl (lv_at hl 0 rfl) ?_
  refine lv_iload_n hx hb dL_replaced_3 rfl (lv_at hl 1 rfl) ?_
  have hPc := hP.sub (ws' := [(h, .inr (5, [.ref se, .ref tx, .ref rs, .ref sp, .int cp, .int mt, .int mf, .int mo, .long msp, .ref md, .ref pf, .ref pt, .int pcs])), (md, .inr (3, [.ref mc, .int (nI j9)])), (mc, .inl (G.2 2, 296, .inl g9))]) [0, 1, 2] rfl
  have hDc := hD.sub (ws' := [(h, .inr (5, [.ref se, .ref tx, .ref rs, .ref sp, .int cp, .int mt, .int mf, .int mo, .long msp, .ref md, .ref pf, .ref pt, .int pcs])), (md, .inr (3, [.ref mc, .int (nI j9)])), (mc, .inl (G.2 2, 296, .inl g9))]) [0, 1, 2] (by decide) rfl
  have hqc : 0 + 1 ≤ 1 ∧ 0 + 6 ≤ 6 := ⟨by omega, by omega⟩
  refine xc_V (As := [.int i]) (rest := [.int 0, .ref ou]) F.1 (x_replaced l G hst _ _ _ _ _ _ _ _ _ _ _ _ _ _ _ _ _ _ hb9 _) (cwV 1 hts (aw_V w_814 w_815 w_816 w_1 w_817) rfl rfl rfl (by decide +kernel) ⟨by decide, by decide⟩) ⟨xS_blind, va_recv (q := (RX5, TX5, 13)) (ci := 5) (q0 := 0) hK.1 hPc rfl rfl, xS_pre hPc hDc hK hT (fun _ _ => rfl)⟩ rfl hl.1 (lv_room (Nat.le_of_ble_eq_true rfl)) dL_replaced_4 hqc (fun E q9 ce H hE hce hcv hcl hz hk => ?_)
  subst hE
  refine xc_catch (own := RL) (name := xIOO) (E := xIOO) hown [] ⟨0, 9, 12, 28⟩ [] htab (fun _ h => by cases h) (by decide) (by decide) (hts _ w_738) (va_Nw.use rfl (hT.1 _ (List.mem_of_getElem? (i := 2) rfl))) hce hcv hcl ?_
  have hP := hP.more hk
  have hS := hS.more hz hk
  have hP : va_P G.1 vwCl [(h, .inr (5, [.ref se, .ref tx, .ref rs, .ref sp, .int cp, .int mt, .int mf, .int mo, .long msp, .ref md, .ref pf, .ref pt, .int pcs])), (md, .inr (3, [.ref mc, .int (nI j9)])), (mc, .inl (G.2 2, 296, .inl g9)), (ou, .inl (G.2 1, 1, .inr (.inl fo)))] H := hP
  have hD : va_D A [(h, .inr (5, [.ref se, .ref tx, .ref rs, .ref sp, .int cp, .int mt, .int mf, .int mo, .long msp, .ref md, .ref pf, .ref pt, .int pcs])), (md, .inr (3, [.ref mc, .int (nI j9)])), (mc, .inl (G.2 2, 296, .inl g9)), (ou, .inl (G.2 1, 1, .inr (.inl fo)))] := hD
  refine lv_astore_n hx hb dL_replaced_12 rfl hl (by decide) rfl (fun ls hl => ?_)
  have hl : lv_has ls 4 [(3, .ref q9), (0, .ref h), (1, .int i), (2, .ref ou)] := hl
  refine lv_iconst (v := 1) hx hb dL_replaced_13 (by decide) ?_
  exact en_i F hS 1 () (by rfl) rfl hP hD (by omega) (by omega) dL_replaced_14

theorem dL_piece_0 : decode cL_piece 0 = .ok (.aload_n 3, 1) := by decide +kernel
theorem dL_piece_1 : decode cL_piece 1 = .ok (.iconst 0, 1) := by decide +kernel
theorem dL_piece_2 : decode cL_piece 2 = .ok (.aload_n 0, 1) := by decide +kernel
theorem dL_piece_3 : decode cL_piece 3 = .ok (.iload_n 1, 1) := by decide +kernel
theorem dL_piece_4 : decode cL_piece 4 = .ok (.iload_n 2, 1) := by decide +kernel
theorem dL_piece_5 : decode cL_piece 5 = .ok (.invokevirtual 46, 3) := by decide +kernel
theorem dL_piece_13 : decode cL_piece 13 = .ok (.astore 4, 2) := by decide +kernel
theorem dL_piece_15 : decode cL_piece 15 = .ok (.iconst 1, 1) := by decide +kernel
theorem dL_piece_16 : decode cL_piece 16 = .ok (.ireturn, 1) := by decide +kernel
set_option maxHeartbeats 4000000 in
set_option maxRecDepth 100000 in
theorem l_piece (l : Launch) (G : PG) (hst : l.stackTraces = false) (h se tx rs sp md pf pt : Nat) (cp mt mf mo pcs : Int32) (msp : Int64) (i w : Int32) (hb9 : i < 0 ∨ pcs ≤ i) (ou : Nat) (fo : Nat → Int64) : CiT l yL_piece (Cond.codeWith yL_piece cL_piece 5 (some .int) [(0, 10, 13, 28)] :: aW) { frames := 7, cells := 1, slots := 6, locals := 130 } G [(h, .inr (5, [.ref se, .ref tx, .ref rs, .ref sp, .int cp, .int mt, .int mf, .int mo, .long msp, .ref md, .ref pf, .ref pt, .int pcs])), (ou, .inl (G.2 1, 1, .inr (.inl fo)))] [.ref h, .int i, .int w, .ref ou] (fun (r9 : Int32) (_ : Unit) => r9 = 1) (fun (_ : Unit) => [(h, .inr (5, [.ref se, .ref tx, .ref rs, .ref sp, .int cp, .int mt, .int mf, .int mo, .long msp, .ref md, .ref pf, .ref pt, .int pcs])), (ou, .inl (G.2 1, 1, .inr (.inl fo)))]) 1 6 := by
  refine ofBT (y := yL_piece) (G := G) (cc := cL_piece) (maxL := 5) (ret := (some .int)) (hh := [(0, 10, 13, 28)]) (Qc := fun A => va_Qi (fun (r9 : Int32) (_ : Unit) => r9 = 1) (oB G A (fun (_ : Unit) => [(h, .inr (5, [.ref se, .ref tx, .ref rs, .ref sp, .int cp, .int mt, .int mf, .int mo, .long msp, .ref md, .ref pf, .ref pt, .int pcs])), (ou, .inl (G.2 1, 1, .inr (.inl fo)))])) A) (by decide) rfl ?_
  intro p e s m below meth c A F hK hT htab hA hP hD
  have hx := F.1.1; have hb := F.1.2.1; have hml := F.1.2.2.1; have hts := F.1.2.2.2.2
  have hown : s.vm.findClass RL = some m.cls := F.1.2.2.2.1
  have hS : va_S A s.heap s.heap [] := va_S.rf
  have hl := lv_entry ([.ref h, .int i, .int w, .ref ou]) (n := 5) (Nat.le_of_ble_eq_true rfl)
  rw [lg_entry_eq]
  generalize (lg_sl ([.ref h, .int i, .int w, .ref ou]) ++ List.replicate (5 - (lg_sl ([.ref h, .int i, .int w, .ref ou])).length) Slot.unset).toArray = ls at hl ⊢
  have hl : lv_has ls 5 [(0, .ref h), (1, .int i), (2, .int w), (3, .ref ou)] := hl
  refine lv_aload_n hx hb dL_piece_0 rfl (lv_at hl 3 rfl) ?_
  refine lv_iconst (v := 0) hx hb dL_piece_1 (by decide) ?_
  refine lv_aload_n hx hb dL_piece_2 rfl (lv_at hl 0 rfl) ?_
  refine lv_iload_n hx hb dL_piece_3 rfl (lv_at hl 1 rfl) ?_
  refine lv_iload_n hx hb dL_piece_4 rfl (lv_at hl 2 rfl) ?_
  have hPc := hP.sub (ws' := [(h, .inr (5, [.ref se, .ref tx, .ref rs, .ref sp, .int cp, .int mt, .int mf, .int mo, .long msp, .ref md, .ref pf, .ref pt, .int pcs]))]) [0] rfl
  have hDc := hD.sub (ws' := [(h, .inr (5, [.ref se, .ref tx, .ref rs, .ref sp, .int cp, .int mt, .int mf, .int mo, .long msp, .ref md, .ref pf, .ref pt, .int pcs]))]) [0] (by decide) rfl
  have hqc : 0 + 1 ≤ 1 ∧ 0 + 6 ≤ 6 := ⟨by omega, by omega⟩
  refine xc_V (As := [.int i, .int w]) (rest := [.int 0, .ref ou]) F.1 (x_piece l G hst _ _ _ _ _ _ _ _ _ _ _ _ _ _ _ _ hb9 _) (cwV 2 hts (aw_V w_836 w_837 w_838 w_1 w_839) rfl rfl rfl (by decide +kernel) ⟨by decide, by decide⟩) ⟨xS_blind, va_recv (q := (RX5, TX5, 13)) (ci := 5) (q0 := 0) hK.1 hPc rfl rfl, xS_pre hPc hDc hK hT (fun _ _ => rfl)⟩ rfl hl.1 (lv_room (Nat.le_of_ble_eq_true rfl)) dL_piece_5 hqc (fun E q9 ce H hE hce hcv hcl hz hk => ?_)
  subst hE
  refine xc_catch (own := RL) (name := xIOO) (E := xIOO) hown [] ⟨0, 10, 13, 28⟩ [] htab (fun _ h => by cases h) (by decide) (by decide) (hts _ w_738) (va_Nw.use rfl (hT.1 _ (List.mem_of_getElem? (i := 2) rfl))) hce hcv hcl ?_
  have hP := hP.more hk
  have hS := hS.more hz hk
  have hP : va_P G.1 vwCl [(h, .inr (5, [.ref se, .ref tx, .ref rs, .ref sp, .int cp, .int mt, .int mf, .int mo, .long msp, .ref md, .ref pf, .ref pt, .int pcs])), (ou, .inl (G.2 1, 1, .inr (.inl fo)))] H := hP
  have hD : va_D A [(h, .inr (5, [.ref se, .ref tx, .ref rs, .ref sp, .int cp, .int mt, .int mf, .int mo, .long msp, .ref md, .ref pf, .ref pt, .int pcs])), (ou, .inl (G.2 1, 1, .inr (.inl fo)))] := hD
  refine lv_astore hx hb dL_piece_13 hl (by decide) rfl (fun ls hl => ?_)
  have hl : lv_has ls 5 [(4, .ref q9), (0, .ref h), (1, .int i), (2, .int w), (3, .ref ou)] := hl
  refine lv_iconst (v := 1) hx hb dL_piece_15 (by decide) ?_
  exact en_i F hS 1 () (by rfl) rfl hP hD (by omega) (by omega) dL_piece_16

theorem dL_compile_0 : decode cL_compile 0 = .ok (.aload_n 1, 1) := by decide +kernel
theorem dL_compile_1 : decode cL_compile 1 = .ok (.iconst 0, 1) := by decide +kernel
theorem dL_compile_2 : decode cL_compile 2 = .ok (.aload_n 0, 1) := by decide +kernel
theorem dL_compile_3 : decode cL_compile 3 = .ok (.invokevirtual 7, 3) := by decide +kernel
theorem dL_compile_6 : decode cL_compile 6 = .ok (.i2l, 1) := by decide +kernel
theorem dL_compile_7 : decode cL_compile 7 = .ok (.lastore, 1) := by decide +kernel
theorem dL_compile_8 : decode cL_compile 8 = .ok (.goto 6, 3) := by decide +kernel
theorem dL_compile_14 : decode cL_compile 14 = .ok (.iconst 0, 1) := by decide +kernel
theorem dL_compile_15 : decode cL_compile 15 = .ok (.ireturn, 1) := by decide +kernel
set_option maxHeartbeats 4000000 in
set_option maxRecDepth 100000 in
theorem l_compile (l : Launch) (G : PG) (hst : l.stackTraces = false) (h se tx rs md pf pt : Nat) (cp mt mf mo pcs : Int32) (msp : Int64) (pr r0 rc : Nat) (f : Nat → Option Nat) (hf0 : f 0 = some r0) (g : Nat → Int32) (hg : ∀ k, narrow .char (.int (g k)) = .int (g k)) (na : Nat) (ct fi gr : Int32) (aq : Int64) (ad : Nat → Nat) (a : Nat → Nat → Int32) (lo hi : Nat → Int64) (hnum : ∀ i, i < 32 → a i 0 = nI i) (wa wb w3 w4 w5 p1 : Nat) (wt sc nd pl lp : Int32) (sps : Int64) (ou : Nat) (fo : Nat → Int64) : CiT l yL_compile (Cond.codeWith yL_compile cL_compile 3 (some .int) [(0, 8, 11, 13)] :: aW) { frames := 6, cells := 1, slots := 10, locals := 136 } G (([(ou, .inl (G.2 1, 1, .inr (.inl fo))), (h, .inr (5, [.ref se, .ref tx, .ref rs, .ref pr, .int cp, .int mt, .int mf, .int mo, .long msp, .ref md, .ref pf, .ref pt, .int pcs])), (rs, .inl (G.2 5, 3, .inr (.inr (.inr (.inr f))))), (r0, .inr (3, [.ref rc, .int (nI 0)])), (rc, .inl (G.2 2, 14, .inl g)), (se, .inr (4, [.ref wa, .ref wb, .int wt, .ref w3, .ref w4, .ref w5, .int sc, .ref tx, .ref p1, .int nd, .int pl, .int lp, .long sps])), (pr, .inr (1, [.ref na, .int ct, .int fi, .int gr, .long aq])), (na, .inl (G.2 4, 32, .inr (.inr (.inr (.inr (nf ad 32))))))] : va_W) ++ np ad a lo hi 32) [.ref h, .ref ou] (fun (r9 : Int32) (_ : Unit) => r9 = 0) (fun (_ : Unit) => (([(ou, .inl (G.2 1, 1, .inr (.inl (vp_updL fo 0 0)))), (h, .inr (5, [.ref se, .ref tx, .ref rs, .ref p1, .int 1, .int 0, .int mf, .int mo, .long msp, .ref md, .ref pf, .ref pt, .int pcs])), (rs, .inl (G.2 5, 3, .inr (.inr (.inr (.inr f))))), (r0, .inr (3, [.ref rc, .int (nI 0)])), (rc, .inl (G.2 2, 14, .inl g)), (se, .inr (4, [.ref wa, .ref wb, .int wt, .ref w3, .ref w4, .ref w5, .int sc, .ref tx, .ref pr, .int nd, .int pl, .int lp, .long sps])), (pr, .inr (1, [.ref na, .int 3, .int 2, .int 0, .long 0])), (na, .inl (G.2 4, 32, .inr (.inr (.inr (.inr (nf ad 32))))))] : va_W) ++ np ad (va_up (va_up a 1 (upd (upd (upd (a 1) 1 1) 2 0) 3 0)) 2 (upd (upd (upd (upd (a 2) 1 10) 2 0) 3 0) 2 1)) lo hi 32)) 1 10 := by
  refine ofBT (y := yL_compile) (G := G) (cc := cL_compile) (maxL := 3) (ret := (some .int)) (hh := [(0, 8, 11, 13)]) (Qc := fun A => va_Qi (fun (r9 : Int32) (_ : Unit) => r9 = 0) (oB G A (fun (_ : Unit) => (([(ou, .inl (G.2 1, 1, .inr (.inl (vp_updL fo 0 0)))), (h, .inr (5, [.ref se, .ref tx, .ref rs, .ref p1, .int 1, .int 0, .int mf, .int mo, .long msp, .ref md, .ref pf, .ref pt, .int pcs])), (rs, .inl (G.2 5, 3, .inr (.inr (.inr (.inr f))))), (r0, .inr (3, [.ref rc, .int (nI 0)])), (rc, .inl (G.2 2, 14, .inl g)), (se, .inr (4, [.ref wa, .ref wb, .int wt, .ref w3, .ref w4, .ref w5, .int sc, .ref tx, .ref pr, .int nd, .int pl, .int lp, .long sps])), (pr, .inr (1, [.ref na, .int 3, .int 2, .int 0, .long 0])), (na, .inl (G.2 4, 32, .inr (.inr (.inr (.inr (nf ad 32))))))] : va_W) ++ np ad (va_up (va_up a 1 (upd (upd (upd (a 1) 1 1) 2 0) 3 0)) 2 (upd (upd (upd (upd (a 2) 1 10) 2 0) 3 0) 2 1)) lo hi 32))) A) (by decide) rfl ?_
  intro p e s m below meth c A F hK hT htab hA hP hD
  have hx := F.1.1; have hb := F.1.2.1; have hml := F.1.2.2.1; have hts := F.1.2.2.2.2
  have hown : s.vm.findClass RL = some m.cls := F.1.2.2.2.1
  have hS : va_S A s.heap s.heap [] := va_S.rf
  have hl := lv_entry ([.ref h, .ref ou]) (n := 3) (Nat.le_of_ble_eq_true rfl)
  rw [lg_entry_eq]
  generalize (lg_sl ([.ref h, .ref ou]) ++ List.replicate (3 - (lg_sl ([.ref h, .ref ou])).length) Slot.unset).toArray = ls at hl ⊢
  have hl : lv_has ls 3 [(0, .ref h), (1, .ref ou)] := hl
  refine lv_aload_n hx hb dL_compile_0 rfl (lv_at hl 1 rfl) ?_
  refine lv_iconst (v := 0) hx hb dL_compile_1 (by decide) ?_
  refine lv_aload_n hx hb dL_compile_2 rfl (lv_at hl 0 rfl) ?_
  have hPc := hP.part (cx := [(h, .inr (5, [.ref se, .ref tx, .ref rs, .ref pr, .int cp, .int mt, .int mf, .int mo, .long msp, .ref md, .ref pf, .ref pt, .int pcs])), (rs, .inl (G.2 5, 3, .inr (.inr (.inr (.inr f))))), (r0, .inr (3, [.ref rc, .int (nI 0)])), (rc, .inl (G.2 2, 14, .inl g)), (se, .inr (4, [.ref wa, .ref wb, .int wt, .ref w3, .ref w4, .ref w5, .int sc, .ref tx, .ref p1, .int nd, .int pl, .int lp, .long sps])), (pr, .inr (1, [.ref na, .int ct, .int fi, .int gr, .long aq])), (na, .inl (G.2 4, 32, .inr (.inr (.inr (.inr (nf ad 32))))))]) [1, 2, 3, 4, 5, 6, 7] rfl
  have hDc := hD.part (cx := [(h, .inr (5, [.ref se, .ref tx, .ref rs, .ref pr, .int cp, .int mt, .int mf, .int mo, .long msp, .ref md, .ref pf, .ref pt, .int pcs])), (rs, .inl (G.2 5, 3, .inr (.inr (.inr (.inr f))))), (r0, .inr (3, [.ref rc, .int (nI 0)])), (rc, .inl (G.2 2, 14, .inl g)), (se, .inr (4, [.ref wa, .ref wb, .int wt, .ref w3, .ref w4, .ref w5, .int sc, .ref tx, .ref p1, .int nd, .int pl, .int lp, .long sps])), (pr, .inr (1, [.ref na, .int ct, .int fi, .int gr, .long aq])), (na, .inl (G.2 4, 32, .inr (.inr (.inr (.inr (nf ad 32))))))]) [1, 2, 3, 4, 5, 6, 7] (by decide) rfl
  have hqc : 0 + 1 ≤ 1 ∧ 0 + 10 ≤ 10 := ⟨by omega, by omega⟩
  refine kl_iP (wr := [(ou, .inl (G.2 1, 1, .inr (.inl fo)))]) (va_runV (As := []) (rest := [.int 0, .ref ou]) F.1 (c_compile0 l G _ _ _ _ _ _ _ _ _ _ _ _ _ _ _ _ f hf0 g hg _ _ _ _ _ ad a lo hi hnum _ _ _ _ _ _ _ _ _ _ _ _ _) (cwV 0 hts (aw_V w_265 w_266 w_267 w_1 w_268) rfl rfl rfl (by decide +kernel) ⟨by decide, by decide⟩) ⟨cS_blind, va_recv (q := (RX5, TX5, 13)) (ci := 5) (q0 := 0) hK.1 hPc rfl rfl, cS_pre hPc hDc hK⟩ rfl rfl hl.1 rfl (lv_room (Nat.le_of_ble_eq_true rfl)) dL_compile_3 hqc) hP hD hS hA [1, 2, 3, 4, 5, 6, 7] [0] rfl rfl (by decide) (by decide) (fun r u H locs hp hP hD hS => ?_)
  subst hp
  have hP : va_P G.1 vwCl (([(ou, .inl (G.2 1, 1, .inr (.inl fo))), (h, .inr (5, [.ref se, .ref tx, .ref rs, .ref p1, .int 1, .int 0, .int mf, .int mo, .long msp, .ref md, .ref pf, .ref pt, .int pcs])), (rs, .inl (G.2 5, 3, .inr (.inr (.inr (.inr f))))), (r0, .inr (3, [.ref rc, .int (nI 0)])), (rc, .inl (G.2 2, 14, .inl g)), (se, .inr (4, [.ref wa, .ref wb, .int wt, .ref w3, .ref w4, .ref w5, .int sc, .ref tx, .ref pr, .int nd, .int pl, .int lp, .long sps])), (pr, .inr (1, [.ref na, .int 3, .int 2, .int 0, .long 0])), (na, .inl (G.2 4, 32, .inr (.inr (.inr (.inr (nf ad 32))))))] : va_W) ++ np ad (va_up (va_up a 1 (upd (upd (upd (a 1) 1 1) 2 0) 3 0)) 2 (upd (upd (upd (upd (a 2) 1 10) 2 0) 3 0) 2 1)) lo hi 32) H := hP
  have hD : va_D A (([(ou, .inl (G.2 1, 1, .inr (.inl fo))), (h, .inr (5, [.ref se, .ref tx, .ref rs, .ref p1, .int 1, .int 0, .int mf, .int mo, .long msp, .ref md, .ref pf, .ref pt, .int pcs])), (rs, .inl (G.2 5, 3, .inr (.inr (.inr (.inr f))))), (r0, .inr (3, [.ref rc, .int (nI 0)])), (rc, .inl (G.2 2, 14, .inl g)), (se, .inr (4, [.ref wa, .ref wb, .int wt, .ref w3, .ref w4, .ref w5, .int sc, .ref tx, .ref pr, .int nd, .int pl, .int lp, .long sps])), (pr, .inr (1, [.ref na, .int 3, .int 2, .int 0, .long 0])), (na, .inl (G.2 4, 32, .inr (.inr (.inr (.inr (nf ad 32))))))] : va_W) ++ np ad (va_up (va_up a 1 (upd (upd (upd (a 1) 1 1) 2 0) 3 0)) 2 (upd (upd (upd (upd (a 2) 1 10) 2 0) 3 0) 2 1)) lo hi 32) := hD
  refine lv_i2l (v := (0 : Int32).toInt64) hx hb dL_compile_6 rfl ?_
  refine tp_l 0 (by decide) ?_
  refine va_last (D := G.1) hx hb hK.1 hP hD hS 0 1 rfl rfl (vp_in_nI (n := 0) (by decide) (by decide)) dL_compile_7 (fun H locs hP hD hS => ?_)
  have hP : va_P G.1 vwCl (([(ou, .inl (G.2 1, 1, .inr (.inl (vp_updL fo 0 0)))), (h, .inr (5, [.ref se, .ref tx, .ref rs, .ref p1, .int 1, .int 0, .int mf, .int mo, .long msp, .ref md, .ref pf, .ref pt, .int pcs])), (rs, .inl (G.2 5, 3, .inr (.inr (.inr (.inr f))))), (r0, .inr (3, [.ref rc, .int (nI 0)])), (rc, .inl (G.2 2, 14, .inl g)), (se, .inr (4, [.ref wa, .ref wb, .int wt, .ref w3, .ref w4, .ref w5, .int sc, .ref tx, .ref pr, .int nd, .int pl, .int lp, .long sps])), (pr, .inr (1, [.ref na, .int 3, .int 2, .int 0, .long 0])), (na, .inl (G.2 4, 32, .inr (.inr (.inr (.inr (nf ad 32))))))] : va_W) ++ np ad (va_up (va_up a 1 (upd (upd (upd (a 1) 1 1) 2 0) 3 0)) 2 (upd (upd (upd (upd (a 2) 1 10) 2 0) 3 0) 2 1)) lo hi 32) H := hP
  have hD : va_D A (([(ou, .inl (G.2 1, 1, .inr (.inl (vp_updL fo 0 0)))), (h, .inr (5, [.ref se, .ref tx, .ref rs, .ref p1, .int 1, .int 0, .int mf, .int mo, .long msp, .ref md, .ref pf, .ref pt, .int pcs])), (rs, .inl (G.2 5, 3, .inr (.inr (.inr (.inr f))))), (r0, .inr (3, [.ref rc, .int (nI 0)])), (rc, .inl (G.2 2, 14, .inl g)), (se, .inr (4, [.ref wa, .ref wb, .int wt, .ref w3, .ref w4, .ref w5, .int sc, .ref tx, .ref pr, .int nd, .int pl, .int lp, .long sps])), (pr, .inr (1, [.ref na, .int 3, .int 2, .int 0, .long 0])), (na, .inl (G.2 4, 32, .inr (.inr (.inr (.inr (nf ad 32))))))] : va_W) ++ np ad (va_up (va_up a 1 (upd (upd (upd (a 1) 1 1) 2 0) 3 0)) 2 (upd (upd (upd (upd (a 2) 1 10) 2 0) 3 0) 2 1)) lo hi 32) := hD
  refine lv_goto (tgt := 14) hx hb dL_compile_8 (by decide) ?_
  refine lv_iconst (v := 0) hx hb dL_compile_14 (by decide) ?_
  exact en_i F hS 0 () (by rfl) rfl hP hD (by omega) (by omega) dL_compile_15

