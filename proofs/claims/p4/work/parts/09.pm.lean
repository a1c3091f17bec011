/-! PatternMatcher: rows, matches forgotten -/
def isRowV (r : Int32) : Int32 := if r < 0 ∨ (3 : Int32) ≤ r then 0 else 1
theorem dX5_isRow_0 : decode cX5_isRow 0 = .ok (.iload_n 0, 1) := by decide +kernel
theorem dX5_isRow_1 : decode cX5_isRow 1 = .ok (.ifCond .lt 12, 3) := by decide +kernel
theorem dX5_isRow_4 : decode cX5_isRow 4 = .ok (.iload_n 0, 1) := by decide +kernel
theorem dX5_isRow_5 : decode cX5_isRow 5 = .ok (.iconst 3, 1) := by decide +kernel
theorem dX5_isRow_6 : decode cX5_isRow 6 = .ok (.if_icmp .ge 7, 3) := by decide +kernel
theorem dX5_isRow_9 : decode cX5_isRow 9 = .ok (.iconst 1, 1) := by decide +kernel
theorem dX5_isRow_10 : decode cX5_isRow 10 = .ok (.goto 4, 3) := by decide +kernel
theorem dX5_isRow_13 : decode cX5_isRow 13 = .ok (.iconst 0, 1) := by decide +kernel
theorem dX5_isRow_14 : decode cX5_isRow 14 = .ok (.ireturn, 1) := by decide +kernel
set_option maxHeartbeats 4000000 in
set_option maxRecDepth 100000 in
theorem c_isRow (l : Launch) (G : PG) (r : Int32) : Ci l yX5_isRow (Cond.code yX5_isRow cX5_isRow 1 (some .boolean) :: aW) { frames := 0, cells := 0, slots := 0, locals := 0 } G [] [.int r] (S := Unit) (fun (r9 : Int32) (_ : Unit) => r9 = isRowV r) (fun (_ : Unit) => []) 0 0 := by
  refine ofB (y := yX5_isRow) (G := G) (cc := cX5_isRow) (maxL := 1) (ret := (some .boolean)) (Qc := fun A => va_Qi (fun (r9 : Int32) (_ : Unit) => r9 = isRowV r) (oB G A (fun (_ : Unit) => [])) A) (by decide) rfl ?_
  intro p e s m below meth c A F hK hA hP hD
  have hx := F.1.1; have hb := F.1.2.1; have hml := F.1.2.2.1; have hts := F.1.2.2.2.2
  have hown : s.vm.findClass RX5 = some m.cls := F.1.2.2.2.1
  have hS : va_S A s.heap s.heap [] := va_S.rf
  have hl := lv_entry ([.int r]) (n := 1) (Nat.le_of_ble_eq_true rfl)
  rw [lg_entry_eq]
  generalize (lg_sl ([.int r]) ++ List.replicate (1 - (lg_sl ([.int r])).length) Slot.unset).toArray = ls at hl ⊢
  have hl : lv_has ls 1 [(0, .int r)] := hl
  refine lv_iload_n hx hb dX5_isRow_0 rfl (lv_at hl 0 rfl) ?_
  refine lv_if_lt (tgt := 13) hx hb dX5_isRow_1 (by decide) (fun h1 => ?_) (fun h1 => ?_)
  ·
    refine lv_iconst (v := 0) hx hb dX5_isRow_13 (by decide) ?_
    exact en_i F hS 0 () (by rfl) ((if_pos (Or.inl h1)).symm) hP hD (by omega) (by omega) dX5_isRow_14
  ·
    refine lv_iload_n hx hb dX5_isRow_4 rfl (lv_at hl 0 rfl) ?_
    refine lv_iconst (v := 3) hx hb dX5_isRow_5 (by decide) ?_
    refine lv_icmp_ge (tgt := 13) hx hb dX5_isRow_6 (by decide) (fun h2 => ?_) (fun h2 => ?_)
    ·
      refine lv_iconst (v := 0) hx hb dX5_isRow_13 (by decide) ?_
      exact en_i F hS 0 () (by rfl) ((if_pos (Or.inr h2)).symm) hP hD (by omega) (by omega) dX5_isRow_14
    ·
      refine lv_iconst (v := 1) hx hb dX5_isRow_9 (by decide) ?_
      refine lv_goto (tgt := 14) hx hb dX5_isRow_10 (by decide) ?_
      exact en_i F hS 1 () (by rfl) ((if_neg (fun z => z.elim h1 h2)).symm) hP hD (by omega) (by omega) dX5_isRow_14

theorem dX5_forgetMatchIfText_0 : decode cX5_forgetMatchIfText 0 = .ok (.iload_n 1, 1) := by decide +kernel
theorem dX5_forgetMatchIfText_1 : decode cX5_forgetMatchIfText 1 = .ok (.iconst 1, 1) := by decide +kernel
theorem dX5_forgetMatchIfText_2 : decode cX5_forgetMatchIfText 2 = .ok (.if_icmp .ne 8, 3) := by decide +kernel
theorem dX5_forgetMatchIfText_5 : decode cX5_forgetMatchIfText 5 = .ok (.aload_n 0, 1) := by decide +kernel
theorem dX5_forgetMatchIfText_6 : decode cX5_forgetMatchIfText 6 = .ok (.iconst 0, 1) := by decide +kernel
theorem dX5_forgetMatchIfText_7 : decode cX5_forgetMatchIfText 7 = .ok (.putfield 80, 3) := by decide +kernel
theorem dX5_forgetMatchIfText_10 : decode cX5_forgetMatchIfText 10 = .ok (.return_, 1) := by decide +kernel
set_option maxHeartbeats 4000000 in
set_option maxRecDepth 100000 in
theorem c_forget1 (l : Launch) (G : PG) (h se tx rs sp md pf pt : Nat) (cp mt mf mo pcs : Int32) (msp : Int64) : Cv l yX5_forgetMatchIfText (Cond.code yX5_forgetMatchIfText cX5_forgetMatchIfText 2 none :: aW) { frames := 0, cells := 0, slots := 0, locals := 0 } G [(h, .inr (5, [.ref se, .ref tx, .ref rs, .ref sp, .int cp, .int mt, .int mf, .int mo, .long msp, .ref md, .ref pf, .ref pt, .int pcs]))] [.ref h, .int 1] (S := Unit) (fun (_ : Unit) => True) (fun (_ : Unit) => [(h, .inr (5, [.ref se, .ref tx, .ref rs, .ref sp, .int cp, .int 0, .int mf, .int mo, .long msp, .ref md, .ref pf, .ref pt, .int pcs]))]) 0 0 := by
  refine ofB (y := yX5_forgetMatchIfText) (G := G) (cc := cX5_forgetMatchIfText) (maxL := 2) (ret := none) (Qc := fun A => va_Qv (fun (_ : Unit) => True) (oB G A (fun (_ : Unit) => [(h, .inr (5, [.ref se, .ref tx, .ref rs, .ref sp, .int cp, .int 0, .int mf, .int mo, .long msp, .ref md, .ref pf, .ref pt, .int pcs]))])) A) (by decide) rfl ?_
  intro p e s m below meth c A F hK hA hP hD
  have hx := F.1.1; have hb := F.1.2.1; have hml := F.1.2.2.1; have hts := F.1.2.2.2.2
  have hown : s.vm.findClass RX5 = some m.cls := F.1.2.2.2.1
  have hS : va_S A s.heap s.heap [] := va_S.rf
  have hl := lv_entry ([.ref h, .int 1]) (n := 2) (Nat.le_of_ble_eq_true rfl)
  rw [lg_entry_eq]
  generalize (lg_sl ([.ref h, .int 1]) ++ List.replicate (2 - (lg_sl ([.ref h, .int 1])).length) Slot.unset).toArray = ls at hl ⊢
  have hl : lv_has ls 2 [(0, .ref h), (1, .int 1)] := hl
  refine lv_iload_n hx hb dX5_forgetMatchIfText_0 rfl (lv_at hl 1 rfl) ?_
  refine lv_iconst (v := 1) hx hb dX5_forgetMatchIfText_1 (by decide) ?_
  refine lv_icmp_ne (tgt := 10) hx hb dX5_forgetMatchIfText_2 (by decide) (fun h => absurd rfl h) (fun _ => ?_)
  refine lv_aload_n hx hb dX5_forgetMatchIfText_5 rfl (lv_at hl 0 rfl) ?_
  refine lv_iconst (v := 0) hx hb dX5_forgetMatchIfText_6 (by decide) ?_
  refine va_put (D := G.1) (ci := 5) (v := .int 0) (ty := .boolean) (C := RX5) (T := TX5) (N := 13) hx hb hts inX5 tyX5 tyX5_ok nmX5 hown hK.1 hP hD hS 0 rfl rfl 5 (by decide) (hts _ w_195) (fun _ h9 => h9) rfl (by decide +kernel) rfl rfl (Nat.le_of_ble_eq_true rfl) dX5_forgetMatchIfText_7 (fun H locs hP hD hS => ?_)
  have hP : va_P G.1 vwCl [(h, .inr (5, [.ref se, .ref tx, .ref rs, .ref sp, .int cp, .int 0, .int mf, .int mo, .long msp, .ref md, .ref pf, .ref pt, .int pcs]))] H := hP
  have hD : va_D A [(h, .inr (5, [.ref se, .ref tx, .ref rs, .ref sp, .int cp, .int 0, .int mf, .int mo, .long msp, .ref md, .ref pf, .ref pt, .int pcs]))] := hD
  exact en_v F hS () trivial hP hD (by omega) (by omega) dX5_forgetMatchIfText_10

set_option maxHeartbeats 4000000 in
set_option maxRecDepth 100000 in
theorem c_forgetN (l : Launch) (G : PG) (h se tx rs sp md pf pt : Nat) (cp mt mf mo pcs : Int32) (msp : Int64) (r : Int32) (hr : ¬ r = 1) : Cv l yX5_forgetMatchIfText (Cond.code yX5_forgetMatchIfText cX5_forgetMatchIfText 2 none :: aW) { frames := 0, cells := 0, slots := 0, locals := 0 } G [(h, .inr (5, [.ref se, .ref tx, .ref rs, .ref sp, .int cp, .int mt, .int mf, .int mo, .long msp, .ref md, .ref pf, .ref pt, .int pcs]))] [.ref h, .int r] (S := Unit) (fun (_ : Unit) => True) (fun (_ : Unit) => [(h, .inr (5, [.ref se, .ref tx, .ref rs, .ref sp, .int cp, .int mt, .int mf, .int mo, .long msp, .ref md, .ref pf, .ref pt, .int pcs]))]) 0 0 := by
  refine ofB (y := yX5_forgetMatchIfText) (G := G) (cc := cX5_forgetMatchIfText) (maxL := 2) (ret := none) (Qc := fun A => va_Qv (fun (_ : Unit) => True) (oB G A (fun (_ : Unit) => [(h, .inr (5, [.ref se, .ref tx, .ref rs, .ref sp, .int cp, .int mt, .int mf, .int mo, .long msp, .ref md, .ref pf, .ref pt, .int pcs]))])) A) (by decide) rfl ?_
  intro p e s m below meth c A F hK hA hP hD
  have hx := F.1.1; have hb := F.1.2.1; have hml := F.1.2.2.1; have hts := F.1.2.2.2.2
  have hown : s.vm.findClass RX5 = some m.cls := F.1.2.2.2.1
  have hS : va_S A s.heap s.heap [] := va_S.rf
  have hl := lv_entry ([.ref h, .int r]) (n := 2) (Nat.le_of_ble_eq_true rfl)
  rw [lg_entry_eq]
  generalize (lg_sl ([.ref h, .int r]) ++ List.replicate (2 - (lg_sl ([.ref h, .int r])).length) Slot.unset).toArray = ls at hl ⊢
  have hl : lv_has ls 2 [(0, .ref h), (1, .int r)] := hl
  refine lv_iload_n hx hb dX5_forgetMatchIfText_0 rfl (lv_at hl 1 rfl) ?_
  refine lv_iconst (v := 1) hx hb dX5_forgetMatchIfText_1 (by decide) ?_
  refine lv_icmp_ne (tgt := 10) hx hb dX5_forgetMatchIfText_2 (by decide) (fun _ => ?_) (fun h => absurd h hr)
  exact en_v F hS () trivial hP hD (by omega) (by omega) dX5_forgetMatchIfText_10

theorem tb_3 {r ch : Int32} (hbad : r < 0 ∨ (3 : Int32) ≤ r ∨ ch < 32 ∨ (126 : Int32) < ch) (h1 : ¬ isRowV r = 0) (h2 : ¬ ch < 32) : (126 : Int32) < ch := by
  rcases hbad with h | h | h | h
  · exact absurd (if_pos (Or.inl h)) h1
  · exact absurd (if_pos (Or.inr h)) h1
  · exact absurd h h2
  · exact h
theorem dX5_type_0 : decode cX5_type 0 = .ok (.iload_n 1, 1) := by decide +kernel
theorem dX5_type_1 : decode cX5_type 1 = .ok (.invokestatic 47, 3) := by decide +kernel
theorem dX5_type_4 : decode cX5_type 4 = .ok (.ifCond .eq 28, 3) := by decide +kernel
theorem dX5_type_7 : decode cX5_type 7 = .ok (.iload_n 2, 1) := by decide +kernel
theorem dX5_type_8 : decode cX5_type 8 = .ok (.bipush 32, 2) := by decide +kernel
theorem dX5_type_10 : decode cX5_type 10 = .ok (.if_icmp .lt 22, 3) := by decide +kernel
theorem dX5_type_13 : decode cX5_type 13 = .ok (.iload_n 2, 1) := by decide +kernel
theorem dX5_type_14 : decode cX5_type 14 = .ok (.bipush 126, 2) := by decide +kernel
theorem dX5_type_16 : decode cX5_type 16 = .ok (.if_icmp .gt 16, 3) := by decide +kernel
theorem dX5_type_32 : decode cX5_type 32 = .ok (.iconst 0, 1) := by decide +kernel
theorem dX5_type_33 : decode cX5_type 33 = .ok (.ireturn, 1) := by decide +kernel
set_option maxHeartbeats 4000000 in
set_option maxRecDepth 100000 in
theorem c_type_bad (l : Launch) (G : PG) (h se tx rs sp md pf pt : Nat) (cp mt mf mo pcs : Int32) (msp : Int64) (r0 c0 r2 c2 tc : Nat) (f : Nat → Option Nat) (hf0 : f 0 = some r0) (hf1 : f 1 = some tx) (hf2 : f 2 = some r2) (j0 j1 j2 : Nat) (g0 g1 g2 : Nat → Int32) (r ch : Int32) (hbad : r < 0 ∨ (3 : Int32) ≤ r ∨ ch < 32 ∨ (126 : Int32) < ch) : Ci l yX5_type (Cond.code yX5_type cX5_type 3 (some .boolean) :: aW) { frames := 1, cells := 0, slots := 0, locals := 21 } G [(h, .inr (5, [.ref se, .ref tx, .ref rs, .ref sp, .int cp, .int mt, .int mf, .int mo, .long msp, .ref md, .ref pf, .ref pt, .int pcs])), (rs, .inl (G.2 5, 3, .inr (.inr (.inr (.inr f))))), (r0, .inr (3, [.ref c0, .int (nI j0)])), (c0, .inl (G.2 2, 14, .inl g0)), (tx, .inr (3, [.ref tc, .int (nI j1)])), (tc, .inl (G.2 2, 8, .inl g1)), (r2, .inr (3, [.ref c2, .int (nI j2)])), (c2, .inl (G.2 2, 8, .inl g2))] [.ref h, .int r, .int ch] (S := Unit) (fun (r9 : Int32) (_ : Unit) => r9 = 0) (fun (_ : Unit) => [(h, .inr (5, [.ref se, .ref tx, .ref rs, .ref sp, .int cp, .int mt, .int mf, .int mo, .long msp, .ref md, .ref pf, .ref pt, .int pcs])), (rs, .inl (G.2 5, 3, .inr (.inr (.inr (.inr f))))), (r0, .inr (3, [.ref c0, .int (nI j0)])), (c0, .inl (G.2 2, 14, .inl g0)), (tx, .inr (3, [.ref tc, .int (nI j1)])), (tc, .inl (G.2 2, 8, .inl g1)), (r2, .inr (3, [.ref c2, .int (nI j2)])), (c2, .inl (G.2 2, 8, .inl g2))]) 0 0 := by
  refine ofB (y := yX5_type) (G := G) (cc := cX5_type) (maxL := 3) (ret := (some .boolean)) (Qc := fun A => va_Qi (fun (r9 : Int32) (_ : Unit) => r9 = 0) (oB G A (fun (_ : Unit) => [(h, .inr (5, [.ref se, .ref tx, .ref rs, .ref sp, .int cp, .int mt, .int mf, .int mo, .long msp, .ref md, .ref pf, .ref pt, .int pcs])), (rs, .inl (G.2 5, 3, .inr (.inr (.inr (.inr f))))), (r0, .inr (3, [.ref c0, .int (nI j0)])), (c0, .inl (G.2 2, 14, .inl g0)), (tx, .inr (3, [.ref tc, .int (nI j1)])), (tc, .inl (G.2 2, 8, .inl g1)), (r2, .inr (3, [.ref c2, .int (nI j2)])), (c2, .inl (G.2 2, 8, .inl g2))])) A) (by decide) rfl ?_
  intro p e s m below meth c A F hK hA hP hD
  have hx := F.1.1; have hb := F.1.2.1; have hml := F.1.2.2.1; have hts := F.1.2.2.2.2
  have hown : s.vm.findClass RX5 = some m.cls := F.1.2.2.2.1
  have hS : va_S A s.heap s.heap [] := va_S.rf
  have hl := lv_entry ([.ref h, .int r, .int ch]) (n := 3) (Nat.le_of_ble_eq_true rfl)
  rw [lg_entry_eq]
  generalize (lg_sl ([.ref h, .int r, .int ch]) ++ List.replicate (3 - (lg_sl ([.ref h, .int r, .int ch])).length) Slot.unset).toArray = ls at hl ⊢
  have hl : lv_has ls 3 [(0, .ref h), (1, .int r), (2, .int ch)] := hl
  refine lv_iload_n hx hb dX5_type_0 rfl (lv_at hl 1 rfl) ?_
  have hPc := hP.sub (ws' := []) [] rfl
  have hDc := hD.sub (ws' := []) [] (by decide) rfl
  have hqc : 0 + 0 ≤ 0 ∧ 0 + 0 ≤ 0 := ⟨by omega, by omega⟩
  refine kl_i (wr := [(h, .inr (5, [.ref se, .ref tx, .ref rs, .ref sp, .int cp, .int mt, .int mf, .int mo, .long msp, .ref md, .ref pf, .ref pt, .int pcs])), (rs, .inl (G.2 5, 3, .inr (.inr (.inr (.inr f))))), (r0, .inr (3, [.ref c0, .int (nI j0)])), (c0, .inl (G.2 2, 14, .inl g0)), (tx, .inr (3, [.ref tc, .int (nI j1)])), (tc, .inl (G.2 2, 8, .inl g1)), (r2, .inr (3, [.ref c2, .int (nI j2)])), (c2, .inl (G.2 2, 8, .inl g2))]) (va_runS (As := [.int r]) (rest := []) F.1 (c_isRow l G r _) (va_cwS 1 hts (aw_S w_234 w_235 w_1 w_236) rfl rfl rfl (by decide +kernel) ⟨by decide, by decide⟩) ⟨cS_blind, cS_pre hPc hDc hK⟩ rfl rfl hl.1 rfl (lv_room (Nat.le_of_ble_eq_true rfl)) dX5_type_1 hqc) hP hD hS hA [] [0, 1, 2, 3, 4, 5, 6, 7] rfl rfl (by decide) (by decide) (fun r u H locs hp hP hD hS => ?_)
  subst hp
  have hP : va_P G.1 vwCl [(h, .inr (5, [.ref se, .ref tx, .ref rs, .ref sp, .int cp, .int mt, .int mf, .int mo, .long msp, .ref md, .ref pf, .ref pt, .int pcs])), (rs, .inl (G.2 5, 3, .inr (.inr (.inr (.inr f))))), (r0, .inr (3, [.ref c0, .int (nI j0)])), (c0, .inl (G.2 2, 14, .inl g0)), (tx, .inr (3, [.ref tc, .int (nI j1)])), (tc, .inl (G.2 2, 8, .inl g1)), (r2, .inr (3, [.ref c2, .int (nI j2)])), (c2, .inl (G.2 2, 8, .inl g2))] H := hP
  have hD : va_D A [(h, .inr (5, [.ref se, .ref tx, .ref rs, .ref sp, .int cp, .int mt, .int mf, .int mo, .long msp, .ref md, .ref pf, .ref pt, .int pcs])), (rs, .inl (G.2 5, 3, .inr (.inr (.inr (.inr f))))), (r0, .inr (3, [.ref c0, .int (nI j0)])), (c0, .inl (G.2 2, 14, .inl g0)), (tx, .inr (3, [.ref tc, .int (nI j1)])), (tc, .inl (G.2 2, 8, .inl g1)), (r2, .inr (3, [.ref c2, .int (nI j2)])), (c2, .inl (G.2 2, 8, .inl g2))] := hD
  refine lv_if_eq (tgt := 32) hx hb dX5_type_4 (by decide) (fun h1 => ?_) (fun h1 => ?_)
  ·
    refine lv_iconst (v := 0) hx hb dX5_type_32 (by decide) ?_
    exact en_i F hS 0 () (by rfl) rfl hP hD (by omega) (by omega) dX5_type_33
  ·
    refine lv_iload_n hx hb dX5_type_7 rfl (lv_at hl 2 rfl) ?_
    refine lv_bipush (v := 32) hx hb dX5_type_8 (by decide) ?_
    refine lv_icmp_lt (tgt := 32) hx hb dX5_type_10 (by decide) (fun h2 => ?_) (fun h2 => ?_)
    ·
      refine lv_iconst (v := 0) hx hb dX5_type_32 (by decide) ?_
      exact en_i F hS 0 () (by rfl) rfl hP hD (by omega) (by omega) dX5_type_33
    ·
      refine lv_iload_n hx hb dX5_type_13 rfl (lv_at hl 2 rfl) ?_
      refine lv_bipush (v := 126) hx hb dX5_type_14 (by decide) ?_
      refine lv_icmp_gt (tgt := 32) hx hb dX5_type_16 (by decide) (fun _ => ?_) (fun h => absurd (tb_3 hbad h1 h2) h)
      refine lv_iconst (v := 0) hx hb dX5_type_32 (by decide) ?_
      exact en_i F hS 0 () (by rfl) rfl hP hD (by omega) (by omega) dX5_type_33

theorem dX5_type_19 : decode cX5_type 19 = .ok (.aload_n 0, 1) := by decide +kernel
theorem dX5_type_20 : decode cX5_type 20 = .ok (.getfield 26, 3) := by decide +kernel
theorem dX5_type_23 : decode cX5_type 23 = .ok (.iload_n 1, 1) := by decide +kernel
theorem dX5_type_24 : decode cX5_type 24 = .ok (.aaload, 1) := by decide +kernel
theorem dX5_type_25 : decode cX5_type 25 = .ok (.iload_n 2, 1) := by decide +kernel
theorem dX5_type_26 : decode cX5_type 26 = .ok (.invokevirtual 51, 3) := by decide +kernel
theorem dX5_type_29 : decode cX5_type 29 = .ok (.ifCond .ne 5, 3) := by decide +kernel
theorem dX5_type_34 : decode cX5_type 34 = .ok (.aload_n 0, 1) := by decide +kernel
theorem dX5_type_35 : decode cX5_type 35 = .ok (.iload_n 1, 1) := by decide +kernel
theorem dX5_type_36 : decode cX5_type 36 = .ok (.invokevirtual 55, 3) := by decide +kernel
theorem dX5_type_39 : decode cX5_type 39 = .ok (.iconst 1, 1) := by decide +kernel
theorem dX5_type_40 : decode cX5_type 40 = .ok (.ireturn, 1) := by decide +kernel
set_option maxHeartbeats 4000000 in
set_option maxRecDepth 100000 in
theorem c_type0 (l : Launch) (G : PG) (h se tx rs sp md pf pt : Nat) (cp mt mf mo pcs : Int32) (msp : Int64) (r0 c0 r2 c2 tc : Nat) (f : Nat → Option Nat) (hf0 : f 0 = some r0) (hf1 : f 1 = some tx) (hf2 : f 2 = some r2) (j0 j1 j2 : Nat) (g0 g1 g2 : Nat → Int32) (ch : Int32) (h32 : ¬ ch < 32) (h126 : ¬ (126 : Int32) < ch) (hj : j0 < 14) : Ci l yX5_type (Cond.code yX5_type cX5_type 3 (some .boolean) :: aW) { frames := 1, cells := 0, slots := 0, locals := 21 } G [(h, .inr (5, [.ref se, .ref tx, .ref rs, .ref sp, .int cp, .int mt, .int mf, .int mo, .long msp, .ref md, .ref pf, .ref pt, .int pcs])), (rs, .inl (G.2 5, 3, .inr (.inr (.inr (.inr f))))), (r0, .inr (3, [.ref c0, .int (nI j0)])), (c0, .inl (G.2 2, 14, .inl g0)), (tx, .inr (3, [.ref tc, .int (nI j1)])), (tc, .inl (G.2 2, 8, .inl g1)), (r2, .inr (3, [.ref c2, .int (nI j2)])), (c2, .inl (G.2 2, 8, .inl g2))] [.ref h, .int 0, .int ch] (S := Unit) (fun (r9 : Int32) (_ : Unit) => r9 = 1) (fun (_ : Unit) => [(h, .inr (5, [.ref se, .ref tx, .ref rs, .ref sp, .int cp, .int mt, .int mf, .int mo, .long msp, .ref md, .ref pf, .ref pt, .int pcs])), (rs, .inl (G.2 5, 3, .inr (.inr (.inr (.inr f))))), (r0, .inr (3, [.ref c0, .int (nI (j0 + 1))])), (c0, .inl (G.2 2, 14, .inl (upd g0 j0 (vp_nar .char ch)))), (tx, .inr (3, [.ref tc, .int (nI j1)])), (tc, .inl (G.2 2, 8, .inl g1)), (r2, .inr (3, [.ref c2, .int (nI j2)])), (c2, .inl (G.2 2, 8, .inl g2))]) 0 0 := by
  refine ofB (y := yX5_type) (G := G) (cc := cX5_type) (maxL := 3) (ret := (some .boolean)) (Qc := fun A => va_Qi (fun (r9 : Int32) (_ : Unit) => r9 = 1) (oB G A (fun (_ : Unit) => [(h, .inr (5, [.ref se, .ref tx, .ref rs, .ref sp, .int cp, .int mt, .int mf, .int mo, .long msp, .ref md, .ref pf, .ref pt, .int pcs])), (rs, .inl (G.2 5, 3, .inr (.inr (.inr (.inr f))))), (r0, .inr (3, [.ref c0, .int (nI (j0 + 1))])), (c0, .inl (G.2 2, 14, .inl (upd g0 j0 (vp_nar .char ch)))), (tx, .inr (3, [.ref tc, .int (nI j1)])), (tc, .inl (G.2 2, 8, .inl g1)), (r2, .inr (3, [.ref c2, .int (nI j2)])), (c2, .inl (G.2 2, 8, .inl g2))])) A) (by decide) rfl ?_
  intro p e s m below meth c A F hK hA hP hD
  have hx := F.1.1; have hb := F.1.2.1; have hml := F.1.2.2.1; have hts := F.1.2.2.2.2
  have hown : s.vm.findClass RX5 = some m.cls := F.1.2.2.2.1
  have hS : va_S A s.heap s.heap [] := va_S.rf
  have hl := lv_entry ([.ref h, .int 0, .int ch]) (n := 3) (Nat.le_of_ble_eq_true rfl)
  rw [lg_entry_eq]
  generalize (lg_sl ([.ref h, .int 0, .int ch]) ++ List.replicate (3 - (lg_sl ([.ref h, .int 0, .int ch])).length) Slot.unset).toArray = ls at hl ⊢
  have hl : lv_has ls 3 [(0, .ref h), (1, .int 0), (2, .int ch)] := hl
  refine lv_iload_n hx hb dX5_type_0 rfl (lv_at hl 1 rfl) ?_
  have hPc := hP.sub (ws' := []) [] rfl
  have hDc := hD.sub (ws' := []) [] (by decide) rfl
  have hqc : 0 + 0 ≤ 0 ∧ 0 + 0 ≤ 0 := ⟨by omega, by omega⟩
  refine kl_i (wr := [(h, .inr (5, [.ref se, .ref tx, .ref rs, .ref sp, .int cp, .int mt, .int mf, .int mo, .long msp, .ref md, .ref pf, .ref pt, .int pcs])), (rs, .inl (G.2 5, 3, .inr (.inr (.inr (.inr f))))), (r0, .inr (3, [.ref c0, .int (nI j0)])), (c0, .inl (G.2 2, 14, .inl g0)), (tx, .inr (3, [.ref tc, .int (nI j1)])), (tc, .inl (G.2 2, 8, .inl g1)), (r2, .inr (3, [.ref c2, .int (nI j2)])), (c2, .inl (G.2 2, 8, .inl g2))]) (va_runS (As := [.int 0]) (rest := []) F.1 (c_isRow l G 0 _) (va_cwS 1 hts (aw_S w_234 w_235 w_1 w_236) rfl rfl rfl (by decide +kernel) ⟨by decide, by decide⟩) ⟨cS_blind, cS_pre hPc hDc hK⟩ rfl rfl hl.1 rfl (lv_room (Nat.le_of_ble_eq_true rfl)) dX5_type_1 hqc) hP hD hS hA [] [0, 1, 2, 3, 4, 5, 6, 7] rfl rfl (by decide) (by decide) (fun r u H locs hp hP hD hS => ?_)
  subst hp
  have hP : va_P G.1 vwCl [(h, .inr (5, [.ref se, .ref tx, .ref rs, .ref sp, .int cp, .int mt, .int mf, .int mo, .long msp, .ref md, .ref pf, .ref pt, .int pcs])), (rs, .inl (G.2 5, 3, .inr (.inr (.inr (.inr f))))), (r0, .inr (3, [.ref c0, .int (nI j0)])), (c0, .inl (G.2 2, 14, .inl g0)), (tx, .inr (3, [.ref tc, .int (nI j1)])), (tc, .inl (G.2 2, 8, .inl g1)), (r2, .inr (3, [.ref c2, .int (nI j2)])), (c2, .inl (G.2 2, 8, .inl g2))] H := hP
  have hD : va_D A [(h, .inr (5, [.ref se, .ref tx, .ref rs, .ref sp, .int cp, .int mt, .int mf, .int mo, .long msp, .ref md, .ref pf, .ref pt, .int pcs])), (rs, .inl (G.2 5, 3, .inr (.inr (.inr (.inr f))))), (r0, .inr (3, [.ref c0, .int (nI j0)])), (c0, .inl (G.2 2, 14, .inl g0)), (tx, .inr (3, [.ref tc, .int (nI j1)])), (tc, .inl (G.2 2, 8, .inl g1)), (r2, .inr (3, [.ref c2, .int (nI j2)])), (c2, .inl (G.2 2, 8, .inl g2))] := hD
  refine lv_if_eq (tgt := 32) hx hb dX5_type_4 (by decide) (fun h => absurd h (by decide : ¬ isRowV 0 = 0)) (fun _ => ?_)
  refine lv_iload_n hx hb dX5_type_7 rfl (lv_at hl 2 rfl) ?_
  refine lv_bipush (v := 32) hx hb dX5_type_8 (by decide) ?_
  refine lv_icmp_lt (tgt := 32) hx hb dX5_type_10 (by decide) (fun h => absurd h h32) (fun _ => ?_)
  refine lv_iload_n hx hb dX5_type_13 rfl (lv_at hl 2 rfl) ?_
  refine lv_bipush (v := 126) hx hb dX5_type_14 (by decide) ?_
  refine lv_icmp_gt (tgt := 32) hx hb dX5_type_16 (by decide) (fun h => absurd h h126) (fun _ => ?_)
  refine lv_aload_n hx hb dX5_type_19 rfl (lv_at hl 0 rfl) ?_
  refine va_get (D := G.1) (ci := 5) (v := .ref rs) (C := RX5) (T := TX5) (N := 13) hx hb hts inX5 hown hK.1 hP 0 rfl rfl 2 (by decide) (hts _ w_192) (fun _ h9 => h9) rfl dX5_type_20 ?_
  refine lv_iload_n hx hb dX5_type_23 rfl (lv_at hl 1 rfl) ?_
  refine va_aldq (D := G.1) hx hb hK.1 hP 1 5 rfl rfl (vp_in_nI (n := 0) (by decide) (by decide)) dX5_type_24 ?_
  refine tp_v (.ref r0) (show va_rf (f 0) = .ref r0 by rw [hf0]; rfl) ?_
  refine lv_iload_n hx hb dX5_type_25 rfl (lv_at hl 2 rfl) ?_
  have hPc := hP.sub (ws' := [(r0, .inr (3, [.ref c0, .int (nI j0)])), (c0, .inl (G.2 2, 14, .inl g0))]) [2, 3] rfl
  have hDc := hD.sub (ws' := [(r0, .inr (3, [.ref c0, .int (nI j0)])), (c0, .inl (G.2 2, 14, .inl g0))]) [2, 3] (by decide) rfl
  have hqc : 0 + 0 ≤ 0 ∧ 0 + 0 ≤ 0 := ⟨by omega, by omega⟩
  refine kl_i (wr := [(h, .inr (5, [.ref se, .ref tx, .ref rs, .ref sp, .int cp, .int mt, .int mf, .int mo, .long msp, .ref md, .ref pf, .ref pt, .int pcs])), (rs, .inl (G.2 5, 3, .inr (.inr (.inr (.inr f))))), (tx, .inr (3, [.ref tc, .int (nI j1)])), (tc, .inl (G.2 2, 8, .inl g1)), (r2, .inr (3, [.ref c2, .int (nI j2)])), (c2, .inl (G.2 2, 8, .inl g2))]) (va_runV (As := [.int ch]) (rest := []) F.1 (c_row_add l G _ _ 14 j0 g0 ch hj (by decide) _) (cwV 1 hts (aw_V w_237 w_238 w_239 w_3 w_240) rfl rfl rfl (by decide +kernel) ⟨by decide, by decide⟩) ⟨cS_blind, va_recv (q := (RX3, TX3, 2)) (ci := 3) (q0 := 0) hK.1 hPc rfl rfl, cS_pre hPc hDc hK⟩ rfl rfl hl.1 rfl (lv_room (Nat.le_of_ble_eq_true rfl)) dX5_type_26 hqc) hP hD hS hA [2, 3] [0, 1, 4, 5, 6, 7] rfl rfl (by decide) (by decide) (fun r u H locs hp hP hD hS => ?_)
  subst hp
  have hP : va_P G.1 vwCl [(h, .inr (5, [.ref se, .ref tx, .ref rs, .ref sp, .int cp, .int mt, .int mf, .int mo, .long msp, .ref md, .ref pf, .ref pt, .int pcs])), (rs, .inl (G.2 5, 3, .inr (.inr (.inr (.inr f))))), (tx, .inr (3, [.ref tc, .int (nI j1)])), (tc, .inl (G.2 2, 8, .inl g1)), (r2, .inr (3, [.ref c2, .int (nI j2)])), (c2, .inl (G.2 2, 8, .inl g2)), (r0, .inr (3, [.ref c0, .int (nI (j0 + 1))])), (c0, .inl (G.2 2, 14, .inl (upd g0 j0 (vp_nar .char ch))))] H := hP
  have hD : va_D A [(h, .inr (5, [.ref se, .ref tx, .ref rs, .ref sp, .int cp, .int mt, .int mf, .int mo, .long msp, .ref md, .ref pf, .ref pt, .int pcs])), (rs, .inl (G.2 5, 3, .inr (.inr (.inr (.inr f))))), (tx, .inr (3, [.ref tc, .int (nI j1)])), (tc, .inl (G.2 2, 8, .inl g1)), (r2, .inr (3, [.ref c2, .int (nI j2)])), (c2, .inl (G.2 2, 8, .inl g2)), (r0, .inr (3, [.ref c0, .int (nI (j0 + 1))])), (c0, .inl (G.2 2, 14, .inl (upd g0 j0 (vp_nar .char ch))))] := hD
  refine lv_if_ne (tgt := 34) hx hb dX5_type_29 (by decide) (fun _ => ?_) (fun h => absurd h (by decide : ¬ (1 : Int32) = 0))
  refine lv_aload_n hx hb dX5_type_34 rfl (lv_at hl 0 rfl) ?_
  refine lv_iload_n hx hb dX5_type_35 rfl (lv_at hl 1 rfl) ?_
  have hPc := hP.sub (ws' := [(h, .inr (5, [.ref se, .ref tx, .ref rs, .ref sp, .int cp, .int mt, .int mf, .int mo, .long msp, .ref md, .ref pf, .ref pt, .int pcs]))]) [0] rfl
  have hDc := hD.sub (ws' := [(h, .inr (5, [.ref se, .ref tx, .ref rs, .ref sp, .int cp, .int mt, .int mf, .int mo, .long msp, .ref md, .ref pf, .ref pt, .int pcs]))]) [0] (by decide) rfl
  have hqc : 0 + 0 ≤ 0 ∧ 0 + 0 ≤ 0 := ⟨by omega, by omega⟩
  refine kl_v (wr := [(rs, .inl (G.2 5, 3, .inr (.inr (.inr (.inr f))))), (tx, .inr (3, [.ref tc, .int (nI j1)])), (tc, .inl (G.2 2, 8, .inl g1)), (r2, .inr (3, [.ref c2, .int (nI j2)])), (c2, .inl (G.2 2, 8, .inl g2)), (r0, .inr (3, [.ref c0, .int (nI (j0 + 1))])), (c0, .inl (G.2 2, 14, .inl (upd g0 j0 (vp_nar .char ch))))]) (va_runV (As := [.int 0]) (rest := []) F.1 (c_forgetN l G _ _ _ _ _ _ _ _ _ _ _ _ _ _ 0 (by decide) _) (cwV 1 hts (aw_V w_241 w_243 ws_X5_forgetMatchIfText w_1 w_244) rfl rfl rfl (by decide +kernel) ⟨by decide, by decide⟩) ⟨cS_blind, va_recv (q := (RX5, TX5, 13)) (ci := 5) (q0 := 0) hK.1 hPc rfl rfl, cS_pre hPc hDc hK⟩ rfl rfl hl.1 rfl (lv_room (Nat.le_of_ble_eq_true rfl)) dX5_type_36 hqc) hP hD hS hA [0] [1, 2, 3, 4, 5, 6, 7] rfl rfl (by decide) (by decide) (fun u H locs hp hP hD hS => ?_)
  have hP : va_P G.1 vwCl [(rs, .inl (G.2 5, 3, .inr (.inr (.inr (.inr f))))), (tx, .inr (3, [.ref tc, .int (nI j1)])), (tc, .inl (G.2 2, 8, .inl g1)), (r2, .inr (3, [.ref c2, .int (nI j2)])), (c2, .inl (G.2 2, 8, .inl g2)), (r0, .inr (3, [.ref c0, .int (nI (j0 + 1))])), (c0, .inl (G.2 2, 14, .inl (upd g0 j0 (vp_nar .char ch)))), (h, .inr (5, [.ref se, .ref tx, .ref rs, .ref sp, .int cp, .int mt, .int mf, .int mo, .long msp, .ref md, .ref pf, .ref pt, .int pcs]))] H := hP
  have hD : va_D A [(rs, .inl (G.2 5, 3, .inr (.inr (.inr (.inr f))))), (tx, .inr (3, [.ref tc, .int (nI j1)])), (tc, .inl (G.2 2, 8, .inl g1)), (r2, .inr (3, [.ref c2, .int (nI j2)])), (c2, .inl (G.2 2, 8, .inl g2)), (r0, .inr (3, [.ref c0, .int (nI (j0 + 1))])), (c0, .inl (G.2 2, 14, .inl (upd g0 j0 (vp_nar .char ch)))), (h, .inr (5, [.ref se, .ref tx, .ref rs, .ref sp, .int cp, .int mt, .int mf, .int mo, .long msp, .ref md, .ref pf, .ref pt, .int pcs]))] := hD
  refine lv_iconst (v := 1) hx hb dX5_type_39 (by decide) ?_
  have hP := hP.sub (ws' := [(h, .inr (5, [.ref se, .ref tx, .ref rs, .ref sp, .int cp, .int mt, .int mf, .int mo, .long msp, .ref md, .ref pf, .ref pt, .int pcs])), (rs, .inl (G.2 5, 3, .inr (.inr (.inr (.inr f))))), (r0, .inr (3, [.ref c0, .int (nI (j0 + 1))])), (c0, .inl (G.2 2, 14, .inl (upd g0 j0 (vp_nar .char ch)))), (tx, .inr (3, [.ref tc, .int (nI j1)])), (tc, .inl (G.2 2, 8, .inl g1)), (r2, .inr (3, [.ref c2, .int (nI j2)])), (c2, .inl (G.2 2, 8, .inl g2))]) [7, 0, 5, 6, 1, 2, 3, 4] rfl
  have hD := hD.sub (ws' := [(h, .inr (5, [.ref se, .ref tx, .ref rs, .ref sp, .int cp, .int mt, .int mf, .int mo, .long msp, .ref md, .ref pf, .ref pt, .int pcs])), (rs, .inl (G.2 5, 3, .inr (.inr (.inr (.inr f))))), (r0, .inr (3, [.ref c0, .int (nI (j0 + 1))])), (c0, .inl (G.2 2, 14, .inl (upd g0 j0 (vp_nar .char ch)))), (tx, .inr (3, [.ref tc, .int (nI j1)])), (tc, .inl (G.2 2, 8, .inl g1)), (r2, .inr (3, [.ref c2, .int (nI j2)])), (c2, .inl (G.2 2, 8, .inl g2))]) [7, 0, 5, 6, 1, 2, 3, 4] (by decide) rfl
  exact en_i F hS 1 () (by rfl) rfl hP hD (by omega) (by omega) dX5_type_40

set_option maxHeartbeats 4000000 in
set_option maxRecDepth 100000 in
theorem c_typeF0 (l : Launch) (G : PG) (h se tx rs sp md pf pt : Nat) (cp mt mf mo pcs : Int32) (msp : Int64) (r0 c0 r2 c2 tc : Nat) (f : Nat → Option Nat) (hf0 : f 0 = some r0) (hf1 : f 1 = some tx) (hf2 : f 2 = some r2) (j0 j1 j2 : Nat) (g0 g1 g2 : Nat → Int32) (ch : Int32) (h32 : ¬ ch < 32) (h126 : ¬ (126 : Int32) < ch) : Ci l yX5_type (Cond.code yX5_type cX5_type 3 (some .boolean) :: aW) { frames := 1, cells := 0, slots := 0, locals := 21 } G [(h, .inr (5, [.ref se, .ref tx, .ref rs, .ref sp, .int cp, .int mt, .int mf, .int mo, .long msp, .ref md, .ref pf, .ref pt, .int pcs])), (rs, .inl (G.2 5, 3, .inr (.inr (.inr (.inr f))))), (r0, .inr (3, [.ref c0, .int (nI 14)])), (c0, .inl (G.2 2, 14, .inl g0)), (tx, .inr (3, [.ref tc, .int (nI j1)])), (tc, .inl (G.2 2, 8, .inl g1)), (r2, .inr (3, [.ref c2, .int (nI j2)])), (c2, .inl (G.2 2, 8, .inl g2))] [.ref h, .int 0, .int ch] (S := Unit) (fun (r9 : Int32) (_ : Unit) => r9 = 0) (fun (_ : Unit) => [(h, .inr (5, [.ref se, .ref tx, .ref rs, .ref sp, .int cp, .int mt, .int mf, .int mo, .long msp, .ref md, .ref pf, .ref pt, .int pcs])), (rs, .inl (G.2 5, 3, .inr (.inr (.inr (.inr f))))), (r0, .inr (3, [.ref c0, .int (nI 14)])), (c0, .inl (G.2 2, 14, .inl g0)), (tx, .inr (3, [.ref tc, .int (nI j1)])), (tc, .inl (G.2 2, 8, .inl g1)), (r2, .inr (3, [.ref c2, .int (nI j2)])), (c2, .inl (G.2 2, 8, .inl g2))]) 0 0 := by
  refine ofB (y := yX5_type) (G := G) (cc := cX5_type) (maxL := 3) (ret := (some .boolean)) (Qc := fun A => va_Qi (fun (r9 : Int32) (_ : Unit) => r9 = 0) (oB G A (fun (_ : Unit) => [(h, .inr (5, [.ref se, .ref tx, .ref rs, .ref sp, .int cp, .int mt, .int mf, .int mo, .long msp, .ref md, .ref pf, .ref pt, .int pcs])), (rs, .inl (G.2 5, 3, .inr (.inr (.inr (.inr f))))), (r0, .inr (3, [.ref c0, .int (nI 14)])), (c0, .inl (G.2 2, 14, .inl g0)), (tx, .inr (3, [.ref tc, .int (nI j1)])), (tc, .inl (G.2 2, 8, .inl g1)), (r2, .inr (3, [.ref c2, .int (nI j2)])), (c2, .inl (G.2 2, 8, .inl g2))])) A) (by decide) rfl ?_
  intro p e s m below meth c A F hK hA hP hD
  have hx := F.1.1; have hb := F.1.2.1; have hml := F.1.2.2.1; have hts := F.1.2.2.2.2
  have hown : s.vm.findClass RX5 = some m.cls := F.1.2.2.2.1
  have hS : va_S A s.heap s.heap [] := va_S.rf
  have hl := lv_entry ([.ref h, .int 0, .int ch]) (n := 3) (Nat.le_of_ble_eq_true rfl)
  rw [lg_entry_eq]
  generalize (lg_sl ([.ref h, .int 0, .int ch]) ++ List.replicate (3 - (lg_sl ([.ref h, .int 0, .int ch])).length) Slot.unset).toArray = ls at hl ⊢
  have hl : lv_has ls 3 [(0, .ref h), (1, .int 0), (2, .int ch)] := hl
  refine lv_iload_n hx hb dX5_type_0 rfl (lv_at hl 1 rfl) ?_
  have hPc := hP.sub (ws' := []) [] rfl
  have hDc := hD.sub (ws' := []) [] (by decide) rfl
  have hqc : 0 + 0 ≤ 0 ∧ 0 + 0 ≤ 0 := ⟨by omega, by omega⟩
  refine kl_i (wr := [(h, .inr (5, [.ref se, .ref tx, .ref rs, .ref sp, .int cp, .int mt, .int mf, .int mo, .long msp, .ref md, .ref pf, .ref pt, .int pcs])), (rs, .inl (G.2 5, 3, .inr (.inr (.inr (.inr f))))), (r0, .inr (3, [.ref c0, .int (nI 14)])), (c0, .inl (G.2 2, 14, .inl g0)), (tx, .inr (3, [.ref tc, .int (nI j1)])), (tc, .inl (G.2 2, 8, .inl g1)), (r2, .inr (3, [.ref c2, .int (nI j2)])), (c2, .inl (G.2 2, 8, .inl g2))]) (va_runS (As := [.int 0]) (rest := []) F.1 (c_isRow l G 0 _) (va_cwS 1 hts (aw_S w_234 w_235 w_1 w_236) rfl rfl rfl (by decide +kernel) ⟨by decide, by decide⟩) ⟨cS_blind, cS_pre hPc hDc hK⟩ rfl rfl hl.1 rfl (lv_room (Nat.le_of_ble_eq_true rfl)) dX5_type_1 hqc) hP hD hS hA [] [0, 1, 2, 3, 4, 5, 6, 7] rfl rfl (by decide) (by decide) (fun r u H locs hp hP hD hS => ?_)
  subst hp
  have hP : va_P G.1 vwCl [(h, .inr (5, [.ref se, .ref tx, .ref rs, .ref sp, .int cp, .int mt, .int mf, .int mo, .long msp, .ref md, .ref pf, .ref pt, .int pcs])), (rs, .inl (G.2 5, 3, .inr (.inr (.inr (.inr f))))), (r0, .inr (3, [.ref c0, .int (nI 14)])), (c0, .inl (G.2 2, 14, .inl g0)), (tx, .inr (3, [.ref tc, .int (nI j1)])), (tc, .inl (G.2 2, 8, .inl g1)), (r2, .inr (3, [.ref c2, .int (nI j2)])), (c2, .inl (G.2 2, 8, .inl g2))] H := hP
  have hD : va_D A [(h, .inr (5, [.ref se, .ref tx, .ref rs, .ref sp, .int cp, .int mt, .int mf, .int mo, .long msp, .ref md, .ref pf, .ref pt, .int pcs])), (rs, .inl (G.2 5, 3, .inr (.inr (.inr (.inr f))))), (r0, .inr (3, [.ref c0, .int (nI 14)])), (c0, .inl (G.2 2, 14, .inl g0)), (tx, .inr (3, [.ref tc, .int (nI j1)])), (tc, .inl (G.2 2, 8, .inl g1)), (r2, .inr (3, [.ref c2, .int (nI j2)])), (c2, .inl (G.2 2, 8, .inl g2))] := hD
  refine lv_if_eq (tgt := 32) hx hb dX5_type_4 (by decide) (fun h => absurd h (by decide : ¬ isRowV 0 = 0)) (fun _ => ?_)
  refine lv_iload_n hx hb dX5_type_7 rfl (lv_at hl 2 rfl) ?_
  refine lv_bipush (v := 32) hx hb dX5_type_8 (by decide) ?_
  refine lv_icmp_lt (tgt := 32) hx hb dX5_type_10 (by decide) (fun h => absurd h h32) (fun _ => ?_)
  refine lv_iload_n hx hb dX5_type_13 rfl (lv_at hl 2 rfl) ?_
  refine lv_bipush (v := 126) hx hb dX5_type_14 (by decide) ?_
  refine lv_icmp_gt (tgt := 32) hx hb dX5_type_16 (by decide) (fun h => absurd h h126) (fun _ => ?_)
  refine lv_aload_n hx hb dX5_type_19 rfl (lv_at hl 0 rfl) ?_
  refine va_get (D := G.1) (ci := 5) (v := .ref rs) (C := RX5) (T := TX5) (N := 13) hx hb hts inX5 hown hK.1 hP 0 rfl rfl 2 (by decide) (hts _ w_192) (fun _ h9 => h9) rfl dX5_type_20 ?_
  refine lv_iload_n hx hb dX5_type_23 rfl (lv_at hl 1 rfl) ?_
  refine va_aldq (D := G.1) hx hb hK.1 hP 1 5 rfl rfl (vp_in_nI (n := 0) (by decide) (by decide)) dX5_type_24 ?_
  refine tp_v (.ref r0) (show va_rf (f 0) = .ref r0 by rw [hf0]; rfl) ?_
  refine lv_iload_n hx hb dX5_type_25 rfl (lv_at hl 2 rfl) ?_
  have hPc := hP.sub (ws' := [(r0, .inr (3, [.ref c0, .int (nI 14)])), (c0, .inl (G.2 2, 14, .inl g0))]) [2, 3] rfl
  have hDc := hD.sub (ws' := [(r0, .inr (3, [.ref c0, .int (nI 14)])), (c0, .inl (G.2 2, 14, .inl g0))]) [2, 3] (by decide) rfl
  have hqc : 0 + 0 ≤ 0 ∧ 0 + 0 ≤ 0 := ⟨by omega, by omega⟩
  refine kl_i (wr := [(h, .inr (5, [.ref se, .ref tx, .ref rs, .ref sp, .int cp, .int mt, .int mf, .int mo, .long msp, .ref md, .ref pf, .ref pt, .int pcs])), (rs, .inl (G.2 5, 3, .inr (.inr (.inr (.inr f))))), (tx, .inr (3, [.ref tc, .int (nI j1)])), (tc, .inl (G.2 2, 8, .inl g1)), (r2, .inr (3, [.ref c2, .int (nI j2)])), (c2, .inl (G.2 2, 8, .inl g2))]) (va_runV (As := [.int ch]) (rest := []) F.1 (c_row_addF l G _ _ 14 g0 ch (by decide) _) (cwV 1 hts (aw_V w_237 w_238 w_239 w_3 w_240) rfl rfl rfl (by decide +kernel) ⟨by decide, by decide⟩) ⟨cS_blind, va_recv (q := (RX3, TX3, 2)) (ci := 3) (q0 := 0) hK.1 hPc rfl rfl, cS_pre hPc hDc hK⟩ rfl rfl hl.1 rfl (lv_room (Nat.le_of_ble_eq_true rfl)) dX5_type_26 hqc) hP hD hS hA [2, 3] [0, 1, 4, 5, 6, 7] rfl rfl (by decide) (by decide) (fun r u H locs hp hP hD hS => ?_)
  subst hp
  have hP : va_P G.1 vwCl [(h, .inr (5, [.ref se, .ref tx, .ref rs, .ref sp, .int cp, .int mt, .int mf, .int mo, .long msp, .ref md, .ref pf, .ref pt, .int pcs])), (rs, .inl (G.2 5, 3, .inr (.inr (.inr (.inr f))))), (tx, .inr (3, [.ref tc, .int (nI j1)])), (tc, .inl (G.2 2, 8, .inl g1)), (r2, .inr (3, [.ref c2, .int (nI j2)])), (c2, .inl (G.2 2, 8, .inl g2)), (r0, .inr (3, [.ref c0, .int (nI 14)])), (c0, .inl (G.2 2, 14, .inl g0))] H := hP
  have hD : va_D A [(h, .inr (5, [.ref se, .ref tx, .ref rs, .ref sp, .int cp, .int mt, .int mf, .int mo, .long msp, .ref md, .ref pf, .ref pt, .int pcs])), (rs, .inl (G.2 5, 3, .inr (.inr (.inr (.inr f))))), (tx, .inr (3, [.ref tc, .int (nI j1)])), (tc, .inl (G.2 2, 8, .inl g1)), (r2, .inr (3, [.ref c2, .int (nI j2)])), (c2, .inl (G.2 2, 8, .inl g2)), (r0, .inr (3, [.ref c0, .int (nI 14)])), (c0, .inl (G.2 2, 14, .inl g0))] := hD
  refine lv_if_ne (tgt := 34) hx hb dX5_type_29 (by decide) (fun h => absurd rfl h) (fun _ => ?_)
  refine lv_iconst (v := 0) hx hb dX5_type_32 (by decide) ?_
  have hP := hP.sub (ws' := [(h, .inr (5, [.ref se, .ref tx, .ref rs, .ref sp, .int cp, .int mt, .int mf, .int mo, .long msp, .ref md, .ref pf, .ref pt, .int pcs])), (rs, .inl (G.2 5, 3, .inr (.inr (.inr (.inr f))))), (r0, .inr (3, [.ref c0, .int (nI 14)])), (c0, .inl (G.2 2, 14, .inl g0)), (tx, .inr (3, [.ref tc, .int (nI j1)])), (tc, .inl (G.2 2, 8, .inl g1)), (r2, .inr (3, [.ref c2, .int (nI j2)])), (c2, .inl (G.2 2, 8, .inl g2))]) [0, 1, 6, 7, 2, 3, 4, 5] rfl
  have hD := hD.sub (ws' := [(h, .inr (5, [.ref se, .ref tx, .ref rs, .ref sp, .int cp, .int mt, .int mf, .int mo, .long msp, .ref md, .ref pf, .ref pt, .int pcs])), (rs, .inl (G.2 5, 3, .inr (.inr (.inr (.inr f))))), (r0, .inr (3, [.ref c0, .int (nI 14)])), (c0, .inl (G.2 2, 14, .inl g0)), (tx, .inr (3, [.ref tc, .int (nI j1)])), (tc, .inl (G.2 2, 8, .inl g1)), (r2, .inr (3, [.ref c2, .int (nI j2)])), (c2, .inl (G.2 2, 8, .inl g2))]) [0, 1, 6, 7, 2, 3, 4, 5] (by decide) rfl
  exact en_i F hS 0 () (by rfl) rfl hP hD (by omega) (by omega) dX5_type_33

theorem dX5_clear_0 : decode cX5_clear 0 = .ok (.iload_n 1, 1) := by decide +kernel
theorem dX5_clear_1 : decode cX5_clear 1 = .ok (.invokestatic 47, 3) := by decide +kernel
theorem dX5_clear_4 : decode cX5_clear 4 = .ok (.ifCond .ne 5, 3) := by decide +kernel
theorem dX5_clear_9 : decode cX5_clear 9 = .ok (.aload_n 0, 1) := by decide +kernel
theorem dX5_clear_10 : decode cX5_clear 10 = .ok (.getfield 26, 3) := by decide +kernel
theorem dX5_clear_13 : decode cX5_clear 13 = .ok (.iload_n 1, 1) := by decide +kernel
theorem dX5_clear_14 : decode cX5_clear 14 = .ok (.aaload, 1) := by decide +kernel
theorem dX5_clear_15 : decode cX5_clear 15 = .ok (.invokevirtual 58, 3) := by decide +kernel
theorem dX5_clear_18 : decode cX5_clear 18 = .ok (.aload_n 0, 1) := by decide +kernel
theorem dX5_clear_19 : decode cX5_clear 19 = .ok (.iload_n 1, 1) := by decide +kernel
theorem dX5_clear_20 : decode cX5_clear 20 = .ok (.invokevirtual 55, 3) := by decide +kernel
theorem dX5_clear_23 : decode cX5_clear 23 = .ok (.iconst 1, 1) := by decide +kernel
theorem dX5_clear_24 : decode cX5_clear 24 = .ok (.ireturn, 1) := by decide +kernel
set_option maxHeartbeats 4000000 in
set_option maxRecDepth 100000 in
theorem c_clear0 (l : Launch) (G : PG) (h se tx rs sp md pf pt : Nat) (cp mt mf mo pcs : Int32) (msp : Int64) (r0 c0 r2 c2 tc : Nat) (f : Nat → Option Nat) (hf0 : f 0 = some r0) (hf1 : f 1 = some tx) (hf2 : f 2 = some r2) (j0 j1 j2 : Nat) (g0 g1 g2 : Nat → Int32) : Ci l yX5_clear (Cond.code yX5_clear cX5_clear 2 (some .boolean) :: aW) { frames := 1, cells := 0, slots := 0, locals := 21 } G [(h, .inr (5, [.ref se, .ref tx, .ref rs, .ref sp, .int cp, .int mt, .int mf, .int mo, .long msp, .ref md, .ref pf, .ref pt, .int pcs])), (rs, .inl (G.2 5, 3, .inr (.inr (.inr (.inr f))))), (r0, .inr (3, [.ref c0, .int (nI j0)])), (c0, .inl (G.2 2, 14, .inl g0)), (tx, .inr (3, [.ref tc, .int (nI j1)])), (tc, .inl (G.2 2, 8, .inl g1)), (r2, .inr (3, [.ref c2, .int (nI j2)])), (c2, .inl (G.2 2, 8, .inl g2))] [.ref h, .int 0] (S := Unit) (fun (r9 : Int32) (_ : Unit) => r9 = 1) (fun (_ : Unit) => [(h, .inr (5, [.ref se, .ref tx, .ref rs, .ref sp, .int cp, .int mt, .int mf, .int mo, .long msp, .ref md, .ref pf, .ref pt, .int pcs])), (rs, .inl (G.2 5, 3, .inr (.inr (.inr (.inr f))))), (r0, .inr (3, [.ref c0, .int (nI 0)])), (c0, .inl (G.2 2, 14, .inl g0)), (tx, .inr (3, [.ref tc, .int (nI j1)])), (tc, .inl (G.2 2, 8, .inl g1)), (r2, .inr (3, [.ref c2, .int (nI j2)])), (c2, .inl (G.2 2, 8, .inl g2))]) 0 0 := by
  refine ofB (y := yX5_clear) (G := G) (cc := cX5_clear) (maxL := 2) (ret := (some .boolean)) (Qc := fun A => va_Qi (fun (r9 : Int32) (_ : Unit) => r9 = 1) (oB G A (fun (_ : Unit) => [(h, .inr (5, [.ref se, .ref tx, .ref rs, .ref sp, .int cp, .int mt, .int mf, .int mo, .long msp, .ref md, .ref pf, .ref pt, .int pcs])), (rs, .inl (G.2 5, 3, .inr (.inr (.inr (.inr f))))), (r0, .inr (3, [.ref c0, .int (nI 0)])), (c0, .inl (G.2 2, 14, .inl g0)), (tx, .inr (3, [.ref tc, .int (nI j1)])), (tc, .inl (G.2 2, 8, .inl g1)), (r2, .inr (3, [.ref c2, .int (nI j2)])), (c2, .inl (G.2 2, 8, .inl g2))])) A) (by decide) rfl ?_
  intro p e s m below meth c A F hK hA hP hD
  have hx := F.1.1; have hb := F.1.2.1; have hml := F.1.2.2.1; have hts := F.1.2.2.2.2
  have hown : s.vm.findClass RX5 = some m.cls := F.1.2.2.2.1
  have hS : va_S A s.heap s.heap [] := va_S.rf
  have hl := lv_entry ([.ref h, .int 0]) (n := 2) (Nat.le_of_ble_eq_true rfl)
  rw [lg_entry_eq]
  generalize (lg_sl ([.ref h, .int 0]) ++ List.replicate (2 - (lg_sl ([.ref h, .int 0])).length) Slot.unset).toArray = ls at hl ⊢
  have hl : lv_has ls 2 [(0, .ref h), (1, .int 0)] := hl
  refine lv_iload_n hx hb dX5_clear_0 rfl (lv_at hl 1 rfl) ?_
  have hPc := hP.sub (ws' := []) [] rfl
  have hDc := hD.sub (ws' := []) [] (by decide) rfl
  have hqc : 0 + 0 ≤ 0 ∧ 0 + 0 ≤ 0 := ⟨by omega, by omega⟩
  refine kl_i (wr := [(h, .inr (5, [.ref se, .ref tx, .ref rs, .ref sp, .int cp, .int mt, .int mf, .int mo, .long msp, .ref md, .ref pf, .ref pt, .int pcs])), (rs, .inl (G.2 5, 3, .inr (.inr (.inr (.inr f))))), (r0, .inr (3, [.ref c0, .int (nI j0)])), (c0, .inl (G.2 2, 14, .inl g0)), (tx, .inr (3, [.ref tc, .int (nI j1)])), (tc, .inl (G.2 2, 8, .inl g1)), (r2, .inr (3, [.ref c2, .int (nI j2)])), (c2, .inl (G.2 2, 8, .inl g2))]) (va_runS (As := [.int 0]) (rest := []) F.1 (c_isRow l G 0 _) (va_cwS 1 hts (aw_S w_234 w_235 w_1 w_236) rfl rfl rfl (by decide +kernel) ⟨by decide, by decide⟩) ⟨cS_blind, cS_pre hPc hDc hK⟩ rfl rfl hl.1 rfl (lv_room (Nat.le_of_ble_eq_true rfl)) dX5_clear_1 hqc) hP hD hS hA [] [0, 1, 2, 3, 4, 5, 6, 7] rfl rfl (by decide) (by decide) (fun r u H locs hp hP hD hS => ?_)
  subst hp
  have hP : va_P G.1 vwCl [(h, .inr (5, [.ref se, .ref tx, .ref rs, .ref sp, .int cp, .int mt, .int mf, .int mo, .long msp, .ref md, .ref pf, .ref pt, .int pcs])), (rs, .inl (G.2 5, 3, .inr (.inr (.inr (.inr f))))), (r0, .inr (3, [.ref c0, .int (nI j0)])), (c0, .inl (G.2 2, 14, .inl g0)), (tx, .inr (3, [.ref tc, .int (nI j1)])), (tc, .inl (G.2 2, 8, .inl g1)), (r2, .inr (3, [.ref c2, .int (nI j2)])), (c2, .inl (G.2 2, 8, .inl g2))] H := hP
  have hD : va_D A [(h, .inr (5, [.ref se, .ref tx, .ref rs, .ref sp, .int cp, .int mt, .int mf, .int mo, .long msp, .ref md, .ref pf, .ref pt, .int pcs])), (rs, .inl (G.2 5, 3, .inr (.inr (.inr (.inr f))))), (r0, .inr (3, [.ref c0, .int (nI j0)])), (c0, .inl (G.2 2, 14, .inl g0)), (tx, .inr (3, [.ref tc, .int (nI j1)])), (tc, .inl (G.2 2, 8, .inl g1)), (r2, .inr (3, [.ref c2, .int (nI j2)])), (c2, .inl (G.2 2, 8, .inl g2))] := hD
  refine lv_if_ne (tgt := 9) hx hb dX5_clear_4 (by decide) (fun _ => ?_) (fun h => absurd h (by decide : ¬ isRowV 0 = 0))
  refine lv_aload_n hx hb dX5_clear_9 rfl (lv_at hl 0 rfl) ?_
  refine va_get (D := G.1) (ci := 5) (v := .ref rs) (C := RX5) (T := TX5) (N := 13) hx hb hts inX5 hown hK.1 hP 0 rfl rfl 2 (by decide) (hts _ w_192) (fun _ h9 => h9) rfl dX5_clear_10 ?_
  refine lv_iload_n hx hb dX5_clear_13 rfl (lv_at hl 1 rfl) ?_
  refine va_aldq (D := G.1) hx hb hK.1 hP 1 5 rfl rfl (vp_in_nI (n := 0) (by decide) (by decide)) dX5_clear_14 ?_
  refine tp_v (.ref r0) (show va_rf (f 0) = .ref r0 by rw [hf0]; rfl) ?_
  have hPc := hP.sub (ws' := [(r0, .inr (3, [.ref c0, .int (nI j0)])), (c0, .inl (G.2 2, 14, .inl g0))]) [2, 3] rfl
  have hDc := hD.sub (ws' := [(r0, .inr (3, [.ref c0, .int (nI j0)])), (c0, .inl (G.2 2, 14, .inl g0))]) [2, 3] (by decide) rfl
  have hqc : 0 + 0 ≤ 0 ∧ 0 + 0 ≤ 0 := ⟨by omega, by omega⟩
  refine kl_v (wr := [(h, .inr (5, [.ref se, .ref tx, .ref rs, .ref sp, .int cp, .int mt, .int mf, .int mo, .long msp, .ref md, .ref pf, .ref pt, .int pcs])), (rs, .inl (G.2 5, 3, .inr (.inr (.inr (.inr f))))), (tx, .inr (3, [.ref tc, .int (nI j1)])), (tc, .inl (G.2 2, 8, .inl g1)), (r2, .inr (3, [.ref c2, .int (nI j2)])), (c2, .inl (G.2 2, 8, .inl g2))]) (va_runV (As := []) (rest := []) F.1 (c_row_empty l G _ _ _ _ _ _) (cwV 0 hts (aw_V w_249 w_250 w_251 w_3 w_252) rfl rfl rfl (by decide +kernel) ⟨by decide, by decide⟩) ⟨cS_blind, va_recv (q := (RX3, TX3, 2)) (ci := 3) (q0 := 0) hK.1 hPc rfl rfl, cS_pre hPc hDc hK⟩ rfl rfl hl.1 rfl (lv_room (Nat.le_of_ble_eq_true rfl)) dX5_clear_15 hqc) hP hD hS hA [2, 3] [0, 1, 4, 5, 6, 7] rfl rfl (by decide) (by decide) (fun u H locs hp hP hD hS => ?_)
  have hP : va_P G.1 vwCl [(h, .inr (5, [.ref se, .ref tx, .ref rs, .ref sp, .int cp, .int mt, .int mf, .int mo, .long msp, .ref md, .ref pf, .ref pt, .int pcs])), (rs, .inl (G.2 5, 3, .inr (.inr (.inr (.inr f))))), (tx, .inr (3, [.ref tc, .int (nI j1)])), (tc, .inl (G.2 2, 8, .inl g1)), (r2, .inr (3, [.ref c2, .int (nI j2)])), (c2, .inl (G.2 2, 8, .inl g2)), (r0, .inr (3, [.ref c0, .int 0])), (c0, .inl (G.2 2, 14, .inl g0))] H := hP
  have hD : va_D A [(h, .inr (5, [.ref se, .ref tx, .ref rs, .ref sp, .int cp, .int mt, .int mf, .int mo, .long msp, .ref md, .ref pf, .ref pt, .int pcs])), (rs, .inl (G.2 5, 3, .inr (.inr (.inr (.inr f))))), (tx, .inr (3, [.ref tc, .int (nI j1)])), (tc, .inl (G.2 2, 8, .inl g1)), (r2, .inr (3, [.ref c2, .int (nI j2)])), (c2, .inl (G.2 2, 8, .inl g2)), (r0, .inr (3, [.ref c0, .int 0])), (c0, .inl (G.2 2, 14, .inl g0))] := hD
  refine lv_aload_n hx hb dX5_clear_18 rfl (lv_at hl 0 rfl) ?_
  refine lv_iload_n hx hb dX5_clear_19 rfl (lv_at hl 1 rfl) ?_
  have hPc := hP.sub (ws' := [(h, .inr (5, [.ref se, .ref tx, .ref rs, .ref sp, .int cp, .int mt, .int mf, .int mo, .long msp, .ref md, .ref pf, .ref pt, .int pcs]))]) [0] rfl
  have hDc := hD.sub (ws' := [(h, .inr (5, [.ref se, .ref tx, .ref rs, .ref sp, .int cp, .int mt, .int mf, .int mo, .long msp, .ref md, .ref pf, .ref pt, .int pcs]))]) [0] (by decide) rfl
  have hqc : 0 + 0 ≤ 0 ∧ 0 + 0 ≤ 0 := ⟨by omega, by omega⟩
  refine kl_v (wr := [(rs, .inl (G.2 5, 3, .inr (.inr (.inr (.inr f))))), (tx, .inr (3, [.ref tc, .int (nI j1)])), (tc, .inl (G.2 2, 8, .inl g1)), (r2, .inr (3, [.ref c2, .int (nI j2)])), (c2, .inl (G.2 2, 8, .inl g2)), (r0, .inr (3, [.ref c0, .int 0])), (c0, .inl (G.2 2, 14, .inl g0))]) (va_runV (As := [.int 0]) (rest := []) F.1 (c_forgetN l G _ _ _ _ _ _ _ _ _ _ _ _ _ _ 0 (by decide) _) (cwV 1 hts (aw_V w_241 w_243 ws_X5_forgetMatchIfText w_1 w_244) rfl rfl rfl (by decide +kernel) ⟨by decide, by decide⟩) ⟨cS_blind, va_recv (q := (RX5, TX5, 13)) (ci := 5) (q0 := 0) hK.1 hPc rfl rfl, cS_pre hPc hDc hK⟩ rfl rfl hl.1 rfl (lv_room (Nat.le_of_ble_eq_true rfl)) dX5_clear_20 hqc) hP hD hS hA [0] [1, 2, 3, 4, 5, 6, 7] rfl rfl (by decide) (by decide) (fun u H locs hp hP hD hS => ?_)
  have hP : va_P G.1 vwCl [(rs, .inl (G.2 5, 3, .inr (.inr (.inr (.inr f))))), (tx, .inr (3, [.ref tc, .int (nI j1)])), (tc, .inl (G.2 2, 8, .inl g1)), (r2, .inr (3, [.ref c2, .int (nI j2)])), (c2, .inl (G.2 2, 8, .inl g2)), (r0, .inr (3, [.ref c0, .int 0])), (c0, .inl (G.2 2, 14, .inl g0)), (h, .inr (5, [.ref se, .ref tx, .ref rs, .ref sp, .int cp, .int mt, .int mf, .int mo, .long msp, .ref md, .ref pf, .ref pt, .int pcs]))] H := hP
  have hD : va_D A [(rs, .inl (G.2 5, 3, .inr (.inr (.inr (.inr f))))), (tx, .inr (3, [.ref tc, .int (nI j1)])), (tc, .inl (G.2 2, 8, .inl g1)), (r2, .inr (3, [.ref c2, .int (nI j2)])), (c2, .inl (G.2 2, 8, .inl g2)), (r0, .inr (3, [.ref c0, .int 0])), (c0, .inl (G.2 2, 14, .inl g0)), (h, .inr (5, [.ref se, .ref tx, .ref rs, .ref sp, .int cp, .int mt, .int mf, .int mo, .long msp, .ref md, .ref pf, .ref pt, .int pcs]))] := hD
  refine lv_iconst (v := 1) hx hb dX5_clear_23 (by decide) ?_
  have hP := hP.sub (ws' := [(h, .inr (5, [.ref se, .ref tx, .ref rs, .ref sp, .int cp, .int mt, .int mf, .int mo, .long msp, .ref md, .ref pf, .ref pt, .int pcs])), (rs, .inl (G.2 5, 3, .inr (.inr (.inr (.inr f))))), (r0, .inr (3, [.ref c0, .int (nI 0)])), (c0, .inl (G.2 2, 14, .inl g0)), (tx, .inr (3, [.ref tc, .int (nI j1)])), (tc, .inl (G.2 2, 8, .inl g1)), (r2, .inr (3, [.ref c2, .int (nI j2)])), (c2, .inl (G.2 2, 8, .inl g2))]) [7, 0, 5, 6, 1, 2, 3, 4] rfl
  have hD := hD.sub (ws' := [(h, .inr (5, [.ref se, .ref tx, .ref rs, .ref sp, .int cp, .int mt, .int mf, .int mo, .long msp, .ref md, .ref pf, .ref pt, .int pcs])), (rs, .inl (G.2 5, 3, .inr (.inr (.inr (.inr f))))), (r0, .inr (3, [.ref c0, .int (nI 0)])), (c0, .inl (G.2 2, 14, .inl g0)), (tx, .inr (3, [.ref tc, .int (nI j1)])), (tc, .inl (G.2 2, 8, .inl g1)), (r2, .inr (3, [.ref c2, .int (nI j2)])), (c2, .inl (G.2 2, 8, .inl g2))]) [7, 0, 5, 6, 1, 2, 3, 4] (by decide) rfl
  exact en_i F hS 1 () (by rfl) rfl hP hD (by omega) (by omega) dX5_clear_24

theorem dX5_length_0 : decode cX5_length 0 = .ok (.iload_n 1, 1) := by decide +kernel
theorem dX5_length_1 : decode cX5_length 1 = .ok (.invokestatic 47, 3) := by decide +kernel
theorem dX5_length_4 : decode cX5_length 4 = .ok (.ifCond .eq 15, 3) := by decide +kernel
theorem dX5_length_7 : decode cX5_length 7 = .ok (.aload_n 0, 1) := by decide +kernel
theorem dX5_length_8 : decode cX5_length 8 = .ok (.getfield 26, 3) := by decide +kernel
theorem dX5_length_11 : decode cX5_length 11 = .ok (.iload_n 1, 1) := by decide +kernel
theorem dX5_length_12 : decode cX5_length 12 = .ok (.aaload, 1) := by decide +kernel
theorem dX5_length_13 : decode cX5_length 13 = .ok (.invokevirtual 90, 3) := by decide +kernel
theorem dX5_length_16 : decode cX5_length 16 = .ok (.goto 4, 3) := by decide +kernel
theorem dX5_length_20 : decode cX5_length 20 = .ok (.ireturn, 1) := by decide +kernel
set_option maxHeartbeats 4000000 in
set_option maxRecDepth 100000 in
theorem c_len0 (l : Launch) (G : PG) (h se tx rs sp md pf pt : Nat) (cp mt mf mo pcs : Int32) (msp : Int64) (r0 c0 r2 c2 tc : Nat) (f : Nat → Option Nat) (hf0 : f 0 = some r0) (hf1 : f 1 = some tx) (hf2 : f 2 = some r2) (j0 j1 j2 : Nat) (g0 g1 g2 : Nat → Int32) : Ci l yX5_length (Cond.code yX5_length cX5_length 2 (some .int) :: aW) { frames := 1, cells := 0, slots := 0, locals := 21 } G [(h, .inr (5, [.ref se, .ref tx, .ref rs, .ref sp, .int cp, .int mt, .int mf, .int mo, .long msp, .ref md, .ref pf, .ref pt, .int pcs])), (rs, .inl (G.2 5, 3, .inr (.inr (.inr (.inr f))))), (r0, .inr (3, [.ref c0, .int (nI j0)])), (c0, .inl (G.2 2, 14, .inl g0)), (tx, .inr (3, [.ref tc, .int (nI j1)])), (tc, .inl (G.2 2, 8, .inl g1)), (r2, .inr (3, [.ref c2, .int (nI j2)])), (c2, .inl (G.2 2, 8, .inl g2))] [.ref h, .int 0] (S := Unit) (fun (r9 : Int32) (_ : Unit) => r9 = nI j0) (fun (_ : Unit) => [(h, .inr (5, [.ref se, .ref tx, .ref rs, .ref sp, .int cp, .int mt, .int mf, .int mo, .long msp, .ref md, .ref pf, .ref pt, .int pcs])), (rs, .inl (G.2 5, 3, .inr (.inr (.inr (.inr f))))), (r0, .inr (3, [.ref c0, .int (nI j0)])), (c0, .inl (G.2 2, 14, .inl g0)), (tx, .inr (3, [.ref tc, .int (nI j1)])), (tc, .inl (G.2 2, 8, .inl g1)), (r2, .inr (3, [.ref c2, .int (nI j2)])), (c2, .inl (G.2 2, 8, .inl g2))]) 0 0 := by
  refine ofB (y := yX5_length) (G := G) (cc := cX5_length) (maxL := 2) (ret := (some .int)) (Qc := fun A => va_Qi (fun (r9 : Int32) (_ : Unit) => r9 = nI j0) (oB G A (fun (_ : Unit) => [(h, .inr (5, [.ref se, .ref tx, .ref rs, .ref sp, .int cp, .int mt, .int mf, .int mo, .long msp, .ref md, .ref pf, .ref pt, .int pcs])), (rs, .inl (G.2 5, 3, .inr (.inr (.inr (.inr f))))), (r0, .inr (3, [.ref c0, .int (nI j0)])), (c0, .inl (G.2 2, 14, .inl g0)), (tx, .inr (3, [.ref tc, .int (nI j1)])), (tc, .inl (G.2 2, 8, .inl g1)), (r2, .inr (3, [.ref c2, .int (nI j2)])), (c2, .inl (G.2 2, 8, .inl g2))])) A) (by decide) rfl ?_
  intro p e s m below meth c A F hK hA hP hD
  have hx := F.1.1; have hb := F.1.2.1; have hml := F.1.2.2.1; have hts := F.1.2.2.2.2
  have hown : s.vm.findClass RX5 = some m.cls := F.1.2.2.2.1
  have hS : va_S A s.heap s.heap [] := va_S.rf
  have hl := lv_entry ([.ref h, .int 0]) (n := 2) (Nat.le_of_ble_eq_true rfl)
  rw [lg_entry_eq]
  generalize (lg_sl ([.ref h, .int 0]) ++ List.replicate (2 - (lg_sl ([.ref h, .int 0])).length) Slot.unset).toArray = ls at hl ⊢
  have hl : lv_has ls 2 [(0, .ref h), (1, .int 0)] := hl
  refine lv_iload_n hx hb dX5_length_0 rfl (lv_at hl 1 rfl) ?_
  have hPc := hP.sub (ws' := []) [] rfl
  have hDc := hD.sub (ws' := []) [] (by decide) rfl
  have hqc : 0 + 0 ≤ 0 ∧ 0 + 0 ≤ 0 := ⟨by omega, by omega⟩
  refine kl_i (wr := [(h, .inr (5, [.ref se, .ref tx, .ref rs, .ref sp, .int cp, .int mt, .int mf, .int mo, .long msp, .ref md, .ref pf, .ref pt, .int pcs])), (rs, .inl (G.2 5, 3, .inr (.inr (.inr (.inr f))))), (r0, .inr (3, [.ref c0, .int (nI j0)])), (c0, .inl (G.2 2, 14, .inl g0)), (tx, .inr (3, [.ref tc, .int (nI j1)])), (tc, .inl (G.2 2, 8, .inl g1)), (r2, .inr (3, [.ref c2, .int (nI j2)])), (c2, .inl (G.2 2, 8, .inl g2))]) (va_runS (As := [.int 0]) (rest := []) F.1 (c_isRow l G 0 _) (va_cwS 1 hts (aw_S w_234 w_235 w_1 w_236) rfl rfl rfl (by decide +kernel) ⟨by decide, by decide⟩) ⟨cS_blind, cS_pre hPc hDc hK⟩ rfl rfl hl.1 rfl (lv_room (Nat.le_of_ble_eq_true rfl)) dX5_length_1 hqc) hP hD hS hA [] [0, 1, 2, 3, 4, 5, 6, 7] rfl rfl (by decide) (by decide) (fun r u H locs hp hP hD hS => ?_)
  subst hp
  have hP : va_P G.1 vwCl [(h, .inr (5, [.ref se, .ref tx, .ref rs, .ref sp, .int cp, .int mt, .int mf, .int mo, .long msp, .ref md, .ref pf, .ref pt, .int pcs])), (rs, .inl (G.2 5, 3, .inr (.inr (.inr (.inr f))))), (r0, .inr (3, [.ref c0, .int (nI j0)])), (c0, .inl (G.2 2, 14, .inl g0)), (tx, .inr (3, [.ref tc, .int (nI j1)])), (tc, .inl (G.2 2, 8, .inl g1)), (r2, .inr (3, [.ref c2, .int (nI j2)])), (c2, .inl (G.2 2, 8, .inl g2))] H := hP
  have hD : va_D A [(h, .inr (5, [.ref se, .ref tx, .ref rs, .ref sp, .int cp, .int mt, .int mf, .int mo, .long msp, .ref md, .ref pf, .ref pt, .int pcs])), (rs, .inl (G.2 5, 3, .inr (.inr (.inr (.inr f))))), (r0, .inr (3, [.ref c0, .int (nI j0)])), (c0, .inl (G.2 2, 14, .inl g0)), (tx, .inr (3, [.ref tc, .int (nI j1)])), (tc, .inl (G.2 2, 8, .inl g1)), (r2, .inr (3, [.ref c2, .int (nI j2)])), (c2, .inl (G.2 2, 8, .inl g2))] := hD
  refine lv_if_eq (tgt := 19) hx hb dX5_length_4 (by decide) (fun h => absurd h (by decide : ¬ isRowV 0 = 0)) (fun _ => ?_)
  refine lv_aload_n hx hb dX5_length_7 rfl (lv_at hl 0 rfl) ?_
  refine va_get (D := G.1) (ci := 5) (v := .ref rs) (C := RX5) (T := TX5) (N := 13) hx hb hts inX5 hown hK.1 hP 0 rfl rfl 2 (by decide) (hts _ w_192) (fun _ h9 => h9) rfl dX5_length_8 ?_
  refine lv_iload_n hx hb dX5_length_11 rfl (lv_at hl 1 rfl) ?_
  refine va_aldq (D := G.1) hx hb hK.1 hP 1 5 rfl rfl (vp_in_nI (n := 0) (by decide) (by decide)) dX5_length_12 ?_
  refine tp_v (.ref r0) (show va_rf (f 0) = .ref r0 by rw [hf0]; rfl) ?_
  have hPc := hP.sub (ws' := [(r0, .inr (3, [.ref c0, .int (nI j0)])), (c0, .inl (G.2 2, 14, .inl g0))]) [2, 3] rfl
  have hDc := hD.sub (ws' := [(r0, .inr (3, [.ref c0, .int (nI j0)])), (c0, .inl (G.2 2, 14, .inl g0))]) [2, 3] (by decide) rfl
  have hqc : 0 + 0 ≤ 0 ∧ 0 + 0 ≤ 0 := ⟨by omega, by omega⟩
  refine kl_i (wr := [(h, .inr (5, [.ref se, .ref tx, .ref rs, .ref sp, .int cp, .int mt, .int mf, .int mo, .long msp, .ref md, .ref pf, .ref pt, .int pcs])), (rs, .inl (G.2 5, 3, .inr (.inr (.inr (.inr f))))), (tx, .inr (3, [.ref tc, .int (nI j1)])), (tc, .inl (G.2 2, 8, .inl g1)), (r2, .inr (3, [.ref c2, .int (nI j2)])), (c2, .inl (G.2 2, 8, .inl g2))]) (va_runV (As := []) (rest := []) F.1 (c_row_size l G _ _ _ _ _ _) (cwV 0 hts (aw_V w_257 w_258 w_259 w_3 w_260) rfl rfl rfl (by decide +kernel) ⟨by decide, by decide⟩) ⟨cS_blind, va_recv (q := (RX3, TX3, 2)) (ci := 3) (q0 := 0) hK.1 hPc rfl rfl, cS_pre hPc hDc hK⟩ rfl rfl hl.1 rfl (lv_room (Nat.le_of_ble_eq_true rfl)) dX5_length_13 hqc) hP hD hS hA [2, 3] [0, 1, 4, 5, 6, 7] rfl rfl (by decide) (by decide) (fun r u H locs hp hP hD hS => ?_)
  subst hp
  have hP : va_P G.1 vwCl [(h, .inr (5, [.ref se, .ref tx, .ref rs, .ref sp, .int cp, .int mt, .int mf, .int mo, .long msp, .ref md, .ref pf, .ref pt, .int pcs])), (rs, .inl (G.2 5, 3, .inr (.inr (.inr (.inr f))))), (tx, .inr (3, [.ref tc, .int (nI j1)])), (tc, .inl (G.2 2, 8, .inl g1)), (r2, .inr (3, [.ref c2, .int (nI j2)])), (c2, .inl (G.2 2, 8, .inl g2)), (r0, .inr (3, [.ref c0, .int (nI j0)])), (c0, .inl (G.2 2, 14, .inl g0))] H := hP
  have hD : va_D A [(h, .inr (5, [.ref se, .ref tx, .ref rs, .ref sp, .int cp, .int mt, .int mf, .int mo, .long msp, .ref md, .ref pf, .ref pt, .int pcs])), (rs, .inl (G.2 5, 3, .inr (.inr (.inr (.inr f))))), (tx, .inr (3, [.ref tc, .int (nI j1)])), (tc, .inl (G.2 2, 8, .inl g1)), (r2, .inr (3, [.ref c2, .int (nI j2)])), (c2, .inl (G.2 2, 8, .inl g2)), (r0, .inr (3, [.ref c0, .int (nI j0)])), (c0, .inl (G.2 2, 14, .inl g0))] := hD
  refine lv_goto (tgt := 20) hx hb dX5_length_16 (by decide) ?_
  have hP := hP.sub (ws' := [(h, .inr (5, [.ref se, .ref tx, .ref rs, .ref sp, .int cp, .int mt, .int mf, .int mo, .long msp, .ref md, .ref pf, .ref pt, .int pcs])), (rs, .inl (G.2 5, 3, .inr (.inr (.inr (.inr f))))), (r0, .inr (3, [.ref c0, .int (nI j0)])), (c0, .inl (G.2 2, 14, .inl g0)), (tx, .inr (3, [.ref tc, .int (nI j1)])), (tc, .inl (G.2 2, 8, .inl g1)), (r2, .inr (3, [.ref c2, .int (nI j2)])), (c2, .inl (G.2 2, 8, .inl g2))]) [0, 1, 6, 7, 2, 3, 4, 5] rfl
  have hD := hD.sub (ws' := [(h, .inr (5, [.ref se, .ref tx, .ref rs, .ref sp, .int cp, .int mt, .int mf, .int mo, .long msp, .ref md, .ref pf, .ref pt, .int pcs])), (rs, .inl (G.2 5, 3, .inr (.inr (.inr (.inr f))))), (r0, .inr (3, [.ref c0, .int (nI j0)])), (c0, .inl (G.2 2, 14, .inl g0)), (tx, .inr (3, [.ref tc, .int (nI j1)])), (tc, .inl (G.2 2, 8, .inl g1)), (r2, .inr (3, [.ref c2, .int (nI j2)])), (c2, .inl (G.2 2, 8, .inl g2))]) [0, 1, 6, 7, 2, 3, 4, 5] (by decide) rfl
  exact en_i F hS (nI j0) () (by rfl) rfl hP hD (by omega) (by omega) dX5_length_20

set_option maxHeartbeats 4000000 in
set_option maxRecDepth 100000 in
theorem c_type1 (l : Launch) (G : PG) (h se tx rs sp md pf pt : Nat) (cp mt mf mo pcs : Int32) (msp : Int64) (r0 c0 r2 c2 tc : Nat) (f : Nat → Option Nat) (hf0 : f 0 = some r0) (hf1 : f 1 = some tx) (hf2 : f 2 = some r2) (j0 j1 j2 : Nat) (g0 g1 g2 : Nat → Int32) (ch : Int32) (h32 : ¬ ch < 32) (h126 : ¬ (126 : Int32) < ch) (hj : j1 < 8) : Ci l yX5_type (Cond.code yX5_type cX5_type 3 (some .boolean) :: aW) { frames := 1, cells := 0, slots := 0, locals := 21 } G [(h, .inr (5, [.ref se, .ref tx, .ref rs, .ref sp, .int cp, .int mt, .int mf, .int mo, .long msp, .ref md, .ref pf, .ref pt, .int pcs])), (rs, .inl (G.2 5, 3, .inr (.inr (.inr (.inr f))))), (r0, .inr (3, [.ref c0, .int (nI j0)])), (c0, .inl (G.2 2, 14, .inl g0)), (tx, .inr (3, [.ref tc, .int (nI j1)])), (tc, .inl (G.2 2, 8, .inl g1)), (r2, .inr (3, [.ref c2, .int (nI j2)])), (c2, .inl (G.2 2, 8, .inl g2))] [.ref h, .int 1, .int ch] (S := Unit) (fun (r9 : Int32) (_ : Unit) => r9 = 1) (fun (_ : Unit) => [(h, .inr (5, [.ref se, .ref tx, .ref rs, .ref sp, .int cp, .int 0, .int mf, .int mo, .long msp, .ref md, .ref pf, .ref pt, .int pcs])), (rs, .inl (G.2 5, 3, .inr (.inr (.inr (.inr f))))), (r0, .inr (3, [.ref c0, .int (nI j0)])), (c0, .inl (G.2 2, 14, .inl g0)), (tx, .inr (3, [.ref tc, .int (nI (j1 + 1))])), (tc, .inl (G.2 2, 8, .inl (upd g1 j1 (vp_nar .char ch)))), (r2, .inr (3, [.ref c2, .int (nI j2)])), (c2, .inl (G.2 2, 8, .inl g2))]) 0 0 := by
  refine ofB (y := yX5_type) (G := G) (cc := cX5_type) (maxL := 3) (ret := (some .boolean)) (Qc := fun A => va_Qi (fun (r9 : Int32) (_ : Unit) => r9 = 1) (oB G A (fun (_ : Unit) => [(h, .inr (5, [.ref se, .ref tx, .ref rs, .ref sp, .int cp, .int 0, .int mf, .int mo, .long msp, .ref md, .ref pf, .ref pt, .int pcs])), (rs, .inl (G.2 5, 3, .inr (.inr (.inr (.inr f))))), (r0, .inr (3, [.ref c0, .int (nI j0)])), (c0, .inl (G.2 2, 14, .inl g0)), (tx, .inr (3, [.ref tc, .int (nI (j1 + 1))])), (tc, .inl (G.2 2, 8, .inl (upd g1 j1 (vp_nar .char ch)))), (r2, .inr (3, [.ref c2, .int (nI j2)])), (c2, .inl (G.2 2, 8, .inl g2))])) A) (by decide) rfl ?_
  intro p e s m below meth c A F hK hA hP hD
  have hx := F.1.1; have hb := F.1.2.1; have hml := F.1.2.2.1; have hts := F.1.2.2.2.2
  have hown : s.vm.findClass RX5 = some m.cls := F.1.2.2.2.1
  have hS : va_S A s.heap s.heap [] := va_S.rf
  have hl := lv_entry ([.ref h, .int 1, .int ch]) (n := 3) (Nat.le_of_ble_eq_true rfl)
  rw [lg_entry_eq]
  generalize (lg_sl ([.ref h, .int 1, .int ch]) ++ List.replicate (3 - (lg_sl ([.ref h, .int 1, .int ch])).length) Slot.unset).toArray = ls at hl ⊢
  have hl : lv_has ls 3 [(0, .ref h), (1, .int 1), (2, .int ch)] := hl
  refine lv_iload_n hx hb dX5_type_0 rfl (lv_at hl 1 rfl) ?_
  have hPc := hP.sub (ws' := []) [] rfl
  have hDc := hD.sub (ws' := []) [] (by decide) rfl
  have hqc : 0 + 0 ≤ 0 ∧ 0 + 0 ≤ 0 := ⟨by omega, by omega⟩
  refine kl_i (wr := [(h, .inr (5, [.ref se, .ref tx, .ref rs, .ref sp, .int cp, .int mt, .int mf, .int mo, .long msp, .ref md, .ref pf, .ref pt, .int pcs])), (rs, .inl (G.2 5, 3, .inr (.inr (.inr (.inr f))))), (r0, .inr (3, [.ref c0, .int (nI j0)])), (c0, .inl (G.2 2, 14, .inl g0)), (tx, .inr (3, [.ref tc, .int (nI j1)])), (tc, .inl (G.2 2, 8, .inl g1)), (r2, .inr (3, [.ref c2, .int (nI j2)])), (c2, .inl (G.2 2, 8, .inl g2))]) (va_runS (As := [.int 1]) (rest := []) F.1 (c_isRow l G 1 _) (va_cwS 1 hts (aw_S w_234 w_235 w_1 w_236) rfl rfl rfl (by decide +kernel) ⟨by decide, by decide⟩) ⟨cS_blind, cS_pre hPc hDc hK⟩ rfl rfl hl.1 rfl (lv_room (Nat.le_of_ble_eq_true rfl)) dX5_type_1 hqc) hP hD hS hA [] [0, 1, 2, 3, 4, 5, 6, 7] rfl rfl (by decide) (by decide) (fun r u H locs hp hP hD hS => ?_)
  subst hp
  have hP : va_P G.1 vwCl [(h, .inr (5, [.ref se, .ref tx, .ref rs, .ref sp, .int cp, .int mt, .int mf, .int mo, .long msp, .ref md, .ref pf, .ref pt, .int pcs])), (rs, .inl (G.2 5, 3, .inr (.inr (.inr (.inr f))))), (r0, .inr (3, [.ref c0, .int (nI j0)])), (c0, .inl (G.2 2, 14, .inl g0)), (tx, .inr (3, [.ref tc, .int (nI j1)])), (tc, .inl (G.2 2, 8, .inl g1)), (r2, .inr (3, [.ref c2, .int (nI j2)])), (c2, .inl (G.2 2, 8, .inl g2))] H := hP
  have hD : va_D A [(h, .inr (5, [.ref se, .ref tx, .ref rs, .ref sp, .int cp, .int mt, .int mf, .int mo, .long msp, .ref md, .ref pf, .ref pt, .int pcs])), (rs, .inl (G.2 5, 3, .inr (.inr (.inr (.inr f))))), (r0, .inr (3, [.ref c0, .int (nI j0)])), (c0, .inl (G.2 2, 14, .inl g0)), (tx, .inr (3, [.ref tc, .int (nI j1)])), (tc, .inl (G.2 2, 8, .inl g1)), (r2, .inr (3, [.ref c2, .int (nI j2)])), (c2, .inl (G.2 2, 8, .inl g2))] := hD
  refine lv_if_eq (tgt := 32) hx hb dX5_type_4 (by decide) (fun h => absurd h (by decide : ¬ isRowV 1 = 0)) (fun _ => ?_)
  refine lv_iload_n hx hb dX5_type_7 rfl (lv_at hl 2 rfl) ?_
  refine lv_bipush (v := 32) hx hb dX5_type_8 (by decide) ?_
  refine lv_icmp_lt (tgt := 32) hx hb dX5_type_10 (by decide) (fun h => absurd h h32) (fun _ => ?_)
  refine lv_iload_n hx hb dX5_type_13 rfl (lv_at hl 2 rfl) ?_
  refine lv_bipush (v := 126) hx hb dX5_type_14 (by decide) ?_
  refine lv_icmp_gt (tgt := 32) hx hb dX5_type_16 (by decide) (fun h => absurd h h126) (fun _ => ?_)
  refine lv_aload_n hx hb dX5_type_19 rfl (lv_at hl 0 rfl) ?_
  refine va_get (D := G.1) (ci := 5) (v := .ref rs) (C := RX5) (T := TX5) (N := 13) hx hb hts inX5 hown hK.1 hP 0 rfl rfl 2 (by decide) (hts _ w_192) (fun _ h9 => h9) rfl dX5_type_20 ?_
  refine lv_iload_n hx hb dX5_type_23 rfl (lv_at hl 1 rfl) ?_
  refine va_aldq (D := G.1) hx hb hK.1 hP 1 5 rfl rfl (vp_in_nI (n := 1) (by decide) (by decide)) dX5_type_24 ?_
  refine tp_v (.ref tx) (show va_rf (f 1) = .ref tx by rw [hf1]; rfl) ?_
  refine lv_iload_n hx hb dX5_type_25 rfl (lv_at hl 2 rfl) ?_
  have hPc := hP.sub (ws' := [(tx, .inr (3, [.ref tc, .int (nI j1)])), (tc, .inl (G.2 2, 8, .inl g1))]) [4, 5] rfl
  have hDc := hD.sub (ws' := [(tx, .inr (3, [.ref tc, .int (nI j1)])), (tc, .inl (G.2 2, 8, .inl g1))]) [4, 5] (by decide) rfl
  have hqc : 0 + 0 ≤ 0 ∧ 0 + 0 ≤ 0 := ⟨by omega, by omega⟩
  refine kl_i (wr := [(h, .inr (5, [.ref se, .ref tx, .ref rs, .ref sp, .int cp, .int mt, .int mf, .int mo, .long msp, .ref md, .ref pf, .ref pt, .int pcs])), (rs, .inl (G.2 5, 3, .inr (.inr (.inr (.inr f))))), (r0, .inr (3, [.ref c0, .int (nI j0)])), (c0, .inl (G.2 2, 14, .inl g0)), (r2, .inr (3, [.ref c2, .int (nI j2)])), (c2, .inl (G.2 2, 8, .inl g2))]) (va_runV (As := [.int ch]) (rest := []) F.1 (c_row_add l G _ _ 8 j1 g1 ch hj (by decide) _) (cwV 1 hts (aw_V w_237 w_238 w_239 w_3 w_240) rfl rfl rfl (by decide +kernel) ⟨by decide, by decide⟩) ⟨cS_blind, va_recv (q := (RX3, TX3, 2)) (ci := 3) (q0 := 0) hK.1 hPc rfl rfl, cS_pre hPc hDc hK⟩ rfl rfl hl.1 rfl (lv_room (Nat.le_of_ble_eq_true rfl)) dX5_type_26 hqc) hP hD hS hA [4, 5] [0, 1, 2, 3, 6, 7] rfl rfl (by decide) (by decide) (fun r u H locs hp hP hD hS => ?_)
  subst hp
  have hP : va_P G.1 vwCl [(h, .inr (5, [.ref se, .ref tx, .ref rs, .ref sp, .int cp, .int mt, .int mf, .int mo, .long msp, .ref md, .ref pf, .ref pt, .int pcs])), (rs, .inl (G.2 5, 3, .inr (.inr (.inr (.inr f))))), (r0, .inr (3, [.ref c0, .int (nI j0)])), (c0, .inl (G.2 2, 14, .inl g0)), (r2, .inr (3, [.ref c2, .int (nI j2)])), (c2, .inl (G.2 2, 8, .inl g2)), (tx, .inr (3, [.ref tc, .int (nI (j1 + 1))])), (tc, .inl (G.2 2, 8, .inl (upd g1 j1 (vp_nar .char ch))))] H := hP
  have hD : va_D A [(h, .inr (5, [.ref se, .ref tx, .ref rs, .ref sp, .int cp, .int mt, .int mf, .int mo, .long msp, .ref md, .ref pf, .ref pt, .int pcs])), (rs, .inl (G.2 5, 3, .inr (.inr (.inr (.inr f))))), (r0, .inr (3, [.ref c0, .int (nI j0)])), (c0, .inl (G.2 2, 14, .inl g0)), (r2, .inr (3, [.ref c2, .int (nI j2)])), (c2, .inl (G.2 2, 8, .inl g2)), (tx, .inr (3, [.ref tc, .int (nI (j1 + 1))])), (tc, .inl (G.2 2, 8, .inl (upd g1 j1 (vp_nar .char ch))))] := hD
  refine lv_if_ne (tgt := 34) hx hb dX5_type_29 (by decide) (fun _ => ?_) (fun h => absurd h (by decide : ¬ (1 : Int32) = 0))
  refine lv_aload_n hx hb dX5_type_34 rfl (lv_at hl 0 rfl) ?_
  refine lv_iload_n hx hb dX5_type_35 rfl (lv_at hl 1 rfl) ?_
  have hPc := hP.sub (ws' := [(h, .inr (5, [.ref se, .ref tx, .ref rs, .ref sp, .int cp, .int mt, .int mf, .int mo, .long msp, .ref md, .ref pf, .ref pt, .int pcs]))]) [0] rfl
  have hDc := hD.sub (ws' := [(h, .inr (5, [.ref se, .ref tx, .ref rs, .ref sp, .int cp, .int mt, .int mf, .int mo, .long msp, .ref md, .ref pf, .ref pt, .int pcs]))]) [0] (by decide) rfl
  have hqc : 0 + 0 ≤ 0 ∧ 0 + 0 ≤ 0 := ⟨by omega, by omega⟩
  refine kl_v (wr := [(rs, .inl (G.2 5, 3, .inr (.inr (.inr (.inr f))))), (r0, .inr (3, [.ref c0, .int (nI j0)])), (c0, .inl (G.2 2, 14, .inl g0)), (r2, .inr (3, [.ref c2, .int (nI j2)])), (c2, .inl (G.2 2, 8, .inl g2)), (tx, .inr (3, [.ref tc, .int (nI (j1 + 1))])), (tc, .inl (G.2 2, 8, .inl (upd g1 j1 (vp_nar .char ch))))]) (va_runV (As := [.int 1]) (rest := []) F.1 (c_forget1 l G _ _ _ _ _ _ _ _ _ _ _ _ _ _ _) (cwV 1 hts (aw_V w_241 w_243 ws_X5_forgetMatchIfText w_1 w_244) rfl rfl rfl (by decide +kernel) ⟨by decide, by decide⟩) ⟨cS_blind, va_recv (q := (RX5, TX5, 13)) (ci := 5) (q0 := 0) hK.1 hPc rfl rfl, cS_pre hPc hDc hK⟩ rfl rfl hl.1 rfl (lv_room (Nat.le_of_ble_eq_true rfl)) dX5_type_36 hqc) hP hD hS hA [0] [1, 2, 3, 4, 5, 6, 7] rfl rfl (by decide) (by decide) (fun u H locs hp hP hD hS => ?_)
  have hP : va_P G.1 vwCl [(rs, .inl (G.2 5, 3, .inr (.inr (.inr (.inr f))))), (r0, .inr (3, [.ref c0, .int (nI j0)])), (c0, .inl (G.2 2, 14, .inl g0)), (r2, .inr (3, [.ref c2, .int (nI j2)])), (c2, .inl (G.2 2, 8, .inl g2)), (tx, .inr (3, [.ref tc, .int (nI (j1 + 1))])), (tc, .inl (G.2 2, 8, .inl (upd g1 j1 (vp_nar .char ch)))), (h, .inr (5, [.ref se, .ref tx, .ref rs, .ref sp, .int cp, .int 0, .int mf, .int mo, .long msp, .ref md, .ref pf, .ref pt, .int pcs]))] H := hP
  have hD : va_D A [(rs, .inl (G.2 5, 3, .inr (.inr (.inr (.inr f))))), (r0, .inr (3, [.ref c0, .int (nI j0)])), (c0, .inl (G.2 2, 14, .inl g0)), (r2, .inr (3, [.ref c2, .int (nI j2)])), (c2, .inl (G.2 2, 8, .inl g2)), (tx, .inr (3, [.ref tc, .int (nI (j1 + 1))])), (tc, .inl (G.2 2, 8, .inl (upd g1 j1 (vp_nar .char ch)))), (h, .inr (5, [.ref se, .ref tx, .ref rs, .ref sp, .int cp, .int 0, .int mf, .int mo, .long msp, .ref md, .ref pf, .ref pt, .int pcs]))] := hD
  refine lv_iconst (v := 1) hx hb dX5_type_39 (by decide) ?_
  have hP := hP.sub (ws' := [(h, .inr (5, [.ref se, .ref tx, .ref rs, .ref sp, .int cp, .int 0, .int mf, .int mo, .long msp, .ref md, .ref pf, .ref pt, .int pcs])), (rs, .inl (G.2 5, 3, .inr (.inr (.inr (.inr f))))), (r0, .inr (3, [.ref c0, .int (nI j0)])), (c0, .inl (G.2 2, 14, .inl g0)), (tx, .inr (3, [.ref tc, .int (nI (j1 + 1))])), (tc, .inl (G.2 2, 8, .inl (upd g1 j1 (vp_nar .char ch)))), (r2, .inr (3, [.ref c2, .int (nI j2)])), (c2, .inl (G.2 2, 8, .inl g2))]) [7, 0, 1, 2, 5, 6, 3, 4] rfl
  have hD := hD.sub (ws' := [(h, .inr (5, [.ref se, .ref tx, .ref rs, .ref sp, .int cp, .int 0, .int mf, .int mo, .long msp, .ref md, .ref pf, .ref pt, .int pcs])), (rs, .inl (G.2 5, 3, .inr (.inr (.inr (.inr f))))), (r0, .inr (3, [.ref c0, .int (nI j0)])), (c0, .inl (G.2 2, 14, .inl g0)), (tx, .inr (3, [.ref tc, .int (nI (j1 + 1))])), (tc, .inl (G.2 2, 8, .inl (upd g1 j1 (vp_nar .char ch)))), (r2, .inr (3, [.ref c2, .int (nI j2)])), (c2, .inl (G.2 2, 8, .inl g2))]) [7, 0, 1, 2, 5, 6, 3, 4] (by decide) rfl
  exact en_i F hS 1 () (by rfl) rfl hP hD (by omega) (by omega) dX5_type_40

set_option maxHeartbeats 4000000 in
set_option maxRecDepth 100000 in
theorem c_typeF1 (l : Launch) (G : PG) (h se tx rs sp md pf pt : Nat) (cp mt mf mo pcs : Int32) (msp : Int64) (r0 c0 r2 c2 tc : Nat) (f : Nat → Option Nat) (hf0 : f 0 = some r0) (hf1 : f 1 = some tx) (hf2 : f 2 = some r2) (j0 j1 j2 : Nat) (g0 g1 g2 : Nat → Int32) (ch : Int32) (h32 : ¬ ch < 32) (h126 : ¬ (126 : Int32) < ch) : Ci l yX5_type (Cond.code yX5_type cX5_type 3 (some .boolean) :: aW) { frames := 1, cells := 0, slots := 0, locals := 21 } G [(h, .inr (5, [.ref se, .ref tx, .ref rs, .ref sp, .int cp, .int mt, .int mf, .int mo, .long msp, .ref md, .ref pf, .ref pt, .int pcs])), (rs, .inl (G.2 5, 3, .inr (.inr (.inr (.inr f))))), (r0, .inr (3, [.ref c0, .int (nI j0)])), (c0, .inl (G.2 2, 14, .inl g0)), (tx, .inr (3, [.ref tc, .int (nI 8)])), (tc, .inl (G.2 2, 8, .inl g1)), (r2, .inr (3, [.ref c2, .int (nI j2)])), (c2, .inl (G.2 2, 8, .inl g2))] [.ref h, .int 1, .int ch] (S := Unit) (fun (r9 : Int32) (_ : Unit) => r9 = 0) (fun (_ : Unit) => [(h, .inr (5, [.ref se, .ref tx, .ref rs, .ref sp, .int cp, .int mt, .int mf, .int mo, .long msp, .ref md, .ref pf, .ref pt, .int pcs])), (rs, .inl (G.2 5, 3, .inr (.inr (.inr (.inr f))))), (r0, .inr (3, [.ref c0, .int (nI j0)])), (c0, .inl (G.2 2, 14, .inl g0)), (tx, .inr (3, [.ref tc, .int (nI 8)])), (tc, .inl (G.2 2, 8, .inl g1)), (r2, .inr (3, [.ref c2, .int (nI j2)])), (c2, .inl (G.2 2, 8, .inl g2))]) 0 0 := by
  refine ofB (y := yX5_type) (G := G) (cc := cX5_type) (maxL := 3) (ret := (some .boolean)) (Qc := fun A => va_Qi (fun (r9 : Int32) (_ : Unit) => r9 = 0) (oB G A (fun (_ : Unit) => [(h, .inr (5, [.ref se, .ref tx, .ref rs, .ref sp, .int cp, .int mt, .int mf, .int mo, .long msp, .ref md, .ref pf, .ref pt, .int pcs])), (rs, .inl (G.2 5, 3, .inr (.inr (.inr (.inr f))))), (r0, .inr (3, [.ref c0, .int (nI j0)])), (c0, .inl (G.2 2, 14, .inl g0)), (tx, .inr (3, [.ref tc, .int (nI 8)])), (tc, .inl (G.2 2, 8, .inl g1)), (r2, .inr (3, [.ref c2, .int (nI j2)])), (c2, .inl (G.2 2, 8, .inl g2))])) A) (by decide) rfl ?_
  intro p e s m below meth c A F hK hA hP hD
  have hx := F.1.1; have hb := F.1.2.1; have hml := F.1.2.2.1; have hts := F.1.2.2.2.2
  have hown : s.vm.findClass RX5 = some m.cls := F.1.2.2.2.1
  have hS : va_S A s.heap s.heap [] := va_S.rf
  have hl := lv_entry ([.ref h, .int 1, .int ch]) (n := 3) (Nat.le_of_ble_eq_true rfl)
  rw [lg_entry_eq]
  generalize (lg_sl ([.ref h, .int 1, .int ch]) ++ List.replicate (3 - (lg_sl ([.ref h, .int 1, .int ch])).length) Slot.unset).toArray = ls at hl ⊢
  have hl : lv_has ls 3 [(0, .ref h), (1, .int 1), (2, .int ch)] := hl
  refine lv_iload_n hx hb dX5_type_0 rfl (lv_at hl 1 rfl) ?_
  have hPc := hP.sub (ws' := []) [] rfl
  have hDc := hD.sub (ws' := []) [] (by decide) rfl
  have hqc : 0 + 0 ≤ 0 ∧ 0 + 0 ≤ 0 := ⟨by omega, by omega⟩
  refine kl_i (wr := [(h, .inr (5, [.ref se, .ref tx, .ref rs, .ref sp, .int cp, .int mt, .int mf, .int mo, .long msp, .ref md, .ref pf, .ref pt, .int pcs])), (rs, .inl (G.2 5, 3, .inr (.inr (.inr (.inr f))))), (r0, .inr (3, [.ref c0, .int (nI j0)])), (c0, .inl (G.2 2, 14, .inl g0)), (tx, .inr (3, [.ref tc, .int (nI 8)])), (tc, .inl (G.2 2, 8, .inl g1)), (r2, .inr (3, [.ref c2, .int (nI j2)])), (c2, .inl (G.2 2, 8, .inl g2))]) (va_runS (As := [.int 1]) (rest := []) F.1 (c_isRow l G 1 _) (va_cwS 1 hts (aw_S w_234 w_235 w_1 w_236) rfl rfl rfl (by decide +kernel) ⟨by decide, by decide⟩) ⟨cS_blind, cS_pre hPc hDc hK⟩ rfl rfl hl.1 rfl (lv_room (Nat.le_of_ble_eq_true rfl)) dX5_type_1 hqc) hP hD hS hA [] [0, 1, 2, 3, 4, 5, 6, 7] rfl rfl (by decide) (by decide) (fun r u H locs hp hP hD hS => ?_)
  subst hp
  have hP : va_P G.1 vwCl [(h, .inr (5, [.ref se, .ref tx, .ref rs, .ref sp, .int cp, .int mt, .int mf, .int mo, .long msp, .ref md, .ref pf, .ref pt, .int pcs])), (rs, .inl (G.2 5, 3, .inr (.inr (.inr (.inr f))))), (r0, .inr (3, [.ref c0, .int (nI j0)])), (c0, .inl (G.2 2, 14, .inl g0)), (tx, .inr (3, [.ref tc, .int (nI 8)])), (tc, .inl (G.2 2, 8, .inl g1)), (r2, .inr (3, [.ref c2, .int (nI j2)])), (c2, .inl (G.2 2, 8, .inl g2))] H := hP
  have hD : va_D A [(h, .inr (5, [.ref se, .ref tx, .ref rs, .ref sp, .int cp, .int mt, .int mf, .int mo, .long msp, .ref md, .ref pf, .ref pt, .int pcs])), (rs, .inl (G.2 5, 3, .inr (.inr (.inr (.inr f))))), (r0, .inr (3, [.ref c0, .int (nI j0)])), (c0, .inl (G.2 2, 14, .inl g0)), (tx, .inr (3, [.ref tc, .int (nI 8)])), (tc, .inl (G.2 2, 8, .inl g1)), (r2, .inr (3, [.ref c2, .int (nI j2)])), (c2, .inl (G.2 2, 8, .inl g2))] := hD
  refine lv_if_eq (tgt := 32) hx hb dX5_type_4 (by decide) (fun h => absurd h (by decide : ¬ isRowV 1 = 0)) (fun _ => ?_)
  refine lv_iload_n hx hb dX5_type_7 rfl (lv_at hl 2 rfl) ?_
  refine lv_bipush (v := 32) hx hb dX5_type_8 (by decide) ?_
  refine lv_icmp_lt (tgt := 32) hx hb dX5_type_10 (by decide) (fun h => absurd h h32) (fun _ => ?_)
  refine lv_iload_n hx hb dX5_type_13 rfl (lv_at hl 2 rfl) ?_
  refine lv_bipush (v := 126) hx hb dX5_type_14 (by decide) ?_
  refine lv_icmp_gt (tgt := 32) hx hb dX5_type_16 (by decide) (fun h => absurd h h126) (fun _ => ?_)
  refine lv_aload_n hx hb dX5_type_19 rfl (lv_at hl 0 rfl) ?_
  refine va_get (D := G.1) (ci := 5) (v := .ref rs) (C := RX5) (T := TX5) (N := 13) hx hb hts inX5 hown hK.1 hP 0 rfl rfl 2 (by decide) (hts _ w_192) (fun _ h9 => h9) rfl dX5_type_20 ?_
  refine lv_iload_n hx hb dX5_type_23 rfl (lv_at hl 1 rfl) ?_
  refine va_aldq (D := G.1) hx hb hK.1 hP 1 5 rfl rfl (vp_in_nI (n := 1) (by decide) (by decide)) dX5_type_24 ?_
  refine tp_v (.ref tx) (show va_rf (f 1) = .ref tx by rw [hf1]; rfl) ?_
  refine lv_iload_n hx hb dX5_type_25 rfl (lv_at hl 2 rfl) ?_
  have hPc := hP.sub (ws' := [(tx, .inr (3, [.ref tc, .int (nI 8)])), (tc, .inl (G.2 2, 8, .inl g1))]) [4, 5] rfl
  have hDc := hD.sub (ws' := [(tx, .inr (3, [.ref tc, .int (nI 8)])), (tc, .inl (G.2 2, 8, .inl g1))]) [4, 5] (by decide) rfl
  have hqc : 0 + 0 ≤ 0 ∧ 0 + 0 ≤ 0 := ⟨by omega, by omega⟩
  refine kl_i (wr := [(h, .inr (5, [.ref se, .ref tx, .ref rs, .ref sp, .int cp, .int mt, .int mf, .int mo, .long msp, .ref md, .ref pf, .ref pt, .int pcs])), (rs, .inl (G.2 5, 3, .inr (.inr (.inr (.inr f))))), (r0, .inr (3, [.ref c0, .int (nI j0)])), (c0, .inl (G.2 2, 14, .inl g0)), (r2, .inr (3, [.ref c2, .int (nI j2)])), (c2, .inl (G.2 2, 8, .inl g2))]) (va_runV (As := [.int ch]) (rest := []) F.1 (c_row_addF l G _ _ 8 g1 ch (by decide) _) (cwV 1 hts (aw_V w_237 w_238 w_239 w_3 w_240) rfl rfl rfl (by decide +kernel) ⟨by decide, by decide⟩) ⟨cS_blind, va_recv (q := (RX3, TX3, 2)) (ci := 3) (q0 := 0) hK.1 hPc rfl rfl, cS_pre hPc hDc hK⟩ rfl rfl hl.1 rfl (lv_room (Nat.le_of_ble_eq_true rfl)) dX5_type_26 hqc) hP hD hS hA [4, 5] [0, 1, 2, 3, 6, 7] rfl rfl (by decide) (by decide) (fun r u H locs hp hP hD hS => ?_)
  subst hp
  have hP : va_P G.1 vwCl [(h, .inr (5, [.ref se, .ref tx, .ref rs, .ref sp, .int cp, .int mt, .int mf, .int mo, .long msp, .ref md, .ref pf, .ref pt, .int pcs])), (rs, .inl (G.2 5, 3, .inr (.inr (.inr (.inr f))))), (r0, .inr (3, [.ref c0, .int (nI j0)])), (c0, .inl (G.2 2, 14, .inl g0)), (r2, .inr (3, [.ref c2, .int (nI j2)])), (c2, .inl (G.2 2, 8, .inl g2)), (tx, .inr (3, [.ref tc, .int (nI 8)])), (tc, .inl (G.2 2, 8, .inl g1))] H := hP
  have hD : va_D A [(h, .inr (5, [.ref se, .ref tx, .ref rs, .ref sp, .int cp, .int mt, .int mf, .int mo, .long msp, .ref md, .ref pf, .ref pt, .int pcs])), (rs, .inl (G.2 5, 3, .inr (.inr (.inr (.inr f))))), (r0, .inr (3, [.ref c0, .int (nI j0)])), (c0, .inl (G.2 2, 14, .inl g0)), (r2, .inr (3, [.ref c2, .int (nI j2)])), (c2, .inl (G.2 2, 8, .inl g2)), (tx, .inr (3, [.ref tc, .int (nI 8)])), (tc, .inl (G.2 2, 8, .inl g1))] := hD
  refine lv_if_ne (tgt := 34) hx hb dX5_type_29 (by decide) (fun h => absurd rfl h) (fun _ => ?_)
  refine lv_iconst (v := 0) hx hb dX5_type_32 (by decide) ?_
  have hP := hP.sub (ws' := [(h, .inr (5, [.ref se, .ref tx, .ref rs, .ref sp, .int cp, .int mt, .int mf, .int mo, .long msp, .ref md, .ref pf, .ref pt, .int pcs])), (rs, .inl (G.2 5, 3, .inr (.inr (.inr (.inr f))))), (r0, .inr (3, [.ref c0, .int (nI j0)])), (c0, .inl (G.2 2, 14, .inl g0)), (tx, .inr (3, [.ref tc, .int (nI 8)])), (tc, .inl (G.2 2, 8, .inl g1)), (r2, .inr (3, [.ref c2, .int (nI j2)])), (c2, .inl (G.2 2, 8, .inl g2))]) [0, 1, 2, 3, 6, 7, 4, 5] rfl
  have hD := hD.sub (ws' := [(h, .inr (5, [.ref se, .ref tx, .ref rs, .ref sp, .int cp, .int mt, .int mf, .int mo, .long msp, .ref md, .ref pf, .ref pt, .int pcs])), (rs, .inl (G.2 5, 3, .inr (.inr (.inr (.inr f))))), (r0, .inr (3, [.ref c0, .int (nI j0)])), (c0, .inl (G.2 2, 14, .inl g0)), (tx, .inr (3, [.ref tc, .int (nI 8)])), (tc, .inl (G.2 2, 8, .inl g1)), (r2, .inr (3, [.ref c2, .int (nI j2)])), (c2, .inl (G.2 2, 8, .inl g2))]) [0, 1, 2, 3, 6, 7, 4, 5] (by decide) rfl
  exact en_i F hS 0 () (by rfl) rfl hP hD (by omega) (by omega) dX5_type_33

set_option maxHeartbeats 4000000 in
set_option maxRecDepth 100000 in
theorem c_clear1 (l : Launch) (G : PG) (h se tx rs sp md pf pt : Nat) (cp mt mf mo pcs : Int32) (msp : Int64) (r0 c0 r2 c2 tc : Nat) (f : Nat → Option Nat) (hf0 : f 0 = some r0) (hf1 : f 1 = some tx) (hf2 : f 2 = some r2) (j0 j1 j2 : Nat) (g0 g1 g2 : Nat → Int32) : Ci l yX5_clear (Cond.code yX5_clear cX5_clear 2 (some .boolean) :: aW) { frames := 1, cells := 0, slots := 0, locals := 21 } G [(h, .inr (5, [.ref se, .ref tx, .ref rs, .ref sp, .int cp, .int mt, .int mf, .int mo, .long msp, .ref md, .ref pf, .ref pt, .int pcs])), (rs, .inl (G.2 5, 3, .inr (.inr (.inr (.inr f))))), (r0, .inr (3, [.ref c0, .int (nI j0)])), (c0, .inl (G.2 2, 14, .inl g0)), (tx, .inr (3, [.ref tc, .int (nI j1)])), (tc, .inl (G.2 2, 8, .inl g1)), (r2, .inr (3, [.ref c2, .int (nI j2)])), (c2, .inl (G.2 2, 8, .inl g2))] [.ref h, .int 1] (S := Unit) (fun (r9 : Int32) (_ : Unit) => r9 = 1) (fun (_ : Unit) => [(h, .inr (5, [.ref se, .ref tx, .ref rs, .ref sp, .int cp, .int 0, .int mf, .int mo, .long msp, .ref md, .ref pf, .ref pt, .int pcs])), (rs, .inl (G.2 5, 3, .inr (.inr (.inr (.inr f))))), (r0, .inr (3, [.ref c0, .int (nI j0)])), (c0, .inl (G.2 2, 14, .inl g0)), (tx, .inr (3, [.ref tc, .int (nI 0)])), (tc, .inl (G.2 2, 8, .inl g1)), (r2, .inr (3, [.ref c2, .int (nI j2)])), (c2, .inl (G.2 2, 8, .inl g2))]) 0 0 := by
  refine ofB (y := yX5_clear) (G := G) (cc := cX5_clear) (maxL := 2) (ret := (some .boolean)) (Qc := fun A => va_Qi (fun (r9 : Int32) (_ : Unit) => r9 = 1) (oB G A (fun (_ : Unit) => [(h, .inr (5, [.ref se, .ref tx, .ref rs, .ref sp, .int cp, .int 0, .int mf, .int mo, .long msp, .ref md, .ref pf, .ref pt, .int pcs])), (rs, .inl (G.2 5, 3, .inr (.inr (.inr (.inr f))))), (r0, .inr (3, [.ref c0, .int (nI j0)])), (c0, .inl (G.2 2, 14, .inl g0)), (tx, .inr (3, [.ref tc, .int (nI 0)])), (tc, .inl (G.2 2, 8, .inl g1)), (r2, .inr (3, [.ref c2, .int (nI j2)])), (c2, .inl (G.2 2, 8, .inl g2))])) A) (by decide) rfl ?_
  intro p e s m below meth c A F hK hA hP hD
  have hx := F.1.1; have hb := F.1.2.1; have hml := F.1.2.2.1; have hts := F.1.2.2.2.2
  have hown : s.vm.findClass RX5 = some m.cls := F.1.2.2.2.1
  have hS : va_S A s.heap s.heap [] := va_S.rf
  have hl := lv_entry ([.ref h, .int 1]) (n := 2) (Nat.le_of_ble_eq_true rfl)
  rw [lg_entry_eq]
  generalize (lg_sl ([.ref h, .int 1]) ++ List.replicate (2 - (lg_sl ([.ref h, .int 1])).length) Slot.unset).toArray = ls at hl ⊢
  have hl : lv_has ls 2 [(0, .ref h), (1, .int 1)] := hl
  refine lv_iload_n hx hb dX5_clear_0 rfl (lv_at hl 1 rfl) ?_
  have hPc := hP.sub (ws' := []) [] rfl
  have hDc := hD.sub (ws' := []) [] (by decide) rfl
  have hqc : 0 + 0 ≤ 0 ∧ 0 + 0 ≤ 0 := ⟨by omega, by omega⟩
  refine kl_i (wr := [(h, .inr (5, [.ref se, .ref tx, .ref rs, .ref sp, .int cp, .int mt, .int mf, .int mo, .long msp, .ref md, .ref pf, .ref pt, .int pcs])), (rs, .inl (G.2 5, 3, .inr (.inr (.inr (.inr f))))), (r0, .inr (3, [.ref c0, .int (nI j0)])), (c0, .inl (G.2 2, 14, .inl g0)), (tx, .inr (3, [.ref tc, .int (nI j1)])), (tc, .inl (G.2 2, 8, .inl g1)), (r2, .inr (3, [.ref c2, .int (nI j2)])), (c2, .inl (G.2 2, 8, .inl g2))]) (va_runS (As := [.int 1]) (rest := []) F.1 (c_isRow l G 1 _) (va_cwS 1 hts (aw_S w_234 w_235 w_1 w_236) rfl rfl rfl (by decide +kernel) ⟨by decide, by decide⟩) ⟨cS_blind, cS_pre hPc hDc hK⟩ rfl rfl hl.1 rfl (lv_room (Nat.le_of_ble_eq_true rfl)) dX5_clear_1 hqc) hP hD hS hA [] [0, 1, 2, 3, 4, 5, 6, 7] rfl rfl (by decide) (by decide) (fun r u H locs hp hP hD hS => ?_)
  subst hp
  have hP : va_P G.1 vwCl [(h, .inr (5, [.ref se, .ref tx, .ref rs, .ref sp, .int cp, .int mt, .int mf, .int mo, .long msp, .ref md, .ref pf, .ref pt, .int pcs])), (rs, .inl (G.2 5, 3, .inr (.inr (.inr (.inr f))))), (r0, .inr (3, [.ref c0, .int (nI j0)])), (c0, .inl (G.2 2, 14, .inl g0)), (tx, .inr (3, [.ref tc, .int (nI j1)])), (tc, .inl (G.2 2, 8, .inl g1)), (r2, .inr (3, [.ref c2, .int (nI j2)])), (c2, .inl (G.2 2, 8, .inl g2))] H := hP
  have hD : va_D A [(h, .inr (5, [.ref se, .ref tx, .ref rs, .ref sp, .int cp, .int mt, .int mf, .int mo, .long msp, .ref md, .ref pf, .ref pt, .int pcs])), (rs, .inl (G.2 5, 3, .inr (.inr (.inr (.inr f))))), (r0, .inr (3, [.ref c0, .int (nI j0)])), (c0, .inl (G.2 2, 14, .inl g0)), (tx, .inr (3, [.ref tc, .int (nI j1)])), (tc, .inl (G.2 2, 8, .inl g1)), (r2, .inr (3, [.ref c2, .int (nI j2)])), (c2, .inl (G.2 2, 8, .inl g2))] := hD
  refine lv_if_ne (tgt := 9) hx hb dX5_clear_4 (by decide) (fun _ => ?_) (fun h => absurd h (by decide : ¬ isRowV 1 = 0))
  refine lv_aload_n hx hb dX5_clear_9 rfl (lv_at hl 0 rfl) ?_
  refine va_get (D := G.1) (ci := 5) (v := .ref rs) (C := RX5) (T := TX5) (N := 13) hx hb hts inX5 hown hK.1 hP 0 rfl rfl 2 (by decide) (hts _ w_192) (fun _ h9 => h9) rfl dX5_clear_10 ?_
  refine lv_iload_n hx hb dX5_clear_13 rfl (lv_at hl 1 rfl) ?_
  refine va_aldq (D := G.1) hx hb hK.1 hP 1 5 rfl rfl (vp_in_nI (n := 1) (by decide) (by decide)) dX5_clear_14 ?_
  refine tp_v (.ref tx) (show va_rf (f 1) = .ref tx by rw [hf1]; rfl) ?_
  have hPc := hP.sub (ws' := [(tx, .inr (3, [.ref tc, .int (nI j1)])), (tc, .inl (G.2 2, 8, .inl g1))]) [4, 5] rfl
  have hDc := hD.sub (ws' := [(tx, .inr (3, [.ref tc, .int (nI j1)])), (tc, .inl (G.2 2, 8, .inl g1))]) [4, 5] (by decide) rfl
  have hqc : 0 + 0 ≤ 0 ∧ 0 + 0 ≤ 0 := ⟨by omega, by omega⟩
  refine kl_v (wr := [(h, .inr (5, [.ref se, .ref tx, .ref rs, .ref sp, .int cp, .int mt, .int mf, .int mo, .long msp, .ref md, .ref pf, .ref pt, .int pcs])), (rs, .inl (G.2 5, 3, .inr (.inr (.inr (.inr f))))), (r0, .inr (3, [.ref c0, .int (nI j0)])), (c0, .inl (G.2 2, 14, .inl g0)), (r2, .inr (3, [.ref c2, .int (nI j2)])), (c2, .inl (G.2 2, 8, .inl g2))]) (va_runV (As := []) (rest := []) F.1 (c_row_empty l G _ _ _ _ _ _) (cwV 0 hts (aw_V w_249 w_250 w_251 w_3 w_252) rfl rfl rfl (by decide +kernel) ⟨by decide, by decide⟩) ⟨cS_blind, va_recv (q := (RX3, TX3, 2)) (ci := 3) (q0 := 0) hK.1 hPc rfl rfl, cS_pre hPc hDc hK⟩ rfl rfl hl.1 rfl (lv_room (Nat.le_of_ble_eq_true rfl)) dX5_clear_15 hqc) hP hD hS hA [4, 5] [0, 1, 2, 3, 6, 7] rfl rfl (by decide) (by decide) (fun u H locs hp hP hD hS => ?_)
  have hP : va_P G.1 vwCl [(h, .inr (5, [.ref se, .ref tx, .ref rs, .ref sp, .int cp, .int mt, .int mf, .int mo, .long msp, .ref md, .ref pf, .ref pt, .int pcs])), (rs, .inl (G.2 5, 3, .inr (.inr (.inr (.inr f))))), (r0, .inr (3, [.ref c0, .int (nI j0)])), (c0, .inl (G.2 2, 14, .inl g0)), (r2, .inr (3, [.ref c2, .int (nI j2)])), (c2, .inl (G.2 2, 8, .inl g2)), (tx, .inr (3, [.ref tc, .int 0])), (tc, .inl (G.2 2, 8, .inl g1))] H := hP
  have hD : va_D A [(h, .inr (5, [.ref se, .ref tx, .ref rs, .ref sp, .int cp, .int mt, .int mf, .int mo, .long msp, .ref md, .ref pf, .ref pt, .int pcs])), (rs, .inl (G.2 5, 3, .inr (.inr (.inr (.inr f))))), (r0, .inr (3, [.ref c0, .int (nI j0)])), (c0, .inl (G.2 2, 14, .inl g0)), (r2, .inr (3, [.ref c2, .int (nI j2)])), (c2, .inl (G.2 2, 8, .inl g2)), (tx, .inr (3, [.ref tc, .int 0])), (tc, .inl (G.2 2, 8, .inl g1))] := hD
  refine lv_aload_n hx hb dX5_clear_18 rfl (lv_at hl 0 rfl) ?_
  refine lv_iload_n hx hb dX5_clear_19 rfl (lv_at hl 1 rfl) ?_
  have hPc := hP.sub (ws' := [(h, .inr (5, [.ref se, .ref tx, .ref rs, .ref sp, .int cp, .int mt, .int mf, .int mo, .long msp, .ref md, .ref pf, .ref pt, .int pcs]))]) [0] rfl
  have hDc := hD.sub (ws' := [(h, .inr (5, [.ref se, .ref tx, .ref rs, .ref sp, .int cp, .int mt, .int mf, .int mo, .long msp, .ref md, .ref pf, .ref pt, .int pcs]))]) [0] (by decide) rfl
  have hqc : 0 + 0 ≤ 0 ∧ 0 + 0 ≤ 0 := ⟨by omega, by omega⟩
  refine kl_v (wr := [(rs, .inl (G.2 5, 3, .inr (.inr (.inr (.inr f))))), (r0, .inr (3, [.ref c0, .int (nI j0)])), (c0, .inl (G.2 2, 14, .inl g0)), (r2, .inr (3, [.ref c2, .int (nI j2)])), (c2, .inl (G.2 2, 8, .inl g2)), (tx, .inr (3, [.ref tc, .int 0])), (tc, .inl (G.2 2, 8, .inl g1))]) (va_runV (As := [.int 1]) (rest := []) F.1 (c_forget1 l G _ _ _ _ _ _ _ _ _ _ _ _ _ _ _) (cwV 1 hts (aw_V w_241 w_243 ws_X5_forgetMatchIfText w_1 w_244) rfl rfl rfl (by decide +kernel) ⟨by decide, by decide⟩) ⟨cS_blind, va_recv (q := (RX5, TX5, 13)) (ci := 5) (q0 := 0) hK.1 hPc rfl rfl, cS_pre hPc hDc hK⟩ rfl rfl hl.1 rfl (lv_room (Nat.le_of_ble_eq_true rfl)) dX5_clear_20 hqc) hP hD hS hA [0] [1, 2, 3, 4, 5, 6, 7] rfl rfl (by decide) (by decide) (fun u H locs hp hP hD hS => ?_)
  have hP : va_P G.1 vwCl [(rs, .inl (G.2 5, 3, .inr (.inr (.inr (.inr f))))), (r0, .inr (3, [.ref c0, .int (nI j0)])), (c0, .inl (G.2 2, 14, .inl g0)), (r2, .inr (3, [.ref c2, .int (nI j2)])), (c2, .inl (G.2 2, 8, .inl g2)), (tx, .inr (3, [.ref tc, .int 0])), (tc, .inl (G.2 2, 8, .inl g1)), (h, .inr (5, [.ref se, .ref tx, .ref rs, .ref sp, .int cp, .int 0, .int mf, .int mo, .long msp, .ref md, .ref pf, .ref pt, .int pcs]))] H := hP
  have hD : va_D A [(rs, .inl (G.2 5, 3, .inr (.inr (.inr (.inr f))))), (r0, .inr (3, [.ref c0, .int (nI j0)])), (c0, .inl (G.2 2, 14, .inl g0)), (r2, .inr (3, [.ref c2, .int (nI j2)])), (c2, .inl (G.2 2, 8, .inl g2)), (tx, .inr (3, [.ref tc, .int 0])), (tc, .inl (G.2 2, 8, .inl g1)), (h, .inr (5, [.ref se, .ref tx, .ref rs, .ref sp, .int cp, .int 0, .int mf, .int mo, .long msp, .ref md, .ref pf, .ref pt, .int pcs]))] := hD
  refine lv_iconst (v := 1) hx hb dX5_clear_23 (by decide) ?_
  have hP := hP.sub (ws' := [(h, .inr (5, [.ref se, .ref tx, .ref rs, .ref sp, .int cp, .int 0, .int mf, .int mo, .long msp, .ref md, .ref pf, .ref pt, .int pcs])), (rs, .inl (G.2 5, 3, .inr (.inr (.inr (.inr f))))), (r0, .inr (3, [.ref c0, .int (nI j0)])), (c0, .inl (G.2 2, 14, .inl g0)), (tx, .inr (3, [.ref tc, .int (nI 0)])), (tc, .inl (G.2 2, 8, .inl g1)), (r2, .inr (3, [.ref c2, .int (nI j2)])), (c2, .inl (G.2 2, 8, .inl g2))]) [7, 0, 1, 2, 5, 6, 3, 4] rfl
  have hD := hD.sub (ws' := [(h, .inr (5, [.ref se, .ref tx, .ref rs, .ref sp, .int cp, .int 0, .int mf, .int mo, .long msp, .ref md, .ref pf, .ref pt, .int pcs])), (rs, .inl (G.2 5, 3, .inr (.inr (.inr (.inr f))))), (r0, .inr (3, [.ref c0, .int (nI j0)])), (c0, .inl (G.2 2, 14, .inl g0)), (tx, .inr (3, [.ref tc, .int (nI 0)])), (tc, .inl (G.2 2, 8, .inl g1)), (r2, .inr (3, [.ref c2, .int (nI j2)])), (c2, .inl (G.2 2, 8, .inl g2))]) [7, 0, 1, 2, 5, 6, 3, 4] (by decide) rfl
  exact en_i F hS 1 () (by rfl) rfl hP hD (by omega) (by omega) dX5_clear_24

set_option maxHeartbeats 4000000 in
set_option maxRecDepth 100000 in
theorem c_len1 (l : Launch) (G : PG) (h se tx rs sp md pf pt : Nat) (cp mt mf mo pcs : Int32) (msp : Int64) (r0 c0 r2 c2 tc : Nat) (f : Nat → Option Nat) (hf0 : f 0 = some r0) (hf1 : f 1 = some tx) (hf2 : f 2 = some r2) (j0 j1 j2 : Nat) (g0 g1 g2 : Nat → Int32) : Ci l yX5_length (Cond.code yX5_length cX5_length 2 (some .int) :: aW) { frames := 1, cells := 0, slots := 0, locals := 21 } G [(h, .inr (5, [.ref se, .ref tx, .ref rs, .ref sp, .int cp, .int mt, .int mf, .int mo, .long msp, .ref md, .ref pf, .ref pt, .int pcs])), (rs, .inl (G.2 5, 3, .inr (.inr (.inr (.inr f))))), (r0, .inr (3, [.ref c0, .int (nI j0)])), (c0, .inl (G.2 2, 14, .inl g0)), (tx, .inr (3, [.ref tc, .int (nI j1)])), (tc, .inl (G.2 2, 8, .inl g1)), (r2, .inr (3, [.ref c2, .int (nI j2)])), (c2, .inl (G.2 2, 8, .inl g2))] [.ref h, .int 1] (S := Unit) (fun (r9 : Int32) (_ : Unit) => r9 = nI j1) (fun (_ : Unit) => [(h, .inr (5, [.ref se, .ref tx, .ref rs, .ref sp, .int cp, .int mt, .int mf, .int mo, .long msp, .ref md, .ref pf, .ref pt, .int pcs])), (rs, .inl (G.2 5, 3, .inr (.inr (.inr (.inr f))))), (r0, .inr (3, [.ref c0, .int (nI j0)])), (c0, .inl (G.2 2, 14, .inl g0)), (tx, .inr (3, [.ref tc, .int (nI j1)])), (tc, .inl (G.2 2, 8, .inl g1)), (r2, .inr (3, [.ref c2, .int (nI j2)])), (c2, .inl (G.2 2, 8, .inl g2))]) 0 0 := by
  refine ofB (y := yX5_length) (G := G) (cc := cX5_length) (maxL := 2) (ret := (some .int)) (Qc := fun A => va_Qi (fun (r9 : Int32) (_ : Unit) => r9 = nI j1) (oB G A (fun (_ : Unit) => [(h, .inr (5, [.ref se, .ref tx, .ref rs, .ref sp, .int cp, .int mt, .int mf, .int mo, .long msp, .ref md, .ref pf, .ref pt, .int pcs])), (rs, .inl (G.2 5, 3, .inr (.inr (.inr (.inr f))))), (r0, .inr (3, [.ref c0, .int (nI j0)])), (c0, .inl (G.2 2, 14, .inl g0)), (tx, .inr (3, [.ref tc, .int (nI j1)])), (tc, .inl (G.2 2, 8, .inl g1)), (r2, .inr (3, [.ref c2, .int (nI j2)])), (c2, .inl (G.2 2, 8, .inl g2))])) A) (by decide) rfl ?_
  intro p e s m below meth c A F hK hA hP hD
  have hx := F.1.1; have hb := F.1.2.1; have hml := F.1.2.2.1; have hts := F.1.2.2.2.2
  have hown : s.vm.findClass RX5 = some m.cls := F.1.2.2.2.1
  have hS : va_S A s.heap s.heap [] := va_S.rf
  have hl := lv_entry ([.ref h, .int 1]) (n := 2) (Nat.le_of_ble_eq_true rfl)
  rw [lg_entry_eq]
  generalize (lg_sl ([.ref h, .int 1]) ++ List.replicate (2 - (lg_sl ([.ref h, .int 1])).length) Slot.unset).toArray = ls at hl ⊢
  have hl : lv_has ls 2 [(0, .ref h), (1, .int 1)] := hl
  refine lv_iload_n hx hb dX5_length_0 rfl (lv_at hl 1 rfl) ?_
  have hPc := hP.sub (ws' := []) [] rfl
  have hDc := hD.sub (ws' := []) [] (by decide) rfl
  have hqc : 0 + 0 ≤ 0 ∧ 0 + 0 ≤ 0 := ⟨by omega, by omega⟩
  refine kl_i (wr := [(h, .inr (5, [.ref se, .ref tx, .ref rs, .ref sp, .int cp, .int mt, .int mf, .int mo, .long msp, .ref md, .ref pf, .ref pt, .int pcs])), (rs, .inl (G.2 5, 3, .inr (.inr (.inr (.inr f))))), (r0, .inr (3, [.ref c0, .int (nI j0)])), (c0, .inl (G.2 2, 14, .inl g0)), (tx, .inr (3, [.ref tc, .int (nI j1)])), (tc, .inl (G.2 2, 8, .inl g1)), (r2, .inr (3, [.ref c2, .int (nI j2)])), (c2, .inl (G.2 2, 8, .inl g2))]) (va_runS (As := [.int 1]) (rest := []) F.1 (c_isRow l G 1 _) (va_cwS 1 hts (aw_S w_234 w_235 w_1 w_236) rfl rfl rfl (by decide +kernel) ⟨by decide, by decide⟩) ⟨cS_blind, cS_pre hPc hDc hK⟩ rfl rfl hl.1 rfl (lv_room (Nat.le_of_ble_eq_true rfl)) dX5_length_1 hqc) hP hD hS hA [] [0, 1, 2, 3, 4, 5, 6, 7] rfl rfl (by decide) (by decide) (fun r u H locs hp hP hD hS => ?_)
  subst hp
  have hP : va_P G.1 vwCl [(h, .inr (5, [.ref se, .ref tx, .ref rs, .ref sp, .int cp, .int mt, .int mf, .int mo, .long msp, .ref md, .ref pf, .ref pt, .int pcs])), (rs, .inl (G.2 5, 3, .inr (.inr (.inr (.inr f))))), (r0, .inr (3, [.ref c0, .int (nI j0)])), (c0, .inl (G.2 2, 14, .inl g0)), (tx, .inr (3, [.ref tc, .int (nI j1)])), (tc, .inl (G.2 2, 8, .inl g1)), (r2, .inr (3, [.ref c2, .int (nI j2)])), (c2, .inl (G.2 2, 8, .inl g2))] H := hP
  have hD : va_D A [(h, .inr (5, [.ref se, .ref tx, .ref rs, .ref sp, .int cp, .int mt, .int mf, .int mo, .long msp, .ref md, .ref pf, .ref pt, .int pcs])), (rs, .inl (G.2 5, 3, .inr (.inr (.inr (.inr f))))), (r0, .inr (3, [.ref c0, .int (nI j0)])), (c0, .inl (G.2 2, 14, .inl g0)), (tx, .inr (3, [.ref tc, .int (nI j1)])), (tc, .inl (G.2 2, 8, .inl g1)), (r2, .inr (3, [.ref c2, .int (nI j2)])), (c2, .inl (G.2 2, 8, .inl g2))] := hD
  refine lv_if_eq (tgt := 19) hx hb dX5_length_4 (by decide) (fun h => absurd h (by decide : ¬ isRowV 1 = 0)) (fun _ => ?_)
  refine lv_aload_n hx hb dX5_length_7 rfl (lv_at hl 0 rfl) ?_
  refine va_get (D := G.1) (ci := 5) (v := .ref rs) (C := RX5) (T := TX5) (N := 13) hx hb hts inX5 hown hK.1 hP 0 rfl rfl 2 (by decide) (hts _ w_192) (fun _ h9 => h9) rfl dX5_length_8 ?_
  refine lv_iload_n hx hb dX5_length_11 rfl (lv_at hl 1 rfl) ?_
  refine va_aldq (D := G.1) hx hb hK.1 hP 1 5 rfl rfl (vp_in_nI (n := 1) (by decide) (by decide)) dX5_length_12 ?_
  refine tp_v (.ref tx) (show va_rf (f 1) = .ref tx by rw [hf1]; rfl) ?_
  have hPc := hP.sub (ws' := [(tx, .inr (3, [.ref tc, .int (nI j1)])), (tc, .inl (G.2 2, 8, .inl g1))]) [4, 5] rfl
  have hDc := hD.sub (ws' := [(tx, .inr (3, [.ref tc, .int (nI j1)])), (tc, .inl (G.2 2, 8, .inl g1))]) [4, 5] (by decide) rfl
  have hqc : 0 + 0 ≤ 0 ∧ 0 + 0 ≤ 0 := ⟨by omega, by omega⟩
  refine kl_i (wr := [(h, .inr (5, [.ref se, .ref tx, .ref rs, .ref sp, .int cp, .int mt, .int mf, .int mo, .long msp, .ref md, .ref pf, .ref pt, .int pcs])), (rs, .inl (G.2 5, 3, .inr (.inr (.inr (.inr f))))), (r0, .inr (3, [.ref c0, .int (nI j0)])), (c0, .inl (G.2 2, 14, .inl g0)), (r2, .inr (3, [.ref c2, .int (nI j2)])), (c2, .inl (G.2 2, 8, .inl g2))]) (va_runV (As := []) (rest := []) F.1 (c_row_size l G _ _ _ _ _ _) (cwV 0 hts (aw_V w_257 w_258 w_259 w_3 w_260) rfl rfl rfl (by decide +kernel) ⟨by decide, by decide⟩) ⟨cS_blind, va_recv (q := (RX3, TX3, 2)) (ci := 3) (q0 := 0) hK.1 hPc rfl rfl, cS_pre hPc hDc hK⟩ rfl rfl hl.1 rfl (lv_room (Nat.le_of_ble_eq_true rfl)) dX5_length_13 hqc) hP hD hS hA [4, 5] [0, 1, 2, 3, 6, 7] rfl rfl (by decide) (by decide) (fun r u H locs hp hP hD hS => ?_)
  subst hp
  have hP : va_P G.1 vwCl [(h, .inr (5, [.ref se, .ref tx, .ref rs, .ref sp, .int cp, .int mt, .int mf, .int mo, .long msp, .ref md, .ref pf, .ref pt, .int pcs])), (rs, .inl (G.2 5, 3, .inr (.inr (.inr (.inr f))))), (r0, .inr (3, [.ref c0, .int (nI j0)])), (c0, .inl (G.2 2, 14, .inl g0)), (r2, .inr (3, [.ref c2, .int (nI j2)])), (c2, .inl (G.2 2, 8, .inl g2)), (tx, .inr (3, [.ref tc, .int (nI j1)])), (tc, .inl (G.2 2, 8, .inl g1))] H := hP
  have hD : va_D A [(h, .inr (5, [.ref se, .ref tx, .ref rs, .ref sp, .int cp, .int mt, .int mf, .int mo, .long msp, .ref md, .ref pf, .ref pt, .int pcs])), (rs, .inl (G.2 5, 3, .inr (.inr (.inr (.inr f))))), (r0, .inr (3, [.ref c0, .int (nI j0)])), (c0, .inl (G.2 2, 14, .inl g0)), (r2, .inr (3, [.ref c2, .int (nI j2)])), (c2, .inl (G.2 2, 8, .inl g2)), (tx, .inr (3, [.ref tc, .int (nI j1)])), (tc, .inl (G.2 2, 8, .inl g1))] := hD
  refine lv_goto (tgt := 20) hx hb dX5_length_16 (by decide) ?_
  have hP := hP.sub (ws' := [(h, .inr (5, [.ref se, .ref tx, .ref rs, .ref sp, .int cp, .int mt, .int mf, .int mo, .long msp, .ref md, .ref pf, .ref pt, .int pcs])), (rs, .inl (G.2 5, 3, .inr (.inr (.inr (.inr f))))), (r0, .inr (3, [.ref c0, .int (nI j0)])), (c0, .inl (G.2 2, 14, .inl g0)), (tx, .inr (3, [.ref tc, .int (nI j1)])), (tc, .inl (G.2 2, 8, .inl g1)), (r2, .inr (3, [.ref c2, .int (nI j2)])), (c2, .inl (G.2 2, 8, .inl g2))]) [0, 1, 2, 3, 6, 7, 4, 5] rfl
  have hD := hD.sub (ws' := [(h, .inr (5, [.ref se, .ref tx, .ref rs, .ref sp, .int cp, .int mt, .int mf, .int mo, .long msp, .ref md, .ref pf, .ref pt, .int pcs])), (rs, .inl (G.2 5, 3, .inr (.inr (.inr (.inr f))))), (r0, .inr (3, [.ref c0, .int (nI j0)])), (c0, .inl (G.2 2, 14, .inl g0)), (tx, .inr (3, [.ref tc, .int (nI j1)])), (tc, .inl (G.2 2, 8, .inl g1)), (r2, .inr (3, [.ref c2, .int (nI j2)])), (c2, .inl (G.2 2, 8, .inl g2))]) [0, 1, 2, 3, 6, 7, 4, 5] (by decide) rfl
  exact en_i F hS (nI j1) () (by rfl) rfl hP hD (by omega) (by omega) dX5_length_20

set_option maxHeartbeats 4000000 in
set_option maxRecDepth 100000 in
theorem c_type2 (l : Launch) (G : PG) (h se tx rs sp md pf pt : Nat) (cp mt mf mo pcs : Int32) (msp : Int64) (r0 c0 r2 c2 tc : Nat) (f : Nat → Option Nat) (hf0 : f 0 = some r0) (hf1 : f 1 = some tx) (hf2 : f 2 = some r2) (j0 j1 j2 : Nat) (g0 g1 g2 : Nat → Int32) (ch : Int32) (h32 : ¬ ch < 32) (h126 : ¬ (126 : Int32) < ch) (hj : j2 < 8) : Ci l yX5_type (Cond.code yX5_type cX5_type 3 (some .boolean) :: aW) { frames := 1, cells := 0, slots := 0, locals := 21 } G [(h, .inr (5, [.ref se, .ref tx, .ref rs, .ref sp, .int cp, .int mt, .int mf, .int mo, .long msp, .ref md, .ref pf, .ref pt, .int pcs])), (rs, .inl (G.2 5, 3, .inr (.inr (.inr (.inr f))))), (r0, .inr (3, [.ref c0, .int (nI j0)])), (c0, .inl (G.2 2, 14, .inl g0)), (tx, .inr (3, [.ref tc, .int (nI j1)])), (tc, .inl (G.2 2, 8, .inl g1)), (r2, .inr (3, [.ref c2, .int (nI j2)])), (c2, .inl (G.2 2, 8, .inl g2))] [.ref h, .int 2, .int ch] (S := Unit) (fun (r9 : Int32) (_ : Unit) => r9 = 1) (fun (_ : Unit) => [(h, .inr (5, [.ref se, .ref tx, .ref rs, .ref sp, .int cp, .int mt, .int mf, .int mo, .long msp, .ref md, .ref pf, .ref pt, .int pcs])), (rs, .inl (G.2 5, 3, .inr (.inr (.inr (.inr f))))), (r0, .inr (3, [.ref c0, .int (nI j0)])), (c0, .inl (G.2 2, 14, .inl g0)), (tx, .inr (3, [.ref tc, .int (nI j1)])), (tc, .inl (G.2 2, 8, .inl g1)), (r2, .inr (3, [.ref c2, .int (nI (j2 + 1))])), (c2, .inl (G.2 2, 8, .inl (upd g2 j2 (vp_nar .char ch))))]) 0 0 := by
  refine ofB (y := yX5_type) (G := G) (cc := cX5_type) (maxL := 3) (ret := (some .boolean)) (Qc := fun A => va_Qi (fun (r9 : Int32) (_ : Unit) => r9 = 1) (oB G A (fun (_ : Unit) => [(h, .inr (5, [.ref se, .ref tx, .ref rs, .ref sp, .int cp, .int mt, .int mf, .int mo, .long msp, .ref md, .ref pf, .ref pt, .int pcs])), (rs, .inl (G.2 5, 3, .inr (.inr (.inr (.inr f))))), (r0, .inr (3, [.ref c0, .int (nI j0)])), (c0, .inl (G.2 2, 14, .inl g0)), (tx, .inr (3, [.ref tc, .int (nI j1)])), (tc, .inl (G.2 2, 8, .inl g1)), (r2, .inr (3, [.ref c2, .int (nI (j2 + 1))])), (c2, .inl (G.2 2, 8, .inl (upd g2 j2 (vp_nar .char ch))))])) A) (by decide) rfl ?_
  intro p e s m below meth c A F hK hA hP hD
  have hx := F.1.1; have hb := F.1.2.1; have hml := F.1.2.2.1; have hts := F.1.2.2.2.2
  have hown : s.vm.findClass RX5 = some m.cls := F.1.2.2.2.1
  have hS : va_S A s.heap s.heap [] := va_S.rf
  have hl := lv_entry ([.ref h, .int 2, .int ch]) (n := 3) (Nat.le_of_ble_eq_true rfl)
  rw [lg_entry_eq]
  generalize (lg_sl ([.ref h, .int 2, .int ch]) ++ List.replicate (3 - (lg_sl ([.ref h, .int 2, .int ch])).length) Slot.unset).toArray = ls at hl ⊢
  have hl : lv_has ls 3 [(0, .ref h), (1, .int 2), (2, .int ch)] := hl
  refine lv_iload_n hx hb dX5_type_0 rfl (lv_at hl 1 rfl) ?_
  have hPc := hP.sub (ws' := []) [] rfl
  have hDc := hD.sub (ws' := []) [] (by decide) rfl
  have hqc : 0 + 0 ≤ 0 ∧ 0 + 0 ≤ 0 := ⟨by omega, by omega⟩
  refine kl_i (wr := [(h, .inr (5, [.ref se, .ref tx, .ref rs, .ref sp, .int cp, .int mt, .int mf, .int mo, .long msp, .ref md, .ref pf, .ref pt, .int pcs])), (rs, .inl (G.2 5, 3, .inr (.inr (.inr (.inr f))))), (r0, .inr (3, [.ref c0, .int (nI j0)])), (c0, .inl (G.2 2, 14, .inl g0)), (tx, .inr (3, [.ref tc, .int (nI j1)])), (tc, .inl (G.2 2, 8, .inl g1)), (r2, .inr (3, [.ref c2, .int (nI j2)])), (c2, .inl (G.2 2, 8, .inl g2))]) (va_runS (As := [.int 2]) (rest := []) F.1 (c_isRow l G 2 _) (va_cwS 1 hts (aw_S w_234 w_235 w_1 w_236) rfl rfl rfl (by decide +kernel) ⟨by decide, by decide⟩) ⟨cS_blind, cS_pre hPc hDc hK⟩ rfl rfl hl.1 rfl (lv_room (Nat.le_of_ble_eq_true rfl)) dX5_type_1 hqc) hP hD hS hA [] [0, 1, 2, 3, 4, 5, 6, 7] rfl rfl (by decide) (by decide) (fun r u H locs hp hP hD hS => ?_)
  subst hp
  have hP : va_P G.1 vwCl [(h, .inr (5, [.ref se, .ref tx, .ref rs, .ref sp, .int cp, .int mt, .int mf, .int mo, .long msp, .ref md, .ref pf, .ref pt, .int pcs])), (rs, .inl (G.2 5, 3, .inr (.inr (.inr (.inr f))))), (r0, .inr (3, [.ref c0, .int (nI j0)])), (c0, .inl (G.2 2, 14, .inl g0)), (tx, .inr (3, [.ref tc, .int (nI j1)])), (tc, .inl (G.2 2, 8, .inl g1)), (r2, .inr (3, [.ref c2, .int (nI j2)])), (c2, .inl (G.2 2, 8, .inl g2))] H := hP
  have hD : va_D A [(h, .inr (5, [.ref se, .ref tx, .ref rs, .ref sp, .int cp, .int mt, .int mf, .int mo, .long msp, .ref md, .ref pf, .ref pt, .int pcs])), (rs, .inl (G.2 5, 3, .inr (.inr (.inr (.inr f))))), (r0, .inr (3, [.ref c0, .int (nI j0)])), (c0, .inl (G.2 2, 14, .inl g0)), (tx, .inr (3, [.ref tc, .int (nI j1)])), (tc, .inl (G.2 2, 8, .inl g1)), (r2, .inr (3, [.ref c2, .int (nI j2)])), (c2, .inl (G.2 2, 8, .inl g2))] := hD
  refine lv_if_eq (tgt := 32) hx hb dX5_type_4 (by decide) (fun h => absurd h (by decide : ¬ isRowV 2 = 0)) (fun _ => ?_)
  refine lv_iload_n hx hb dX5_type_7 rfl (lv_at hl 2 rfl) ?_
  refine lv_bipush (v := 32) hx hb dX5_type_8 (by decide) ?_
  refine lv_icmp_lt (tgt := 32) hx hb dX5_type_10 (by decide) (fun h => absurd h h32) (fun _ => ?_)
  refine lv_iload_n hx hb dX5_type_13 rfl (lv_at hl 2 rfl) ?_
  refine lv_bipush (v := 126) hx hb dX5_type_14 (by decide) ?_
  refine lv_icmp_gt (tgt := 32) hx hb dX5_type_16 (by decide) (fun h => absurd h h126) (fun _ => ?_)
  refine lv_aload_n hx hb dX5_type_19 rfl (lv_at hl 0 rfl) ?_
  refine va_get (D := G.1) (ci := 5) (v := .ref rs) (C := RX5) (T := TX5) (N := 13) hx hb hts inX5 hown hK.1 hP 0 rfl rfl 2 (by decide) (hts _ w_192) (fun _ h9 => h9) rfl dX5_type_20 ?_
  refine lv_iload_n hx hb dX5_type_23 rfl (lv_at hl 1 rfl) ?_
  refine va_aldq (D := G.1) hx hb hK.1 hP 1 5 rfl rfl (vp_in_nI (n := 2) (by decide) (by decide)) dX5_type_24 ?_
  refine tp_v (.ref r2) (show va_rf (f 2) = .ref r2 by rw [hf2]; rfl) ?_
  refine lv_iload_n hx hb dX5_type_25 rfl (lv_at hl 2 rfl) ?_
  have hPc := hP.sub (ws' := [(r2, .inr (3, [.ref c2, .int (nI j2)])), (c2, .inl (G.2 2, 8, .inl g2))]) [6, 7] rfl
  have hDc := hD.sub (ws' := [(r2, .inr (3, [.ref c2, .int (nI j2)])), (c2, .inl (G.2 2, 8, .inl g2))]) [6, 7] (by decide) rfl
  have hqc : 0 + 0 ≤ 0 ∧ 0 + 0 ≤ 0 := ⟨by omega, by omega⟩
  refine kl_i (wr := [(h, .inr (5, [.ref se, .ref tx, .ref rs, .ref sp, .int cp, .int mt, .int mf, .int mo, .long msp, .ref md, .ref pf, .ref pt, .int pcs])), (rs, .inl (G.2 5, 3, .inr (.inr (.inr (.inr f))))), (r0, .inr (3, [.ref c0, .int (nI j0)])), (c0, .inl (G.2 2, 14, .inl g0)), (tx, .inr (3, [.ref tc, .int (nI j1)])), (tc, .inl (G.2 2, 8, .inl g1))]) (va_runV (As := [.int ch]) (rest := []) F.1 (c_row_add l G _ _ 8 j2 g2 ch hj (by decide) _) (cwV 1 hts (aw_V w_237 w_238 w_239 w_3 w_240) rfl rfl rfl (by decide +kernel) ⟨by decide, by decide⟩) ⟨cS_blind, va_recv (q := (RX3, TX3, 2)) (ci := 3) (q0 := 0) hK.1 hPc rfl rfl, cS_pre hPc hDc hK⟩ rfl rfl hl.1 rfl (lv_room (Nat.le_of_ble_eq_true rfl)) dX5_type_26 hqc) hP hD hS hA [6, 7] [0, 1, 2, 3, 4, 5] rfl rfl (by decide) (by decide) (fun r u H locs hp hP hD hS => ?_)
  subst hp
  have hP : va_P G.1 vwCl [(h, .inr (5, [.ref se, .ref tx, .ref rs, .ref sp, .int cp, .int mt, .int mf, .int mo, .long msp, .ref md, .ref pf, .ref pt, .int pcs])), (rs, .inl (G.2 5, 3, .inr (.inr (.inr (.inr f))))), (r0, .inr (3, [.ref c0, .int (nI j0)])), (c0, .inl (G.2 2, 14, .inl g0)), (tx, .inr (3, [.ref tc, .int (nI j1)])), (tc, .inl (G.2 2, 8, .inl g1)), (r2, .inr (3, [.ref c2, .int (nI (j2 + 1))])), (c2, .inl (G.2 2, 8, .inl (upd g2 j2 (vp_nar .char ch))))] H := hP
  have hD : va_D A [(h, .inr (5, [.ref se, .ref tx, .ref rs, .ref sp, .int cp, .int mt, .int mf, .int mo, .long msp, .ref md, .ref pf, .ref pt, .int pcs])), (rs, .inl (G.2 5, 3, .inr (.inr (.inr (.inr f))))), (r0, .inr (3, [.ref c0, .int (nI j0)])), (c0, .inl (G.2 2, 14, .inl g0)), (tx, .inr (3, [.ref tc, .int (nI j1)])), (tc, .inl (G.2 2, 8, .inl g1)), (r2, .inr (3, [.ref c2, .int (nI (j2 + 1))])), (c2, .inl (G.2 2, 8, .inl (upd g2 j2 (vp_nar .char ch))))] := hD
  refine lv_if_ne (tgt := 34) hx hb dX5_type_29 (by decide) (fun _ => ?_) (fun h => absurd h (by decide : ¬ (1 : Int32) = 0))
  refine lv_aload_n hx hb dX5_type_34 rfl (lv_at hl 0 rfl) ?_
  refine lv_iload_n hx hb dX5_type_35 rfl (lv_at hl 1 rfl) ?_
  have hPc := hP.sub (ws' := [(h, .inr (5, [.ref se, .ref tx, .ref rs, .ref sp, .int cp, .int mt, .int mf, .int mo, .long msp, .ref md, .ref pf, .ref pt, .int pcs]))]) [0] rfl
  have hDc := hD.sub (ws' := [(h, .inr (5, [.ref se, .ref tx, .ref rs, .ref sp, .int cp, .int mt, .int mf, .int mo, .long msp, .ref md, .ref pf, .ref pt, .int pcs]))]) [0] (by decide) rfl
  have hqc : 0 + 0 ≤ 0 ∧ 0 + 0 ≤ 0 := ⟨by omega, by omega⟩
  refine kl_v (wr := [(rs, .inl (G.2 5, 3, .inr (.inr (.inr (.inr f))))), (r0, .inr (3, [.ref c0, .int (nI j0)])), (c0, .inl (G.2 2, 14, .inl g0)), (tx, .inr (3, [.ref tc, .int (nI j1)])), (tc, .inl (G.2 2, 8, .inl g1)), (r2, .inr (3, [.ref c2, .int (nI (j2 + 1))])), (c2, .inl (G.2 2, 8, .inl (upd g2 j2 (vp_nar .char ch))))]) (va_runV (As := [.int 2]) (rest := []) F.1 (c_forgetN l G _ _ _ _ _ _ _ _ _ _ _ _ _ _ 2 (by decide) _) (cwV 1 hts (aw_V w_241 w_243 ws_X5_forgetMatchIfText w_1 w_244) rfl rfl rfl (by decide +kernel) ⟨by decide, by decide⟩) ⟨cS_blind, va_recv (q := (RX5, TX5, 13)) (ci := 5) (q0 := 0) hK.1 hPc rfl rfl, cS_pre hPc hDc hK⟩ rfl rfl hl.1 rfl (lv_room (Nat.le_of_ble_eq_true rfl)) dX5_type_36 hqc) hP hD hS hA [0] [1, 2, 3, 4, 5, 6, 7] rfl rfl (by decide) (by decide) (fun u H locs hp hP hD hS => ?_)
  have hP : va_P G.1 vwCl [(rs, .inl (G.2 5, 3, .inr (.inr (.inr (.inr f))))), (r0, .inr (3, [.ref c0, .int (nI j0)])), (c0, .inl (G.2 2, 14, .inl g0)), (tx, .inr (3, [.ref tc, .int (nI j1)])), (tc, .inl (G.2 2, 8, .inl g1)), (r2, .inr (3, [.ref c2, .int (nI (j2 + 1))])), (c2, .inl (G.2 2, 8, .inl (upd g2 j2 (vp_nar .char ch)))), (h, .inr (5, [.ref se, .ref tx, .ref rs, .ref sp, .int cp, .int mt, .int mf, .int mo, .long msp, .ref md, .ref pf, .ref pt, .int pcs]))] H := hP
  have hD : va_D A [(rs, .inl (G.2 5, 3, .inr (.inr (.inr (.inr f))))), (r0, .inr (3, [.ref c0, .int (nI j0)])), (c0, .inl (G.2 2, 14, .inl g0)), (tx, .inr (3, [.ref tc, .int (nI j1)])), (tc, .inl (G.2 2, 8, .inl g1)), (r2, .inr (3, [.ref c2, .int (nI (j2 + 1))])), (c2, .inl (G.2 2, 8, .inl (upd g2 j2 (vp_nar .char ch)))), (h, .inr (5, [.ref se, .ref tx, .ref rs, .ref sp, .int cp, .int mt, .int mf, .int mo, .long msp, .ref md, .ref pf, .ref pt, .int pcs]))] := hD
  refine lv_iconst (v := 1) hx hb dX5_type_39 (by decide) ?_
  have hP := hP.sub (ws' := [(h, .inr (5, [.ref se, .ref tx, .ref rs, .ref sp, .int cp, .int mt, .int mf, .int mo, .long msp, .ref md, .ref pf, .ref pt, .int pcs])), (rs, .inl (G.2 5, 3, .inr (.inr (.inr (.inr f))))), (r0, .inr (3, [.ref c0, .int (nI j0)])), (c0, .inl (G.2 2, 14, .inl g0)), (tx, .inr (3, [.ref tc, .int (nI j1)])), (tc, .inl (G.2 2, 8, .inl g1)), (r2, .inr (3, [.ref c2, .int (nI (j2 + 1))])), (c2, .inl (G.2 2, 8, .inl (upd g2 j2 (vp_nar .char ch))))]) [7, 0, 1, 2, 3, 4, 5, 6] rfl
  have hD := hD.sub (ws' := [(h, .inr (5, [.ref se, .ref tx, .ref rs, .ref sp, .int cp, .int mt, .int mf, .int mo, .long msp, .ref md, .ref pf, .ref pt, .int pcs])), (rs, .inl (G.2 5, 3, .inr (.inr (.inr (.inr f))))), (r0, .inr (3, [.ref c0, .int (nI j0)])), (c0, .inl (G.2 2, 14, .inl g0)), (tx, .inr (3, [.ref tc, .int (nI j1)])), (tc, .inl (G.2 2, 8, .inl g1)), (r2, .inr (3, [.ref c2, .int (nI (j2 + 1))])), (c2, .inl (G.2 2, 8, .inl (upd g2 j2 (vp_nar .char ch))))]) [7, 0, 1, 2, 3, 4, 5, 6] (by decide) rfl
  exact en_i F hS 1 () (by rfl) rfl hP hD (by omega) (by omega) dX5_type_40

set_option maxHeartbeats 4000000 in
set_option maxRecDepth 100000 in
theorem c_typeF2 (l : Launch) (G : PG) (h se tx rs sp md pf pt : Nat) (cp mt mf mo pcs : Int32) (msp : Int64) (r0 c0 r2 c2 tc : Nat) (f : Nat → Option Nat) (hf0 : f 0 = some r0) (hf1 : f 1 = some tx) (hf2 : f 2 = some r2) (j0 j1 j2 : Nat) (g0 g1 g2 : Nat → Int32) (ch : Int32) (h32 : ¬ ch < 32) (h126 : ¬ (126 : Int32) < ch) : Ci l yX5_type (Cond.code yX5_type cX5_type 3 (some .boolean) :: aW) { frames := 1, cells := 0, slots := 0, locals := 21 } G [(h, .inr (5, [.ref se, .ref tx, .ref rs, .ref sp, .int cp, .int mt, .int mf, .int mo, .long msp, .ref md, .ref pf, .ref pt, .int pcs])), (rs, .inl (G.2 5, 3, .inr (.inr (.inr (.inr f))))), (r0, .inr (3, [.ref c0, .int (nI j0)])), (c0, .inl (G.2 2, 14, .inl g0)), (tx, .inr (3, [.ref tc, .int (nI j1)])), (tc, .inl (G.2 2, 8, .inl g1)), (r2, .inr (3, [.ref c2, .int (nI 8)])), (c2, .inl (G.2 2, 8, .inl g2))] [.ref h, .int 2, .int ch] (S := Unit) (fun (r9 : Int32) (_ : Unit) => r9 = 0) (fun (_ : Unit) => [(h, .inr (5, [.ref se, .ref tx, .ref rs, .ref sp, .int cp, .int mt, .int mf, .int mo, .long msp, .ref md, .ref pf, .ref pt, .int pcs])), (rs, .inl (G.2 5, 3, .inr (.inr (.inr (.inr f))))), (r0, .inr (3, [.ref c0, .int (nI j0)])), (c0, .inl (G.2 2, 14, .inl g0)), (tx, .inr (3, [.ref tc, .int (nI j1)])), (tc, .inl (G.2 2, 8, .inl g1)), (r2, .inr (3, [.ref c2, .int (nI 8)])), (c2, .inl (G.2 2, 8, .inl g2))]) 0 0 := by
  refine ofB (y := yX5_type) (G := G) (cc := cX5_type) (maxL := 3) (ret := (some .boolean)) (Qc := fun A => va_Qi (fun (r9 : Int32) (_ : Unit) => r9 = 0) (oB G A (fun (_ : Unit) => [(h, .inr (5, [.ref se, .ref tx, .ref rs, .ref sp, .int cp, .int mt, .int mf, .int mo, .long msp, .ref md, .ref pf, .ref pt, .int pcs])), (rs, .inl (G.2 5, 3, .inr (.inr (.inr (.inr f))))), (r0, .inr (3, [.ref c0, .int (nI j0)])), (c0, .inl (G.2 2, 14, .inl g0)), (tx, .inr (3, [.ref tc, .int (nI j1)])), (tc, .inl (G.2 2, 8, .inl g1)), (r2, .inr (3, [.ref c2, .int (nI 8)])), (c2, .inl (G.2 2, 8, .inl g2))])) A) (by decide) rfl ?_
  intro p e s m below meth c A F hK hA hP hD
  have hx := F.1.1; have hb := F.1.2.1; have hml := F.1.2.2.1; have hts := F.1.2.2.2.2
  have hown : s.vm.findClass RX5 = some m.cls := F.1.2.2.2.1
  have hS : va_S A s.heap s.heap [] := va_S.rf
  have hl := lv_entry ([.ref h, .int 2, .int ch]) (n := 3) (Nat.le_of_ble_eq_true rfl)
  rw [lg_entry_eq]
  generalize (lg_sl ([.ref h, .int 2, .int ch]) ++ List.replicate (3 - (lg_sl ([.ref h, .int 2, .int ch])).length) Slot.unset).toArray = ls at hl ⊢
  have hl : lv_has ls 3 [(0, .ref h), (1, .int 2), (2, .int ch)] := hl
  refine lv_iload_n hx hb dX5_type_0 rfl (lv_at hl 1 rfl) ?_
  have hPc := hP.sub (ws' := []) [] rfl
  have hDc := hD.sub (ws' := []) [] (by decide) rfl
  have hqc : 0 + 0 ≤ 0 ∧ 0 + 0 ≤ 0 := ⟨by omega, by omega⟩
  refine kl_i (wr := [(h, .inr (5, [.ref se, .ref tx, .ref rs, .ref sp, .int cp, .int mt, .int mf, .int mo, .long msp, .ref md, .ref pf, .ref pt, .int pcs])), (rs, .inl (G.2 5, 3, .inr (.inr (.inr (.inr f))))), (r0, .inr (3, [.ref c0, .int (nI j0)])), (c0, .inl (G.2 2, 14, .inl g0)), (tx, .inr (3, [.ref tc, .int (nI j1)])), (tc, .inl (G.2 2, 8, .inl g1)), (r2, .inr (3, [.ref c2, .int (nI 8)])), (c2, .inl (G.2 2, 8, .inl g2))]) (va_runS (As := [.int 2]) (rest := []) F.1 (c_isRow l G 2 _) (va_cwS 1 hts (aw_S w_234 w_235 w_1 w_236) rfl rfl rfl (by decide +kernel) ⟨by decide, by decide⟩) ⟨cS_blind, cS_pre hPc hDc hK⟩ rfl rfl hl.1 rfl (lv_room (Nat.le_of_ble_eq_true rfl)) dX5_type_1 hqc) hP hD hS hA [] [0, 1, 2, 3, 4, 5, 6, 7] rfl rfl (by decide) (by decide) (fun r u H locs hp hP hD hS => ?_)
  subst hp
  have hP : va_P G.1 vwCl [(h, .inr (5, [.ref se, .ref tx, .ref rs, .ref sp, .int cp, .int mt, .int mf, .int mo, .long msp, .ref md, .ref pf, .ref pt, .int pcs])), (rs, .inl (G.2 5, 3, .inr (.inr (.inr (.inr f))))), (r0, .inr (3, [.ref c0, .int (nI j0)])), (c0, .inl (G.2 2, 14, .inl g0)), (tx, .inr (3, [.ref tc, .int (nI j1)])), (tc, .inl (G.2 2, 8, .inl g1)), (r2, .inr (3, [.ref c2, .int (nI 8)])), (c2, .inl (G.2 2, 8, .inl g2))] H := hP
  have hD : va_D A [(h, .inr (5, [.ref se, .ref tx, .ref rs, .ref sp, .int cp, .int mt, .int mf, .int mo, .long msp, .ref md, .ref pf, .ref pt, .int pcs])), (rs, .inl (G.2 5, 3, .inr (.inr (.inr (.inr f))))), (r0, .inr (3, [.ref c0, .int (nI j0)])), (c0, .inl (G.2 2, 14, .inl g0)), (tx, .inr (3, [.ref tc, .int (nI j1)])), (tc, .inl (G.2 2, 8, .inl g1)), (r2, .inr (3, [.ref c2, .int (nI 8)])), (c2, .inl (G.2 2, 8, .inl g2))] := hD
  refine lv_if_eq (tgt := 32) hx hb dX5_type_4 (by decide) (fun h => absurd h (by decide : ¬ isRowV 2 = 0)) (fun _ => ?_)
  refine lv_iload_n hx hb dX5_type_7 rfl (lv_at hl 2 rfl) ?_
  refine lv_bipush (v := 32) hx hb dX5_type_8 (by decide) ?_
  refine lv_icmp_lt (tgt := 32) hx hb dX5_type_10 (by decide) (fun h => absurd h h32) (fun _ => ?_)
  refine lv_iload_n hx hb dX5_type_13 rfl (lv_at hl 2 rfl) ?_
  refine lv_bipush (v := 126) hx hb dX5_type_14 (by decide) ?_
  refine lv_icmp_gt (tgt := 32) hx hb dX5_type_16 (by decide) (fun h => absurd h h126) (fun _ => ?_)
  refine lv_aload_n hx hb dX5_type_19 rfl (lv_at hl 0 rfl) ?_
  refine va_get (D := G.1) (ci := 5) (v := .ref rs) (C := RX5) (T := TX5) (N := 13) hx hb hts inX5 hown hK.1 hP 0 rfl rfl 2 (by decide) (hts _ w_192) (fun _ h9 => h9) rfl dX5_type_20 ?_
  refine lv_iload_n hx hb dX5_type_23 rfl (lv_at hl 1 rfl) ?_
  refine va_aldq (D := G.1) hx hb hK.1 hP 1 5 rfl rfl (vp_in_nI (n := 2) (by decide) (by decide)) dX5_type_24 ?_
  refine tp_v (.ref r2) (show va_rf (f 2) = .ref r2 by rw [hf2]; rfl) ?_
  refine lv_iload_n hx hb dX5_type_25 rfl (lv_at hl 2 rfl) ?_
  have hPc := hP.sub (ws' := [(r2, .inr (3, [.ref c2, .int (nI 8)])), (c2, .inl (G.2 2, 8, .inl g2))]) [6, 7] rfl
  have hDc := hD.sub (ws' := [(r2, .inr (3, [.ref c2, .int (nI 8)])), (c2, .inl (G.2 2, 8, .inl g2))]) [6, 7] (by decide) rfl
  have hqc : 0 + 0 ≤ 0 ∧ 0 + 0 ≤ 0 := ⟨by omega, by omega⟩
  refine kl_i (wr := [(h, .inr (5, [.ref se, .ref tx, .ref rs, .ref sp, .int cp, .int mt, .int mf, .int mo, .long msp, .ref md, .ref pf, .ref pt, .int pcs])), (rs, .inl (G.2 5, 3, .inr (.inr (.inr (.inr f))))), (r0, .inr (3, [.ref c0, .int (nI j0)])), (c0, .inl (G.2 2, 14, .inl g0)), (tx, .inr (3, [.ref tc, .int (nI j1)])), (tc, .inl (G.2 2, 8, .inl g1))]) (va_runV (As := [.int ch]) (rest := []) F.1 (c_row_addF l G _ _ 8 g2 ch (by decide) _) (cwV 1 hts (aw_V w_237 w_238 w_239 w_3 w_240) rfl rfl rfl (by decide +kernel) ⟨by decide, by decide⟩) ⟨cS_blind, va_recv (q := (RX3, TX3, 2)) (ci := 3) (q0 := 0) hK.1 hPc rfl rfl, cS_pre hPc hDc hK⟩ rfl rfl hl.1 rfl (lv_room (Nat.le_of_ble_eq_true rfl)) dX5_type_26 hqc) hP hD hS hA [6, 7] [0, 1, 2, 3, 4, 5] rfl rfl (by decide) (by decide) (fun r u H locs hp hP hD hS => ?_)
  subst hp
  have hP : va_P G.1 vwCl [(h, .inr (5, [.ref se, .ref tx, .ref rs, .ref sp, .int cp, .int mt, .int mf, .int mo, .long msp, .ref md, .ref pf, .ref pt, .int pcs])), (rs, .inl (G.2 5, 3, .inr (.inr (.inr (.inr f))))), (r0, .inr (3, [.ref c0, .int (nI j0)])), (c0, .inl (G.2 2, 14, .inl g0)), (tx, .inr (3, [.ref tc, .int (nI j1)])), (tc, .inl (G.2 2, 8, .inl g1)), (r2, .inr (3, [.ref c2, .int (nI 8)])), (c2, .inl (G.2 2, 8, .inl g2))] H := hP
  have hD : va_D A [(h, .inr (5, [.ref se, .ref tx, .ref rs, .ref sp, .int cp, .int mt, .int mf, .int mo, .long msp, .ref md, .ref pf, .ref pt, .int pcs])), (rs, .inl (G.2 5, 3, .inr (.inr (.inr (.inr f))))), (r0, .inr (3, [.ref c0, .int (nI j0)])), (c0, .inl (G.2 2, 14, .inl g0)), (tx, .inr (3, [.ref tc, .int (nI j1)])), (tc, .inl (G.2 2, 8, .inl g1)), (r2, .inr (3, [.ref c2, .int (nI 8)])), (c2, .inl (G.2 2, 8, .inl g2))] := hD
  refine lv_if_ne (tgt := 34) hx hb dX5_type_29 (by decide) (fun h => absurd rfl h) (fun _ => ?_)
  refine lv_iconst (v := 0) hx hb dX5_type_32 (by decide) ?_
  have hP := hP.sub (ws' := [(h, .inr (5, [.ref se, .ref tx, .ref rs, .ref sp, .int cp, .int mt, .int mf, .int mo, .long msp, .ref md, .ref pf, .ref pt, .int pcs])), (rs, .inl (G.2 5, 3, .inr (.inr (.inr (.inr f))))), (r0, .inr (3, [.ref c0, .int (nI j0)])), (c0, .inl (G.2 2, 14, .inl g0)), (tx, .inr (3, [.ref tc, .int (nI j1)])), (tc, .inl (G.2 2, 8, .inl g1)), (r2, .inr (3, [.ref c2, .int (nI 8)])), (c2, .inl (G.2 2, 8, .inl g2))]) [0, 1, 2, 3, 4, 5, 6, 7] rfl
  have hD := hD.sub (ws' := [(h, .inr (5, [.ref se, .ref tx, .ref rs, .ref sp, .int cp, .int mt, .int mf, .int mo, .long msp, .ref md, .ref pf, .ref pt, .int pcs])), (rs, .inl (G.2 5, 3, .inr (.inr (.inr (.inr f))))), (r0, .inr (3, [.ref c0, .int (nI j0)])), (c0, .inl (G.2 2, 14, .inl g0)), (tx, .inr (3, [.ref tc, .int (nI j1)])), (tc, .inl (G.2 2, 8, .inl g1)), (r2, .inr (3, [.ref c2, .int (nI 8)])), (c2, .inl (G.2 2, 8, .inl g2))]) [0, 1, 2, 3, 4, 5, 6, 7] (by decide) rfl
  exact en_i F hS 0 () (by rfl) rfl hP hD (by omega) (by omega) dX5_type_33

set_option maxHeartbeats 4000000 in
set_option maxRecDepth 100000 in
theorem c_clear2 (l : Launch) (G : PG) (h se tx rs sp md pf pt : Nat) (cp mt mf mo pcs : Int32) (msp : Int64) (r0 c0 r2 c2 tc : Nat) (f : Nat → Option Nat) (hf0 : f 0 = some r0) (hf1 : f 1 = some tx) (hf2 : f 2 = some r2) (j0 j1 j2 : Nat) (g0 g1 g2 : Nat → Int32) : Ci l yX5_clear (Cond.code yX5_clear cX5_clear 2 (some .boolean) :: aW) { frames := 1, cells := 0, slots := 0, locals := 21 } G [(h, .inr (5, [.ref se, .ref tx, .ref rs, .ref sp, .int cp, .int mt, .int mf, .int mo, .long msp, .ref md, .ref pf, .ref pt, .int pcs])), (rs, .inl (G.2 5, 3, .inr (.inr (.inr (.inr f))))), (r0, .inr (3, [.ref c0, .int (nI j0)])), (c0, .inl (G.2 2, 14, .inl g0)), (tx, .inr (3, [.ref tc, .int (nI j1)])), (tc, .inl (G.2 2, 8, .inl g1)), (r2, .inr (3, [.ref c2, .int (nI j2)])), (c2, .inl (G.2 2, 8, .inl g2))] [.ref h, .int 2] (S := Unit) (fun (r9 : Int32) (_ : Unit) => r9 = 1) (fun (_ : Unit) => [(h, .inr (5, [.ref se, .ref tx, .ref rs, .ref sp, .int cp, .int mt, .int mf, .int mo, .long msp, .ref md, .ref pf, .ref pt, .int pcs])), (rs, .inl (G.2 5, 3, .inr (.inr (.inr (.inr f))))), (r0, .inr (3, [.ref c0, .int (nI j0)])), (c0, .inl (G.2 2, 14, .inl g0)), (tx, .inr (3, [.ref tc, .int (nI j1)])), (tc, .inl (G.2 2, 8, .inl g1)), (r2, .inr (3, [.ref c2, .int (nI 0)])), (c2, .inl (G.2 2, 8, .inl g2))]) 0 0 := by
  refine ofB (y := yX5_clear) (G := G) (cc := cX5_clear) (maxL := 2) (ret := (some .boolean)) (Qc := fun A => va_Qi (fun (r9 : Int32) (_ : Unit) => r9 = 1) (oB G A (fun (_ : Unit) => [(h, .inr (5, [.ref se, .ref tx, .ref rs, .ref sp, .int cp, .int mt, .int mf, .int mo, .long msp, .ref md, .ref pf, .ref pt, .int pcs])), (rs, .inl (G.2 5, 3, .inr (.inr (.inr (.inr f))))), (r0, .inr (3, [.ref c0, .int (nI j0)])), (c0, .inl (G.2 2, 14, .inl g0)), (tx, .inr (3, [.ref tc, .int (nI j1)])), (tc, .inl (G.2 2, 8, .inl g1)), (r2, .inr (3, [.ref c2, .int (nI 0)])), (c2, .inl (G.2 2, 8, .inl g2))])) A) (by decide) rfl ?_
  intro p e s m below meth c A F hK hA hP hD
  have hx := F.1.1; have hb := F.1.2.1; have hml := F.1.2.2.1; have hts := F.1.2.2.2.2
  have hown : s.vm.findClass RX5 = some m.cls := F.1.2.2.2.1
  have hS : va_S A s.heap s.heap [] := va_S.rf
  have hl := lv_entry ([.ref h, .int 2]) (n := 2) (Nat.le_of_ble_eq_true rfl)
  rw [lg_entry_eq]
  generalize (lg_sl ([.ref h, .int 2]) ++ List.replicate (2 - (lg_sl ([.ref h, .int 2])).length) Slot.unset).toArray = ls at hl ⊢
  have hl : lv_has ls 2 [(0, .ref h), (1, .int 2)] := hl
  refine lv_iload_n hx hb dX5_clear_0 rfl (lv_at hl 1 rfl) ?_
  have hPc := hP.sub (ws' := []) [] rfl
  have hDc := hD.sub (ws' := []) [] (by decide) rfl
  have hqc : 0 + 0 ≤ 0 ∧ 0 + 0 ≤ 0 := ⟨by omega, by omega⟩
  refine kl_i (wr := [(h, .inr (5, [.ref se, .ref tx, .ref rs, .ref sp, .int cp, .int mt, .int mf, .int mo, .long msp, .ref md, .ref pf, .ref pt, .int pcs])), (rs, .inl (G.2 5, 3, .inr (.inr (.inr (.inr f))))), (r0, .inr (3, [.ref c0, .int (nI j0)])), (c0, .inl (G.2 2, 14, .inl g0)), (tx, .inr (3, [.ref tc, .int (nI j1)])), (tc, .inl (G.2 2, 8, .inl g1)), (r2, .inr (3, [.ref c2, .int (nI j2)])), (c2, .inl (G.2 2, 8, .inl g2))]) (va_runS (As := [.int 2]) (rest := []) F.1 (c_isRow l G 2 _) (va_cwS 1 hts (aw_S w_234 w_235 w_1 w_236) rfl rfl rfl (by decide +kernel) ⟨by decide, by decide⟩) ⟨cS_blind, cS_pre hPc hDc hK⟩ rfl rfl hl.1 rfl (lv_room (Nat.le_of_ble_eq_true rfl)) dX5_clear_1 hqc) hP hD hS hA [] [0, 1, 2, 3, 4, 5, 6, 7] rfl rfl (by decide) (by decide) (fun r u H locs hp hP hD hS => ?_)
  subst hp
  have hP : va_P G.1 vwCl [(h, .inr (5, [.ref se, .ref tx, .ref rs, .ref sp, .int cp, .int mt, .int mf, .int mo, .long msp, .ref md, .ref pf, .ref pt, .int pcs])), (rs, .inl (G.2 5, 3, .inr (.inr (.inr (.inr f))))), (r0, .inr (3, [.ref c0, .int (nI j0)])), (c0, .inl (G.2 2, 14, .inl g0)), (tx, .inr (3, [.ref tc, .int (nI j1)])), (tc, .inl (G.2 2, 8, .inl g1)), (r2, .inr (3, [.ref c2, .int (nI j2)])), (c2, .inl (G.2 2, 8, .inl g2))] H := hP
  have hD : va_D A [(h, .inr (5, [.ref se, .ref tx, .ref rs, .ref sp, .int cp, .int mt, .int mf, .int mo, .long msp, .ref md, .ref pf, .ref pt, .int pcs])), (rs, .inl (G.2 5, 3, .inr (.inr (.inr (.inr f))))), (r0, .inr (3, [.ref c0, .int (nI j0)])), (c0, .inl (G.2 2, 14, .inl g0)), (tx, .inr (3, [.ref tc, .int (nI j1)])), (tc, .inl (G.2 2, 8, .inl g1)), (r2, .inr (3, [.ref c2, .int (nI j2)])), (c2, .inl (G.2 2, 8, .inl g2))] := hD
  refine lv_if_ne (tgt := 9) hx hb dX5_clear_4 (by decide) (fun _ => ?_) (fun h => absurd h (by decide : ¬ isRowV 2 = 0))
  refine lv_aload_n hx hb dX5_clear_9 rfl (lv_at hl 0 rfl) ?_
  refine va_get (D := G.1) (ci := 5) (v := .ref rs) (C := RX5) (T := TX5) (N := 13) hx hb hts inX5 hown hK.1 hP 0 rfl rfl 2 (by decide) (hts _ w_192) (fun _ h9 => h9) rfl dX5_clear_10 ?_
  refine lv_iload_n hx hb dX5_clear_13 rfl (lv_at hl 1 rfl) ?_
  refine va_aldq (D := G.1) hx hb hK.1 hP 1 5 rfl rfl (vp_in_nI (n := 2) (by decide) (by decide)) dX5_clear_14 ?_
  refine tp_v (.ref r2) (show va_rf (f 2) = .ref r2 by rw [hf2]; rfl) ?_
  have hPc := hP.sub (ws' := [(r2, .inr (3, [.ref c2, .int (nI j2)])), (c2, .inl (G.2 2, 8, .inl g2))]) [6, 7] rfl
  have hDc := hD.sub (ws' := [(r2, .inr (3, [.ref c2, .int (nI j2)])), (c2, .inl (G.2 2, 8, .inl g2))]) [6, 7] (by decide) rfl
  have hqc : 0 + 0 ≤ 0 ∧ 0 + 0 ≤ 0 := ⟨by omega, by omega⟩
  refine kl_v (wr := [(h, .inr (5, [.ref se, .ref tx, .ref rs, .ref sp, .int cp, .int mt, .int mf, .int mo, .long msp, .ref md, .ref pf, .ref pt, .int pcs])), (rs, .inl (G.2 5, 3, .inr (.inr (.inr (.inr f))))), (r0, .inr (3, [.ref c0, .int (nI j0)])), (c0, .inl (G.2 2, 14, .inl g0)), (tx, .inr (3, [.ref tc, .int (nI j1)])), (tc, .inl (G.2 2, 8, .inl g1))]) (va_runV (As := []) (rest := []) F.1 (c_row_empty l G _ _ _ _ _ _) (cwV 0 hts (aw_V w_249 w_250 w_251 w_3 w_252) rfl rfl rfl (by decide +kernel) ⟨by decide, by decide⟩) ⟨cS_blind, va_recv (q := (RX3, TX3, 2)) (ci := 3) (q0 := 0) hK.1 hPc rfl rfl, cS_pre hPc hDc hK⟩ rfl rfl hl.1 rfl (lv_room (Nat.le_of_ble_eq_true rfl)) dX5_clear_15 hqc) hP hD hS hA [6, 7] [0, 1, 2, 3, 4, 5] rfl rfl (by decide) (by decide) (fun u H locs hp hP hD hS => ?_)
  have hP : va_P G.1 vwCl [(h, .inr (5, [.ref se, .ref tx, .ref rs, .ref sp, .int cp, .int mt, .int mf, .int mo, .long msp, .ref md, .ref pf, .ref pt, .int pcs])), (rs, .inl (G.2 5, 3, .inr (.inr (.inr (.inr f))))), (r0, .inr (3, [.ref c0, .int (nI j0)])), (c0, .inl (G.2 2, 14, .inl g0)), (tx, .inr (3, [.ref tc, .int (nI j1)])), (tc, .inl (G.2 2, 8, .inl g1)), (r2, .inr (3, [.ref c2, .int 0])), (c2, .inl (G.2 2, 8, .inl g2))] H := hP
  have hD : va_D A [(h, .inr (5, [.ref se, .ref tx, .ref rs, .ref sp, .int cp, .int mt, .int mf, .int mo, .long msp, .ref md, .ref pf, .ref pt, .int pcs])), (rs, .inl (G.2 5, 3, .inr (.inr (.inr (.inr f))))), (r0, .inr (3, [.ref c0, .int (nI j0)])), (c0, .inl (G.2 2, 14, .inl g0)), (tx, .inr (3, [.ref tc, .int (nI j1)])), (tc, .inl (G.2 2, 8, .inl g1)), (r2, .inr (3, [.ref c2, .int 0])), (c2, .inl (G.2 2, 8, .inl g2))] := hD
  refine lv_aload_n hx hb dX5_clear_18 rfl (lv_at hl 0 rfl) ?_
  refine lv_iload_n hx hb dX5_clear_19 rfl (lv_at hl 1 rfl) ?_
  have hPc := hP.sub (ws' := [(h, .inr (5, [.ref se, .ref tx, .ref rs, .ref sp, .int cp, .int mt, .int mf, .int mo, .long msp, .ref md, .ref pf, .ref pt, .int pcs]))]) [0] rfl
  have hDc := hD.sub (ws' := [(h, .inr (5, [.ref se, .ref tx, .ref rs, .ref sp, .int cp, .int mt, .int mf, .int mo, .long msp, .ref md, .ref pf, .ref pt, .int pcs]))]) [0] (by decide) rfl
  have hqc : 0 + 0 ≤ 0 ∧ 0 + 0 ≤ 0 := ⟨by omega, by omega⟩
  refine kl_v (wr := [(rs, .inl (G.2 5, 3, .inr (.inr (.inr (.inr f))))), (r0, .inr (3, [.ref c0, .int (nI j0)])), (c0, .inl (G.2 2, 14, .inl g0)), (tx, .inr (3, [.ref tc, .int (nI j1)])), (tc, .inl (G.2 2, 8, .inl g1)), (r2, .inr (3, [.ref c2, .int 0])), (c2, .inl (G.2 2, 8, .inl g2))]) (va_runV (As := [.int 2]) (rest := []) F.1 (c_forgetN l G _ _ _ _ _ _ _ _ _ _ _ _ _ _ 2 (by decide) _) (cwV 1 hts (aw_V w_241 w_243 ws_X5_forgetMatchIfText w_1 w_244) rfl rfl rfl (by decide +kernel) ⟨by decide, by decide⟩) ⟨cS_blind, va_recv (q := (RX5, TX5, 13)) (ci := 5) (q0 := 0) hK.1 hPc rfl rfl, cS_pre hPc hDc hK⟩ rfl rfl hl.1 rfl (lv_room (Nat.le_of_ble_eq_true rfl)) dX5_clear_20 hqc) hP hD hS hA [0] [1, 2, 3, 4, 5, 6, 7] rfl rfl (by decide) (by decide) (fun u H locs hp hP hD hS => ?_)
  have hP : va_P G.1 vwCl [(rs, .inl (G.2 5, 3, .inr (.inr (.inr (.inr f))))), (r0, .inr (3, [.ref c0, .int (nI j0)])), (c0, .inl (G.2 2, 14, .inl g0)), (tx, .inr (3, [.ref tc, .int (nI j1)])), (tc, .inl (G.2 2, 8, .inl g1)), (r2, .inr (3, [.ref c2, .int 0])), (c2, .inl (G.2 2, 8, .inl g2)), (h, .inr (5, [.ref se, .ref tx, .ref rs, .ref sp, .int cp, .int mt, .int mf, .int mo, .long msp, .ref md, .ref pf, .ref pt, .int pcs]))] H := hP
  have hD : va_D A [(rs, .inl (G.2 5, 3, .inr (.inr (.inr (.inr f))))), (r0, .inr (3, [.ref c0, .int (nI j0)])), (c0, .inl (G.2 2, 14, .inl g0)), (tx, .inr (3, [.ref tc, .int (nI j1)])), (tc, .inl (G.2 2, 8, .inl g1)), (r2, .inr (3, [.ref c2, .int 0])), (c2, .inl (G.2 2, 8, .inl g2)), (h, .inr (5, [.ref se, .ref tx, .ref rs, .ref sp, .int cp, .int mt, .int mf, .int mo, .long msp, .ref md, .ref pf, .ref pt, .int pcs]))] := hD
  refine lv_iconst (v := 1) hx hb dX5_clear_23 (by decide) ?_
  have hP := hP.sub (ws' := [(h, .inr (5, [.ref se, .ref tx, .ref rs, .ref sp, .int cp, .int mt, .int mf, .int mo, .long msp, .ref md, .ref pf, .ref pt, .int pcs])), (rs, .inl (G.2 5, 3, .inr (.inr (.inr (.inr f))))), (r0, .inr (3, [.ref c0, .int (nI j0)])), (c0, .inl (G.2 2, 14, .inl g0)), (tx, .inr (3, [.ref tc, .int (nI j1)])), (tc, .inl (G.2 2, 8, .inl g1)), (r2, .inr (3, [.ref c2, .int (nI 0)])), (c2, .inl (G.2 2, 8, .inl g2))]) [7, 0, 1, 2, 3, 4, 5, 6] rfl
  have hD := hD.sub (ws' := [(h, .inr (5, [.ref se, .ref tx, .ref rs, .ref sp, .int cp, .int mt, .int mf, .int mo, .long msp, .ref md, .ref pf, .ref pt, .int pcs])), (rs, .inl (G.2 5, 3, .inr (.inr (.inr (.inr f))))), (r0, .inr (3, [.ref c0, .int (nI j0)])), (c0, .inl (G.2 2, 14, .inl g0)), (tx, .inr (3, [.ref tc, .int (nI j1)])), (tc, .inl (G.2 2, 8, .inl g1)), (r2, .inr (3, [.ref c2, .int (nI 0)])), (c2, .inl (G.2 2, 8, .inl g2))]) [7, 0, 1, 2, 3, 4, 5, 6] (by decide) rfl
  exact en_i F hS 1 () (by rfl) rfl hP hD (by omega) (by omega) dX5_clear_24

set_option maxHeartbeats 4000000 in
set_option maxRecDepth 100000 in
theorem c_len2 (l : Launch) (G : PG) (h se tx rs sp md pf pt : Nat) (cp mt mf mo pcs : Int32) (msp : Int64) (r0 c0 r2 c2 tc : Nat) (f : Nat → Option Nat) (hf0 : f 0 = some r0) (hf1 : f 1 = some tx) (hf2 : f 2 = some r2) (j0 j1 j2 : Nat) (g0 g1 g2 : Nat → Int32) : Ci l yX5_length (Cond.code yX5_length cX5_length 2 (some .int) :: aW) { frames := 1, cells := 0, slots := 0, locals := 21 } G [(h, .inr (5, [.ref se, .ref tx, .ref rs, .ref sp, .int cp, .int mt, .int mf, .int mo, .long msp, .ref md, .ref pf, .ref pt, .int pcs])), (rs, .inl (G.2 5, 3, .inr (.inr (.inr (.inr f))))), (r0, .inr (3, [.ref c0, .int (nI j0)])), (c0, .inl (G.2 2, 14, .inl g0)), (tx, .inr (3, [.ref tc, .int (nI j1)])), (tc, .inl (G.2 2, 8, .inl g1)), (r2, .inr (3, [.ref c2, .int (nI j2)])), (c2, .inl (G.2 2, 8, .inl g2))] [.ref h, .int 2] (S := Unit) (fun (r9 : Int32) (_ : Unit) => r9 = nI j2) (fun (_ : Unit) => [(h, .inr (5, [.ref se, .ref tx, .ref rs, .ref sp, .int cp, .int mt, .int mf, .int mo, .long msp, .ref md, .ref pf, .ref pt, .int pcs])), (rs, .inl (G.2 5, 3, .inr (.inr (.inr (.inr f))))), (r0, .inr (3, [.ref c0, .int (nI j0)])), (c0, .inl (G.2 2, 14, .inl g0)), (tx, .inr (3, [.ref tc, .int (nI j1)])), (tc, .inl (G.2 2, 8, .inl g1)), (r2, .inr (3, [.ref c2, .int (nI j2)])), (c2, .inl (G.2 2, 8, .inl g2))]) 0 0 := by
  refine ofB (y := yX5_length) (G := G) (cc := cX5_length) (maxL := 2) (ret := (some .int)) (Qc := fun A => va_Qi (fun (r9 : Int32) (_ : Unit) => r9 = nI j2) (oB G A (fun (_ : Unit) => [(h, .inr (5, [.ref se, .ref tx, .ref rs, .ref sp, .int cp, .int mt, .int mf, .int mo, .long msp, .ref md, .ref pf, .ref pt, .int pcs])), (rs, .inl (G.2 5, 3, .inr (.inr (.inr (.inr f))))), (r0, .inr (3, [.ref c0, .int (nI j0)])), (c0, .inl (G.2 2, 14, .inl g0)), (tx, .inr (3, [.ref tc, .int (nI j1)])), (tc, .inl (G.2 2, 8, .inl g1)), (r2, .inr (3, [.ref c2, .int (nI j2)])), (c2, .inl (G.2 2, 8, .inl g2))])) A) (by decide) rfl ?_
  intro p e s m below meth c A F hK hA hP hD
  have hx := F.1.1; have hb := F.1.2.1; have hml := F.1.2.2.1; have hts := F.1.2.2.2.2
  have hown : s.vm.findClass RX5 = some m.cls := F.1.2.2.2.1
  have hS : va_S A s.heap s.heap [] := va_S.rf
  have hl := lv_entry ([.ref h, .int 2]) (n := 2) (Nat.le_of_ble_eq_true rfl)
  rw [lg_entry_eq]
  generalize (lg_sl ([.ref h, .int 2]) ++ List.replicate (2 - (lg_sl ([.ref h, .int 2])).length) Slot.unset).toArray = ls at hl ⊢
  have hl : lv_has ls 2 [(0, .ref h), (1, .int 2)] := hl
  refine lv_iload_n hx hb dX5_length_0 rfl (lv_at hl 1 rfl) ?_
  have hPc := hP.sub (ws' := []) [] rfl
  have hDc := hD.sub (ws' := []) [] (by decide) rfl
  have hqc : 0 + 0 ≤ 0 ∧ 0 + 0 ≤ 0 := ⟨by omega, by omega⟩
  refine kl_i (wr := [(h, .inr (5, [.ref se, .ref tx, .ref rs, .ref sp, .int cp, .int mt, .int mf, .int mo, .long msp, .ref md, .ref pf, .ref pt, .int pcs])), (rs, .inl (G.2 5, 3, .inr (.inr (.inr (.inr f))))), (r0, .inr (3, [.ref c0, .int (nI j0)])), (c0, .inl (G.2 2, 14, .inl g0)), (tx, .inr (3, [.ref tc, .int (nI j1)])), (tc, .inl (G.2 2, 8, .inl g1)), (r2, .inr (3, [.ref c2, .int (nI j2)])), (c2, .inl (G.2 2, 8, .inl g2))]) (va_runS (As := [.int 2]) (rest := []) F.1 (c_isRow l G 2 _) (va_cwS 1 hts (aw_S w_234 w_235 w_1 w_236) rfl rfl rfl (by decide +kernel) ⟨by decide, by decide⟩) ⟨cS_blind, cS_pre hPc hDc hK⟩ rfl rfl hl.1 rfl (lv_room (Nat.le_of_ble_eq_true rfl)) dX5_length_1 hqc) hP hD hS hA [] [0, 1, 2, 3, 4, 5, 6, 7] rfl rfl (by decide) (by decide) (fun r u H locs hp hP hD hS => ?_)
  subst hp
  have hP : va_P G.1 vwCl [(h, .inr (5, [.ref se, .ref tx, .ref rs, .ref sp, .int cp, .int mt, .int mf, .int mo, .long msp, .ref md, .ref pf, .ref pt, .int pcs])), (rs, .inl (G.2 5, 3, .inr (.inr (.inr (.inr f))))), (r0, .inr (3, [.ref c0, .int (nI j0)])), (c0, .inl (G.2 2, 14, .inl g0)), (tx, .inr (3, [.ref tc, .int (nI j1)])), (tc, .inl (G.2 2, 8, .inl g1)), (r2, .inr (3, [.ref c2, .int (nI j2)])), (c2, .inl (G.2 2, 8, .inl g2))] H := hP
  have hD : va_D A [(h, .inr (5, [.ref se, .ref tx, .ref rs, .ref sp, .int cp, .int mt, .int mf, .int mo, .long msp, .ref md, .ref pf, .ref pt, .int pcs])), (rs, .inl (G.2 5, 3, .inr (.inr (.inr (.inr f))))), (r0, .inr (3, [.ref c0, .int (nI j0)])), (c0, .inl (G.2 2, 14, .inl g0)), (tx, .inr (3, [.ref tc, .int (nI j1)])), (tc, .inl (G.2 2, 8, .inl g1)), (r2, .inr (3, [.ref c2, .int (nI j2)])), (c2, .inl (G.2 2, 8, .inl g2))] := hD
  refine lv_if_eq (tgt := 19) hx hb dX5_length_4 (by decide) (fun h => absurd h (by decide : ¬ isRowV 2 = 0)) (fun _ => ?_)
  refine lv_aload_n hx hb dX5_length_7 rfl (lv_at hl 0 rfl) ?_
  refine va_get (D := G.1) (ci := 5) (v := .ref rs) (C := RX5) (T := TX5) (N := 13) hx hb hts inX5 hown hK.1 hP 0 rfl rfl 2 (by decide) (hts _ w_192) (fun _ h9 => h9) rfl dX5_length_8 ?_
  refine lv_iload_n hx hb dX5_length_11 rfl (lv_at hl 1 rfl) ?_
  refine va_aldq (D := G.1) hx hb hK.1 hP 1 5 rfl rfl (vp_in_nI (n := 2) (by decide) (by decide)) dX5_length_12 ?_
  refine tp_v (.ref r2) (show va_rf (f 2) = .ref r2 by rw [hf2]; rfl) ?_
  have hPc := hP.sub (ws' := [(r2, .inr (3, [.ref c2, .int (nI j2)])), (c2, .inl (G.2 2, 8, .inl g2))]) [6, 7] rfl
  have hDc := hD.sub (ws' := [(r2, .inr (3, [.ref c2, .int (nI j2)])), (c2, .inl (G.2 2, 8, .inl g2))]) [6, 7] (by decide) rfl
  have hqc : 0 + 0 ≤ 0 ∧ 0 + 0 ≤ 0 := ⟨by omega, by omega⟩
  refine kl_i (wr := [(h, .inr (5, [.ref se, .ref tx, .ref rs, .ref sp, .int cp, .int mt, .int mf, .int mo, .long msp, .ref md, .ref pf, .ref pt, .int pcs])), (rs, .inl (G.2 5, 3, .inr (.inr (.inr (.inr f))))), (r0, .inr (3, [.ref c0, .int (nI j0)])), (c0, .inl (G.2 2, 14, .inl g0)), (tx, .inr (3, [.ref tc, .int (nI j1)])), (tc, .inl (G.2 2, 8, .inl g1))]) (va_runV (As := []) (rest := []) F.1 (c_row_size l G _ _ _ _ _ _) (cwV 0 hts (aw_V w_257 w_258 w_259 w_3 w_260) rfl rfl rfl (by decide +kernel) ⟨by decide, by decide⟩) ⟨cS_blind, va_recv (q := (RX3, TX3, 2)) (ci := 3) (q0 := 0) hK.1 hPc rfl rfl, cS_pre hPc hDc hK⟩ rfl rfl hl.1 rfl (lv_room (Nat.le_of_ble_eq_true rfl)) dX5_length_13 hqc) hP hD hS hA [6, 7] [0, 1, 2, 3, 4, 5] rfl rfl (by decide) (by decide) (fun r u H locs hp hP hD hS => ?_)
  subst hp
  have hP : va_P G.1 vwCl [(h, .inr (5, [.ref se, .ref tx, .ref rs, .ref sp, .int cp, .int mt, .int mf, .int mo, .long msp, .ref md, .ref pf, .ref pt, .int pcs])), (rs, .inl (G.2 5, 3, .inr (.inr (.inr (.inr f))))), (r0, .inr (3, [.ref c0, .int (nI j0)])), (c0, .inl (G.2 2, 14, .inl g0)), (tx, .inr (3, [.ref tc, .int (nI j1)])), (tc, .inl (G.2 2, 8, .inl g1)), (r2, .inr (3, [.ref c2, .int (nI j2)])), (c2, .inl (G.2 2, 8, .inl g2))] H := hP
  have hD : va_D A [(h, .inr (5, [.ref se, .ref tx, .ref rs, .ref sp, .int cp, .int mt, .int mf, .int mo, .long msp, .ref md, .ref pf, .ref pt, .int pcs])), (rs, .inl (G.2 5, 3, .inr (.inr (.inr (.inr f))))), (r0, .inr (3, [.ref c0, .int (nI j0)])), (c0, .inl (G.2 2, 14, .inl g0)), (tx, .inr (3, [.ref tc, .int (nI j1)])), (tc, .inl (G.2 2, 8, .inl g1)), (r2, .inr (3, [.ref c2, .int (nI j2)])), (c2, .inl (G.2 2, 8, .inl g2))] := hD
  refine lv_goto (tgt := 20) hx hb dX5_length_16 (by decide) ?_
  have hP := hP.sub (ws' := [(h, .inr (5, [.ref se, .ref tx, .ref rs, .ref sp, .int cp, .int mt, .int mf, .int mo, .long msp, .ref md, .ref pf, .ref pt, .int pcs])), (rs, .inl (G.2 5, 3, .inr (.inr (.inr (.inr f))))), (r0, .inr (3, [.ref c0, .int (nI j0)])), (c0, .inl (G.2 2, 14, .inl g0)), (tx, .inr (3, [.ref tc, .int (nI j1)])), (tc, .inl (G.2 2, 8, .inl g1)), (r2, .inr (3, [.ref c2, .int (nI j2)])), (c2, .inl (G.2 2, 8, .inl g2))]) [0, 1, 2, 3, 4, 5, 6, 7] rfl
  have hD := hD.sub (ws' := [(h, .inr (5, [.ref se, .ref tx, .ref rs, .ref sp, .int cp, .int mt, .int mf, .int mo, .long msp, .ref md, .ref pf, .ref pt, .int pcs])), (rs, .inl (G.2 5, 3, .inr (.inr (.inr (.inr f))))), (r0, .inr (3, [.ref c0, .int (nI j0)])), (c0, .inl (G.2 2, 14, .inl g0)), (tx, .inr (3, [.ref tc, .int (nI j1)])), (tc, .inl (G.2 2, 8, .inl g1)), (r2, .inr (3, [.ref c2, .int (nI j2)])), (c2, .inl (G.2 2, 8, .inl g2))]) [0, 1, 2, 3, 4, 5, 6, 7] (by decide) rfl
  exact en_i F hS (nI j2) () (by rfl) rfl hP hD (by omega) (by omega) dX5_length_20

theorem dX5_clear_7 : decode cX5_clear 7 = .ok (.iconst 0, 1) := by decide +kernel
theorem dX5_clear_8 : decode cX5_clear 8 = .ok (.ireturn, 1) := by decide +kernel
set_option maxHeartbeats 4000000 in
set_option maxRecDepth 100000 in
theorem c_clear_bad (l : Launch) (G : PG) (h se tx rs sp md pf pt : Nat) (cp mt mf mo pcs : Int32) (msp : Int64) (r0 c0 r2 c2 tc : Nat) (f : Nat → Option Nat) (hf0 : f 0 = some r0) (hf1 : f 1 = some tx) (hf2 : f 2 = some r2) (j0 j1 j2 : Nat) (g0 g1 g2 : Nat → Int32) (r : Int32) (hbad : isRowV r = 0) : Ci l yX5_clear (Cond.code yX5_clear cX5_clear 2 (some .boolean) :: aW) { frames := 1, cells := 0, slots := 0, locals := 21 } G [(h, .inr (5, [.ref se, .ref tx, .ref rs, .ref sp, .int cp, .int mt, .int mf, .int mo, .long msp, .ref md, .ref pf, .ref pt, .int pcs])), (rs, .inl (G.2 5, 3, .inr (.inr (.inr (.inr f))))), (r0, .inr (3, [.ref c0, .int (nI j0)])), (c0, .inl (G.2 2, 14, .inl g0)), (tx, .inr (3, [.ref tc, .int (nI j1)])), (tc, .inl (G.2 2, 8, .inl g1)), (r2, .inr (3, [.ref c2, .int (nI j2)])), (c2, .inl (G.2 2, 8, .inl g2))] [.ref h, .int r] (S := Unit) (fun (r9 : Int32) (_ : Unit) => r9 = 0) (fun (_ : Unit) => [(h, .inr (5, [.ref se, .ref tx, .ref rs, .ref sp, .int cp, .int mt, .int mf, .int mo, .long msp, .ref md, .ref pf, .ref pt, .int pcs])), (rs, .inl (G.2 5, 3, .inr (.inr (.inr (.inr f))))), (r0, .inr (3, [.ref c0, .int (nI j0)])), (c0, .inl (G.2 2, 14, .inl g0)), (tx, .inr (3, [.ref tc, .int (nI j1)])), (tc, .inl (G.2 2, 8, .inl g1)), (r2, .inr (3, [.ref c2, .int (nI j2)])), (c2, .inl (G.2 2, 8, .inl g2))]) 0 0 := by
  refine ofB (y := yX5_clear) (G := G) (cc := cX5_clear) (maxL := 2) (ret := (some .boolean)) (Qc := fun A => va_Qi (fun (r9 : Int32) (_ : Unit) => r9 = 0) (oB G A (fun (_ : Unit) => [(h, .inr (5, [.ref se, .ref tx, .ref rs, .ref sp, .int cp, .int mt, .int mf, .int mo, .long msp, .ref md, .ref pf, .ref pt, .int pcs])), (rs, .inl (G.2 5, 3, .inr (.inr (.inr (.inr f))))), (r0, .inr (3, [.ref c0, .int (nI j0)])), (c0, .inl (G.2 2, 14, .inl g0)), (tx, .inr (3, [.ref tc, .int (nI j1)])), (tc, .inl (G.2 2, 8, .inl g1)), (r2, .inr (3, [.ref c2, .int (nI j2)])), (c2, .inl (G.2 2, 8, .inl g2))])) A) (by decide) rfl ?_
  intro p e s m below meth c A F hK hA hP hD
  have hx := F.1.1; have hb := F.1.2.1; have hml := F.1.2.2.1; have hts := F.1.2.2.2.2
  have hown : s.vm.findClass RX5 = some m.cls := F.1.2.2.2.1
  have hS : va_S A s.heap s.heap [] := va_S.rf
  have hl := lv_entry ([.ref h, .int r]) (n := 2) (Nat.le_of_ble_eq_true rfl)
  rw [lg_entry_eq]
  generalize (lg_sl ([.ref h, .int r]) ++ List.replicate (2 - (lg_sl ([.ref h, .int r])).length) Slot.unset).toArray = ls at hl ⊢
  have hl : lv_has ls 2 [(0, .ref h), (1, .int r)] := hl
  refine lv_iload_n hx hb dX5_clear_0 rfl (lv_at hl 1 rfl) ?_
  have hPc := hP.sub (ws' := []) [] rfl
  have hDc := hD.sub (ws' := []) [] (by decide) rfl
  have hqc : 0 + 0 ≤ 0 ∧ 0 + 0 ≤ 0 := ⟨by omega, by omega⟩
  refine kl_i (wr := [(h, .inr (5, [.ref se, .ref tx, .ref rs, .ref sp, .int cp, .int mt, .int mf, .int mo, .long msp, .ref md, .ref pf, .ref pt, .int pcs])), (rs, .inl (G.2 5, 3, .inr (.inr (.inr (.inr f))))), (r0, .inr (3, [.ref c0, .int (nI j0)])), (c0, .inl (G.2 2, 14, .inl g0)), (tx, .inr (3, [.ref tc, .int (nI j1)])), (tc, .inl (G.2 2, 8, .inl g1)), (r2, .inr (3, [.ref c2, .int (nI j2)])), (c2, .inl (G.2 2, 8, .inl g2))]) (va_runS (As := [.int r]) (rest := []) F.1 (c_isRow l G r _) (va_cwS 1 hts (aw_S w_234 w_235 w_1 w_236) rfl rfl rfl (by decide +kernel) ⟨by decide, by decide⟩) ⟨cS_blind, cS_pre hPc hDc hK⟩ rfl rfl hl.1 rfl (lv_room (Nat.le_of_ble_eq_true rfl)) dX5_clear_1 hqc) hP hD hS hA [] [0, 1, 2, 3, 4, 5, 6, 7] rfl rfl (by decide) (by decide) (fun r u H locs hp hP hD hS => ?_)
  subst hp
  have hP : va_P G.1 vwCl [(h, .inr (5, [.ref se, .ref tx, .ref rs, .ref sp, .int cp, .int mt, .int mf, .int mo, .long msp, .ref md, .ref pf, .ref pt, .int pcs])), (rs, .inl (G.2 5, 3, .inr (.inr (.inr (.inr f))))), (r0, .inr (3, [.ref c0, .int (nI j0)])), (c0, .inl (G.2 2, 14, .inl g0)), (tx, .inr (3, [.ref tc, .int (nI j1)])), (tc, .inl (G.2 2, 8, .inl g1)), (r2, .inr (3, [.ref c2, .int (nI j2)])), (c2, .inl (G.2 2, 8, .inl g2))] H := hP
  have hD : va_D A [(h, .inr (5, [.ref se, .ref tx, .ref rs, .ref sp, .int cp, .int mt, .int mf, .int mo, .long msp, .ref md, .ref pf, .ref pt, .int pcs])), (rs, .inl (G.2 5, 3, .inr (.inr (.inr (.inr f))))), (r0, .inr (3, [.ref c0, .int (nI j0)])), (c0, .inl (G.2 2, 14, .inl g0)), (tx, .inr (3, [.ref tc, .int (nI j1)])), (tc, .inl (G.2 2, 8, .inl g1)), (r2, .inr (3, [.ref c2, .int (nI j2)])), (c2, .inl (G.2 2, 8, .inl g2))] := hD
  refine lv_if_ne (tgt := 9) hx hb dX5_clear_4 (by decide) (fun h => absurd hbad h) (fun _ => ?_)
  refine lv_iconst (v := 0) hx hb dX5_clear_7 (by decide) ?_
  exact en_i F hS 0 () (by rfl) rfl hP hD (by omega) (by omega) dX5_clear_8

theorem dX5_length_19 : decode cX5_length 19 = .ok (.iconst (-1), 1) := by decide +kernel
set_option maxHeartbeats 4000000 in
set_option maxRecDepth 100000 in
theorem c_len_bad (l : Launch) (G : PG) (h se tx rs sp md pf pt : Nat) (cp mt mf mo pcs : Int32) (msp : Int64) (r0 c0 r2 c2 tc : Nat) (f : Nat → Option Nat) (hf0 : f 0 = some r0) (hf1 : f 1 = some tx) (hf2 : f 2 = some r2) (j0 j1 j2 : Nat) (g0 g1 g2 : Nat → Int32) (r : Int32) (hbad : isRowV r = 0) : Ci l yX5_length (Cond.code yX5_length cX5_length 2 (some .int) :: aW) { frames := 1, cells := 0, slots := 0, locals := 21 } G [(h, .inr (5, [.ref se, .ref tx, .ref rs, .ref sp, .int cp, .int mt, .int mf, .int mo, .long msp, .ref md, .ref pf, .ref pt, .int pcs])), (rs, .inl (G.2 5, 3, .inr (.inr (.inr (.inr f))))), (r0, .inr (3, [.ref c0, .int (nI j0)])), (c0, .inl (G.2 2, 14, .inl g0)), (tx, .inr (3, [.ref tc, .int (nI j1)])), (tc, .inl (G.2 2, 8, .inl g1)), (r2, .inr (3, [.ref c2, .int (nI j2)])), (c2, .inl (G.2 2, 8, .inl g2))] [.ref h, .int r] (S := Unit) (fun (r9 : Int32) (_ : Unit) => r9 = -1) (fun (_ : Unit) => [(h, .inr (5, [.ref se, .ref tx, .ref rs, .ref sp, .int cp, .int mt, .int mf, .int mo, .long msp, .ref md, .ref pf, .ref pt, .int pcs])), (rs, .inl (G.2 5, 3, .inr (.inr (.inr (.inr f))))), (r0, .inr (3, [.ref c0, .int (nI j0)])), (c0, .inl (G.2 2, 14, .inl g0)), (tx, .inr (3, [.ref tc, .int (nI j1)])), (tc, .inl (G.2 2, 8, .inl g1)), (r2, .inr (3, [.ref c2, .int (nI j2)])), (c2, .inl (G.2 2, 8, .inl g2))]) 0 0 := by
  refine ofB (y := yX5_length) (G := G) (cc := cX5_length) (maxL := 2) (ret := (some .int)) (Qc := fun A => va_Qi (fun (r9 : Int32) (_ : Unit) => r9 = -1) (oB G A (fun (_ : Unit) => [(h, .inr (5, [.ref se, .ref tx, .ref rs, .ref sp, .int cp, .int mt, .int mf, .int mo, .long msp, .ref md, .ref pf, .ref pt, .int pcs])), (rs, .inl (G.2 5, 3, .inr (.inr (.inr (.inr f))))), (r0, .inr (3, [.ref c0, .int (nI j0)])), (c0, .inl (G.2 2, 14, .inl g0)), (tx, .inr (3, [.ref tc, .int (nI j1)])), (tc, .inl (G.2 2, 8, .inl g1)), (r2, .inr (3, [.ref c2, .int (nI j2)])), (c2, .inl (G.2 2, 8, .inl g2))])) A) (by decide) rfl ?_
  intro p e s m below meth c A F hK hA hP hD
  have hx := F.1.1; have hb := F.1.2.1; have hml := F.1.2.2.1; have hts := F.1.2.2.2.2
  have hown : s.vm.findClass RX5 = some m.cls := F.1.2.2.2.1
  have hS : va_S A s.heap s.heap [] := va_S.rf
  have hl := lv_entry ([.ref h, .int r]) (n := 2) (Nat.le_of_ble_eq_true rfl)
  rw [lg_entry_eq]
  generalize (lg_sl ([.ref h, .int r]) ++ List.replicate (2 - (lg_sl ([.ref h, .int r])).length) Slot.unset).toArray = ls at hl ⊢
  have hl : lv_has ls 2 [(0, .ref h), (1, .int r)] := hl
  refine lv_iload_n hx hb dX5_length_0 rfl (lv_at hl 1 rfl) ?_
  have hPc := hP.sub (ws' := []) [] rfl
  have hDc := hD.sub (ws' := []) [] (by decide) rfl
  have hqc : 0 + 0 ≤ 0 ∧ 0 + 0 ≤ 0 := ⟨by omega, by omega⟩
  refine kl_i (wr := [(h, .inr (5, [.ref se, .ref tx, .ref rs, .ref sp, .int cp, .int mt, .int mf, .int mo, .long msp, .ref md, .ref pf, .ref pt, .int pcs])), (rs, .inl (G.2 5, 3, .inr (.inr (.inr (.inr f))))), (r0, .inr (3, [.ref c0, .int (nI j0)])), (c0, .inl (G.2 2, 14, .inl g0)), (tx, .inr (3, [.ref tc, .int (nI j1)])), (tc, .inl (G.2 2, 8, .inl g1)), (r2, .inr (3, [.ref c2, .int (nI j2)])), (c2, .inl (G.2 2, 8, .inl g2))]) (va_runS (As := [.int r]) (rest := []) F.1 (c_isRow l G r _) (va_cwS 1 hts (aw_S w_234 w_235 w_1 w_236) rfl rfl rfl (by decide +kernel) ⟨by decide, by decide⟩) ⟨cS_blind, cS_pre hPc hDc hK⟩ rfl rfl hl.1 rfl (lv_room (Nat.le_of_ble_eq_true rfl)) dX5_length_1 hqc) hP hD hS hA [] [0, 1, 2, 3, 4, 5, 6, 7] rfl rfl (by decide) (by decide) (fun r u H locs hp hP hD hS => ?_)
  subst hp
  have hP : va_P G.1 vwCl [(h, .inr (5, [.ref se, .ref tx, .ref rs, .ref sp, .int cp, .int mt, .int mf, .int mo, .long msp, .ref md, .ref pf, .ref pt, .int pcs])), (rs, .inl (G.2 5, 3, .inr (.inr (.inr (.inr f))))), (r0, .inr (3, [.ref c0, .int (nI j0)])), (c0, .inl (G.2 2, 14, .inl g0)), (tx, .inr (3, [.ref tc, .int (nI j1)])), (tc, .inl (G.2 2, 8, .inl g1)), (r2, .inr (3, [.ref c2, .int (nI j2)])), (c2, .inl (G.2 2, 8, .inl g2))] H := hP
  have hD : va_D A [(h, .inr (5, [.ref se, .ref tx, .ref rs, .ref sp, .int cp, .int mt, .int mf, .int mo, .long msp, .ref md, .ref pf, .ref pt, .int pcs])), (rs, .inl (G.2 5, 3, .inr (.inr (.inr (.inr f))))), (r0, .inr (3, [.ref c0, .int (nI j0)])), (c0, .inl (G.2 2, 14, .inl g0)), (tx, .inr (3, [.ref tc, .int (nI j1)])), (tc, .inl (G.2 2, 8, .inl g1)), (r2, .inr (3, [.ref c2, .int (nI j2)])), (c2, .inl (G.2 2, 8, .inl g2))] := hD
  refine lv_if_eq (tgt := 19) hx hb dX5_length_4 (by decide) (fun _ => ?_) (fun h => absurd hbad h)
  refine lv_iconst (v := (-1)) hx hb dX5_length_19 (by decide) ?_
  exact en_i F hS (-1) () (by rfl) rfl hP hD (by omega) (by omega) dX5_length_20

