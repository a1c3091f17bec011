/-! Search: T what is only read (text: count, characters; program: count, first, groups, asked, nodes), S what changes (ints by slot, arrays by slot; the spans) -/
abbrev TD : Type := Nat × (Nat → Int32) × Nat × Int32 × Int32 × Int64 × (Nat → Nat → Int32) × (Nat → Int64) × (Nat → Int64)
abbrev tJ (T : TD) : Nat := T.1
abbrev tG (T : TD) : Nat → Int32 := T.2.1
abbrev tC (T : TD) : Nat := T.2.2.1
abbrev tFi (T : TD) : Int32 := T.2.2.2.1
abbrev tGr (T : TD) : Int32 := T.2.2.2.2.1
abbrev tAq (T : TD) : Int64 := T.2.2.2.2.2.1
abbrev tA (T : TD) : Nat → Nat → Int32 := T.2.2.2.2.2.2.1
abbrev tLo (T : TD) : Nat → Int64 := T.2.2.2.2.2.2.2.1
abbrev tHi (T : TD) : Nat → Int64 := T.2.2.2.2.2.2.2.2
def tOK (T : TD) : Prop := tJ T ≤ 8 ∧ (∀ k, narrow .char (.int (tG T k)) = .int (tG T k)) ∧ 0 < tC T ∧ tC T ≤ 32
abbrev SS : Type := RS × Int64
def sf (S : SS) (k : Nat) (x : Int32) : SS := (mf S.1 k x, S.2)
def sa (S : SS) (k i : Nat) (x : Int32) : SS := (ma S.1 k i x, S.2)
def sl (S : SS) (k i : Nat) (x : Int64) : SS := (ml S.1 k i x, S.2)
def ss (S : SS) (x : Int64) : SS := (S.1, x)
def sF (q : Nat → Nat) (S : SS) : List Value := [.ref (q 0), .ref (q 1), .int (S.1.1 2), .ref (q 3), .ref (q 4), .ref (q 5), .int (S.1.1 6), .ref (q 7), .ref (q 8), .int (S.1.1 9), .int (S.1.1 10), .int (S.1.1 11), .long S.2]
def sX (G : PG) (h : Nat) (q ad : Nat → Nat) (T : TD) (S : SS) : va_W := [(h, .inr (4, sF q S)), (q 7, .inr (3, [.ref (q 20), .int (nI (tJ T))])), (q 20, .inl (G.2 2, 8, .inl (tG T))), (q 0, .inl (G.2 0, 256, .inl (S.1.2.1 0))), (q 1, .inl (G.2 1, 256, .inr (.inl (S.1.2.2 1)))), (q 3, .inl (G.2 1, 2048, .inr (.inl (S.1.2.2 3)))), (q 4, .inl (G.2 1, 2048, .inr (.inl (S.1.2.2 4)))), (q 5, .inl (G.2 0, 10, .inl (S.1.2.1 5))), (q 8, .inr (1, [.ref (q 21), .int (nI (tC T)), .int (tFi T), .int (tGr T), .long (tAq T)])), (q 21, .inl (G.2 4, 32, .inr (.inr (.inr (.inr (nf ad 32))))))]
def sW (G : PG) (h : Nat) (q ad : Nat → Nat) (T : TD) (S : SS) : va_W := sX G h q ad T S ++ np ad (tA T) (tLo T) (tHi T) 32
section SW
variable {G : PG} {h : Nat} {q ad : Nat → Nat} {T : TD} {S : SS} {H : Heap} {A : Nat → Prop}
theorem sW_0 : (sW G h q ad T S)[0]? = some (h, .inr (4, sF q S)) := rfl
theorem sW_8 : (sW G h q ad T S)[8]? = some (q 8, .inr (1, [.ref (q 21), .int (nI (tC T)), .int (tFi T), .int (tGr T), .long (tAq T)])) := rfl
theorem sW_n {i : Nat} (hi : i < 32) : (sW G h q ad T S)[10 + i]? = some (ad i, .inr (0, ndF (tA T i) (tLo T i) (tHi T i))) := np_at (X := sX G h q ad T S) 10 rfl hi rfl
theorem sP_row (hP : va_P G.1 vwCl (sW G h q ad T S) H) : va_P G.1 vwCl [(q 7, .inr (3, [.ref (q 20), .int (nI (tJ T))])), (q 20, .inl (G.2 2, 8, .inl (tG T)))] H := hP.sub [1, 2] rfl
theorem sD_row (hD : va_D A (sW G h q ad T S)) : va_D A [(q 7, .inr (3, [.ref (q 20), .int (nI (tJ T))])), (q 20, .inl (G.2 2, 8, .inl (tG T)))] := hD.sub [1, 2] (by decide) rfl
theorem sP_prog (hP : va_P G.1 vwCl (sW G h q ad T S) H) : va_P G.1 vwCl (([(q 8, .inr (1, [.ref (q 21), .int (nI (tC T)), .int (tFi T), .int (tGr T), .long (tAq T)])), (q 21, .inl (G.2 4, 32, .inr (.inr (.inr (.inr (nf ad 32))))))] : va_W) ++ np ad (tA T) (tLo T) (tHi T) 32) H := va_P.part (X := sX G h q ad T S) hP [8, 9] rfl
theorem sD_prog (hD : va_D A (sW G h q ad T S)) : va_D A (([(q 8, .inr (1, [.ref (q 21), .int (nI (tC T)), .int (tFi T), .int (tGr T), .long (tAq T)])), (q 21, .inl (G.2 4, 32, .inr (.inr (.inr (.inr (nf ad 32))))))] : va_W) ++ np ad (tA T) (tLo T) (tHi T) 32) := va_D.part (X := sX G h q ad T S) hD [8, 9] (by decide) rfl
theorem sF_0 : (sF q S)[0]? = some (.ref (q 0)) := rfl
theorem sF_1 : (sF q S)[1]? = some (.ref (q 1)) := rfl
theorem sF_2 : (sF q S)[2]? = some (.int (S.1.1 2)) := rfl
theorem sF_l2 : 2 < (sF q S).length := Nat.le_of_ble_eq_true rfl
theorem sW_f2 {x : Int32} : (sW G h q ad T S).set 0 (h, .inr (4, (sF q S).set 2 (.int x))) = sW G h q ad T (sf S 2 x) := rfl
theorem sF_3 : (sF q S)[3]? = some (.ref (q 3)) := rfl
theorem sF_4 : (sF q S)[4]? = some (.ref (q 4)) := rfl
theorem sF_5 : (sF q S)[5]? = some (.ref (q 5)) := rfl
theorem sF_6 : (sF q S)[6]? = some (.int (S.1.1 6)) := rfl
theorem sF_l6 : 6 < (sF q S).length := Nat.le_of_ble_eq_true rfl
theorem sW_f6 {x : Int32} : (sW G h q ad T S).set 0 (h, .inr (4, (sF q S).set 6 (.int x))) = sW G h q ad T (sf S 6 x) := rfl
theorem sF_7 : (sF q S)[7]? = some (.ref (q 7)) := rfl
theorem sF_8 : (sF q S)[8]? = some (.ref (q 8)) := rfl
theorem sF_9 : (sF q S)[9]? = some (.int (S.1.1 9)) := rfl
theorem sF_l9 : 9 < (sF q S).length := Nat.le_of_ble_eq_true rfl
theorem sW_f9 {x : Int32} : (sW G h q ad T S).set 0 (h, .inr (4, (sF q S).set 9 (.int x))) = sW G h q ad T (sf S 9 x) := rfl
theorem sF_10 : (sF q S)[10]? = some (.int (S.1.1 10)) := rfl
theorem sF_l10 : 10 < (sF q S).length := Nat.le_of_ble_eq_true rfl
theorem sW_f10 {x : Int32} : (sW G h q ad T S).set 0 (h, .inr (4, (sF q S).set 10 (.int x))) = sW G h q ad T (sf S 10 x) := rfl
theorem sF_11 : (sF q S)[11]? = some (.int (S.1.1 11)) := rfl
theorem sF_l11 : 11 < (sF q S).length := Nat.le_of_ble_eq_true rfl
theorem sW_f11 {x : Int32} : (sW G h q ad T S).set 0 (h, .inr (4, (sF q S).set 11 (.int x))) = sW G h q ad T (sf S 11 x) := rfl
theorem sF_12 : (sF q S)[12]? = some (.long S.2) := rfl
theorem sF_l12 : 12 < (sF q S).length := Nat.le_of_ble_eq_true rfl
theorem sW_f12 {x : Int64} : (sW G h q ad T S).set 0 (h, .inr (4, (sF q S).set 12 (.long x))) = sW G h q ad T (ss S x) := rfl
theorem sW_g0 : (sW G h q ad T S)[3]? = some (q 0, .inl (G.2 0, 256, .inl (S.1.2.1 0))) := rfl
theorem sW_a0 {i : Nat} {x : Int32} : (sW G h q ad T S).set 3 (q 0, .inl (G.2 0, 256, .inl (upd (S.1.2.1 0) i x))) = sW G h q ad T (sa S 0 i x) := rfl
theorem sW_g1 : (sW G h q ad T S)[4]? = some (q 1, .inl (G.2 1, 256, .inr (.inl (S.1.2.2 1)))) := rfl
theorem sW_a1 {i : Nat} {x : Int64} : (sW G h q ad T S).set 4 (q 1, .inl (G.2 1, 256, .inr (.inl (vp_updL (S.1.2.2 1) i x)))) = sW G h q ad T (sl S 1 i x) := rfl
theorem sW_g3 : (sW G h q ad T S)[5]? = some (q 3, .inl (G.2 1, 2048, .inr (.inl (S.1.2.2 3)))) := rfl
theorem sW_a3 {i : Nat} {x : Int64} : (sW G h q ad T S).set 5 (q 3, .inl (G.2 1, 2048, .inr (.inl (vp_updL (S.1.2.2 3) i x)))) = sW G h q ad T (sl S 3 i x) := rfl
theorem sW_g4 : (sW G h q ad T S)[6]? = some (q 4, .inl (G.2 1, 2048, .inr (.inl (S.1.2.2 4)))) := rfl
theorem sW_a4 {i : Nat} {x : Int64} : (sW G h q ad T S).set 6 (q 4, .inl (G.2 1, 2048, .inr (.inl (vp_updL (S.1.2.2 4) i x)))) = sW G h q ad T (sl S 4 i x) := rfl
theorem sW_g5 : (sW G h q ad T S)[7]? = some (q 5, .inl (G.2 0, 10, .inl (S.1.2.1 5))) := rfl
theorem sW_a5 {i : Nat} {x : Int32} : (sW G h q ad T S).set 7 (q 5, .inl (G.2 0, 10, .inl (upd (S.1.2.1 5) i x))) = sW G h q ad T (sa S 5 i x) := rfl
end SW
theorem dX4_packed_0 : decode cX4_packed 0 = .ok (.iload_n 1, 1) := by decide +kernel
theorem dX4_packed_1 : decode cX4_packed 1 = .ok (.bipush 24, 2) := by decide +kernel
theorem dX4_packed_3 : decode cX4_packed 3 = .ok (.ishl, 1) := by decide +kernel
theorem dX4_packed_4 : decode cX4_packed 4 = .ok (.aload_n 0, 1) := by decide +kernel
theorem dX4_packed_5 : decode cX4_packed 5 = .ok (.getfield 51, 3) := by decide +kernel
theorem dX4_packed_8 : decode cX4_packed 8 = .ok (.bipush 20, 2) := by decide +kernel
theorem dX4_packed_10 : decode cX4_packed 10 = .ok (.ishl, 1) := by decide +kernel
theorem dX4_packed_11 : decode cX4_packed 11 = .ok (.ior, 1) := by decide +kernel
theorem dX4_packed_12 : decode cX4_packed 12 = .ok (.iload_n 2, 1) := by decide +kernel
theorem dX4_packed_13 : decode cX4_packed 13 = .ok (.ior, 1) := by decide +kernel
theorem dX4_packed_14 : decode cX4_packed 14 = .ok (.ireturn, 1) := by decide +kernel
def E_s_packed (T : TD) (S : SS) (a1 : Int32) (a2 : Int32) (S' : SS) (r : Int32) : Prop := S' = S ∧ r = (((a1 <<< ((24 : Int32) &&& 31)) ||| ((S.1.1 10) <<< ((20 : Int32) &&& 31))) ||| a2)
set_option maxHeartbeats 4000000 in
set_option maxRecDepth 100000 in
theorem e_s_packed (l : Launch) (G : PG) (h : Nat) (q ad : Nat → Nat) (T : TD) (hO : tOK T) (S : SS) (a1 : Int32) (a2 : Int32) (S' : SS) (r : Int32) (hE : E_s_packed T S a1 a2 S' r) : Ci l yX4_packed (Cond.code yX4_packed cX4_packed 3 (some .int) :: aW) { frames := 0, cells := 0, slots := 0, locals := 0 } G (sW G h q ad T S) [.ref h, .int a1, .int a2] (fun (r9 : Int32) (_ : Unit) => r9 = r) (fun (_ : Unit) => sW G h q ad T S') 0 0 := by
  refine ofB (y := yX4_packed) (G := G) (cc := cX4_packed) (maxL := 3) (ret := (some .int)) (Qc := fun A => va_Qi (fun (r9 : Int32) (_ : Unit) => r9 = r) (oB G A (fun (_ : Unit) => sW G h q ad T S')) A) (by decide) rfl ?_
  intro p e s m below meth c A F hK hA hP hD
  have hS : va_S A s.heap s.heap [] := va_S.rf
  have hx := F.1.1; have hb := F.1.2.1; have hml := F.1.2.2.1; have hts := F.1.2.2.2.2
  have hown : s.vm.findClass RX4 = some m.cls := F.1.2.2.2.1
  have hl := lv_entry ([.ref h, .int a1, .int a2]) (n := 3) (Nat.le_of_ble_eq_true rfl)
  rw [lg_entry_eq]
  generalize (lg_sl ([.ref h, .int a1, .int a2]) ++ List.replicate (3 - (lg_sl ([.ref h, .int a1, .int a2])).length) Slot.unset).toArray = ls at hl ⊢
  have hl : lv_has ls 3 [(0, .ref h), (1, .int a1), (2, .int a2)] := hl
  unfold E_s_packed at hE
  refine lv_iload_n hx hb dX4_packed_0 rfl (lv_at hl 1 rfl) ?_
  refine lv_bipush (v := 24) hx hb dX4_packed_1 (by decide) ?_
  refine lv_ishl hx hb dX4_packed_3 ?_
  refine lv_aload_n hx hb dX4_packed_4 rfl (lv_at hl 0 rfl) ?_
  refine va_get (D := G.1) (ci := 4) (C := RX4) (T := TX4) (N := 13) hx hb hts inX4 hown hK.1 hP 0 sW_0 rfl 10 (by decide) (hts _ w_151) (fun _ h9 => h9) sF_10 dX4_packed_5 ?_
  refine lv_bipush (v := 20) hx hb dX4_packed_8 (by decide) ?_
  refine lv_ishl hx hb dX4_packed_10 ?_
  refine lv_ior hx hb dX4_packed_11 ?_
  refine lv_iload_n hx hb dX4_packed_12 rfl (lv_at hl 2 rfl) ?_
  refine lv_ior hx hb dX4_packed_13 ?_
  obtain ⟨rfl, rfl⟩ := hE
  exact en_i F hS _ () (by rfl) rfl hP hD (Nat.le_refl _) (Nat.le_refl _) dX4_packed_14

theorem dX4_withLoop_0 : decode cX4_withLoop 0 = .ok (.iload_n 1, 1) := by decide +kernel
theorem dX4_withLoop_1 : decode cX4_withLoop 1 = .ok (.iconst 4, 1) := by decide +kernel
theorem dX4_withLoop_2 : decode cX4_withLoop 2 = .ok (.imul, 1) := by decide +kernel
theorem dX4_withLoop_3 : decode cX4_withLoop 3 = .ok (.istore_n 3, 1) := by decide +kernel
theorem dX4_withLoop_4 : decode cX4_withLoop 4 = .ok (.aload_n 0, 1) := by decide +kernel
theorem dX4_withLoop_5 : decode cX4_withLoop 5 = .ok (.getfield 70, 3) := by decide +kernel
theorem dX4_withLoop_8 : decode cX4_withLoop 8 = .ok (.bipush 15, 2) := by decide +kernel
theorem dX4_withLoop_10 : decode cX4_withLoop 10 = .ok (.iload_n 3, 1) := by decide +kernel
theorem dX4_withLoop_11 : decode cX4_withLoop 11 = .ok (.ishl, 1) := by decide +kernel
theorem dX4_withLoop_12 : decode cX4_withLoop 12 = .ok (.iconst (-1), 1) := by decide +kernel
theorem dX4_withLoop_13 : decode cX4_withLoop 13 = .ok (.ixor, 1) := by decide +kernel
theorem dX4_withLoop_14 : decode cX4_withLoop 14 = .ok (.iand, 1) := by decide +kernel
theorem dX4_withLoop_15 : decode cX4_withLoop 15 = .ok (.iload_n 2, 1) := by decide +kernel
theorem dX4_withLoop_16 : decode cX4_withLoop 16 = .ok (.iload_n 3, 1) := by decide +kernel
theorem dX4_withLoop_17 : decode cX4_withLoop 17 = .ok (.ishl, 1) := by decide +kernel
theorem dX4_withLoop_18 : decode cX4_withLoop 18 = .ok (.ior, 1) := by decide +kernel
theorem dX4_withLoop_19 : decode cX4_withLoop 19 = .ok (.ireturn, 1) := by decide +kernel
def E_s_withLoop (T : TD) (S : SS) (a1 : Int32) (a2 : Int32) (S' : SS) (r : Int32) : Prop := S' = S ∧ r = (((S.1.1 11) &&& (((15 : Int32) <<< ((a1 * 4) &&& 31)) ^^^ (-1))) ||| (a2 <<< ((a1 * 4) &&& 31)))
set_option maxHeartbeats 4000000 in
set_option maxRecDepth 100000 in
theorem e_s_withLoop (l : Launch) (G : PG) (h : Nat) (q ad : Nat → Nat) (T : TD) (hO : tOK T) (S : SS) (a1 : Int32) (a2 : Int32) (S' : SS) (r : Int32) (hE : E_s_withLoop T S a1 a2 S' r) : Ci l yX4_withLoop (Cond.code yX4_withLoop cX4_withLoop 4 (some .int) :: aW) { frames := 0, cells := 0, slots := 0, locals := 0 } G (sW G h q ad T S) [.ref h, .int a1, .int a2] (fun (r9 : Int32) (_ : Unit) => r9 = r) (fun (_ : Unit) => sW G h q ad T S') 0 0 := by
  refine ofB (y := yX4_withLoop) (G := G) (cc := cX4_withLoop) (maxL := 4) (ret := (some .int)) (Qc := fun A => va_Qi (fun (r9 : Int32) (_ : Unit) => r9 = r) (oB G A (fun (_ : Unit) => sW G h q ad T S')) A) (by decide) rfl ?_
  intro p e s m below meth c A F hK hA hP hD
  have hS : va_S A s.heap s.heap [] := va_S.rf
  have hx := F.1.1; have hb := F.1.2.1; have hml := F.1.2.2.1; have hts := F.1.2.2.2.2
  have hown : s.vm.findClass RX4 = some m.cls := F.1.2.2.2.1
  have hl := lv_entry ([.ref h, .int a1, .int a2]) (n := 4) (Nat.le_of_ble_eq_true rfl)
  rw [lg_entry_eq]
  generalize (lg_sl ([.ref h, .int a1, .int a2]) ++ List.replicate (4 - (lg_sl ([.ref h, .int a1, .int a2])).length) Slot.unset).toArray = ls at hl ⊢
  have hl : lv_has ls 4 [(0, .ref h), (1, .int a1), (2, .int a2)] := hl
  unfold E_s_withLoop at hE
  refine lv_iload_n hx hb dX4_withLoop_0 rfl (lv_at hl 1 rfl) ?_
  refine lv_iconst (v := 4) hx hb dX4_withLoop_1 (by decide) ?_
  refine lv_imul hx hb dX4_withLoop_2 ?_
  refine lv_istore_n hx hb dX4_withLoop_3 rfl hl (by decide) rfl (fun ls hl => ?_)
  have hl : lv_has ls 4 [(3, .int (a1 * 4)), (0, .ref h), (1, .int a1), (2, .int a2)] := hl
  refine lv_aload_n hx hb dX4_withLoop_4 rfl (lv_at hl 1 rfl) ?_
  refine va_get (D := G.1) (ci := 4) (C := RX4) (T := TX4) (N := 13) hx hb hts inX4 hown hK.1 hP 0 sW_0 rfl 11 (by decide) (hts _ w_153) (fun _ h9 => h9) sF_11 dX4_withLoop_5 ?_
  refine lv_bipush (v := 15) hx hb dX4_withLoop_8 (by decide) ?_
  refine lv_iload_n hx hb dX4_withLoop_10 rfl (lv_at hl 0 rfl) ?_
  refine lv_ishl hx hb dX4_withLoop_11 ?_
  refine lv_iconst (v := (-1)) hx hb dX4_withLoop_12 (by decide) ?_
  refine lv_ixor hx hb dX4_withLoop_13 ?_
  refine lv_iand hx hb dX4_withLoop_14 ?_
  refine lv_iload_n hx hb dX4_withLoop_15 rfl (lv_at hl 3 rfl) ?_
  refine lv_iload_n hx hb dX4_withLoop_16 rfl (lv_at hl 0 rfl) ?_
  refine lv_ishl hx hb dX4_withLoop_17 ?_
  refine lv_ior hx hb dX4_withLoop_18 ?_
  obtain ⟨rfl, rfl⟩ := hE
  exact en_i F hS _ () (by rfl) rfl hP hD (Nat.le_refl _) (Nat.le_refl _) dX4_withLoop_19

theorem dX4_goTo_0 : decode cX4_goTo 0 = .ok (.aload_n 0, 1) := by decide +kernel
theorem dX4_goTo_1 : decode cX4_goTo 1 = .ok (.iload_n 1, 1) := by decide +kernel
theorem dX4_goTo_2 : decode cX4_goTo 2 = .ok (.putfield 67, 3) := by decide +kernel
theorem dX4_goTo_5 : decode cX4_goTo 5 = .ok (.aload_n 0, 1) := by decide +kernel
theorem dX4_goTo_6 : decode cX4_goTo 6 = .ok (.iload_n 2, 1) := by decide +kernel
theorem dX4_goTo_7 : decode cX4_goTo 7 = .ok (.putfield 70, 3) := by decide +kernel
theorem dX4_goTo_10 : decode cX4_goTo 10 = .ok (.iconst 1, 1) := by decide +kernel
theorem dX4_goTo_11 : decode cX4_goTo 11 = .ok (.ireturn, 1) := by decide +kernel
def E_s_goTo (T : TD) (S : SS) (a1 : Int32) (a2 : Int32) (S' : SS) (r : Int32) : Prop := S' = (sf (sf S 9 a1) 11 a2) ∧ r = 1
set_option maxHeartbeats 4000000 in
set_option maxRecDepth 100000 in
theorem e_s_goTo (l : Launch) (G : PG) (h : Nat) (q ad : Nat → Nat) (T : TD) (hO : tOK T) (S : SS) (a1 : Int32) (a2 : Int32) (S' : SS) (r : Int32) (hE : E_s_goTo T S a1 a2 S' r) : Ci l yX4_goTo (Cond.code yX4_goTo cX4_goTo 3 (some .boolean) :: aW) { frames := 0, cells := 0, slots := 0, locals := 0 } G (sW G h q ad T S) [.ref h, .int a1, .int a2] (fun (r9 : Int32) (_ : Unit) => r9 = r) (fun (_ : Unit) => sW G h q ad T S') 0 0 := by
  refine ofB (y := yX4_goTo) (G := G) (cc := cX4_goTo) (maxL := 3) (ret := (some .boolean)) (Qc := fun A => va_Qi (fun (r9 : Int32) (_ : Unit) => r9 = r) (oB G A (fun (_ : Unit) => sW G h q ad T S')) A) (by decide) rfl ?_
  intro p e s m below meth c A F hK hA hP hD
  have hS : va_S A s.heap s.heap [] := va_S.rf
  have hx := F.1.1; have hb := F.1.2.1; have hml := F.1.2.2.1; have hts := F.1.2.2.2.2
  have hown : s.vm.findClass RX4 = some m.cls := F.1.2.2.2.1
  have hl := lv_entry ([.ref h, .int a1, .int a2]) (n := 3) (Nat.le_of_ble_eq_true rfl)
  rw [lg_entry_eq]
  generalize (lg_sl ([.ref h, .int a1, .int a2]) ++ List.replicate (3 - (lg_sl ([.ref h, .int a1, .int a2])).length) Slot.unset).toArray = ls at hl ⊢
  have hl : lv_has ls 3 [(0, .ref h), (1, .int a1), (2, .int a2)] := hl
  unfold E_s_goTo at hE
  refine lv_aload_n hx hb dX4_goTo_0 rfl (lv_at hl 0 rfl) ?_
  refine lv_iload_n hx hb dX4_goTo_1 rfl (lv_at hl 1 rfl) ?_
  refine va_put (D := G.1) (ci := 4) (v := .int a1) (ty := .int) (C := RX4) (T := TX4) (N := 13) hx hb hts inX4 tyX4 tyX4_ok nmX4 hown hK.1 hP hD hS 0 sW_0 rfl 9 (by decide) (hts _ w_150) (fun _ h9 => h9) rfl (by decide +kernel) rfl rfl sF_l9 dX4_goTo_2 (fun H locs hP hD hS => ?_)
  rw [sW_f9] at hP hD
  refine lv_aload_n hx hb dX4_goTo_5 rfl (lv_at hl 0 rfl) ?_
  refine lv_iload_n hx hb dX4_goTo_6 rfl (lv_at hl 2 rfl) ?_
  refine va_put (D := G.1) (ci := 4) (v := .int a2) (ty := .int) (C := RX4) (T := TX4) (N := 13) hx hb hts inX4 tyX4 tyX4_ok nmX4 hown hK.1 hP hD hS 0 sW_0 rfl 11 (by decide) (hts _ w_153) (fun _ h9 => h9) rfl (by decide +kernel) rfl rfl sF_l11 dX4_goTo_7 (fun H locs hP hD hS => ?_)
  rw [sW_f11] at hP hD
  refine lv_iconst (v := 1) hx hb dX4_goTo_10 (by decide) ?_
  obtain ⟨rfl, rfl⟩ := hE
  exact en_i F hS _ () (by rfl) rfl hP hD (Nat.le_refl _) (Nat.le_refl _) dX4_goTo_11

theorem dX4_moveTo_0 : decode cX4_moveTo 0 = .ok (.iload_n 1, 1) := by decide +kernel
theorem dX4_moveTo_1 : decode cX4_moveTo 1 = .ok (.aload_n 0, 1) := by decide +kernel
theorem dX4_moveTo_2 : decode cX4_moveTo 2 = .ok (.getfield 51, 3) := by decide +kernel
theorem dX4_moveTo_5 : decode cX4_moveTo 5 = .ok (.if_icmp .le 14, 3) := by decide +kernel
theorem dX4_moveTo_8 : decode cX4_moveTo 8 = .ok (.aload_n 0, 1) := by decide +kernel
theorem dX4_moveTo_9 : decode cX4_moveTo 9 = .ok (.dup, 1) := by decide +kernel
theorem dX4_moveTo_10 : decode cX4_moveTo 10 = .ok (.getfield 70, 3) := by decide +kernel
theorem dX4_moveTo_13 : decode cX4_moveTo 13 = .ok (.ldc 165, 2) := by decide +kernel
theorem dX4_moveTo_15 : decode cX4_moveTo 15 = .ok (.ior, 1) := by decide +kernel
theorem dX4_moveTo_16 : decode cX4_moveTo 16 = .ok (.putfield 70, 3) := by decide +kernel
theorem dX4_moveTo_19 : decode cX4_moveTo 19 = .ok (.aload_n 0, 1) := by decide +kernel
theorem dX4_moveTo_20 : decode cX4_moveTo 20 = .ok (.iload_n 1, 1) := by decide +kernel
theorem dX4_moveTo_21 : decode cX4_moveTo 21 = .ok (.putfield 51, 3) := by decide +kernel
theorem dX4_moveTo_24 : decode cX4_moveTo 24 = .ok (.return_, 1) := by decide +kernel
def E_s_moveTo (T : TD) (S : SS) (a1 : Int32) (S' : SS) (r : Int32) : Prop := if a1 ≤ (S.1.1 10) then (S' = (sf S 10 a1) ∧ r = 0) else (S' = (sf (sf S 11 ((S.1.1 11) ||| 559240)) 10 a1) ∧ r = 0)
set_option maxHeartbeats 4000000 in
set_option maxRecDepth 100000 in
theorem e_s_moveTo (l : Launch) (G : PG) (h : Nat) (q ad : Nat → Nat) (T : TD) (hO : tOK T) (S : SS) (a1 : Int32) (S' : SS) (r : Int32) (hE : E_s_moveTo T S a1 S' r) : Cv l yX4_moveTo (Cond.code yX4_moveTo cX4_moveTo 2 none :: aW) { frames := 0, cells := 0, slots := 0, locals := 0 } G (sW G h q ad T S) [.ref h, .int a1] (fun (_ : Unit) => True) (fun (_ : Unit) => sW G h q ad T S') 0 0 := by
  refine ofB (y := yX4_moveTo) (G := G) (cc := cX4_moveTo) (maxL := 2) (ret := none) (Qc := fun A => va_Qv (fun (_ : Unit) => True) (oB G A (fun (_ : Unit) => sW G h q ad T S')) A) (by decide) rfl ?_
  intro p e s m below meth c A F hK hA hP hD
  have hS : va_S A s.heap s.heap [] := va_S.rf
  have hx := F.1.1; have hb := F.1.2.1; have hml := F.1.2.2.1; have hts := F.1.2.2.2.2
  have hown : s.vm.findClass RX4 = some m.cls := F.1.2.2.2.1
  have hl := lv_entry ([.ref h, .int a1]) (n := 2) (Nat.le_of_ble_eq_true rfl)
  rw [lg_entry_eq]
  generalize (lg_sl ([.ref h, .int a1]) ++ List.replicate (2 - (lg_sl ([.ref h, .int a1])).length) Slot.unset).toArray = ls at hl ⊢
  have hl : lv_has ls 2 [(0, .ref h), (1, .int a1)] := hl
  unfold E_s_moveTo at hE
  refine lv_iload_n hx hb dX4_moveTo_0 rfl (lv_at hl 1 rfl) ?_
  refine lv_aload_n hx hb dX4_moveTo_1 rfl (lv_at hl 0 rfl) ?_
  refine va_get (D := G.1) (ci := 4) (C := RX4) (T := TX4) (N := 13) hx hb hts inX4 hown hK.1 hP 0 sW_0 rfl 10 (by decide) (hts _ w_151) (fun _ h9 => h9) sF_10 dX4_moveTo_2 ?_
  refine lv_icmp_le (tgt := 19) hx hb dX4_moveTo_5 (by decide) (fun h1 => ?_) (fun h1 => ?_)
  ·
    rw [if_pos h1] at hE
    refine lv_aload_n hx hb dX4_moveTo_19 rfl (lv_at hl 0 rfl) ?_
    refine lv_iload_n hx hb dX4_moveTo_20 rfl (lv_at hl 1 rfl) ?_
    refine va_put (D := G.1) (ci := 4) (v := .int a1) (ty := .int) (C := RX4) (T := TX4) (N := 13) hx hb hts inX4 tyX4 tyX4_ok nmX4 hown hK.1 hP hD hS 0 sW_0 rfl 10 (by decide) (hts _ w_151) (fun _ h9 => h9) rfl (by decide +kernel) rfl rfl sF_l10 dX4_moveTo_21 (fun H locs hP hD hS => ?_)
    rw [sW_f10] at hP hD
    obtain ⟨rfl, rfl⟩ := hE
    exact en_v F hS () trivial hP hD (Nat.le_refl _) (Nat.le_refl _) dX4_moveTo_24
  ·
    rw [if_neg h1] at hE
    refine lv_aload_n hx hb dX4_moveTo_8 rfl (lv_at hl 0 rfl) ?_
    refine lv_dup hx hb dX4_moveTo_9 rfl ?_
    refine va_get (D := G.1) (ci := 4) (C := RX4) (T := TX4) (N := 13) hx hb hts inX4 hown hK.1 hP 0 sW_0 rfl 11 (by decide) (hts _ w_153) (fun _ h9 => h9) sF_11 dX4_moveTo_10 ?_
    refine lv_ldc (v := 559240) hx hb hown (hts _ w_658) dX4_moveTo_13 ?_
    refine lv_ior hx hb dX4_moveTo_15 ?_
    refine va_put (D := G.1) (ci := 4) (v := .int ((S.1.1 11) ||| 559240)) (ty := .int) (C := RX4) (T := TX4) (N := 13) hx hb hts inX4 tyX4 tyX4_ok nmX4 hown hK.1 hP hD hS 0 sW_0 rfl 11 (by decide) (hts _ w_153) (fun _ h9 => h9) rfl (by decide +kernel) rfl rfl sF_l11 dX4_moveTo_16 (fun H locs hP hD hS => ?_)
    rw [sW_f11] at hP hD
    refine lv_aload_n hx hb dX4_moveTo_19 rfl (lv_at hl 0 rfl) ?_
    refine lv_iload_n hx hb dX4_moveTo_20 rfl (lv_at hl 1 rfl) ?_
    refine va_put (D := G.1) (ci := 4) (v := .int a1) (ty := .int) (C := RX4) (T := TX4) (N := 13) hx hb hts inX4 tyX4 tyX4_ok nmX4 hown hK.1 hP hD hS 0 sW_0 rfl 10 (by decide) (hts _ w_151) (fun _ h9 => h9) rfl (by decide +kernel) rfl rfl sF_l10 dX4_moveTo_21 (fun H locs hP hD hS => ?_)
    rw [sW_f10] at hP hD
    obtain ⟨rfl, rfl⟩ := hE
    exact en_v F hS () trivial hP hD (Nat.le_refl _) (Nat.le_refl _) dX4_moveTo_24

theorem dX4_isOver_0 : decode cX4_isOver 0 = .ok (.iload_n 1, 1) := by decide +kernel
theorem dX4_isOver_1 : decode cX4_isOver 1 = .ok (.bipush 15, 2) := by decide +kernel
theorem dX4_isOver_3 : decode cX4_isOver 3 = .ok (.iand, 1) := by decide +kernel
theorem dX4_isOver_4 : decode cX4_isOver 4 = .ok (.istore_n 3, 1) := by decide +kernel
theorem dX4_isOver_5 : decode cX4_isOver 5 = .ok (.iload_n 3, 1) := by decide +kernel
theorem dX4_isOver_6 : decode cX4_isOver 6 = .ok (.iload_n 2, 1) := by decide +kernel
theorem dX4_isOver_7 : decode cX4_isOver 7 = .ok (.if_icmp .gt 13, 3) := by decide +kernel
theorem dX4_isOver_10 : decode cX4_isOver 10 = .ok (.aload_n 0, 1) := by decide +kernel
theorem dX4_isOver_11 : decode cX4_isOver 11 = .ok (.getfield 41, 3) := by decide +kernel
theorem dX4_isOver_14 : decode cX4_isOver 14 = .ok (.iload_n 3, 1) := by decide +kernel
theorem dX4_isOver_15 : decode cX4_isOver 15 = .ok (.iaload, 1) := by decide +kernel
theorem dX4_isOver_16 : decode cX4_isOver 16 = .ok (.iload_n 1, 1) := by decide +kernel
theorem dX4_isOver_17 : decode cX4_isOver 17 = .ok (.if_icmp .eq 7, 3) := by decide +kernel
theorem dX4_isOver_20 : decode cX4_isOver 20 = .ok (.iconst 1, 1) := by decide +kernel
theorem dX4_isOver_21 : decode cX4_isOver 21 = .ok (.goto 4, 3) := by decide +kernel
theorem dX4_isOver_24 : decode cX4_isOver 24 = .ok (.iconst 0, 1) := by decide +kernel
theorem dX4_isOver_25 : decode cX4_isOver 25 = .ok (.ireturn, 1) := by decide +kernel
def E_s_isOver (T : TD) (S : SS) (a1 : Int32) (a2 : Int32) (S' : SS) (r : Int32) : Prop := if a2 < (a1 &&& 15) then (S' = S ∧ r = 1) else (vp_in (a1 &&& 15) 10 ∧ (if (S.1.2.1 5 (a1 &&& 15).toNatClampNeg) = a1 then (S' = S ∧ r = 0) else (S' = S ∧ r = 1)))
set_option maxHeartbeats 4000000 in
set_option maxRecDepth 100000 in
theorem e_s_isOver (l : Launch) (G : PG) (h : Nat) (q ad : Nat → Nat) (T : TD) (hO : tOK T) (S : SS) (a1 : Int32) (a2 : Int32) (S' : SS) (r : Int32) (hE : E_s_isOver T S a1 a2 S' r) : Ci l yX4_isOver (Cond.code yX4_isOver cX4_isOver 4 (some .boolean) :: aW) { frames := 0, cells := 0, slots := 0, locals := 0 } G (sW G h q ad T S) [.ref h, .int a1, .int a2] (fun (r9 : Int32) (_ : Unit) => r9 = r) (fun (_ : Unit) => sW G h q ad T S') 0 0 := by
  refine ofB (y := yX4_isOver) (G := G) (cc := cX4_isOver) (maxL := 4) (ret := (some .boolean)) (Qc := fun A => va_Qi (fun (r9 : Int32) (_ : Unit) => r9 = r) (oB G A (fun (_ : Unit) => sW G h q ad T S')) A) (by decide) rfl ?_
  intro p e s m below meth c A F hK hA hP hD
  have hS : va_S A s.heap s.heap [] := va_S.rf
  have hx := F.1.1; have hb := F.1.2.1; have hml := F.1.2.2.1; have hts := F.1.2.2.2.2
  have hown : s.vm.findClass RX4 = some m.cls := F.1.2.2.2.1
  have hl := lv_entry ([.ref h, .int a1, .int a2]) (n := 4) (Nat.le_of_ble_eq_true rfl)
  rw [lg_entry_eq]
  generalize (lg_sl ([.ref h, .int a1, .int a2]) ++ List.replicate (4 - (lg_sl ([.ref h, .int a1, .int a2])).length) Slot.unset).toArray = ls at hl ⊢
  have hl : lv_has ls 4 [(0, .ref h), (1, .int a1), (2, .int a2)] := hl
  unfold E_s_isOver at hE
  refine lv_iload_n hx hb dX4_isOver_0 rfl (lv_at hl 1 rfl) ?_
  refine lv_bipush (v := 15) hx hb dX4_isOver_1 (by decide) ?_
  refine lv_iand hx hb dX4_isOver_3 ?_
  refine lv_istore_n hx hb dX4_isOver_4 rfl hl (by decide) rfl (fun ls hl => ?_)
  have hl : lv_has ls 4 [(3, .int (a1 &&& 15)), (0, .ref h), (1, .int a1), (2, .int a2)] := hl
  refine lv_iload_n hx hb dX4_isOver_5 rfl (lv_at hl 0 rfl) ?_
  refine lv_iload_n hx hb dX4_isOver_6 rfl (lv_at hl 3 rfl) ?_
  refine lv_icmp_gt (tgt := 20) hx hb dX4_isOver_7 (by decide) (fun h1 => ?_) (fun h1 => ?_)
  ·
    rw [if_pos h1] at hE
    refine lv_iconst (v := 1) hx hb dX4_isOver_20 (by decide) ?_
    refine lv_goto (tgt := 25) hx hb dX4_isOver_21 (by decide) ?_
    obtain ⟨rfl, rfl⟩ := hE
    exact en_i F hS _ () (by rfl) rfl hP hD (Nat.le_refl _) (Nat.le_refl _) dX4_isOver_25
  ·
    rw [if_neg h1] at hE
    refine lv_aload_n hx hb dX4_isOver_10 rfl (lv_at hl 1 rfl) ?_
    refine va_get (D := G.1) (ci := 4) (C := RX4) (T := TX4) (N := 13) hx hb hts inX4 hown hK.1 hP 0 sW_0 rfl 5 (by decide) (hts _ w_144) (fun _ h9 => h9) sF_5 dX4_isOver_11 ?_
    refine lv_iload_n hx hb dX4_isOver_14 rfl (lv_at hl 0 rfl) ?_
    obtain ⟨hin, hE⟩ := hE
    refine va_iald (D := G.1) hx hb hK.1 hP 7 0 sW_g5 rfl hin dX4_isOver_15 ?_
    refine lv_iload_n hx hb dX4_isOver_16 rfl (lv_at hl 2 rfl) ?_
    refine lv_icmp_eq (tgt := 24) hx hb dX4_isOver_17 (by decide) (fun h2 => ?_) (fun h2 => ?_)
    ·
      rw [if_pos h2] at hE
      refine lv_iconst (v := 0) hx hb dX4_isOver_24 (by decide) ?_
      obtain ⟨rfl, rfl⟩ := hE
      exact en_i F hS _ () (by rfl) rfl hP hD (Nat.le_refl _) (Nat.le_refl _) dX4_isOver_25
    ·
      rw [if_neg h2] at hE
      refine lv_iconst (v := 1) hx hb dX4_isOver_20 (by decide) ?_
      refine lv_goto (tgt := 25) hx hb dX4_isOver_21 (by decide) ?_
      obtain ⟨rfl, rfl⟩ := hE
      exact en_i F hS _ () (by rfl) rfl hP hD (Nat.le_refl _) (Nat.le_refl _) dX4_isOver_25

theorem dX4_openSearch_0 : decode cX4_openSearch 0 = .ok (.iload_n 1, 1) := by decide +kernel
theorem dX4_openSearch_1 : decode cX4_openSearch 1 = .ok (.aload_n 0, 1) := by decide +kernel
theorem dX4_openSearch_2 : decode cX4_openSearch 2 = .ok (.getfield 41, 3) := by decide +kernel
theorem dX4_openSearch_5 : decode cX4_openSearch 5 = .ok (.arraylength, 1) := by decide +kernel
theorem dX4_openSearch_6 : decode cX4_openSearch 6 = .ok (.if_icmp .ge 27, 3) := by decide +kernel
theorem dX4_openSearch_9 : decode cX4_openSearch 9 = .ok (.aload_n 0, 1) := by decide +kernel
theorem dX4_openSearch_10 : decode cX4_openSearch 10 = .ok (.dup, 1) := by decide +kernel
theorem dX4_openSearch_11 : decode cX4_openSearch 11 = .ok (.getfield 44, 3) := by decide +kernel
theorem dX4_openSearch_14 : decode cX4_openSearch 14 = .ok (.iconst 1, 1) := by decide +kernel
theorem dX4_openSearch_15 : decode cX4_openSearch 15 = .ok (.iadd, 1) := by decide +kernel
theorem dX4_openSearch_16 : decode cX4_openSearch 16 = .ok (.putfield 44, 3) := by decide +kernel
theorem dX4_openSearch_19 : decode cX4_openSearch 19 = .ok (.aload_n 0, 1) := by decide +kernel
theorem dX4_openSearch_20 : decode cX4_openSearch 20 = .ok (.getfield 41, 3) := by decide +kernel
theorem dX4_openSearch_23 : decode cX4_openSearch 23 = .ok (.iload_n 1, 1) := by decide +kernel
theorem dX4_openSearch_24 : decode cX4_openSearch 24 = .ok (.aload_n 0, 1) := by decide +kernel
theorem dX4_openSearch_25 : decode cX4_openSearch 25 = .ok (.getfield 44, 3) := by decide +kernel
theorem dX4_openSearch_28 : decode cX4_openSearch 28 = .ok (.iconst 4, 1) := by decide +kernel
theorem dX4_openSearch_29 : decode cX4_openSearch 29 = .ok (.ishl, 1) := by decide +kernel
theorem dX4_openSearch_30 : decode cX4_openSearch 30 = .ok (.iload_n 1, 1) := by decide +kernel
theorem dX4_openSearch_31 : decode cX4_openSearch 31 = .ok (.ior, 1) := by decide +kernel
theorem dX4_openSearch_32 : decode cX4_openSearch 32 = .ok (.iastore, 1) := by decide +kernel
theorem dX4_openSearch_33 : decode cX4_openSearch 33 = .ok (.return_, 1) := by decide +kernel
def E_s_openSearch (T : TD) (S : SS) (a1 : Int32) (S' : SS) (r : Int32) : Prop := if 10 ≤ a1 then (S' = S ∧ r = 0) else (vp_in a1 10 ∧ (S' = (sa (sf S 6 ((S.1.1 6) + 1)) 5 a1.toNatClampNeg ((((S.1.1 6) + 1) <<< ((4 : Int32) &&& 31)) ||| a1)) ∧ r = 0))
set_option maxHeartbeats 4000000 in
set_option maxRecDepth 100000 in
theorem e_s_openSearch (l : Launch) (G : PG) (h : Nat) (q ad : Nat → Nat) (T : TD) (hO : tOK T) (S : SS) (a1 : Int32) (S' : SS) (r : Int32) (hE : E_s_openSearch T S a1 S' r) : Cv l yX4_openSearch (Cond.code yX4_openSearch cX4_openSearch 2 none :: aW) { frames := 0, cells := 0, slots := 0, locals := 0 } G (sW G h q ad T S) [.ref h, .int a1] (fun (_ : Unit) => True) (fun (_ : Unit) => sW G h q ad T S') 0 0 := by
  refine ofB (y := yX4_openSearch) (G := G) (cc := cX4_openSearch) (maxL := 2) (ret := none) (Qc := fun A => va_Qv (fun (_ : Unit) => True) (oB G A (fun (_ : Unit) => sW G h q ad T S')) A) (by decide) rfl ?_
  intro p e s m below meth c A F hK hA hP hD
  have hS : va_S A s.heap s.heap [] := va_S.rf
  have hx := F.1.1; have hb := F.1.2.1; have hml := F.1.2.2.1; have hts := F.1.2.2.2.2
  have hown : s.vm.findClass RX4 = some m.cls := F.1.2.2.2.1
  have hl := lv_entry ([.ref h, .int a1]) (n := 2) (Nat.le_of_ble_eq_true rfl)
  rw [lg_entry_eq]
  generalize (lg_sl ([.ref h, .int a1]) ++ List.replicate (2 - (lg_sl ([.ref h, .int a1])).length) Slot.unset).toArray = ls at hl ⊢
  have hl : lv_has ls 2 [(0, .ref h), (1, .int a1)] := hl
  unfold E_s_openSearch at hE
  refine lv_iload_n hx hb dX4_openSearch_0 rfl (lv_at hl 1 rfl) ?_
  refine lv_aload_n hx hb dX4_openSearch_1 rfl (lv_at hl 0 rfl) ?_
  refine va_get (D := G.1) (ci := 4) (C := RX4) (T := TX4) (N := 13) hx hb hts inX4 hown hK.1 hP 0 sW_0 rfl 5 (by decide) (hts _ w_144) (fun _ h9 => h9) sF_5 dX4_openSearch_2 ?_
  refine va_alen (D := G.1) (v := 10) hx hb hK.1 hP 7 0 sW_g5 rfl rfl dX4_openSearch_5 ?_
  refine lv_icmp_ge (tgt := 33) hx hb dX4_openSearch_6 (by decide) (fun h1 => ?_) (fun h1 => ?_)
  ·
    rw [if_pos h1] at hE
    obtain ⟨rfl, rfl⟩ := hE
    exact en_v F hS () trivial hP hD (Nat.le_refl _) (Nat.le_refl _) dX4_openSearch_33
  ·
    rw [if_neg h1] at hE
    refine lv_aload_n hx hb dX4_openSearch_9 rfl (lv_at hl 0 rfl) ?_
    refine lv_dup hx hb dX4_openSearch_10 rfl ?_
    refine va_get (D := G.1) (ci := 4) (C := RX4) (T := TX4) (N := 13) hx hb hts inX4 hown hK.1 hP 0 sW_0 rfl 6 (by decide) (hts _ w_145) (fun _ h9 => h9) sF_6 dX4_openSearch_11 ?_
    refine lv_iconst (v := 1) hx hb dX4_openSearch_14 (by decide) ?_
    refine lv_iadd hx hb dX4_openSearch_15 ?_
    refine va_put (D := G.1) (ci := 4) (v := .int ((S.1.1 6) + 1)) (ty := .int) (C := RX4) (T := TX4) (N := 13) hx hb hts inX4 tyX4 tyX4_ok nmX4 hown hK.1 hP hD hS 0 sW_0 rfl 6 (by decide) (hts _ w_145) (fun _ h9 => h9) rfl (by decide +kernel) rfl rfl sF_l6 dX4_openSearch_16 (fun H locs hP hD hS => ?_)
    rw [sW_f6] at hP hD
    refine lv_aload_n hx hb dX4_openSearch_19 rfl (lv_at hl 0 rfl) ?_
    refine va_get (D := G.1) (ci := 4) (C := RX4) (T := TX4) (N := 13) hx hb hts inX4 hown hK.1 hP 0 sW_0 rfl 5 (by decide) (hts _ w_144) (fun _ h9 => h9) sF_5 dX4_openSearch_20 ?_
    refine lv_iload_n hx hb dX4_openSearch_23 rfl (lv_at hl 1 rfl) ?_
    refine lv_aload_n hx hb dX4_openSearch_24 rfl (lv_at hl 0 rfl) ?_
    refine va_get (D := G.1) (ci := 4) (C := RX4) (T := TX4) (N := 13) hx hb hts inX4 hown hK.1 hP 0 sW_0 rfl 6 (by decide) (hts _ w_145) (fun _ h9 => h9) sF_6 dX4_openSearch_25 ?_
    refine tp_i ((S.1.1 6) + 1) rfl ?_
    refine lv_iconst (v := 4) hx hb dX4_openSearch_28 (by decide) ?_
    refine lv_ishl hx hb dX4_openSearch_29 ?_
    refine lv_iload_n hx hb dX4_openSearch_30 rfl (lv_at hl 1 rfl) ?_
    refine lv_ior hx hb dX4_openSearch_31 ?_
    obtain ⟨hin, hE⟩ := hE
    refine va_iast (D := G.1) hx hb hK.1 hP hD hS 7 0 sW_g5 rfl hin dX4_openSearch_32 (fun H locs hP hD hS => ?_)
    rw [sW_a5] at hP hD
    obtain ⟨rfl, rfl⟩ := hE
    exact en_v F hS () trivial hP hD (Nat.le_refl _) (Nat.le_refl _) dX4_openSearch_33

theorem dX4_letWait_0 : decode cX4_letWait 0 = .ok (.aload_n 0, 1) := by decide +kernel
theorem dX4_letWait_1 : decode cX4_letWait 1 = .ok (.getfield 48, 3) := by decide +kernel
theorem dX4_letWait_4 : decode cX4_letWait 4 = .ok (.sipush 256, 3) := by decide +kernel
theorem dX4_letWait_7 : decode cX4_letWait 7 = .ok (.if_icmp .lt 5, 3) := by decide +kernel
theorem dX4_letWait_10 : decode cX4_letWait 10 = .ok (.iconst 0, 1) := by decide +kernel
theorem dX4_letWait_11 : decode cX4_letWait 11 = .ok (.ireturn, 1) := by decide +kernel
theorem dX4_letWait_12 : decode cX4_letWait 12 = .ok (.aload_n 0, 1) := by decide +kernel
theorem dX4_letWait_13 : decode cX4_letWait 13 = .ok (.getfield 27, 3) := by decide +kernel
theorem dX4_letWait_16 : decode cX4_letWait 16 = .ok (.aload_n 0, 1) := by decide +kernel
theorem dX4_letWait_17 : decode cX4_letWait 17 = .ok (.getfield 48, 3) := by decide +kernel
theorem dX4_letWait_20 : decode cX4_letWait 20 = .ok (.aload_n 0, 1) := by decide +kernel
theorem dX4_letWait_21 : decode cX4_letWait 21 = .ok (.iload_n 1, 1) := by decide +kernel
theorem dX4_letWait_22 : decode cX4_letWait 22 = .ok (.iload_n 2, 1) := by decide +kernel
theorem dX4_letWait_23 : decode cX4_letWait 23 = .ok (.invokevirtual 187, 3) := by decide +kernel
theorem dX4_letWait_26 : decode cX4_letWait 26 = .ok (.iastore, 1) := by decide +kernel
theorem dX4_letWait_27 : decode cX4_letWait 27 = .ok (.aload_n 0, 1) := by decide +kernel
theorem dX4_letWait_28 : decode cX4_letWait 28 = .ok (.getfield 31, 3) := by decide +kernel
theorem dX4_letWait_31 : decode cX4_letWait 31 = .ok (.aload_n 0, 1) := by decide +kernel
theorem dX4_letWait_32 : decode cX4_letWait 32 = .ok (.getfield 48, 3) := by decide +kernel
theorem dX4_letWait_35 : decode cX4_letWait 35 = .ok (.aload_n 0, 1) := by decide +kernel
theorem dX4_letWait_36 : decode cX4_letWait 36 = .ok (.getfield 56, 3) := by decide +kernel
theorem dX4_letWait_39 : decode cX4_letWait 39 = .ok (.lastore, 1) := by decide +kernel
theorem dX4_letWait_40 : decode cX4_letWait 40 = .ok (.aload_n 0, 1) := by decide +kernel
theorem dX4_letWait_41 : decode cX4_letWait 41 = .ok (.dup, 1) := by decide +kernel
theorem dX4_letWait_42 : decode cX4_letWait 42 = .ok (.getfield 48, 3) := by decide +kernel
theorem dX4_letWait_45 : decode cX4_letWait 45 = .ok (.iconst 1, 1) := by decide +kernel
theorem dX4_letWait_46 : decode cX4_letWait 46 = .ok (.iadd, 1) := by decide +kernel
theorem dX4_letWait_47 : decode cX4_letWait 47 = .ok (.putfield 48, 3) := by decide +kernel
theorem dX4_letWait_50 : decode cX4_letWait 50 = .ok (.iconst 1, 1) := by decide +kernel
theorem dX4_letWait_51 : decode cX4_letWait 51 = .ok (.ireturn, 1) := by decide +kernel
def E_s_letWait (T : TD) (S : SS) (a1 : Int32) (a2 : Int32) (S' : SS) (r : Int32) : Prop := if (S.1.1 2) < 256 then (∃ (S2 : SS) (r3 : Int32), E_s_packed T S a1 a2 S2 r3 ∧ (vp_in (S.1.1 2) 256 ∧ (vp_in (S2.1.1 2) 256 ∧ (S' = (sf (sl (sa S2 0 ((S.1.1 2).toNatClampNeg) r3) 1 ((S2.1.1 2).toNatClampNeg) S2.2) 2 ((S2.1.1 2) + 1)) ∧ r = 1)))) else (S' = S ∧ r = 0)
set_option maxHeartbeats 4000000 in
set_option maxRecDepth 100000 in
theorem e_s_letWait (l : Launch) (G : PG) (h : Nat) (q ad : Nat → Nat) (T : TD) (hO : tOK T) (S : SS) (a1 : Int32) (a2 : Int32) (S' : SS) (r : Int32) (hE : E_s_letWait T S a1 a2 S' r) : Ci l yX4_letWait (Cond.code yX4_letWait cX4_letWait 3 (some .boolean) :: aW) { frames := 1, cells := 0, slots := 0, locals := 22 } G (sW G h q ad T S) [.ref h, .int a1, .int a2] (fun (r9 : Int32) (_ : Unit) => r9 = r) (fun (_ : Unit) => sW G h q ad T S') 0 0 := by
  refine ofB (y := yX4_letWait) (G := G) (cc := cX4_letWait) (maxL := 3) (ret := (some .boolean)) (Qc := fun A => va_Qi (fun (r9 : Int32) (_ : Unit) => r9 = r) (oB G A (fun (_ : Unit) => sW G h q ad T S')) A) (by decide) rfl ?_
  intro p e s m below meth c A F hK hA hP hD
  have hS : va_S A s.heap s.heap [] := va_S.rf
  have hx := F.1.1; have hb := F.1.2.1; have hml := F.1.2.2.1; have hts := F.1.2.2.2.2
  have hown : s.vm.findClass RX4 = some m.cls := F.1.2.2.2.1
  have hl := lv_entry ([.ref h, .int a1, .int a2]) (n := 3) (Nat.le_of_ble_eq_true rfl)
  rw [lg_entry_eq]
  generalize (lg_sl ([.ref h, .int a1, .int a2]) ++ List.replicate (3 - (lg_sl ([.ref h, .int a1, .int a2])).length) Slot.unset).toArray = ls at hl ⊢
  have hl : lv_has ls 3 [(0, .ref h), (1, .int a1), (2, .int a2)] := hl
  unfold E_s_letWait at hE
  refine lv_aload_n hx hb dX4_letWait_0 rfl (lv_at hl 0 rfl) ?_
  refine va_get (D := G.1) (ci := 4) (C := RX4) (T := TX4) (N := 13) hx hb hts inX4 hown hK.1 hP 0 sW_0 rfl 2 (by decide) (hts _ w_141) (fun _ h9 => h9) sF_2 dX4_letWait_1 ?_
  refine lv_sipush (v := 256) hx hb dX4_letWait_4 (by decide) ?_
  refine lv_icmp_lt (tgt := 12) hx hb dX4_letWait_7 (by decide) (fun h1 => ?_) (fun h1 => ?_)
  ·
    rw [if_pos h1] at hE
    refine lv_aload_n hx hb dX4_letWait_12 rfl (lv_at hl 0 rfl) ?_
    refine va_get (D := G.1) (ci := 4) (C := RX4) (T := TX4) (N := 13) hx hb hts inX4 hown hK.1 hP 0 sW_0 rfl 0 (by decide) (hts _ w_139) (fun _ h9 => h9) sF_0 dX4_letWait_13 ?_
    refine lv_aload_n hx hb dX4_letWait_16 rfl (lv_at hl 0 rfl) ?_
    refine va_get (D := G.1) (ci := 4) (C := RX4) (T := TX4) (N := 13) hx hb hts inX4 hown hK.1 hP 0 sW_0 rfl 2 (by decide) (hts _ w_141) (fun _ h9 => h9) sF_2 dX4_letWait_17 ?_
    refine lv_aload_n hx hb dX4_letWait_20 rfl (lv_at hl 0 rfl) ?_
    refine lv_iload_n hx hb dX4_letWait_21 rfl (lv_at hl 1 rfl) ?_
    refine lv_iload_n hx hb dX4_letWait_22 rfl (lv_at hl 2 rfl) ?_
    obtain ⟨S2, r3, hg, hE⟩ := hE
    refine kA_i (va_runV (As := [.int a1, .int a2]) (rest := [.int (S.1.1 2), .ref (q 0)]) F.1 (e_s_packed l G h q ad T hO S a1 a2 S2 r3 hg _) (cwV 2 hts (aw_V w_689 w_691 ws_X4_packed w_2 w_692) rfl rfl rfl (by decide +kernel) ⟨by decide, by decide⟩) ⟨cS_blind, va_recv (q := (RX4, TX4, 13)) (ci := 4) (q0 := 0) hK.1 hP rfl sW_0, cS_pre hP hD hK⟩ rfl rfl hl.1 rfl (lv_room (Nat.le_of_ble_eq_true rfl)) dX4_letWait_23 ⟨Nat.le_refl _, Nat.le_refl _⟩) hD hS hA (fun r9 u0 H locs hp hP hD hS => ?_)
    have hp := hp.symm; subst hp
    obtain ⟨hin, hE⟩ := hE
    refine va_iast (D := G.1) hx hb hK.1 hP hD hS 3 0 sW_g0 rfl hin dX4_letWait_26 (fun H locs hP hD hS => ?_)
    rw [sW_a0] at hP hD
    refine lv_aload_n hx hb dX4_letWait_27 rfl (lv_at hl 0 rfl) ?_
    refine va_get (D := G.1) (ci := 4) (C := RX4) (T := TX4) (N := 13) hx hb hts inX4 hown hK.1 hP 0 sW_0 rfl 1 (by decide) (hts _ w_140) (fun _ h9 => h9) sF_1 dX4_letWait_28 ?_
    refine lv_aload_n hx hb dX4_letWait_31 rfl (lv_at hl 0 rfl) ?_
    refine va_get (D := G.1) (ci := 4) (C := RX4) (T := TX4) (N := 13) hx hb hts inX4 hown hK.1 hP 0 sW_0 rfl 2 (by decide) (hts _ w_141) (fun _ h9 => h9) sF_2 dX4_letWait_32 ?_
    refine tp_i (S2.1.1 2) rfl ?_
    refine lv_aload_n hx hb dX4_letWait_35 rfl (lv_at hl 0 rfl) ?_
    refine va_get (D := G.1) (ci := 4) (C := RX4) (T := TX4) (N := 13) hx hb hts inX4 hown hK.1 hP 0 sW_0 rfl 12 (by decide) (hts _ w_154) (fun _ h9 => h9) sF_12 dX4_letWait_36 ?_
    refine tp_l S2.2 rfl ?_
    obtain ⟨hin, hE⟩ := hE
    refine va_last (D := G.1) hx hb hK.1 hP hD hS 4 1 sW_g1 rfl hin dX4_letWait_39 (fun H locs hP hD hS => ?_)
    rw [sW_a1] at hP hD
    refine lv_aload_n hx hb dX4_letWait_40 rfl (lv_at hl 0 rfl) ?_
    refine lv_dup hx hb dX4_letWait_41 rfl ?_
    refine va_get (D := G.1) (ci := 4) (C := RX4) (T := TX4) (N := 13) hx hb hts inX4 hown hK.1 hP 0 sW_0 rfl 2 (by decide) (hts _ w_141) (fun _ h9 => h9) sF_2 dX4_letWait_42 ?_
    refine tp_i (S2.1.1 2) rfl ?_
    refine lv_iconst (v := 1) hx hb dX4_letWait_45 (by decide) ?_
    refine lv_iadd hx hb dX4_letWait_46 ?_
    refine va_put (D := G.1) (ci := 4) (v := .int ((S2.1.1 2) + 1)) (ty := .int) (C := RX4) (T := TX4) (N := 13) hx hb hts inX4 tyX4 tyX4_ok nmX4 hown hK.1 hP hD hS 0 sW_0 rfl 2 (by decide) (hts _ w_141) (fun _ h9 => h9) rfl (by decide +kernel) rfl rfl sF_l2 dX4_letWait_47 (fun H locs hP hD hS => ?_)
    rw [sW_f2] at hP hD
    refine lv_iconst (v := 1) hx hb dX4_letWait_50 (by decide) ?_
    obtain ⟨rfl, rfl⟩ := hE
    exact en_i F hS _ () (by rfl) rfl hP hD (Nat.le_refl _) (Nat.le_refl _) dX4_letWait_51
  ·
    rw [if_neg h1] at hE
    refine lv_iconst (v := 0) hx hb dX4_letWait_10 (by decide) ?_
    obtain ⟨rfl, rfl⟩ := hE
    exact en_i F hS _ () (by rfl) rfl hP hD (Nat.le_refl _) (Nat.le_refl _) dX4_letWait_11

theorem dX4_takeWaiting_0 : decode cX4_takeWaiting 0 = .ok (.aload_n 0, 1) := by decide +kernel
theorem dX4_takeWaiting_1 : decode cX4_takeWaiting 1 = .ok (.dup, 1) := by decide +kernel
theorem dX4_takeWaiting_2 : decode cX4_takeWaiting 2 = .ok (.getfield 48, 3) := by decide +kernel
theorem dX4_takeWaiting_5 : decode cX4_takeWaiting 5 = .ok (.iconst 1, 1) := by decide +kernel
theorem dX4_takeWaiting_6 : decode cX4_takeWaiting 6 = .ok (.isub, 1) := by decide +kernel
theorem dX4_takeWaiting_7 : decode cX4_takeWaiting 7 = .ok (.putfield 48, 3) := by decide +kernel
theorem dX4_takeWaiting_10 : decode cX4_takeWaiting 10 = .ok (.aload_n 0, 1) := by decide +kernel
theorem dX4_takeWaiting_11 : decode cX4_takeWaiting 11 = .ok (.getfield 27, 3) := by decide +kernel
theorem dX4_takeWaiting_14 : decode cX4_takeWaiting 14 = .ok (.aload_n 0, 1) := by decide +kernel
theorem dX4_takeWaiting_15 : decode cX4_takeWaiting 15 = .ok (.getfield 48, 3) := by decide +kernel
theorem dX4_takeWaiting_18 : decode cX4_takeWaiting 18 = .ok (.iaload, 1) := by decide +kernel
theorem dX4_takeWaiting_19 : decode cX4_takeWaiting 19 = .ok (.istore_n 1, 1) := by decide +kernel
theorem dX4_takeWaiting_20 : decode cX4_takeWaiting 20 = .ok (.aload_n 0, 1) := by decide +kernel
theorem dX4_takeWaiting_21 : decode cX4_takeWaiting 21 = .ok (.iload_n 1, 1) := by decide +kernel
theorem dX4_takeWaiting_22 : decode cX4_takeWaiting 22 = .ok (.bipush 24, 2) := by decide +kernel
theorem dX4_takeWaiting_24 : decode cX4_takeWaiting 24 = .ok (.iushr, 1) := by decide +kernel
theorem dX4_takeWaiting_25 : decode cX4_takeWaiting 25 = .ok (.putfield 67, 3) := by decide +kernel
theorem dX4_takeWaiting_28 : decode cX4_takeWaiting 28 = .ok (.aload_n 0, 1) := by decide +kernel
theorem dX4_takeWaiting_29 : decode cX4_takeWaiting 29 = .ok (.iload_n 1, 1) := by decide +kernel
theorem dX4_takeWaiting_30 : decode cX4_takeWaiting 30 = .ok (.bipush 20, 2) := by decide +kernel
theorem dX4_takeWaiting_32 : decode cX4_takeWaiting 32 = .ok (.iushr, 1) := by decide +kernel
theorem dX4_takeWaiting_33 : decode cX4_takeWaiting 33 = .ok (.bipush 15, 2) := by decide +kernel
theorem dX4_takeWaiting_35 : decode cX4_takeWaiting 35 = .ok (.iand, 1) := by decide +kernel
theorem dX4_takeWaiting_36 : decode cX4_takeWaiting 36 = .ok (.putfield 51, 3) := by decide +kernel
theorem dX4_takeWaiting_39 : decode cX4_takeWaiting 39 = .ok (.aload_n 0, 1) := by decide +kernel
theorem dX4_takeWaiting_40 : decode cX4_takeWaiting 40 = .ok (.iload_n 1, 1) := by decide +kernel
theorem dX4_takeWaiting_41 : decode cX4_takeWaiting 41 = .ok (.ldc 190, 2) := by decide +kernel
theorem dX4_takeWaiting_43 : decode cX4_takeWaiting 43 = .ok (.iand, 1) := by decide +kernel
theorem dX4_takeWaiting_44 : decode cX4_takeWaiting 44 = .ok (.putfield 70, 3) := by decide +kernel
theorem dX4_takeWaiting_47 : decode cX4_takeWaiting 47 = .ok (.aload_n 0, 1) := by decide +kernel
theorem dX4_takeWaiting_48 : decode cX4_takeWaiting 48 = .ok (.aload_n 0, 1) := by decide +kernel
theorem dX4_takeWaiting_49 : decode cX4_takeWaiting 49 = .ok (.getfield 31, 3) := by decide +kernel
theorem dX4_takeWaiting_52 : decode cX4_takeWaiting 52 = .ok (.aload_n 0, 1) := by decide +kernel
theorem dX4_takeWaiting_53 : decode cX4_takeWaiting 53 = .ok (.getfield 48, 3) := by decide +kernel
theorem dX4_takeWaiting_56 : decode cX4_takeWaiting 56 = .ok (.laload, 1) := by decide +kernel
theorem dX4_takeWaiting_57 : decode cX4_takeWaiting 57 = .ok (.putfield 56, 3) := by decide +kernel
theorem dX4_takeWaiting_60 : decode cX4_takeWaiting 60 = .ok (.return_, 1) := by decide +kernel
def E_s_takeWaiting (T : TD) (S : SS)  (S' : SS) (r : Int32) : Prop := vp_in ((S.1.1 2) - 1) 256 ∧ (vp_in ((S.1.1 2) - 1) 256 ∧ (S' = (ss (sf (sf (sf (sf S 2 ((S.1.1 2) - 1)) 9 (((S.1.2.1 0 ((S.1.1 2) - 1).toNatClampNeg).toUInt32 >>> ((24 : Int32).toUInt32 &&& Int32.toUInt32 31)).toInt32)) 10 (((S.1.2.1 0 ((S.1.1 2) - 1).toNatClampNeg).toUInt32 >>> ((20 : Int32).toUInt32 &&& Int32.toUInt32 31)).toInt32 &&& 15)) 11 ((S.1.2.1 0 ((S.1.1 2) - 1).toNatClampNeg) &&& 1048575)) (S.1.2.2 1 ((S.1.1 2) - 1).toNatClampNeg)) ∧ r = 0))
set_option maxHeartbeats 4000000 in
set_option maxRecDepth 100000 in
theorem e_s_takeWaiting (l : Launch) (G : PG) (h : Nat) (q ad : Nat → Nat) (T : TD) (hO : tOK T) (S : SS)  (S' : SS) (r : Int32) (hE : E_s_takeWaiting T S S' r) : Cv l yX4_takeWaiting (Cond.code yX4_takeWaiting cX4_takeWaiting 2 none :: aW) { frames := 0, cells := 0, slots := 0, locals := 0 } G (sW G h q ad T S) [.ref h] (fun (_ : Unit) => True) (fun (_ : Unit) => sW G h q ad T S') 0 0 := by
  refine ofB (y := yX4_takeWaiting) (G := G) (cc := cX4_takeWaiting) (maxL := 2) (ret := none) (Qc := fun A => va_Qv (fun (_ : Unit) => True) (oB G A (fun (_ : Unit) => sW G h q ad T S')) A) (by decide) rfl ?_
  intro p e s m below meth c A F hK hA hP hD
  have hS : va_S A s.heap s.heap [] := va_S.rf
  have hx := F.1.1; have hb := F.1.2.1; have hml := F.1.2.2.1; have hts := F.1.2.2.2.2
  have hown : s.vm.findClass RX4 = some m.cls := F.1.2.2.2.1
  have hl := lv_entry ([.ref h]) (n := 2) (Nat.le_of_ble_eq_true rfl)
  rw [lg_entry_eq]
  generalize (lg_sl ([.ref h]) ++ List.replicate (2 - (lg_sl ([.ref h])).length) Slot.unset).toArray = ls at hl ⊢
  have hl : lv_has ls 2 [(0, .ref h)] := hl
  unfold E_s_takeWaiting at hE
  refine lv_aload_n hx hb dX4_takeWaiting_0 rfl (lv_at hl 0 rfl) ?_
  refine lv_dup hx hb dX4_takeWaiting_1 rfl ?_
  refine va_get (D := G.1) (ci := 4) (C := RX4) (T := TX4) (N := 13) hx hb hts inX4 hown hK.1 hP 0 sW_0 rfl 2 (by decide) (hts _ w_141) (fun _ h9 => h9) sF_2 dX4_takeWaiting_2 ?_
  refine lv_iconst (v := 1) hx hb dX4_takeWaiting_5 (by decide) ?_
  refine lv_isub hx hb dX4_takeWaiting_6 ?_
  refine va_put (D := G.1) (ci := 4) (v := .int ((S.1.1 2) - 1)) (ty := .int) (C := RX4) (T := TX4) (N := 13) hx hb hts inX4 tyX4 tyX4_ok nmX4 hown hK.1 hP hD hS 0 sW_0 rfl 2 (by decide) (hts _ w_141) (fun _ h9 => h9) rfl (by decide +kernel) rfl rfl sF_l2 dX4_takeWaiting_7 (fun H locs hP hD hS => ?_)
  rw [sW_f2] at hP hD
  refine lv_aload_n hx hb dX4_takeWaiting_10 rfl (lv_at hl 0 rfl) ?_
  refine va_get (D := G.1) (ci := 4) (C := RX4) (T := TX4) (N := 13) hx hb hts inX4 hown hK.1 hP 0 sW_0 rfl 0 (by decide) (hts _ w_139) (fun _ h9 => h9) sF_0 dX4_takeWaiting_11 ?_
  refine lv_aload_n hx hb dX4_takeWaiting_14 rfl (lv_at hl 0 rfl) ?_
  refine va_get (D := G.1) (ci := 4) (C := RX4) (T := TX4) (N := 13) hx hb hts inX4 hown hK.1 hP 0 sW_0 rfl 2 (by decide) (hts _ w_141) (fun _ h9 => h9) sF_2 dX4_takeWaiting_15 ?_
  refine tp_i ((S.1.1 2) - 1) rfl ?_
  obtain ⟨hin, hE⟩ := hE
  refine va_iald (D := G.1) hx hb hK.1 hP 3 0 sW_g0 rfl hin dX4_takeWaiting_18 ?_
  refine tp_i (S.1.2.1 0 ((S.1.1 2) - 1).toNatClampNeg) rfl ?_
  refine lv_istore_n hx hb dX4_takeWaiting_19 rfl hl (by decide) rfl (fun ls hl => ?_)
  have hl : lv_has ls 2 [(1, .int (S.1.2.1 0 ((S.1.1 2) - 1).toNatClampNeg)), (0, .ref h)] := hl
  refine lv_aload_n hx hb dX4_takeWaiting_20 rfl (lv_at hl 1 rfl) ?_
  refine lv_iload_n hx hb dX4_takeWaiting_21 rfl (lv_at hl 0 rfl) ?_
  refine lv_bipush (v := 24) hx hb dX4_takeWaiting_22 (by decide) ?_
  refine lv_iushr (v := ((S.1.2.1 0 ((S.1.1 2) - 1).toNatClampNeg).toUInt32 >>> ((24 : Int32).toUInt32 &&& Int32.toUInt32 31)).toInt32) hx hb dX4_takeWaiting_24 rfl ?_
  refine va_put (D := G.1) (ci := 4) (v := .int (((S.1.2.1 0 ((S.1.1 2) - 1).toNatClampNeg).toUInt32 >>> ((24 : Int32).toUInt32 &&& Int32.toUInt32 31)).toInt32)) (ty := .int) (C := RX4) (T := TX4) (N := 13) hx hb hts inX4 tyX4 tyX4_ok nmX4 hown hK.1 hP hD hS 0 sW_0 rfl 9 (by decide) (hts _ w_150) (fun _ h9 => h9) rfl (by decide +kernel) rfl rfl sF_l9 dX4_takeWaiting_25 (fun H locs hP hD hS => ?_)
  rw [sW_f9] at hP hD
  refine lv_aload_n hx hb dX4_takeWaiting_28 rfl (lv_at hl 1 rfl) ?_
  refine lv_iload_n hx hb dX4_takeWaiting_29 rfl (lv_at hl 0 rfl) ?_
  refine lv_bipush (v := 20) hx hb dX4_takeWaiting_30 (by decide) ?_
  refine lv_iushr (v := ((S.1.2.1 0 ((S.1.1 2) - 1).toNatClampNeg).toUInt32 >>> ((20 : Int32).toUInt32 &&& Int32.toUInt32 31)).toInt32) hx hb dX4_takeWaiting_32 rfl ?_
  refine lv_bipush (v := 15) hx hb dX4_takeWaiting_33 (by decide) ?_
  refine lv_iand hx hb dX4_takeWaiting_35 ?_
  refine va_put (D := G.1) (ci := 4) (v := .int (((S.1.2.1 0 ((S.1.1 2) - 1).toNatClampNeg).toUInt32 >>> ((20 : Int32).toUInt32 &&& Int32.toUInt32 31)).toInt32 &&& 15)) (ty := .int) (C := RX4) (T := TX4) (N := 13) hx hb hts inX4 tyX4 tyX4_ok nmX4 hown hK.1 hP hD hS 0 sW_0 rfl 10 (by decide) (hts _ w_151) (fun _ h9 => h9) rfl (by decide +kernel) rfl rfl sF_l10 dX4_takeWaiting_36 (fun H locs hP hD hS => ?_)
  rw [sW_f10] at hP hD
  refine lv_aload_n hx hb dX4_takeWaiting_39 rfl (lv_at hl 1 rfl) ?_
  refine lv_iload_n hx hb dX4_takeWaiting_40 rfl (lv_at hl 0 rfl) ?_
  refine lv_ldc (v := 1048575) hx hb hown (hts _ w_639) dX4_takeWaiting_41 ?_
  refine lv_iand hx hb dX4_takeWaiting_43 ?_
  refine va_put (D := G.1) (ci := 4) (v := .int ((S.1.2.1 0 ((S.1.1 2) - 1).toNatClampNeg) &&& 1048575)) (ty := .int) (C := RX4) (T := TX4) (N := 13) hx hb hts inX4 tyX4 tyX4_ok nmX4 hown hK.1 hP hD hS 0 sW_0 rfl 11 (by decide) (hts _ w_153) (fun _ h9 => h9) rfl (by decide +kernel) rfl rfl sF_l11 dX4_takeWaiting_44 (fun H locs hP hD hS => ?_)
  rw [sW_f11] at hP hD
  refine lv_aload_n hx hb dX4_takeWaiting_47 rfl (lv_at hl 1 rfl) ?_
  refine lv_aload_n hx hb dX4_takeWaiting_48 rfl (lv_at hl 1 rfl) ?_
  refine va_get (D := G.1) (ci := 4) (C := RX4) (T := TX4) (N := 13) hx hb hts inX4 hown hK.1 hP 0 sW_0 rfl 1 (by decide) (hts _ w_140) (fun _ h9 => h9) sF_1 dX4_takeWaiting_49 ?_
  refine lv_aload_n hx hb dX4_takeWaiting_52 rfl (lv_at hl 1 rfl) ?_
  refine va_get (D := G.1) (ci := 4) (C := RX4) (T := TX4) (N := 13) hx hb hts inX4 hown hK.1 hP 0 sW_0 rfl 2 (by decide) (hts _ w_141) (fun _ h9 => h9) sF_2 dX4_takeWaiting_53 ?_
  refine tp_i ((S.1.1 2) - 1) rfl ?_
  obtain ⟨hin, hE⟩ := hE
  refine va_lald (D := G.1) hx hb hK.1 hP 4 1 sW_g1 rfl hin dX4_takeWaiting_56 ?_
  refine tp_l (S.1.2.2 1 ((S.1.1 2) - 1).toNatClampNeg) rfl ?_
  refine va_put (D := G.1) (ci := 4) (v := .long (S.1.2.2 1 ((S.1.1 2) - 1).toNatClampNeg)) (ty := .long) (C := RX4) (T := TX4) (N := 13) hx hb hts inX4 tyX4 tyX4_ok nmX4 hown hK.1 hP hD hS 0 sW_0 rfl 12 (by decide) (hts _ w_154) (fun _ h9 => h9) rfl (by decide +kernel) rfl rfl sF_l12 dX4_takeWaiting_57 (fun H locs hP hD hS => ?_)
  rw [sW_f12] at hP hD
  obtain ⟨rfl, rfl⟩ := hE
  exact en_v F hS () trivial hP hD (Nat.le_refl _) (Nat.le_refl _) dX4_takeWaiting_60

theorem dX4_isEdge_0 : decode cX4_isEdge 0 = .ok (.aload_n 0, 1) := by decide +kernel
theorem dX4_isEdge_1 : decode cX4_isEdge 1 = .ok (.getfield 14, 3) := by decide +kernel
theorem dX4_isEdge_4 : decode cX4_isEdge 4 = .ok (.aload_n 0, 1) := by decide +kernel
theorem dX4_isEdge_5 : decode cX4_isEdge 5 = .ok (.getfield 51, 3) := by decide +kernel
theorem dX4_isEdge_8 : decode cX4_isEdge 8 = .ok (.iconst 1, 1) := by decide +kernel
theorem dX4_isEdge_9 : decode cX4_isEdge 9 = .ok (.isub, 1) := by decide +kernel
theorem dX4_isEdge_10 : decode cX4_isEdge 10 = .ok (.invokevirtual 144, 3) := by decide +kernel
theorem dX4_isEdge_13 : decode cX4_isEdge 13 = .ok (.invokestatic 166, 3) := by decide +kernel
theorem dX4_isEdge_16 : decode cX4_isEdge 16 = .ok (.aload_n 0, 1) := by decide +kernel
theorem dX4_isEdge_17 : decode cX4_isEdge 17 = .ok (.getfield 14, 3) := by decide +kernel
theorem dX4_isEdge_20 : decode cX4_isEdge 20 = .ok (.aload_n 0, 1) := by decide +kernel
theorem dX4_isEdge_21 : decode cX4_isEdge 21 = .ok (.getfield 51, 3) := by decide +kernel
theorem dX4_isEdge_24 : decode cX4_isEdge 24 = .ok (.invokevirtual 144, 3) := by decide +kernel
theorem dX4_isEdge_27 : decode cX4_isEdge 27 = .ok (.invokestatic 166, 3) := by decide +kernel
theorem dX4_isEdge_30 : decode cX4_isEdge 30 = .ok (.if_icmp .eq 7, 3) := by decide +kernel
theorem dX4_isEdge_33 : decode cX4_isEdge 33 = .ok (.iconst 1, 1) := by decide +kernel
theorem dX4_isEdge_34 : decode cX4_isEdge 34 = .ok (.goto 4, 3) := by decide +kernel
theorem dX4_isEdge_37 : decode cX4_isEdge 37 = .ok (.iconst 0, 1) := by decide +kernel
theorem dX4_isEdge_38 : decode cX4_isEdge 38 = .ok (.ireturn, 1) := by decide +kernel
def E_s_isEdge (T : TD) (S : SS)  (S' : SS) (r : Int32) : Prop := ∃ r1 : Int32, E_X4_isWord (rw_at (tJ T) (tG T) ((S.1.1 10) - 1)) r1 ∧ (∃ r2 : Int32, E_X4_isWord (rw_at (tJ T) (tG T) (S.1.1 10)) r2 ∧ (if r1 = r2 then (S' = S ∧ r = 0) else (S' = S ∧ r = 1)))
set_option maxHeartbeats 4000000 in
set_option maxRecDepth 100000 in
theorem e_s_isEdge (l : Launch) (G : PG) (h : Nat) (q ad : Nat → Nat) (T : TD) (hO : tOK T) (S : SS)  (S' : SS) (r : Int32) (hE : E_s_isEdge T S S' r) : Ci l yX4_isEdge (Cond.code yX4_isEdge cX4_isEdge 1 (some .boolean) :: aW) { frames := 2, cells := 0, slots := 0, locals := 46 } G (sW G h q ad T S) [.ref h] (fun (r9 : Int32) (_ : Unit) => r9 = r) (fun (_ : Unit) => sW G h q ad T S') 0 0 := by
  refine ofB (y := yX4_isEdge) (G := G) (cc := cX4_isEdge) (maxL := 1) (ret := (some .boolean)) (Qc := fun A => va_Qi (fun (r9 : Int32) (_ : Unit) => r9 = r) (oB G A (fun (_ : Unit) => sW G h q ad T S')) A) (by decide) rfl ?_
  intro p e s m below meth c A F hK hA hP hD
  have hS : va_S A s.heap s.heap [] := va_S.rf
  have hx := F.1.1; have hb := F.1.2.1; have hml := F.1.2.2.1; have hts := F.1.2.2.2.2
  have hown : s.vm.findClass RX4 = some m.cls := F.1.2.2.2.1
  have hl := lv_entry ([.ref h]) (n := 1) (Nat.le_of_ble_eq_true rfl)
  rw [lg_entry_eq]
  generalize (lg_sl ([.ref h]) ++ List.replicate (1 - (lg_sl ([.ref h])).length) Slot.unset).toArray = ls at hl ⊢
  have hl : lv_has ls 1 [(0, .ref h)] := hl
  unfold E_s_isEdge at hE
  refine lv_aload_n hx hb dX4_isEdge_0 rfl (lv_at hl 0 rfl) ?_
  refine va_get (D := G.1) (ci := 4) (C := RX4) (T := TX4) (N := 13) hx hb hts inX4 hown hK.1 hP 0 sW_0 rfl 7 (by decide) (hts _ w_146) (fun _ h9 => h9) sF_7 dX4_isEdge_1 ?_
  refine lv_aload_n hx hb dX4_isEdge_4 rfl (lv_at hl 0 rfl) ?_
  refine va_get (D := G.1) (ci := 4) (C := RX4) (T := TX4) (N := 13) hx hb hts inX4 hown hK.1 hP 0 sW_0 rfl 10 (by decide) (hts _ w_151) (fun _ h9 => h9) sF_10 dX4_isEdge_5 ?_
  refine lv_iconst (v := 1) hx hb dX4_isEdge_8 (by decide) ?_
  refine lv_isub hx hb dX4_isEdge_9 ?_
  refine kp_V (va_runV (As := [.int ((S.1.1 10) - 1)]) (rest := []) F.1 (v_row_at l G _ _ _ (tJ T) (tG T) ((S.1.1 10) - 1) hO.1 (by decide) hO.2.1 _) (cwV 1 hts (aw_V w_650 w_336 w_337 w_3 w_338) rfl rfl rfl (by decide +kernel) ⟨by decide, by decide⟩) ⟨cS_blind, va_recv (q := (RX3, TX3, 2)) (ci := 3) (q0 := 0) hK.1 (sP_row hP) rfl rfl, cS_pre (sP_row hP) (sD_row hD) hK⟩ rfl rfl hl.1 rfl (lv_room (Nat.le_of_ble_eq_true rfl)) dX4_isEdge_10 ⟨Nat.le_refl _, Nat.le_refl _⟩) (fun v9 hp => ?_)
  subst hp
  obtain ⟨r1, hg, hE⟩ := hE
  refine kp_V (va_runS (As := [.int (rw_at (tJ T) (tG T) ((S.1.1 10) - 1))]) (rest := []) F.1 (e_X4_isWord l G (rw_at (tJ T) (tG T) ((S.1.1 10) - 1)) r1 hg _) (va_cwS 1 hts (aw_S w_663 w_664 w_2 w_665) rfl rfl rfl (by decide +kernel) ⟨by decide, by decide⟩) ⟨cS_blind, cS_pre va_P0 (va_D0 (A := fun _ => True)) hK⟩ rfl rfl hl.1 rfl (lv_room (Nat.le_of_ble_eq_true rfl)) dX4_isEdge_13 ⟨Nat.le_refl _, Nat.le_refl _⟩) (fun v9 hp => ?_)
  subst hp
  refine lv_aload_n hx hb dX4_isEdge_16 rfl (lv_at hl 0 rfl) ?_
  refine va_get (D := G.1) (ci := 4) (C := RX4) (T := TX4) (N := 13) hx hb hts inX4 hown hK.1 hP 0 sW_0 rfl 7 (by decide) (hts _ w_146) (fun _ h9 => h9) sF_7 dX4_isEdge_17 ?_
  refine lv_aload_n hx hb dX4_isEdge_20 rfl (lv_at hl 0 rfl) ?_
  refine va_get (D := G.1) (ci := 4) (C := RX4) (T := TX4) (N := 13) hx hb hts inX4 hown hK.1 hP 0 sW_0 rfl 10 (by decide) (hts _ w_151) (fun _ h9 => h9) sF_10 dX4_isEdge_21 ?_
  refine kp_V (va_runV (As := [.int (S.1.1 10)]) (rest := [.int r1]) F.1 (v_row_at l G _ _ _ (tJ T) (tG T) (S.1.1 10) hO.1 (by decide) hO.2.1 _) (cwV 1 hts (aw_V w_650 w_336 w_337 w_3 w_338) rfl rfl rfl (by decide +kernel) ⟨by decide, by decide⟩) ⟨cS_blind, va_recv (q := (RX3, TX3, 2)) (ci := 3) (q0 := 0) hK.1 (sP_row hP) rfl rfl, cS_pre (sP_row hP) (sD_row hD) hK⟩ rfl rfl hl.1 rfl (lv_room (Nat.le_of_ble_eq_true rfl)) dX4_isEdge_24 ⟨Nat.le_refl _, Nat.le_refl _⟩) (fun v9 hp => ?_)
  subst hp
  obtain ⟨r2, hg, hE⟩ := hE
  refine kp_V (va_runS (As := [.int (rw_at (tJ T) (tG T) (S.1.1 10))]) (rest := [.int r1]) F.1 (e_X4_isWord l G (rw_at (tJ T) (tG T) (S.1.1 10)) r2 hg _) (va_cwS 1 hts (aw_S w_663 w_664 w_2 w_665) rfl rfl rfl (by decide +kernel) ⟨by decide, by decide⟩) ⟨cS_blind, cS_pre va_P0 (va_D0 (A := fun _ => True)) hK⟩ rfl rfl hl.1 rfl (lv_room (Nat.le_of_ble_eq_true rfl)) dX4_isEdge_27 ⟨Nat.le_refl _, Nat.le_refl _⟩) (fun v9 hp => ?_)
  subst hp
  refine lv_icmp_eq (tgt := 37) hx hb dX4_isEdge_30 (by decide) (fun h3 => ?_) (fun h3 => ?_)
  ·
    rw [if_pos h3] at hE
    refine lv_iconst (v := 0) hx hb dX4_isEdge_37 (by decide) ?_
    obtain ⟨rfl, rfl⟩ := hE
    exact en_i F hS _ () (by rfl) rfl hP hD (Nat.le_refl _) (Nat.le_refl _) dX4_isEdge_38
  ·
    rw [if_neg h3] at hE
    refine lv_iconst (v := 1) hx hb dX4_isEdge_33 (by decide) ?_
    refine lv_goto (tgt := 38) hx hb dX4_isEdge_34 (by decide) ?_
    obtain ⟨rfl, rfl⟩ := hE
    exact en_i F hS _ () (by rfl) rfl hP hD (Nat.le_refl _) (Nat.le_refl _) dX4_isEdge_38

theorem dX4_takeCharacter_0 : decode cX4_takeCharacter 0 = .ok (.aload_n 0, 1) := by decide +kernel
theorem dX4_takeCharacter_1 : decode cX4_takeCharacter 1 = .ok (.getfield 51, 3) := by decide +kernel
theorem dX4_takeCharacter_4 : decode cX4_takeCharacter 4 = .ok (.aload_n 0, 1) := by decide +kernel
theorem dX4_takeCharacter_5 : decode cX4_takeCharacter 5 = .ok (.getfield 14, 3) := by decide +kernel
theorem dX4_takeCharacter_8 : decode cX4_takeCharacter 8 = .ok (.invokevirtual 96, 3) := by decide +kernel
theorem dX4_takeCharacter_11 : decode cX4_takeCharacter 11 = .ok (.if_icmp .ge 28, 3) := by decide +kernel
theorem dX4_takeCharacter_14 : decode cX4_takeCharacter 14 = .ok (.aload_n 0, 1) := by decide +kernel
theorem dX4_takeCharacter_15 : decode cX4_takeCharacter 15 = .ok (.getfield 14, 3) := by decide +kernel
theorem dX4_takeCharacter_18 : decode cX4_takeCharacter 18 = .ok (.aload_n 0, 1) := by decide +kernel
theorem dX4_takeCharacter_19 : decode cX4_takeCharacter 19 = .ok (.getfield 51, 3) := by decide +kernel
theorem dX4_takeCharacter_22 : decode cX4_takeCharacter 22 = .ok (.invokevirtual 144, 3) := by decide +kernel
theorem dX4_takeCharacter_25 : decode cX4_takeCharacter 25 = .ok (.aload_n 1, 1) := by decide +kernel
theorem dX4_takeCharacter_26 : decode cX4_takeCharacter 26 = .ok (.getfield 148, 3) := by decide +kernel
theorem dX4_takeCharacter_29 : decode cX4_takeCharacter 29 = .ok (.aload_n 1, 1) := by decide +kernel
theorem dX4_takeCharacter_30 : decode cX4_takeCharacter 30 = .ok (.getfield 151, 3) := by decide +kernel
theorem dX4_takeCharacter_33 : decode cX4_takeCharacter 33 = .ok (.invokestatic 154, 3) := by decide +kernel
theorem dX4_takeCharacter_36 : decode cX4_takeCharacter 36 = .ok (.ifCond .ne 5, 3) := by decide +kernel
theorem dX4_takeCharacter_39 : decode cX4_takeCharacter 39 = .ok (.iconst 0, 1) := by decide +kernel
theorem dX4_takeCharacter_40 : decode cX4_takeCharacter 40 = .ok (.ireturn, 1) := by decide +kernel
theorem dX4_takeCharacter_41 : decode cX4_takeCharacter 41 = .ok (.aload_n 0, 1) := by decide +kernel
theorem dX4_takeCharacter_42 : decode cX4_takeCharacter 42 = .ok (.aload_n 0, 1) := by decide +kernel
theorem dX4_takeCharacter_43 : decode cX4_takeCharacter 43 = .ok (.getfield 51, 3) := by decide +kernel
theorem dX4_takeCharacter_46 : decode cX4_takeCharacter 46 = .ok (.iconst 1, 1) := by decide +kernel
theorem dX4_takeCharacter_47 : decode cX4_takeCharacter 47 = .ok (.iadd, 1) := by decide +kernel
theorem dX4_takeCharacter_48 : decode cX4_takeCharacter 48 = .ok (.invokevirtual 158, 3) := by decide +kernel
theorem dX4_takeCharacter_51 : decode cX4_takeCharacter 51 = .ok (.iconst 1, 1) := by decide +kernel
theorem dX4_takeCharacter_52 : decode cX4_takeCharacter 52 = .ok (.ireturn, 1) := by decide +kernel
def E_s_takeCharacter (T : TD) (S : SS) (i : Nat) (S' : SS) (r : Int32) : Prop := if (nI (tJ T)) ≤ (S.1.1 10) then (S' = S ∧ r = 0) else (∃ r2 : Int32, E_X5_isIn (rw_at (tJ T) (tG T) (S.1.1 10)) (tLo T i) (tHi T i) r2 ∧ (if r2 = 0 then (S' = S ∧ r = 0) else (∃ S4 : SS, E_s_moveTo T S ((S.1.1 10) + 1) S4 0 ∧ (S' = S4 ∧ r = 1))))
set_option maxHeartbeats 4000000 in
set_option maxRecDepth 100000 in
theorem e_s_takeCharacter (l : Launch) (G : PG) (h : Nat) (q ad : Nat → Nat) (T : TD) (hO : tOK T) (S : SS) (i : Nat) (hi : i < 32) (S' : SS) (r : Int32) (hE : E_s_takeCharacter T S i S' r) : Ci l yX4_takeCharacter (Cond.code yX4_takeCharacter cX4_takeCharacter 2 (some .boolean) :: aW) { frames := 1, cells := 0, slots := 0, locals := 26 } G (sW G h q ad T S) [.ref h, .ref (ad i)] (fun (r9 : Int32) (_ : Unit) => r9 = r) (fun (_ : Unit) => sW G h q ad T S') 0 0 := by
  refine ofB (y := yX4_takeCharacter) (G := G) (cc := cX4_takeCharacter) (maxL := 2) (ret := (some .boolean)) (Qc := fun A => va_Qi (fun (r9 : Int32) (_ : Unit) => r9 = r) (oB G A (fun (_ : Unit) => sW G h q ad T S')) A) (by decide) rfl ?_
  intro p e s m below meth c A F hK hA hP hD
  have hS : va_S A s.heap s.heap [] := va_S.rf
  have hx := F.1.1; have hb := F.1.2.1; have hml := F.1.2.2.1; have hts := F.1.2.2.2.2
  have hown : s.vm.findClass RX4 = some m.cls := F.1.2.2.2.1
  have hl := lv_entry ([.ref h, .ref (ad i)]) (n := 2) (Nat.le_of_ble_eq_true rfl)
  rw [lg_entry_eq]
  generalize (lg_sl ([.ref h, .ref (ad i)]) ++ List.replicate (2 - (lg_sl ([.ref h, .ref (ad i)])).length) Slot.unset).toArray = ls at hl ⊢
  have hl : lv_has ls 2 [(0, .ref h), (1, .ref (ad i))] := hl
  unfold E_s_takeCharacter at hE
  refine lv_aload_n hx hb dX4_takeCharacter_0 rfl (lv_at hl 0 rfl) ?_
  refine va_get (D := G.1) (ci := 4) (C := RX4) (T := TX4) (N := 13) hx hb hts inX4 hown hK.1 hP 0 sW_0 rfl 10 (by decide) (hts _ w_151) (fun _ h9 => h9) sF_10 dX4_takeCharacter_1 ?_
  refine lv_aload_n hx hb dX4_takeCharacter_4 rfl (lv_at hl 0 rfl) ?_
  refine va_get (D := G.1) (ci := 4) (C := RX4) (T := TX4) (N := 13) hx hb hts inX4 hown hK.1 hP 0 sW_0 rfl 7 (by decide) (hts _ w_146) (fun _ h9 => h9) sF_7 dX4_takeCharacter_5 ?_
  refine kp_V (va_runV (As := []) (rest := [.int (S.1.1 10)]) F.1 (v_row_size l G _ _ _ _ _ _) (cwV 0 hts (aw_V w_649 w_258 w_259 w_3 w_260) rfl rfl rfl (by decide +kernel) ⟨by decide, by decide⟩) ⟨cS_blind, va_recv (q := (RX3, TX3, 2)) (ci := 3) (q0 := 0) hK.1 (sP_row hP) rfl rfl, cS_pre (sP_row hP) (sD_row hD) hK⟩ rfl rfl hl.1 rfl (lv_room (Nat.le_of_ble_eq_true rfl)) dX4_takeCharacter_8 ⟨Nat.le_refl _, Nat.le_refl _⟩) (fun v9 hp => ?_)
  subst hp
  refine lv_icmp_ge (tgt := 39) hx hb dX4_takeCharacter_11 (by decide) (fun h1 => ?_) (fun h1 => ?_)
  ·
    rw [if_pos h1] at hE
    refine lv_iconst (v := 0) hx hb dX4_takeCharacter_39 (by decide) ?_
    obtain ⟨rfl, rfl⟩ := hE
    exact en_i F hS _ () (by rfl) rfl hP hD (Nat.le_refl _) (Nat.le_refl _) dX4_takeCharacter_40
  ·
    rw [if_neg h1] at hE
    refine lv_aload_n hx hb dX4_takeCharacter_14 rfl (lv_at hl 0 rfl) ?_
    refine va_get (D := G.1) (ci := 4) (C := RX4) (T := TX4) (N := 13) hx hb hts inX4 hown hK.1 hP 0 sW_0 rfl 7 (by decide) (hts _ w_146) (fun _ h9 => h9) sF_7 dX4_takeCharacter_15 ?_
    refine lv_aload_n hx hb dX4_takeCharacter_18 rfl (lv_at hl 0 rfl) ?_
    refine va_get (D := G.1) (ci := 4) (C := RX4) (T := TX4) (N := 13) hx hb hts inX4 hown hK.1 hP 0 sW_0 rfl 10 (by decide) (hts _ w_151) (fun _ h9 => h9) sF_10 dX4_takeCharacter_19 ?_
    refine kp_V (va_runV (As := [.int (S.1.1 10)]) (rest := []) F.1 (v_row_at l G _ _ _ (tJ T) (tG T) (S.1.1 10) hO.1 (by decide) hO.2.1 _) (cwV 1 hts (aw_V w_650 w_336 w_337 w_3 w_338) rfl rfl rfl (by decide +kernel) ⟨by decide, by decide⟩) ⟨cS_blind, va_recv (q := (RX3, TX3, 2)) (ci := 3) (q0 := 0) hK.1 (sP_row hP) rfl rfl, cS_pre (sP_row hP) (sD_row hD) hK⟩ rfl rfl hl.1 rfl (lv_room (Nat.le_of_ble_eq_true rfl)) dX4_takeCharacter_22 ⟨Nat.le_refl _, Nat.le_refl _⟩) (fun v9 hp => ?_)
    subst hp
    refine lv_aload_n hx hb dX4_takeCharacter_25 rfl (lv_at hl 1 rfl) ?_
    refine va_getN (D := G.1) (ci := 0) (v := .long (tLo T i)) (C := RX0) (T := TX0) (N := 13) hx hb hts inX0 hown hK.1 hP (10 + i) (sW_n hi) rfl 11 (by decide) (hK.2.1.use w_86) (fun _ h9 => h9) rfl dX4_takeCharacter_26 ?_
    refine lv_aload_n hx hb dX4_takeCharacter_29 rfl (lv_at hl 1 rfl) ?_
    refine va_getN (D := G.1) (ci := 0) (v := .long (tHi T i)) (C := RX0) (T := TX0) (N := 13) hx hb hts inX0 hown hK.1 hP (10 + i) (sW_n hi) rfl 12 (by decide) (hK.2.1.use w_88) (fun _ h9 => h9) rfl dX4_takeCharacter_30 ?_
    obtain ⟨r2, hg, hE⟩ := hE
    refine kp_V (va_runSN (As := [.int (rw_at (tJ T) (tG T) (S.1.1 10)), .long (tLo T i), .long (tHi T i)]) (rest := []) F.1 (e_X5_isIn l G (rw_at (tJ T) (tG T) (S.1.1 10)) (tLo T i) (tHi T i) r2 hg _) (⟨va_cnB 3 hts (aw_G w_653) rfl rfl rfl (hK.2.1 _ w_651) (hts _ w_1) (by decide +kernel) ⟨by decide, by decide⟩, hts _ w_652, trivial⟩) ⟨cS_blind, cS_pre va_P0 (va_D0 (A := fun _ => True)) hK⟩ rfl rfl hl.1 rfl (lv_room (Nat.le_of_ble_eq_true rfl)) dX4_takeCharacter_33 ⟨Nat.le_refl _, Nat.le_refl _⟩) (fun v9 hp => ?_)
    subst hp
    refine lv_if_ne (tgt := 41) hx hb dX4_takeCharacter_36 (by decide) (fun h3 => ?_) (fun h3 => ?_)
    ·
      rw [if_neg h3] at hE
      refine lv_aload_n hx hb dX4_takeCharacter_41 rfl (lv_at hl 0 rfl) ?_
      refine lv_aload_n hx hb dX4_takeCharacter_42 rfl (lv_at hl 0 rfl) ?_
      refine va_get (D := G.1) (ci := 4) (C := RX4) (T := TX4) (N := 13) hx hb hts inX4 hown hK.1 hP 0 sW_0 rfl 10 (by decide) (hts _ w_151) (fun _ h9 => h9) sF_10 dX4_takeCharacter_43 ?_
      refine lv_iconst (v := 1) hx hb dX4_takeCharacter_46 (by decide) ?_
      refine lv_iadd hx hb dX4_takeCharacter_47 ?_
      obtain ⟨S4, hg, hE⟩ := hE
      refine kA_v (va_runV (As := [.int ((S.1.1 10) + 1)]) (rest := []) F.1 (e_s_moveTo l G h q ad T hO S ((S.1.1 10) + 1) S4 0 hg _) (cwV 1 hts (aw_V w_654 w_656 ws_X4_moveTo w_2 w_657) rfl rfl rfl (by decide +kernel) ⟨by decide, by decide⟩) ⟨cS_blind, va_recv (q := (RX4, TX4, 13)) (ci := 4) (q0 := 0) hK.1 hP rfl sW_0, cS_pre hP hD hK⟩ rfl rfl hl.1 rfl (lv_room (Nat.le_of_ble_eq_true rfl)) dX4_takeCharacter_48 ⟨Nat.le_refl _, Nat.le_refl _⟩) hD hS hA (fun u0 H locs hp hP hD hS => ?_)
      refine lv_iconst (v := 1) hx hb dX4_takeCharacter_51 (by decide) ?_
      obtain ⟨rfl, rfl⟩ := hE
      exact en_i F hS _ () (by rfl) rfl hP hD (Nat.le_refl _) (Nat.le_refl _) dX4_takeCharacter_52
    ·
      rw [if_pos h3] at hE
      refine lv_iconst (v := 0) hx hb dX4_takeCharacter_39 (by decide) ?_
      obtain ⟨rfl, rfl⟩ := hE
      exact en_i F hS _ () (by rfl) rfl hP hD (Nat.le_refl _) (Nat.le_refl _) dX4_takeCharacter_40

theorem dX4_takeSpanAgain_0 : decode cX4_takeSpanAgain 0 = .ok (.aload_n 0, 1) := by decide +kernel
theorem dX4_takeSpanAgain_1 : decode cX4_takeSpanAgain 1 = .ok (.getfield 56, 3) := by decide +kernel
theorem dX4_takeSpanAgain_4 : decode cX4_takeSpanAgain 4 = .ok (.iload_n 1, 1) := by decide +kernel
theorem dX4_takeSpanAgain_5 : decode cX4_takeSpanAgain 5 = .ok (.iconst 0, 1) := by decide +kernel
theorem dX4_takeSpanAgain_6 : decode cX4_takeSpanAgain 6 = .ok (.invokestatic 161, 3) := by decide +kernel
theorem dX4_takeSpanAgain_9 : decode cX4_takeSpanAgain 9 = .ok (.istore_n 2, 1) := by decide +kernel
theorem dX4_takeSpanAgain_10 : decode cX4_takeSpanAgain 10 = .ok (.aload_n 0, 1) := by decide +kernel
theorem dX4_takeSpanAgain_11 : decode cX4_takeSpanAgain 11 = .ok (.getfield 56, 3) := by decide +kernel
theorem dX4_takeSpanAgain_14 : decode cX4_takeSpanAgain 14 = .ok (.iload_n 1, 1) := by decide +kernel
theorem dX4_takeSpanAgain_15 : decode cX4_takeSpanAgain 15 = .ok (.iconst 4, 1) := by decide +kernel
theorem dX4_takeSpanAgain_16 : decode cX4_takeSpanAgain 16 = .ok (.invokestatic 161, 3) := by decide +kernel
theorem dX4_takeSpanAgain_19 : decode cX4_takeSpanAgain 19 = .ok (.iload_n 2, 1) := by decide +kernel
theorem dX4_takeSpanAgain_20 : decode cX4_takeSpanAgain 20 = .ok (.isub, 1) := by decide +kernel
theorem dX4_takeSpanAgain_21 : decode cX4_takeSpanAgain 21 = .ok (.istore_n 3, 1) := by decide +kernel
theorem dX4_takeSpanAgain_22 : decode cX4_takeSpanAgain 22 = .ok (.iload_n 2, 1) := by decide +kernel
theorem dX4_takeSpanAgain_23 : decode cX4_takeSpanAgain 23 = .ok (.ifCond .lt 19, 3) := by decide +kernel
theorem dX4_takeSpanAgain_26 : decode cX4_takeSpanAgain 26 = .ok (.aload_n 0, 1) := by decide +kernel
theorem dX4_takeSpanAgain_27 : decode cX4_takeSpanAgain 27 = .ok (.getfield 51, 3) := by decide +kernel
theorem dX4_takeSpanAgain_30 : decode cX4_takeSpanAgain 30 = .ok (.iload_n 3, 1) := by decide +kernel
theorem dX4_takeSpanAgain_31 : decode cX4_takeSpanAgain 31 = .ok (.iadd, 1) := by decide +kernel
theorem dX4_takeSpanAgain_32 : decode cX4_takeSpanAgain 32 = .ok (.aload_n 0, 1) := by decide +kernel
theorem dX4_takeSpanAgain_33 : decode cX4_takeSpanAgain 33 = .ok (.getfield 14, 3) := by decide +kernel
theorem dX4_takeSpanAgain_36 : decode cX4_takeSpanAgain 36 = .ok (.invokevirtual 96, 3) := by decide +kernel
theorem dX4_takeSpanAgain_39 : decode cX4_takeSpanAgain 39 = .ok (.if_icmp .le 5, 3) := by decide +kernel
theorem dX4_takeSpanAgain_42 : decode cX4_takeSpanAgain 42 = .ok (.iconst 0, 1) := by decide +kernel
theorem dX4_takeSpanAgain_43 : decode cX4_takeSpanAgain 43 = .ok (.ireturn, 1) := by decide +kernel
theorem dX4_takeSpanAgain_44 : decode cX4_takeSpanAgain 44 = .ok (.iconst 0, 1) := by decide +kernel
theorem dX4_takeSpanAgain_45 : decode cX4_takeSpanAgain 45 = .ok (.istore 4, 2) := by decide +kernel
theorem dX4_takeSpanAgain_47 : decode cX4_takeSpanAgain 47 = .ok (.iload 4, 2) := by decide +kernel
theorem dX4_takeSpanAgain_49 : decode cX4_takeSpanAgain 49 = .ok (.iload_n 3, 1) := by decide +kernel
theorem dX4_takeSpanAgain_50 : decode cX4_takeSpanAgain 50 = .ok (.if_icmp .ge 39, 3) := by decide +kernel
theorem dX4_takeSpanAgain_53 : decode cX4_takeSpanAgain 53 = .ok (.aload_n 0, 1) := by decide +kernel
theorem dX4_takeSpanAgain_54 : decode cX4_takeSpanAgain 54 = .ok (.getfield 14, 3) := by decide +kernel
theorem dX4_takeSpanAgain_57 : decode cX4_takeSpanAgain 57 = .ok (.iload_n 2, 1) := by decide +kernel
theorem dX4_takeSpanAgain_58 : decode cX4_takeSpanAgain 58 = .ok (.iload 4, 2) := by decide +kernel
theorem dX4_takeSpanAgain_60 : decode cX4_takeSpanAgain 60 = .ok (.iadd, 1) := by decide +kernel
theorem dX4_takeSpanAgain_61 : decode cX4_takeSpanAgain 61 = .ok (.invokevirtual 144, 3) := by decide +kernel
theorem dX4_takeSpanAgain_64 : decode cX4_takeSpanAgain 64 = .ok (.aload_n 0, 1) := by decide +kernel
theorem dX4_takeSpanAgain_65 : decode cX4_takeSpanAgain 65 = .ok (.getfield 14, 3) := by decide +kernel
theorem dX4_takeSpanAgain_68 : decode cX4_takeSpanAgain 68 = .ok (.aload_n 0, 1) := by decide +kernel
theorem dX4_takeSpanAgain_69 : decode cX4_takeSpanAgain 69 = .ok (.getfield 51, 3) := by decide +kernel
theorem dX4_takeSpanAgain_72 : decode cX4_takeSpanAgain 72 = .ok (.iload 4, 2) := by decide +kernel
theorem dX4_takeSpanAgain_74 : decode cX4_takeSpanAgain 74 = .ok (.iadd, 1) := by decide +kernel
theorem dX4_takeSpanAgain_75 : decode cX4_takeSpanAgain 75 = .ok (.invokevirtual 144, 3) := by decide +kernel
theorem dX4_takeSpanAgain_78 : decode cX4_takeSpanAgain 78 = .ok (.if_icmp .eq 5, 3) := by decide +kernel
theorem dX4_takeSpanAgain_81 : decode cX4_takeSpanAgain 81 = .ok (.iconst 0, 1) := by decide +kernel
theorem dX4_takeSpanAgain_82 : decode cX4_takeSpanAgain 82 = .ok (.ireturn, 1) := by decide +kernel
theorem dX4_takeSpanAgain_83 : decode cX4_takeSpanAgain 83 = .ok (.iinc 4 1, 3) := by decide +kernel
theorem dX4_takeSpanAgain_86 : decode cX4_takeSpanAgain 86 = .ok (.goto (-39), 3) := by decide +kernel
theorem dX4_takeSpanAgain_89 : decode cX4_takeSpanAgain 89 = .ok (.aload_n 0, 1) := by decide +kernel
theorem dX4_takeSpanAgain_90 : decode cX4_takeSpanAgain 90 = .ok (.aload_n 0, 1) := by decide +kernel
theorem dX4_takeSpanAgain_91 : decode cX4_takeSpanAgain 91 = .ok (.getfield 51, 3) := by decide +kernel
theorem dX4_takeSpanAgain_94 : decode cX4_takeSpanAgain 94 = .ok (.iload_n 3, 1) := by decide +kernel
theorem dX4_takeSpanAgain_95 : decode cX4_takeSpanAgain 95 = .ok (.iadd, 1) := by decide +kernel
theorem dX4_takeSpanAgain_96 : decode cX4_takeSpanAgain 96 = .ok (.invokevirtual 158, 3) := by decide +kernel
theorem dX4_takeSpanAgain_99 : decode cX4_takeSpanAgain 99 = .ok (.iconst 1, 1) := by decide +kernel
theorem dX4_takeSpanAgain_100 : decode cX4_takeSpanAgain 100 = .ok (.ireturn, 1) := by decide +kernel
def L_s_takeSpanAgain_47 (T : TD) : Nat → SS → Int32 → Int32 → Int32 → Int32 → SS → Int32 → Prop
  | 0, _, _, _, _, _, _, _ => False
  | nf + 1, S, x1, x2, x3, x4, S', r => if x3 ≤ x4 then (∃ S6 : SS, E_s_moveTo T S ((S.1.1 10) + x3) S6 0 ∧ (S' = S6 ∧ r = 1)) else (if (rw_at (tJ T) (tG T) (x2 + x4)) = (rw_at (tJ T) (tG T) ((S.1.1 10) + x4)) then (L_s_takeSpanAgain_47 T nf S x1 x2 x3 (x4 + 1) S' r) else (S' = S ∧ r = 0))
set_option maxHeartbeats 4000000 in
set_option maxRecDepth 100000 in
theorem L_s_takeSpanAgain_47_ok {l : Launch} {G : PG} {h : Nat} {q ad : Nat → Nat} {T : TD} (hO : tOK T) {a1 : Int32} {S' : SS} {r : Int32} {p : Program} {e : Env} {s : State} {m : MethodId} {below : List Frame} {meth : Method} {c : Code} {A : Nat → Prop} (F : bF p s m meth c cX4_takeSpanAgain 5 (some .boolean) ([.ref h, .int a1] : List Value).toArray yX4_takeSpanAgain) (hK : pg_K G s) (hA : ∀ q, s.heap.size ≤ q → A q) : ∀ (nf : Nat) (S : SS) (x1 : Int32) (x2 : Int32) (x3 : Int32) (x4 : Int32) (H : Heap) (locs : List Loc) (ls : Array Slot), lv_has ls 5 [(4, .int x4), (3, .int x3), (2, .int x2), (0, .ref h), (1, .int x1)] → L_s_takeSpanAgain_47 T nf S x1 x2 x3 x4 S' r → va_P G.1 vwCl (sW G h q ad T S) H → va_D A (sW G h q ad T S) → va_S A s.heap H locs → W p l e { frames := 1, cells := 0, slots := 0, locals := 24 } s m ([.ref h, .int a1] : List Value).toArray below meth c H locs 0 0 (MQ below (va_Qi (fun (r9 : Int32) (_ : Unit) => r9 = r) (oB G A (fun (_ : Unit) => sW G h q ad T S')) A) ([.ref h, .int a1] : List Value).toArray s 0 0 A) (F0 m 47 ls []) := by
  have hx := F.1.1; have hb := F.1.2.1; have hml := F.1.2.2.1; have hts := F.1.2.2.2.2
  have hown : s.vm.findClass RX4 = some m.cls := F.1.2.2.2.1
  intro nf
  induction nf with
  | zero => intro S x1 x2 x3 x4 H locs ls hl hE; exact hE.elim
  | succ nf ih =>
    intro S x1 x2 x3 x4 H locs ls hl hE hP hD hS
    unfold L_s_takeSpanAgain_47 at hE
    refine lv_iload hx hb dX4_takeSpanAgain_47 (lv_at hl 0 rfl) ?_
    refine lv_iload_n hx hb dX4_takeSpanAgain_49 rfl (lv_at hl 1 rfl) ?_
    refine lv_icmp_ge (tgt := 89) hx hb dX4_takeSpanAgain_50 (by decide) (fun h5 => ?_) (fun h5 => ?_)
    ·
      rw [if_pos h5] at hE
      refine lv_aload_n hx hb dX4_takeSpanAgain_89 rfl (lv_at hl 3 rfl) ?_
      refine lv_aload_n hx hb dX4_takeSpanAgain_90 rfl (lv_at hl 3 rfl) ?_
      refine va_get (D := G.1) (ci := 4) (C := RX4) (T := TX4) (N := 13) hx hb hts inX4 hown hK.1 hP 0 sW_0 rfl 10 (by decide) (hts _ w_151) (fun _ h9 => h9) sF_10 dX4_takeSpanAgain_91 ?_
      refine lv_iload_n hx hb dX4_takeSpanAgain_94 rfl (lv_at hl 1 rfl) ?_
      refine lv_iadd hx hb dX4_takeSpanAgain_95 ?_
      obtain ⟨S6, hg, hE⟩ := hE
      refine kA_v (va_runV (As := [.int ((S.1.1 10) + x3)]) (rest := []) F.1 (e_s_moveTo l G h q ad T hO S ((S.1.1 10) + x3) S6 0 hg _) (cwV 1 hts (aw_V w_654 w_656 ws_X4_moveTo w_2 w_657) rfl rfl rfl (by decide +kernel) ⟨by decide, by decide⟩) ⟨cS_blind, va_recv (q := (RX4, TX4, 13)) (ci := 4) (q0 := 0) hK.1 hP rfl sW_0, cS_pre hP hD hK⟩ rfl rfl hl.1 rfl (lv_room (Nat.le_of_ble_eq_true rfl)) dX4_takeSpanAgain_96 ⟨Nat.le_refl _, Nat.le_refl _⟩) hD hS hA (fun u0 H locs hp hP hD hS => ?_)
      refine lv_iconst (v := 1) hx hb dX4_takeSpanAgain_99 (by decide) ?_
      obtain ⟨rfl, rfl⟩ := hE
      exact en_i F hS _ () (by rfl) rfl hP hD (Nat.le_refl _) (Nat.le_refl _) dX4_takeSpanAgain_100
    ·
      rw [if_neg h5] at hE
      refine lv_aload_n hx hb dX4_takeSpanAgain_53 rfl (lv_at hl 3 rfl) ?_
      refine va_get (D := G.1) (ci := 4) (C := RX4) (T := TX4) (N := 13) hx hb hts inX4 hown hK.1 hP 0 sW_0 rfl 7 (by decide) (hts _ w_146) (fun _ h9 => h9) sF_7 dX4_takeSpanAgain_54 ?_
      refine lv_iload_n hx hb dX4_takeSpanAgain_57 rfl (lv_at hl 2 rfl) ?_
      refine lv_iload hx hb dX4_takeSpanAgain_58 (lv_at hl 0 rfl) ?_
      refine lv_iadd hx hb dX4_takeSpanAgain_60 ?_
      refine kp_V (va_runV (As := [.int (x2 + x4)]) (rest := []) F.1 (v_row_at l G _ _ _ (tJ T) (tG T) (x2 + x4) hO.1 (by decide) hO.2.1 _) (cwV 1 hts (aw_V w_650 w_336 w_337 w_3 w_338) rfl rfl rfl (by decide +kernel) ⟨by decide, by decide⟩) ⟨cS_blind, va_recv (q := (RX3, TX3, 2)) (ci := 3) (q0 := 0) hK.1 (sP_row hP) rfl rfl, cS_pre (sP_row hP) (sD_row hD) hK⟩ rfl rfl hl.1 rfl (lv_room (Nat.le_of_ble_eq_true rfl)) dX4_takeSpanAgain_61 ⟨Nat.le_refl _, Nat.le_refl _⟩) (fun v9 hp => ?_)
      subst hp
      refine lv_aload_n hx hb dX4_takeSpanAgain_64 rfl (lv_at hl 3 rfl) ?_
      refine va_get (D := G.1) (ci := 4) (C := RX4) (T := TX4) (N := 13) hx hb hts inX4 hown hK.1 hP 0 sW_0 rfl 7 (by decide) (hts _ w_146) (fun _ h9 => h9) sF_7 dX4_takeSpanAgain_65 ?_
      refine lv_aload_n hx hb dX4_takeSpanAgain_68 rfl (lv_at hl 3 rfl) ?_
      refine va_get (D := G.1) (ci := 4) (C := RX4) (T := TX4) (N := 13) hx hb hts inX4 hown hK.1 hP 0 sW_0 rfl 10 (by decide) (hts _ w_151) (fun _ h9 => h9) sF_10 dX4_takeSpanAgain_69 ?_
      refine lv_iload hx hb dX4_takeSpanAgain_72 (lv_at hl 0 rfl) ?_
      refine lv_iadd hx hb dX4_takeSpanAgain_74 ?_
      refine kp_V (va_runV (As := [.int ((S.1.1 10) + x4)]) (rest := [.int (rw_at (tJ T) (tG T) (x2 + x4))]) F.1 (v_row_at l G _ _ _ (tJ T) (tG T) ((S.1.1 10) + x4) hO.1 (by decide) hO.2.1 _) (cwV 1 hts (aw_V w_650 w_336 w_337 w_3 w_338) rfl rfl rfl (by decide +kernel) ⟨by decide, by decide⟩) ⟨cS_blind, va_recv (q := (RX3, TX3, 2)) (ci := 3) (q0 := 0) hK.1 (sP_row hP) rfl rfl, cS_pre (sP_row hP) (sD_row hD) hK⟩ rfl rfl hl.1 rfl (lv_room (Nat.le_of_ble_eq_true rfl)) dX4_takeSpanAgain_75 ⟨Nat.le_refl _, Nat.le_refl _⟩) (fun v9 hp => ?_)
      subst hp
      refine lv_icmp_eq (tgt := 83) hx hb dX4_takeSpanAgain_78 (by decide) (fun h8 => ?_) (fun h8 => ?_)
      ·
        rw [if_pos h8] at hE
        refine lv_iinc (v := (x4 + 1)) (k := 0) hx hb dX4_takeSpanAgain_83 hl rfl rfl (by decide) rfl (fun ls hl => ?_)
        have hl : lv_has ls 5 [(4, .int (x4 + 1)), (3, .int x3), (2, .int x2), (0, .ref h), (1, .int x1)] := hl
        refine lv_goto (tgt := 47) hx hb dX4_takeSpanAgain_86 (by decide) ?_
        exact ih S x1 x2 x3 (x4 + 1) _ _ ls (lv_sub hl [0, 1, 2, 3, 4] rfl) hE hP hD hS
      ·
        rw [if_neg h8] at hE
        refine lv_iconst (v := 0) hx hb dX4_takeSpanAgain_81 (by decide) ?_
        obtain ⟨rfl, rfl⟩ := hE
        exact en_i F hS _ () (by rfl) rfl hP hD (Nat.le_refl _) (Nat.le_refl _) dX4_takeSpanAgain_82
def E_s_takeSpanAgain (T : TD) (S : SS) (a1 : Int32) (S' : SS) (r : Int32) : Prop := ∃ r1 : Int32, E_X5_spanPlace S.2 a1 0 r1 ∧ (∃ r2 : Int32, E_X5_spanPlace S.2 a1 4 r2 ∧ (if r1 < 0 then (S' = S ∧ r = 0) else (if ((S.1.1 10) + (r2 - r1)) ≤ (nI (tJ T)) then (∃ nf : Nat, L_s_takeSpanAgain_47 T nf S a1 r1 (r2 - r1) 0 S' r) else (S' = S ∧ r = 0))))
set_option maxHeartbeats 4000000 in
set_option maxRecDepth 100000 in
theorem e_s_takeSpanAgain (l : Launch) (G : PG) (h : Nat) (q ad : Nat → Nat) (T : TD) (hO : tOK T) (S : SS) (a1 : Int32) (S' : SS) (r : Int32) (hE : E_s_takeSpanAgain T S a1 S' r) : Ci l yX4_takeSpanAgain (Cond.code yX4_takeSpanAgain cX4_takeSpanAgain 5 (some .boolean) :: aW) { frames := 1, cells := 0, slots := 0, locals := 24 } G (sW G h q ad T S) [.ref h, .int a1] (fun (r9 : Int32) (_ : Unit) => r9 = r) (fun (_ : Unit) => sW G h q ad T S') 0 0 := by
  refine ofB (y := yX4_takeSpanAgain) (G := G) (cc := cX4_takeSpanAgain) (maxL := 5) (ret := (some .boolean)) (Qc := fun A => va_Qi (fun (r9 : Int32) (_ : Unit) => r9 = r) (oB G A (fun (_ : Unit) => sW G h q ad T S')) A) (by decide) rfl ?_
  intro p e s m below meth c A F hK hA hP hD
  have hS : va_S A s.heap s.heap [] := va_S.rf
  have hx := F.1.1; have hb := F.1.2.1; have hml := F.1.2.2.1; have hts := F.1.2.2.2.2
  have hown : s.vm.findClass RX4 = some m.cls := F.1.2.2.2.1
  have hl := lv_entry ([.ref h, .int a1]) (n := 5) (Nat.le_of_ble_eq_true rfl)
  rw [lg_entry_eq]
  generalize (lg_sl ([.ref h, .int a1]) ++ List.replicate (5 - (lg_sl ([.ref h, .int a1])).length) Slot.unset).toArray = ls at hl ⊢
  have hl : lv_has ls 5 [(0, .ref h), (1, .int a1)] := hl
  unfold E_s_takeSpanAgain at hE
  refine lv_aload_n hx hb dX4_takeSpanAgain_0 rfl (lv_at hl 0 rfl) ?_
  refine va_get (D := G.1) (ci := 4) (C := RX4) (T := TX4) (N := 13) hx hb hts inX4 hown hK.1 hP 0 sW_0 rfl 12 (by decide) (hts _ w_154) (fun _ h9 => h9) sF_12 dX4_takeSpanAgain_1 ?_
  refine lv_iload_n hx hb dX4_takeSpanAgain_4 rfl (lv_at hl 1 rfl) ?_
  refine lv_iconst (v := 0) hx hb dX4_takeSpanAgain_5 (by decide) ?_
  obtain ⟨r1, hg, hE⟩ := hE
  refine kp_V (va_runSN (As := [.long S.2, .int a1, .int 0]) (rest := []) F.1 (e_X5_spanPlace l G S.2 a1 0 r1 hg _) (⟨va_cnB 3 hts (aw_G w_674) rfl rfl rfl (hK.2.1 _ w_672) (hts _ w_1) (by decide +kernel) ⟨by decide, by decide⟩, hts _ w_673, trivial⟩) ⟨cS_blind, cS_pre va_P0 (va_D0 (A := fun _ => True)) hK⟩ rfl rfl hl.1 rfl (lv_room (Nat.le_of_ble_eq_true rfl)) dX4_takeSpanAgain_6 ⟨Nat.le_refl _, Nat.le_refl _⟩) (fun v9 hp => ?_)
  subst hp
  refine lv_istore_n hx hb dX4_takeSpanAgain_9 rfl hl (by decide) rfl (fun ls hl => ?_)
  have hl : lv_has ls 5 [(2, .int r1), (0, .ref h), (1, .int a1)] := hl
  refine lv_aload_n hx hb dX4_takeSpanAgain_10 rfl (lv_at hl 1 rfl) ?_
  refine va_get (D := G.1) (ci := 4) (C := RX4) (T := TX4) (N := 13) hx hb hts inX4 hown hK.1 hP 0 sW_0 rfl 12 (by decide) (hts _ w_154) (fun _ h9 => h9) sF_12 dX4_takeSpanAgain_11 ?_
  refine lv_iload_n hx hb dX4_takeSpanAgain_14 rfl (lv_at hl 2 rfl) ?_
  refine lv_iconst (v := 4) hx hb dX4_takeSpanAgain_15 (by decide) ?_
  obtain ⟨r2, hg, hE⟩ := hE
  refine kp_V (va_runSN (As := [.long S.2, .int a1, .int 4]) (rest := []) F.1 (e_X5_spanPlace l G S.2 a1 4 r2 hg _) (⟨va_cnB 3 hts (aw_G w_674) rfl rfl rfl (hK.2.1 _ w_672) (hts _ w_1) (by decide +kernel) ⟨by decide, by decide⟩, hts _ w_673, trivial⟩) ⟨cS_blind, cS_pre va_P0 (va_D0 (A := fun _ => True)) hK⟩ rfl rfl hl.1 rfl (lv_room (Nat.le_of_ble_eq_true rfl)) dX4_takeSpanAgain_16 ⟨Nat.le_refl _, Nat.le_refl _⟩) (fun v9 hp => ?_)
  subst hp
  refine lv_iload_n hx hb dX4_takeSpanAgain_19 rfl (lv_at hl 0 rfl) ?_
  refine lv_isub hx hb dX4_takeSpanAgain_20 ?_
  refine lv_istore_n hx hb dX4_takeSpanAgain_21 rfl hl (by decide) rfl (fun ls hl => ?_)
  have hl : lv_has ls 5 [(3, .int (r2 - r1)), (2, .int r1), (0, .ref h), (1, .int a1)] := hl
  refine lv_iload_n hx hb dX4_takeSpanAgain_22 rfl (lv_at hl 1 rfl) ?_
  refine lv_if_lt (tgt := 42) hx hb dX4_takeSpanAgain_23 (by decide) (fun h3 => ?_) (fun h3 => ?_)
  ·
    rw [if_pos h3] at hE
    refine lv_iconst (v := 0) hx hb dX4_takeSpanAgain_42 (by decide) ?_
    obtain ⟨rfl, rfl⟩ := hE
    exact en_i F hS _ () (by rfl) rfl hP hD (Nat.le_refl _) (Nat.le_refl _) dX4_takeSpanAgain_43
  ·
    rw [if_neg h3] at hE
    refine lv_aload_n hx hb dX4_takeSpanAgain_26 rfl (lv_at hl 2 rfl) ?_
    refine va_get (D := G.1) (ci := 4) (C := RX4) (T := TX4) (N := 13) hx hb hts inX4 hown hK.1 hP 0 sW_0 rfl 10 (by decide) (hts _ w_151) (fun _ h9 => h9) sF_10 dX4_takeSpanAgain_27 ?_
    refine lv_iload_n hx hb dX4_takeSpanAgain_30 rfl (lv_at hl 0 rfl) ?_
    refine lv_iadd hx hb dX4_takeSpanAgain_31 ?_
    refine lv_aload_n hx hb dX4_takeSpanAgain_32 rfl (lv_at hl 2 rfl) ?_
    refine va_get (D := G.1) (ci := 4) (C := RX4) (T := TX4) (N := 13) hx hb hts inX4 hown hK.1 hP 0 sW_0 rfl 7 (by decide) (hts _ w_146) (fun _ h9 => h9) sF_7 dX4_takeSpanAgain_33 ?_
    refine kp_V (va_runV (As := []) (rest := [.int ((S.1.1 10) + (r2 - r1))]) F.1 (v_row_size l G _ _ _ _ _ _) (cwV 0 hts (aw_V w_649 w_258 w_259 w_3 w_260) rfl rfl rfl (by decide +kernel) ⟨by decide, by decide⟩) ⟨cS_blind, va_recv (q := (RX3, TX3, 2)) (ci := 3) (q0 := 0) hK.1 (sP_row hP) rfl rfl, cS_pre (sP_row hP) (sD_row hD) hK⟩ rfl rfl hl.1 rfl (lv_room (Nat.le_of_ble_eq_true rfl)) dX4_takeSpanAgain_36 ⟨Nat.le_refl _, Nat.le_refl _⟩) (fun v9 hp => ?_)
    subst hp
    refine lv_icmp_le (tgt := 44) hx hb dX4_takeSpanAgain_39 (by decide) (fun h4 => ?_) (fun h4 => ?_)
    ·
      rw [if_pos h4] at hE
      refine lv_iconst (v := 0) hx hb dX4_takeSpanAgain_44 (by decide) ?_
      refine lv_istore hx hb dX4_takeSpanAgain_45 hl (by decide) rfl (fun ls hl => ?_)
      have hl : lv_has ls 5 [(4, .int 0), (3, .int (r2 - r1)), (2, .int r1), (0, .ref h), (1, .int a1)] := hl
      obtain ⟨nf, hE⟩ := hE
      exact L_s_takeSpanAgain_47_ok hO F hK hA nf S a1 r1 (r2 - r1) 0 _ _ ls (lv_sub hl [0, 1, 2, 3, 4] rfl) hE hP hD hS
    ·
      rw [if_neg h4] at hE
      refine lv_iconst (v := 0) hx hb dX4_takeSpanAgain_42 (by decide) ?_
      obtain ⟨rfl, rfl⟩ := hE
      exact en_i F hS _ () (by rfl) rfl hP hD (Nat.le_refl _) (Nat.le_refl _) dX4_takeSpanAgain_43

theorem dX4_loop_0 : decode cX4_loop 0 = .ok (.aload_n 0, 1) := by decide +kernel
theorem dX4_loop_1 : decode cX4_loop 1 = .ok (.getfield 70, 3) := by decide +kernel
theorem dX4_loop_4 : decode cX4_loop 4 = .ok (.aload_n 1, 1) := by decide +kernel
theorem dX4_loop_5 : decode cX4_loop 5 = .ok (.getfield 125, 3) := by decide +kernel
theorem dX4_loop_8 : decode cX4_loop 8 = .ok (.iconst 4, 1) := by decide +kernel
theorem dX4_loop_9 : decode cX4_loop 9 = .ok (.imul, 1) := by decide +kernel
theorem dX4_loop_10 : decode cX4_loop 10 = .ok (.iushr, 1) := by decide +kernel
theorem dX4_loop_11 : decode cX4_loop 11 = .ok (.istore_n 2, 1) := by decide +kernel
theorem dX4_loop_12 : decode cX4_loop 12 = .ok (.iload_n 2, 1) := by decide +kernel
theorem dX4_loop_13 : decode cX4_loop 13 = .ok (.bipush 7, 2) := by decide +kernel
theorem dX4_loop_15 : decode cX4_loop 15 = .ok (.iand, 1) := by decide +kernel
theorem dX4_loop_16 : decode cX4_loop 16 = .ok (.istore_n 3, 1) := by decide +kernel
theorem dX4_loop_17 : decode cX4_loop 17 = .ok (.iload_n 2, 1) := by decide +kernel
theorem dX4_loop_18 : decode cX4_loop 18 = .ok (.bipush 8, 2) := by decide +kernel
theorem dX4_loop_20 : decode cX4_loop 20 = .ok (.iand, 1) := by decide +kernel
theorem dX4_loop_21 : decode cX4_loop 21 = .ok (.ifCond .eq 7, 3) := by decide +kernel
theorem dX4_loop_24 : decode cX4_loop 24 = .ok (.iconst 1, 1) := by decide +kernel
theorem dX4_loop_25 : decode cX4_loop 25 = .ok (.goto 4, 3) := by decide +kernel
theorem dX4_loop_28 : decode cX4_loop 28 = .ok (.iconst 0, 1) := by decide +kernel
theorem dX4_loop_29 : decode cX4_loop 29 = .ok (.istore 4, 2) := by decide +kernel
theorem dX4_loop_31 : decode cX4_loop 31 = .ok (.aload_n 1, 1) := by decide +kernel
theorem dX4_loop_32 : decode cX4_loop 32 = .ok (.getfield 174, 3) := by decide +kernel
theorem dX4_loop_35 : decode cX4_loop 35 = .ok (.iconst (-1), 1) := by decide +kernel
theorem dX4_loop_36 : decode cX4_loop 36 = .ok (.if_icmp .ne 15, 3) := by decide +kernel
theorem dX4_loop_39 : decode cX4_loop 39 = .ok (.iload_n 3, 1) := by decide +kernel
theorem dX4_loop_40 : decode cX4_loop 40 = .ok (.aload_n 1, 1) := by decide +kernel
theorem dX4_loop_41 : decode cX4_loop 41 = .ok (.getfield 177, 3) := by decide +kernel
theorem dX4_loop_44 : decode cX4_loop 44 = .ok (.if_icmp .lt 7, 3) := by decide +kernel
theorem dX4_loop_47 : decode cX4_loop 47 = .ok (.iload_n 3, 1) := by decide +kernel
theorem dX4_loop_48 : decode cX4_loop 48 = .ok (.goto 6, 3) := by decide +kernel
theorem dX4_loop_51 : decode cX4_loop 51 = .ok (.iload_n 3, 1) := by decide +kernel
theorem dX4_loop_52 : decode cX4_loop 52 = .ok (.iconst 1, 1) := by decide +kernel
theorem dX4_loop_53 : decode cX4_loop 53 = .ok (.iadd, 1) := by decide +kernel
theorem dX4_loop_54 : decode cX4_loop 54 = .ok (.istore 5, 2) := by decide +kernel
theorem dX4_loop_56 : decode cX4_loop 56 = .ok (.aload_n 0, 1) := by decide +kernel
theorem dX4_loop_57 : decode cX4_loop 57 = .ok (.aload_n 1, 1) := by decide +kernel
theorem dX4_loop_58 : decode cX4_loop 58 = .ok (.getfield 125, 3) := by decide +kernel
theorem dX4_loop_61 : decode cX4_loop 61 = .ok (.iload 5, 2) := by decide +kernel
theorem dX4_loop_63 : decode cX4_loop 63 = .ok (.invokevirtual 128, 3) := by decide +kernel
theorem dX4_loop_66 : decode cX4_loop 66 = .ok (.istore 6, 2) := by decide +kernel
theorem dX4_loop_68 : decode cX4_loop 68 = .ok (.iload_n 3, 1) := by decide +kernel
theorem dX4_loop_69 : decode cX4_loop 69 = .ok (.aload_n 1, 1) := by decide +kernel
theorem dX4_loop_70 : decode cX4_loop 70 = .ok (.getfield 177, 3) := by decide +kernel
theorem dX4_loop_73 : decode cX4_loop 73 = .ok (.if_icmp .ge 14, 3) := by decide +kernel
theorem dX4_loop_76 : decode cX4_loop 76 = .ok (.aload_n 0, 1) := by decide +kernel
theorem dX4_loop_77 : decode cX4_loop 77 = .ok (.aload_n 1, 1) := by decide +kernel
theorem dX4_loop_78 : decode cX4_loop 78 = .ok (.getfield 118, 3) := by decide +kernel
theorem dX4_loop_81 : decode cX4_loop 81 = .ok (.iload 6, 2) := by decide +kernel
theorem dX4_loop_83 : decode cX4_loop 83 = .ok (.invokevirtual 180, 3) := by decide +kernel
theorem dX4_loop_86 : decode cX4_loop 86 = .ok (.ireturn, 1) := by decide +kernel
theorem dX4_loop_87 : decode cX4_loop 87 = .ok (.iload 4, 2) := by decide +kernel
theorem dX4_loop_89 : decode cX4_loop 89 = .ok (.ifCond .eq 11, 3) := by decide +kernel
theorem dX4_loop_92 : decode cX4_loop 92 = .ok (.iload_n 3, 1) := by decide +kernel
theorem dX4_loop_93 : decode cX4_loop 93 = .ok (.aload_n 1, 1) := by decide +kernel
theorem dX4_loop_94 : decode cX4_loop 94 = .ok (.getfield 174, 3) := by decide +kernel
theorem dX4_loop_97 : decode cX4_loop 97 = .ok (.if_icmp .ne 16, 3) := by decide +kernel
theorem dX4_loop_100 : decode cX4_loop 100 = .ok (.aload_n 0, 1) := by decide +kernel
theorem dX4_loop_101 : decode cX4_loop 101 = .ok (.aload_n 1, 1) := by decide +kernel
theorem dX4_loop_102 : decode cX4_loop 102 = .ok (.getfield 89, 3) := by decide +kernel
theorem dX4_loop_105 : decode cX4_loop 105 = .ok (.aload_n 0, 1) := by decide +kernel
theorem dX4_loop_106 : decode cX4_loop 106 = .ok (.getfield 70, 3) := by decide +kernel
theorem dX4_loop_109 : decode cX4_loop 109 = .ok (.invokevirtual 180, 3) := by decide +kernel
theorem dX4_loop_112 : decode cX4_loop 112 = .ok (.ireturn, 1) := by decide +kernel
theorem dX4_loop_113 : decode cX4_loop 113 = .ok (.aload_n 1, 1) := by decide +kernel
theorem dX4_loop_114 : decode cX4_loop 114 = .ok (.getfield 183, 3) := by decide +kernel
theorem dX4_loop_117 : decode cX4_loop 117 = .ok (.ifCond .eq 37, 3) := by decide +kernel
theorem dX4_loop_120 : decode cX4_loop 120 = .ok (.aload_n 0, 1) := by decide +kernel
theorem dX4_loop_121 : decode cX4_loop 121 = .ok (.aload_n 1, 1) := by decide +kernel
theorem dX4_loop_122 : decode cX4_loop 122 = .ok (.getfield 118, 3) := by decide +kernel
theorem dX4_loop_125 : decode cX4_loop 125 = .ok (.iload 6, 2) := by decide +kernel
theorem dX4_loop_127 : decode cX4_loop 127 = .ok (.invokevirtual 121, 3) := by decide +kernel
theorem dX4_loop_130 : decode cX4_loop 130 = .ok (.ifCond .eq 22, 3) := by decide +kernel
theorem dX4_loop_133 : decode cX4_loop 133 = .ok (.aload_n 0, 1) := by decide +kernel
theorem dX4_loop_134 : decode cX4_loop 134 = .ok (.aload_n 1, 1) := by decide +kernel
theorem dX4_loop_135 : decode cX4_loop 135 = .ok (.getfield 89, 3) := by decide +kernel
theorem dX4_loop_138 : decode cX4_loop 138 = .ok (.aload_n 0, 1) := by decide +kernel
theorem dX4_loop_139 : decode cX4_loop 139 = .ok (.getfield 70, 3) := by decide +kernel
theorem dX4_loop_142 : decode cX4_loop 142 = .ok (.invokevirtual 180, 3) := by decide +kernel
theorem dX4_loop_145 : decode cX4_loop 145 = .ok (.ifCond .eq 7, 3) := by decide +kernel
theorem dX4_loop_148 : decode cX4_loop 148 = .ok (.iconst 1, 1) := by decide +kernel
theorem dX4_loop_149 : decode cX4_loop 149 = .ok (.goto 4, 3) := by decide +kernel
theorem dX4_loop_152 : decode cX4_loop 152 = .ok (.iconst 0, 1) := by decide +kernel
theorem dX4_loop_153 : decode cX4_loop 153 = .ok (.ireturn, 1) := by decide +kernel
theorem dX4_loop_154 : decode cX4_loop 154 = .ok (.aload_n 0, 1) := by decide +kernel
theorem dX4_loop_155 : decode cX4_loop 155 = .ok (.aload_n 1, 1) := by decide +kernel
theorem dX4_loop_156 : decode cX4_loop 156 = .ok (.getfield 89, 3) := by decide +kernel
theorem dX4_loop_159 : decode cX4_loop 159 = .ok (.aload_n 0, 1) := by decide +kernel
theorem dX4_loop_160 : decode cX4_loop 160 = .ok (.getfield 70, 3) := by decide +kernel
theorem dX4_loop_163 : decode cX4_loop 163 = .ok (.invokevirtual 121, 3) := by decide +kernel
theorem dX4_loop_166 : decode cX4_loop 166 = .ok (.ifCond .eq 20, 3) := by decide +kernel
theorem dX4_loop_169 : decode cX4_loop 169 = .ok (.aload_n 0, 1) := by decide +kernel
theorem dX4_loop_170 : decode cX4_loop 170 = .ok (.aload_n 1, 1) := by decide +kernel
theorem dX4_loop_171 : decode cX4_loop 171 = .ok (.getfield 118, 3) := by decide +kernel
theorem dX4_loop_174 : decode cX4_loop 174 = .ok (.iload 6, 2) := by decide +kernel
theorem dX4_loop_176 : decode cX4_loop 176 = .ok (.invokevirtual 180, 3) := by decide +kernel
theorem dX4_loop_179 : decode cX4_loop 179 = .ok (.ifCond .eq 7, 3) := by decide +kernel
theorem dX4_loop_182 : decode cX4_loop 182 = .ok (.iconst 1, 1) := by decide +kernel
theorem dX4_loop_183 : decode cX4_loop 183 = .ok (.goto 4, 3) := by decide +kernel
theorem dX4_loop_186 : decode cX4_loop 186 = .ok (.iconst 0, 1) := by decide +kernel
theorem dX4_loop_187 : decode cX4_loop 187 = .ok (.ireturn, 1) := by decide +kernel
def E_s_loop (T : TD) (S : SS) (i : Nat) (S' : SS) (r : Int32) : Prop := if (((S.1.1 11).toUInt32 >>> (((tA T i 5) * 4).toUInt32 &&& Int32.toUInt32 31)).toInt32 &&& 8) = 0 then (if (tA T i 7) = (-1) then (if (((S.1.1 11).toUInt32 >>> (((tA T i 5) * 4).toUInt32 &&& Int32.toUInt32 31)).toInt32 &&& 7) < (tA T i 6) then (∃ (S11 : SS) (r12 : Int32), E_s_withLoop T S (tA T i 5) ((((S.1.1 11).toUInt32 >>> (((tA T i 5) * 4).toUInt32 &&& Int32.toUInt32 31)).toInt32 &&& 7) + 1) S11 r12 ∧ (if (tA T i 6) ≤ (((S.1.1 11).toUInt32 >>> (((tA T i 5) * 4).toUInt32 &&& Int32.toUInt32 31)).toInt32 &&& 7) then (∃ (S14 : SS) (r15 : Int32), E_s_goTo T S11 (tA T i 2) (S11.1.1 11) S14 r15 ∧ (narrow .boolean (.int r15) = .int r15 ∧ S' = S14 ∧ r = r15)) else (∃ (S16 : SS) (r17 : Int32), E_s_goTo T S11 (tA T i 3) r12 S16 r17 ∧ (narrow .boolean (.int r17) = .int r17 ∧ S' = S16 ∧ r = r17)))) else (∃ (S18 : SS) (r19 : Int32), E_s_withLoop T S (tA T i 5) (((S.1.1 11).toUInt32 >>> (((tA T i 5) * 4).toUInt32 &&& Int32.toUInt32 31)).toInt32 &&& 7) S18 r19 ∧ (if (tA T i 6) ≤ (((S.1.1 11).toUInt32 >>> (((tA T i 5) * 4).toUInt32 &&& Int32.toUInt32 31)).toInt32 &&& 7) then (∃ (S21 : SS) (r22 : Int32), E_s_goTo T S18 (tA T i 2) (S18.1.1 11) S21 r22 ∧ (narrow .boolean (.int r22) = .int r22 ∧ S' = S21 ∧ r = r22)) else (∃ (S23 : SS) (r24 : Int32), E_s_goTo T S18 (tA T i 3) r19 S23 r24 ∧ (narrow .boolean (.int r24) = .int r24 ∧ S' = S23 ∧ r = r24))))) else (∃ (S3 : SS) (r4 : Int32), E_s_withLoop T S (tA T i 5) ((((S.1.1 11).toUInt32 >>> (((tA T i 5) * 4).toUInt32 &&& Int32.toUInt32 31)).toInt32 &&& 7) + 1) S3 r4 ∧ (if (tA T i 6) ≤ (((S.1.1 11).toUInt32 >>> (((tA T i 5) * 4).toUInt32 &&& Int32.toUInt32 31)).toInt32 &&& 7) then (∃ (S6 : SS) (r7 : Int32), E_s_goTo T S3 (tA T i 2) (S3.1.1 11) S6 r7 ∧ (narrow .boolean (.int r7) = .int r7 ∧ S' = S6 ∧ r = r7)) else (∃ (S8 : SS) (r9 : Int32), E_s_goTo T S3 (tA T i 3) r4 S8 r9 ∧ (narrow .boolean (.int r9) = .int r9 ∧ S' = S8 ∧ r = r9))))) else (if (tA T i 7) = (-1) then (if (((S.1.1 11).toUInt32 >>> (((tA T i 5) * 4).toUInt32 &&& Int32.toUInt32 31)).toInt32 &&& 7) < (tA T i 6) then (∃ (S48 : SS) (r49 : Int32), E_s_withLoop T S (tA T i 5) ((((S.1.1 11).toUInt32 >>> (((tA T i 5) * 4).toUInt32 &&& Int32.toUInt32 31)).toInt32 &&& 7) + 1) S48 r49 ∧ (if (tA T i 6) ≤ (((S.1.1 11).toUInt32 >>> (((tA T i 5) * 4).toUInt32 &&& Int32.toUInt32 31)).toInt32 &&& 7) then (if (((S.1.1 11).toUInt32 >>> (((tA T i 5) * 4).toUInt32 &&& Int32.toUInt32 31)).toInt32 &&& 7) = (tA T i 7) then (∃ (S65 : SS) (r66 : Int32), E_s_goTo T S48 (tA T i 2) (S48.1.1 11) S65 r66 ∧ (narrow .boolean (.int r66) = .int r66 ∧ S' = S65 ∧ r = r66)) else (if (tA T i 8) = 0 then (∃ (S53 : SS) (r54 : Int32), E_s_letWait T S48 (tA T i 2) (S48.1.1 11) S53 r54 ∧ (if r54 = 0 then (S' = S53 ∧ r = 0) else (∃ (S56 : SS) (r57 : Int32), E_s_goTo T S53 (tA T i 3) r49 S56 r57 ∧ (if r57 = 0 then (S' = S56 ∧ r = 0) else (S' = S56 ∧ r = 1))))) else (∃ (S59 : SS) (r60 : Int32), E_s_letWait T S48 (tA T i 3) r49 S59 r60 ∧ (if r60 = 0 then (S' = S59 ∧ r = 0) else (∃ (S62 : SS) (r63 : Int32), E_s_goTo T S59 (tA T i 2) (S59.1.1 11) S62 r63 ∧ (if r63 = 0 then (S' = S62 ∧ r = 0) else (S' = S62 ∧ r = 1))))))) else (∃ (S67 : SS) (r68 : Int32), E_s_goTo T S48 (tA T i 3) r49 S67 r68 ∧ (narrow .boolean (.int r68) = .int r68 ∧ S' = S67 ∧ r = r68)))) else (∃ (S69 : SS) (r70 : Int32), E_s_withLoop T S (tA T i 5) (((S.1.1 11).toUInt32 >>> (((tA T i 5) * 4).toUInt32 &&& Int32.toUInt32 31)).toInt32 &&& 7) S69 r70 ∧ (if (tA T i 6) ≤ (((S.1.1 11).toUInt32 >>> (((tA T i 5) * 4).toUInt32 &&& Int32.toUInt32 31)).toInt32 &&& 7) then (if (((S.1.1 11).toUInt32 >>> (((tA T i 5) * 4).toUInt32 &&& Int32.toUInt32 31)).toInt32 &&& 7) = (tA T i 7) then (∃ (S86 : SS) (r87 : Int32), E_s_goTo T S69 (tA T i 2) (S69.1.1 11) S86 r87 ∧ (narrow .boolean (.int r87) = .int r87 ∧ S' = S86 ∧ r = r87)) else (if (tA T i 8) = 0 then (∃ (S74 : SS) (r75 : Int32), E_s_letWait T S69 (tA T i 2) (S69.1.1 11) S74 r75 ∧ (if r75 = 0 then (S' = S74 ∧ r = 0) else (∃ (S77 : SS) (r78 : Int32), E_s_goTo T S74 (tA T i 3) r70 S77 r78 ∧ (if r78 = 0 then (S' = S77 ∧ r = 0) else (S' = S77 ∧ r = 1))))) else (∃ (S80 : SS) (r81 : Int32), E_s_letWait T S69 (tA T i 3) r70 S80 r81 ∧ (if r81 = 0 then (S' = S80 ∧ r = 0) else (∃ (S83 : SS) (r84 : Int32), E_s_goTo T S80 (tA T i 2) (S80.1.1 11) S83 r84 ∧ (if r84 = 0 then (S' = S83 ∧ r = 0) else (S' = S83 ∧ r = 1))))))) else (∃ (S88 : SS) (r89 : Int32), E_s_goTo T S69 (tA T i 3) r70 S88 r89 ∧ (narrow .boolean (.int r89) = .int r89 ∧ S' = S88 ∧ r = r89))))) else (∃ (S26 : SS) (r27 : Int32), E_s_withLoop T S (tA T i 5) ((((S.1.1 11).toUInt32 >>> (((tA T i 5) * 4).toUInt32 &&& Int32.toUInt32 31)).toInt32 &&& 7) + 1) S26 r27 ∧ (if (tA T i 6) ≤ (((S.1.1 11).toUInt32 >>> (((tA T i 5) * 4).toUInt32 &&& Int32.toUInt32 31)).toInt32 &&& 7) then (if (((S.1.1 11).toUInt32 >>> (((tA T i 5) * 4).toUInt32 &&& Int32.toUInt32 31)).toInt32 &&& 7) = (tA T i 7) then (∃ (S43 : SS) (r44 : Int32), E_s_goTo T S26 (tA T i 2) (S26.1.1 11) S43 r44 ∧ (narrow .boolean (.int r44) = .int r44 ∧ S' = S43 ∧ r = r44)) else (if (tA T i 8) = 0 then (∃ (S31 : SS) (r32 : Int32), E_s_letWait T S26 (tA T i 2) (S26.1.1 11) S31 r32 ∧ (if r32 = 0 then (S' = S31 ∧ r = 0) else (∃ (S34 : SS) (r35 : Int32), E_s_goTo T S31 (tA T i 3) r27 S34 r35 ∧ (if r35 = 0 then (S' = S34 ∧ r = 0) else (S' = S34 ∧ r = 1))))) else (∃ (S37 : SS) (r38 : Int32), E_s_letWait T S26 (tA T i 3) r27 S37 r38 ∧ (if r38 = 0 then (S' = S37 ∧ r = 0) else (∃ (S40 : SS) (r41 : Int32), E_s_goTo T S37 (tA T i 2) (S37.1.1 11) S40 r41 ∧ (if r41 = 0 then (S' = S40 ∧ r = 0) else (S' = S40 ∧ r = 1))))))) else (∃ (S45 : SS) (r46 : Int32), E_s_goTo T S26 (tA T i 3) r27 S45 r46 ∧ (narrow .boolean (.int r46) = .int r46 ∧ S' = S45 ∧ r = r46)))))
set_option maxHeartbeats 4000000 in
set_option maxRecDepth 100000 in
theorem e_s_loop (l : Launch) (G : PG) (h : Nat) (q ad : Nat → Nat) (T : TD) (hO : tOK T) (S : SS) (i : Nat) (hi : i < 32) (S' : SS) (r : Int32) (hE : E_s_loop T S i S' r) : Ci l yX4_loop (Cond.code yX4_loop cX4_loop 7 (some .boolean) :: aW) { frames := 2, cells := 0, slots := 0, locals := 44 } G (sW G h q ad T S) [.ref h, .ref (ad i)] (fun (r9 : Int32) (_ : Unit) => r9 = r) (fun (_ : Unit) => sW G h q ad T S') 0 0 := by
  refine ofB (y := yX4_loop) (G := G) (cc := cX4_loop) (maxL := 7) (ret := (some .boolean)) (Qc := fun A => va_Qi (fun (r9 : Int32) (_ : Unit) => r9 = r) (oB G A (fun (_ : Unit) => sW G h q ad T S')) A) (by decide) rfl ?_
  intro p e s m below meth c A F hK hA hP hD
  have hS : va_S A s.heap s.heap [] := va_S.rf
  have hx := F.1.1; have hb := F.1.2.1; have hml := F.1.2.2.1; have hts := F.1.2.2.2.2
  have hown : s.vm.findClass RX4 = some m.cls := F.1.2.2.2.1
  have hl := lv_entry ([.ref h, .ref (ad i)]) (n := 7) (Nat.le_of_ble_eq_true rfl)
  rw [lg_entry_eq]
  generalize (lg_sl ([.ref h, .ref (ad i)]) ++ List.replicate (7 - (lg_sl ([.ref h, .ref (ad i)])).length) Slot.unset).toArray = ls at hl ⊢
  have hl : lv_has ls 7 [(0, .ref h), (1, .ref (ad i))] := hl
  unfold E_s_loop at hE
  refine lv_aload_n hx hb dX4_loop_0 rfl (lv_at hl 0 rfl) ?_
  refine va_get (D := G.1) (ci := 4) (C := RX4) (T := TX4) (N := 13) hx hb hts inX4 hown hK.1 hP 0 sW_0 rfl 11 (by decide) (hts _ w_153) (fun _ h9 => h9) sF_11 dX4_loop_1 ?_
  refine lv_aload_n hx hb dX4_loop_4 rfl (lv_at hl 1 rfl) ?_
  refine va_getN (D := G.1) (ci := 0) (v := .int (tA T i 5)) (C := RX0) (T := TX0) (N := 13) hx hb hts inX0 hown hK.1 hP (10 + i) (sW_n hi) rfl 5 (by decide) (hK.2.1.use w_74) (fun _ h9 => h9) rfl dX4_loop_5 ?_
  refine lv_iconst (v := 4) hx hb dX4_loop_8 (by decide) ?_
  refine lv_imul hx hb dX4_loop_9 ?_
  refine lv_iushr (v := ((S.1.1 11).toUInt32 >>> (((tA T i 5) * 4).toUInt32 &&& Int32.toUInt32 31)).toInt32) hx hb dX4_loop_10 rfl ?_
  refine lv_istore_n hx hb dX4_loop_11 rfl hl (by decide) rfl (fun ls hl => ?_)
  have hl : lv_has ls 7 [(2, .int (((S.1.1 11).toUInt32 >>> (((tA T i 5) * 4).toUInt32 &&& Int32.toUInt32 31)).toInt32)), (0, .ref h), (1, .ref (ad i))] := hl
  refine lv_iload_n hx hb dX4_loop_12 rfl (lv_at hl 0 rfl) ?_
  refine lv_bipush (v := 7) hx hb dX4_loop_13 (by decide) ?_
  refine lv_iand hx hb dX4_loop_15 ?_
  refine lv_istore_n hx hb dX4_loop_16 rfl hl (by decide) rfl (fun ls hl => ?_)
  have hl : lv_has ls 7 [(3, .int (((S.1.1 11).toUInt32 >>> (((tA T i 5) * 4).toUInt32 &&& Int32.toUInt32 31)).toInt32 &&& 7)), (2, .int (((S.1.1 11).toUInt32 >>> (((tA T i 5) * 4).toUInt32 &&& Int32.toUInt32 31)).toInt32)), (0, .ref h), (1, .ref (ad i))] := hl
  refine lv_iload_n hx hb dX4_loop_17 rfl (lv_at hl 1 rfl) ?_
  refine lv_bipush (v := 8) hx hb dX4_loop_18 (by decide) ?_
  refine lv_iand hx hb dX4_loop_20 ?_
  refine lv_if_eq (tgt := 28) hx hb dX4_loop_21 (by decide) (fun h1 => ?_) (fun h1 => ?_)
  ·
    rw [if_pos h1] at hE
    refine lv_iconst (v := 0) hx hb dX4_loop_28 (by decide) ?_
    refine lv_istore hx hb dX4_loop_29 hl (by decide) rfl (fun ls hl => ?_)
    have hl : lv_has ls 7 [(4, .int 0), (3, .int (((S.1.1 11).toUInt32 >>> (((tA T i 5) * 4).toUInt32 &&& Int32.toUInt32 31)).toInt32 &&& 7)), (2, .int (((S.1.1 11).toUInt32 >>> (((tA T i 5) * 4).toUInt32 &&& Int32.toUInt32 31)).toInt32)), (0, .ref h), (1, .ref (ad i))] := hl
    refine lv_aload_n hx hb dX4_loop_31 rfl (lv_at hl 4 rfl) ?_
    refine va_getN (D := G.1) (ci := 0) (v := .int (tA T i 7)) (C := RX0) (T := TX0) (N := 13) hx hb hts inX0 hown hK.1 hP (10 + i) (sW_n hi) rfl 7 (by decide) (hK.2.1.use w_79) (fun _ h9 => h9) rfl dX4_loop_32 ?_
    refine lv_iconst (v := (-1)) hx hb dX4_loop_35 (by decide) ?_
    refine lv_icmp_ne (tgt := 51) hx hb dX4_loop_36 (by decide) (fun h2 => ?_) (fun h2 => ?_)
    ·
      rw [if_neg h2] at hE
      refine lv_iload_n hx hb dX4_loop_51 rfl (lv_at hl 1 rfl) ?_
      refine lv_iconst (v := 1) hx hb dX4_loop_52 (by decide) ?_
      refine lv_iadd hx hb dX4_loop_53 ?_
      refine lv_istore hx hb dX4_loop_54 hl (by decide) rfl (fun ls hl => ?_)
      have hl : lv_has ls 7 [(5, .int ((((S.1.1 11).toUInt32 >>> (((tA T i 5) * 4).toUInt32 &&& Int32.toUInt32 31)).toInt32 &&& 7) + 1)), (4, .int 0), (3, .int (((S.1.1 11).toUInt32 >>> (((tA T i 5) * 4).toUInt32 &&& Int32.toUInt32 31)).toInt32 &&& 7)), (2, .int (((S.1.1 11).toUInt32 >>> (((tA T i 5) * 4).toUInt32 &&& Int32.toUInt32 31)).toInt32)), (0, .ref h), (1, .ref (ad i))] := hl
      refine lv_aload_n hx hb dX4_loop_56 rfl (lv_at hl 4 rfl) ?_
      refine lv_aload_n hx hb dX4_loop_57 rfl (lv_at hl 5 rfl) ?_
      refine va_getN (D := G.1) (ci := 0) (v := .int (tA T i 5)) (C := RX0) (T := TX0) (N := 13) hx hb hts inX0 hown hK.1 hP (10 + i) (sW_n hi) rfl 5 (by decide) (hK.2.1.use w_74) (fun _ h9 => h9) rfl dX4_loop_58 ?_
      refine lv_iload hx hb dX4_loop_61 (lv_at hl 0 rfl) ?_
      obtain ⟨S3, r4, hg, hE⟩ := hE
      refine kA_i (va_runV (As := [.int (tA T i 5), .int ((((S.1.1 11).toUInt32 >>> (((tA T i 5) * 4).toUInt32 &&& Int32.toUInt32 31)).toInt32 &&& 7) + 1)]) (rest := []) F.1 (e_s_withLoop l G h q ad T hO S (tA T i 5) ((((S.1.1 11).toUInt32 >>> (((tA T i 5) * 4).toUInt32 &&& Int32.toUInt32 31)).toInt32 &&& 7) + 1) S3 r4 hg _) (cwV 2 hts (aw_V w_693 w_695 ws_X4_withLoop w_2 w_696) rfl rfl rfl (by decide +kernel) ⟨by decide, by decide⟩) ⟨cS_blind, va_recv (q := (RX4, TX4, 13)) (ci := 4) (q0 := 0) hK.1 hP rfl sW_0, cS_pre hP hD hK⟩ rfl rfl hl.1 rfl (lv_room (Nat.le_of_ble_eq_true rfl)) dX4_loop_63 ⟨Nat.le_refl _, Nat.le_refl _⟩) hD hS hA (fun r9 u0 H locs hp hP hD hS => ?_)
      have hp := hp.symm; subst hp
      refine lv_istore hx hb dX4_loop_66 hl (by decide) rfl (fun ls hl => ?_)
      have hl : lv_has ls 7 [(6, .int r4), (5, .int ((((S.1.1 11).toUInt32 >>> (((tA T i 5) * 4).toUInt32 &&& Int32.toUInt32 31)).toInt32 &&& 7) + 1)), (4, .int 0), (3, .int (((S.1.1 11).toUInt32 >>> (((tA T i 5) * 4).toUInt32 &&& Int32.toUInt32 31)).toInt32 &&& 7)), (2, .int (((S.1.1 11).toUInt32 >>> (((tA T i 5) * 4).toUInt32 &&& Int32.toUInt32 31)).toInt32)), (0, .ref h), (1, .ref (ad i))] := hl
      refine lv_iload_n hx hb dX4_loop_68 rfl (lv_at hl 3 rfl) ?_
      refine lv_aload_n hx hb dX4_loop_69 rfl (lv_at hl 6 rfl) ?_
      refine va_getN (D := G.1) (ci := 0) (v := .int (tA T i 6)) (C := RX0) (T := TX0) (N := 13) hx hb hts inX0 hown hK.1 hP (10 + i) (sW_n hi) rfl 6 (by decide) (hK.2.1.use w_77) (fun _ h9 => h9) rfl dX4_loop_70 ?_
      refine lv_icmp_ge (tgt := 87) hx hb dX4_loop_73 (by decide) (fun h5 => ?_) (fun h5 => ?_)
      ·
        rw [if_pos h5] at hE
        refine lv_iload hx hb dX4_loop_87 (lv_at hl 2 rfl) ?_
        refine lv_if_eq (tgt := 100) hx hb dX4_loop_89 (by decide) (fun _ => ?_) (fun h => absurd (by decide) h)
        refine lv_aload_n hx hb dX4_loop_100 rfl (lv_at hl 5 rfl) ?_
        refine lv_aload_n hx hb dX4_loop_101 rfl (lv_at hl 6 rfl) ?_
        refine va_getN (D := G.1) (ci := 0) (v := .int (tA T i 2)) (C := RX0) (T := TX0) (N := 13) hx hb hts inX0 hown hK.1 hP (10 + i) (sW_n hi) rfl 2 (by decide) (hK.2.1.use w_68) (fun _ h9 => h9) rfl dX4_loop_102 ?_
        refine lv_aload_n hx hb dX4_loop_105 rfl (lv_at hl 5 rfl) ?_
        refine va_get (D := G.1) (ci := 4) (C := RX4) (T := TX4) (N := 13) hx hb hts inX4 hown hK.1 hP 0 sW_0 rfl 11 (by decide) (hts _ w_153) (fun _ h9 => h9) sF_11 dX4_loop_106 ?_
        obtain ⟨S6, r7, hg, hE⟩ := hE
        refine kA_i (va_runV (As := [.int (tA T i 2), .int (S3.1.1 11)]) (rest := []) F.1 (e_s_goTo l G h q ad T hO S3 (tA T i 2) (S3.1.1 11) S6 r7 hg _) (cwV 2 hts (aw_V w_711 w_713 ws_X4_goTo w_2 w_714) rfl rfl rfl (by decide +kernel) ⟨by decide, by decide⟩) ⟨cS_blind, va_recv (q := (RX4, TX4, 13)) (ci := 4) (q0 := 0) hK.1 hP rfl sW_0, cS_pre hP hD hK⟩ rfl rfl hl.1 rfl (lv_room (Nat.le_of_ble_eq_true rfl)) dX4_loop_109 ⟨Nat.le_refl _, Nat.le_refl _⟩) hD hS hA (fun r9 u0 H locs hp hP hD hS => ?_)
        have hp := hp.symm; subst hp
        obtain ⟨hn, rfl, rfl⟩ := hE
        exact en_i F hS _ () hn rfl hP hD (Nat.le_refl _) (Nat.le_refl _) dX4_loop_112
      ·
        rw [if_neg h5] at hE
        refine lv_aload_n hx hb dX4_loop_76 rfl (lv_at hl 5 rfl) ?_
        refine lv_aload_n hx hb dX4_loop_77 rfl (lv_at hl 6 rfl) ?_
        refine va_getN (D := G.1) (ci := 0) (v := .int (tA T i 3)) (C := RX0) (T := TX0) (N := 13) hx hb hts inX0 hown hK.1 hP (10 + i) (sW_n hi) rfl 3 (by decide) (hK.2.1.use w_71) (fun _ h9 => h9) rfl dX4_loop_78 ?_
        refine lv_iload hx hb dX4_loop_81 (lv_at hl 0 rfl) ?_
        obtain ⟨S8, r9, hg, hE⟩ := hE
        refine kA_i (va_runV (As := [.int (tA T i 3), .int r4]) (rest := []) F.1 (e_s_goTo l G h q ad T hO S3 (tA T i 3) r4 S8 r9 hg _) (cwV 2 hts (aw_V w_711 w_713 ws_X4_goTo w_2 w_714) rfl rfl rfl (by decide +kernel) ⟨by decide, by decide⟩) ⟨cS_blind, va_recv (q := (RX4, TX4, 13)) (ci := 4) (q0 := 0) hK.1 hP rfl sW_0, cS_pre hP hD hK⟩ rfl rfl hl.1 rfl (lv_room (Nat.le_of_ble_eq_true rfl)) dX4_loop_83 ⟨Nat.le_refl _, Nat.le_refl _⟩) hD hS hA (fun r9 u0 H locs hp hP hD hS => ?_)
        have hp := hp.symm; subst hp
        obtain ⟨hn, rfl, rfl⟩ := hE
        exact en_i F hS _ () hn rfl hP hD (Nat.le_refl _) (Nat.le_refl _) dX4_loop_86
    ·
      rw [if_pos h2] at hE
      refine lv_iload_n hx hb dX4_loop_39 rfl (lv_at hl 1 rfl) ?_
      refine lv_aload_n hx hb dX4_loop_40 rfl (lv_at hl 4 rfl) ?_
      refine va_getN (D := G.1) (ci := 0) (v := .int (tA T i 6)) (C := RX0) (T := TX0) (N := 13) hx hb hts inX0 hown hK.1 hP (10 + i) (sW_n hi) rfl 6 (by decide) (hK.2.1.use w_77) (fun _ h9 => h9) rfl dX4_loop_41 ?_
      refine lv_icmp_lt (tgt := 51) hx hb dX4_loop_44 (by decide) (fun h10 => ?_) (fun h10 => ?_)
      ·
        rw [if_pos h10] at hE
        refine lv_iload_n hx hb dX4_loop_51 rfl (lv_at hl 1 rfl) ?_
        refine lv_iconst (v := 1) hx hb dX4_loop_52 (by decide) ?_
        refine lv_iadd hx hb dX4_loop_53 ?_
        refine lv_istore hx hb dX4_loop_54 hl (by decide) rfl (fun ls hl => ?_)
        have hl : lv_has ls 7 [(5, .int ((((S.1.1 11).toUInt32 >>> (((tA T i 5) * 4).toUInt32 &&& Int32.toUInt32 31)).toInt32 &&& 7) + 1)), (4, .int 0), (3, .int (((S.1.1 11).toUInt32 >>> (((tA T i 5) * 4).toUInt32 &&& Int32.toUInt32 31)).toInt32 &&& 7)), (2, .int (((S.1.1 11).toUInt32 >>> (((tA T i 5) * 4).toUInt32 &&& Int32.toUInt32 31)).toInt32)), (0, .ref h), (1, .ref (ad i))] := hl
        refine lv_aload_n hx hb dX4_loop_56 rfl (lv_at hl 4 rfl) ?_
        refine lv_aload_n hx hb dX4_loop_57 rfl (lv_at hl 5 rfl) ?_
        refine va_getN (D := G.1) (ci := 0) (v := .int (tA T i 5)) (C := RX0) (T := TX0) (N := 13) hx hb hts inX0 hown hK.1 hP (10 + i) (sW_n hi) rfl 5 (by decide) (hK.2.1.use w_74) (fun _ h9 => h9) rfl dX4_loop_58 ?_
        refine lv_iload hx hb dX4_loop_61 (lv_at hl 0 rfl) ?_
        obtain ⟨S11, r12, hg, hE⟩ := hE
        refine kA_i (va_runV (As := [.int (tA T i 5), .int ((((S.1.1 11).toUInt32 >>> (((tA T i 5) * 4).toUInt32 &&& Int32.toUInt32 31)).toInt32 &&& 7) + 1)]) (rest := []) F.1 (e_s_withLoop l G h q ad T hO S (tA T i 5) ((((S.1.1 11).toUInt32 >>> (((tA T i 5) * 4).toUInt32 &&& Int32.toUInt32 31)).toInt32 &&& 7) + 1) S11 r12 hg _) (cwV 2 hts (aw_V w_693 w_695 ws_X4_withLoop w_2 w_696) rfl rfl rfl (by decide +kernel) ⟨by decide, by decide⟩) ⟨cS_blind, va_recv (q := (RX4, TX4, 13)) (ci := 4) (q0 := 0) hK.1 hP rfl sW_0, cS_pre hP hD hK⟩ rfl rfl hl.1 rfl (lv_room (Nat.le_of_ble_eq_true rfl)) dX4_loop_63 ⟨Nat.le_refl _, Nat.le_refl _⟩) hD hS hA (fun r9 u0 H locs hp hP hD hS => ?_)
        have hp := hp.symm; subst hp
        refine lv_istore hx hb dX4_loop_66 hl (by decide) rfl (fun ls hl => ?_)
        have hl : lv_has ls 7 [(6, .int r12), (5, .int ((((S.1.1 11).toUInt32 >>> (((tA T i 5) * 4).toUInt32 &&& Int32.toUInt32 31)).toInt32 &&& 7) + 1)), (4, .int 0), (3, .int (((S.1.1 11).toUInt32 >>> (((tA T i 5) * 4).toUInt32 &&& Int32.toUInt32 31)).toInt32 &&& 7)), (2, .int (((S.1.1 11).toUInt32 >>> (((tA T i 5) * 4).toUInt32 &&& Int32.toUInt32 31)).toInt32)), (0, .ref h), (1, .ref (ad i))] := hl
        refine lv_iload_n hx hb dX4_loop_68 rfl (lv_at hl 3 rfl) ?_
        refine lv_aload_n hx hb dX4_loop_69 rfl (lv_at hl 6 rfl) ?_
        refine va_getN (D := G.1) (ci := 0) (v := .int (tA T i 6)) (C := RX0) (T := TX0) (N := 13) hx hb hts inX0 hown hK.1 hP (10 + i) (sW_n hi) rfl 6 (by decide) (hK.2.1.use w_77) (fun _ h9 => h9) rfl dX4_loop_70 ?_
        refine lv_icmp_ge (tgt := 87) hx hb dX4_loop_73 (by decide) (fun h13 => ?_) (fun h13 => ?_)
        ·
          rw [if_pos h13] at hE
          refine lv_iload hx hb dX4_loop_87 (lv_at hl 2 rfl) ?_
          refine lv_if_eq (tgt := 100) hx hb dX4_loop_89 (by decide) (fun _ => ?_) (fun h => absurd (by decide) h)
          refine lv_aload_n hx hb dX4_loop_100 rfl (lv_at hl 5 rfl) ?_
          refine lv_aload_n hx hb dX4_loop_101 rfl (lv_at hl 6 rfl) ?_
          refine va_getN (D := G.1) (ci := 0) (v := .int (tA T i 2)) (C := RX0) (T := TX0) (N := 13) hx hb hts inX0 hown hK.1 hP (10 + i) (sW_n hi) rfl 2 (by decide) (hK.2.1.use w_68) (fun _ h9 => h9) rfl dX4_loop_102 ?_
          refine lv_aload_n hx hb dX4_loop_105 rfl (lv_at hl 5 rfl) ?_
          refine va_get (D := G.1) (ci := 4) (C := RX4) (T := TX4) (N := 13) hx hb hts inX4 hown hK.1 hP 0 sW_0 rfl 11 (by decide) (hts _ w_153) (fun _ h9 => h9) sF_11 dX4_loop_106 ?_
          obtain ⟨S14, r15, hg, hE⟩ := hE
          refine kA_i (va_runV (As := [.int (tA T i 2), .int (S11.1.1 11)]) (rest := []) F.1 (e_s_goTo l G h q ad T hO S11 (tA T i 2) (S11.1.1 11) S14 r15 hg _) (cwV 2 hts (aw_V w_711 w_713 ws_X4_goTo w_2 w_714) rfl rfl rfl (by decide +kernel) ⟨by decide, by decide⟩) ⟨cS_blind, va_recv (q := (RX4, TX4, 13)) (ci := 4) (q0 := 0) hK.1 hP rfl sW_0, cS_pre hP hD hK⟩ rfl rfl hl.1 rfl (lv_room (Nat.le_of_ble_eq_true rfl)) dX4_loop_109 ⟨Nat.le_refl _, Nat.le_refl _⟩) hD hS hA (fun r9 u0 H locs hp hP hD hS => ?_)
          have hp := hp.symm; subst hp
          obtain ⟨hn, rfl, rfl⟩ := hE
          exact en_i F hS _ () hn rfl hP hD (Nat.le_refl _) (Nat.le_refl _) dX4_loop_112
        ·
          rw [if_neg h13] at hE
          refine lv_aload_n hx hb dX4_loop_76 rfl (lv_at hl 5 rfl) ?_
          refine lv_aload_n hx hb dX4_loop_77 rfl (lv_at hl 6 rfl) ?_
          refine va_getN (D := G.1) (ci := 0) (v := .int (tA T i 3)) (C := RX0) (T := TX0) (N := 13) hx hb hts inX0 hown hK.1 hP (10 + i) (sW_n hi) rfl 3 (by decide) (hK.2.1.use w_71) (fun _ h9 => h9) rfl dX4_loop_78 ?_
          refine lv_iload hx hb dX4_loop_81 (lv_at hl 0 rfl) ?_
          obtain ⟨S16, r17, hg, hE⟩ := hE
          refine kA_i (va_runV (As := [.int (tA T i 3), .int r12]) (rest := []) F.1 (e_s_goTo l G h q ad T hO S11 (tA T i 3) r12 S16 r17 hg _) (cwV 2 hts (aw_V w_711 w_713 ws_X4_goTo w_2 w_714) rfl rfl rfl (by decide +kernel) ⟨by decide, by decide⟩) ⟨cS_blind, va_recv (q := (RX4, TX4, 13)) (ci := 4) (q0 := 0) hK.1 hP rfl sW_0, cS_pre hP hD hK⟩ rfl rfl hl.1 rfl (lv_room (Nat.le_of_ble_eq_true rfl)) dX4_loop_83 ⟨Nat.le_refl _, Nat.le_refl _⟩) hD hS hA (fun r9 u0 H locs hp hP hD hS => ?_)
          have hp := hp.symm; subst hp
          obtain ⟨hn, rfl, rfl⟩ := hE
          exact en_i F hS _ () hn rfl hP hD (Nat.le_refl _) (Nat.le_refl _) dX4_loop_86
      ·
        rw [if_neg h10] at hE
        refine lv_iload_n hx hb dX4_loop_47 rfl (lv_at hl 1 rfl) ?_
        refine lv_goto (tgt := 54) hx hb dX4_loop_48 (by decide) ?_
        refine lv_istore hx hb dX4_loop_54 hl (by decide) rfl (fun ls hl => ?_)
        have hl : lv_has ls 7 [(5, .int (((S.1.1 11).toUInt32 >>> (((tA T i 5) * 4).toUInt32 &&& Int32.toUInt32 31)).toInt32 &&& 7)), (4, .int 0), (3, .int (((S.1.1 11).toUInt32 >>> (((tA T i 5) * 4).toUInt32 &&& Int32.toUInt32 31)).toInt32 &&& 7)), (2, .int (((S.1.1 11).toUInt32 >>> (((tA T i 5) * 4).toUInt32 &&& Int32.toUInt32 31)).toInt32)), (0, .ref h), (1, .ref (ad i))] := hl
        refine lv_aload_n hx hb dX4_loop_56 rfl (lv_at hl 4 rfl) ?_
        refine lv_aload_n hx hb dX4_loop_57 rfl (lv_at hl 5 rfl) ?_
        refine va_getN (D := G.1) (ci := 0) (v := .int (tA T i 5)) (C := RX0) (T := TX0) (N := 13) hx hb hts inX0 hown hK.1 hP (10 + i) (sW_n hi) rfl 5 (by decide) (hK.2.1.use w_74) (fun _ h9 => h9) rfl dX4_loop_58 ?_
        refine lv_iload hx hb dX4_loop_61 (lv_at hl 0 rfl) ?_
        obtain ⟨S18, r19, hg, hE⟩ := hE
        refine kA_i (va_runV (As := [.int (tA T i 5), .int (((S.1.1 11).toUInt32 >>> (((tA T i 5) * 4).toUInt32 &&& Int32.toUInt32 31)).toInt32 &&& 7)]) (rest := []) F.1 (e_s_withLoop l G h q ad T hO S (tA T i 5) (((S.1.1 11).toUInt32 >>> (((tA T i 5) * 4).toUInt32 &&& Int32.toUInt32 31)).toInt32 &&& 7) S18 r19 hg _) (cwV 2 hts (aw_V w_693 w_695 ws_X4_withLoop w_2 w_696) rfl rfl rfl (by decide +kernel) ⟨by decide, by decide⟩) ⟨cS_blind, va_recv (q := (RX4, TX4, 13)) (ci := 4) (q0 := 0) hK.1 hP rfl sW_0, cS_pre hP hD hK⟩ rfl rfl hl.1 rfl (lv_room (Nat.le_of_ble_eq_true rfl)) dX4_loop_63 ⟨Nat.le_refl _, Nat.le_refl _⟩) hD hS hA (fun r9 u0 H locs hp hP hD hS => ?_)
        have hp := hp.symm; subst hp
        refine lv_istore hx hb dX4_loop_66 hl (by decide) rfl (fun ls hl => ?_)
        have hl : lv_has ls 7 [(6, .int r19), (5, .int (((S.1.1 11).toUInt32 >>> (((tA T i 5) * 4).toUInt32 &&& Int32.toUInt32 31)).toInt32 &&& 7)), (4, .int 0), (3, .int (((S.1.1 11).toUInt32 >>> (((tA T i 5) * 4).toUInt32 &&& Int32.toUInt32 31)).toInt32 &&& 7)), (2, .int (((S.1.1 11).toUInt32 >>> (((tA T i 5) * 4).toUInt32 &&& Int32.toUInt32 31)).toInt32)), (0, .ref h), (1, .ref (ad i))] := hl
        refine lv_iload_n hx hb dX4_loop_68 rfl (lv_at hl 3 rfl) ?_
        refine lv_aload_n hx hb dX4_loop_69 rfl (lv_at hl 6 rfl) ?_
        refine va_getN (D := G.1) (ci := 0) (v := .int (tA T i 6)) (C := RX0) (T := TX0) (N := 13) hx hb hts inX0 hown hK.1 hP (10 + i) (sW_n hi) rfl 6 (by decide) (hK.2.1.use w_77) (fun _ h9 => h9) rfl dX4_loop_70 ?_
        refine lv_icmp_ge (tgt := 87) hx hb dX4_loop_73 (by decide) (fun h20 => ?_) (fun h20 => ?_)
        ·
          rw [if_pos h20] at hE
          refine lv_iload hx hb dX4_loop_87 (lv_at hl 2 rfl) ?_
          refine lv_if_eq (tgt := 100) hx hb dX4_loop_89 (by decide) (fun _ => ?_) (fun h => absurd (by decide) h)
          refine lv_aload_n hx hb dX4_loop_100 rfl (lv_at hl 5 rfl) ?_
          refine lv_aload_n hx hb dX4_loop_101 rfl (lv_at hl 6 rfl) ?_
          refine va_getN (D := G.1) (ci := 0) (v := .int (tA T i 2)) (C := RX0) (T := TX0) (N := 13) hx hb hts inX0 hown hK.1 hP (10 + i) (sW_n hi) rfl 2 (by decide) (hK.2.1.use w_68) (fun _ h9 => h9) rfl dX4_loop_102 ?_
          refine lv_aload_n hx hb dX4_loop_105 rfl (lv_at hl 5 rfl) ?_
          refine va_get (D := G.1) (ci := 4) (C := RX4) (T := TX4) (N := 13) hx hb hts inX4 hown hK.1 hP 0 sW_0 rfl 11 (by decide) (hts _ w_153) (fun _ h9 => h9) sF_11 dX4_loop_106 ?_
          obtain ⟨S21, r22, hg, hE⟩ := hE
          refine kA_i (va_runV (As := [.int (tA T i 2), .int (S18.1.1 11)]) (rest := []) F.1 (e_s_goTo l G h q ad T hO S18 (tA T i 2) (S18.1.1 11) S21 r22 hg _) (cwV 2 hts (aw_V w_711 w_713 ws_X4_goTo w_2 w_714) rfl rfl rfl (by decide +kernel) ⟨by decide, by decide⟩) ⟨cS_blind, va_recv (q := (RX4, TX4, 13)) (ci := 4) (q0 := 0) hK.1 hP rfl sW_0, cS_pre hP hD hK⟩ rfl rfl hl.1 rfl (lv_room (Nat.le_of_ble_eq_true rfl)) dX4_loop_109 ⟨Nat.le_refl _, Nat.le_refl _⟩) hD hS hA (fun r9 u0 H locs hp hP hD hS => ?_)
          have hp := hp.symm; subst hp
          obtain ⟨hn, rfl, rfl⟩ := hE
          exact en_i F hS _ () hn rfl hP hD (Nat.le_refl _) (Nat.le_refl _) dX4_loop_112
        ·
          rw [if_neg h20] at hE
          refine lv_aload_n hx hb dX4_loop_76 rfl (lv_at hl 5 rfl) ?_
          refine lv_aload_n hx hb dX4_loop_77 rfl (lv_at hl 6 rfl) ?_
          refine va_getN (D := G.1) (ci := 0) (v := .int (tA T i 3)) (C := RX0) (T := TX0) (N := 13) hx hb hts inX0 hown hK.1 hP (10 + i) (sW_n hi) rfl 3 (by decide) (hK.2.1.use w_71) (fun _ h9 => h9) rfl dX4_loop_78 ?_
          refine lv_iload hx hb dX4_loop_81 (lv_at hl 0 rfl) ?_
          obtain ⟨S23, r24, hg, hE⟩ := hE
          refine kA_i (va_runV (As := [.int (tA T i 3), .int r19]) (rest := []) F.1 (e_s_goTo l G h q ad T hO S18 (tA T i 3) r19 S23 r24 hg _) (cwV 2 hts (aw_V w_711 w_713 ws_X4_goTo w_2 w_714) rfl rfl rfl (by decide +kernel) ⟨by decide, by decide⟩) ⟨cS_blind, va_recv (q := (RX4, TX4, 13)) (ci := 4) (q0 := 0) hK.1 hP rfl sW_0, cS_pre hP hD hK⟩ rfl rfl hl.1 rfl (lv_room (Nat.le_of_ble_eq_true rfl)) dX4_loop_83 ⟨Nat.le_refl _, Nat.le_refl _⟩) hD hS hA (fun r9 u0 H locs hp hP hD hS => ?_)
          have hp := hp.symm; subst hp
          obtain ⟨hn, rfl, rfl⟩ := hE
          exact en_i F hS _ () hn rfl hP hD (Nat.le_refl _) (Nat.le_refl _) dX4_loop_86
  ·
    rw [if_neg h1] at hE
    refine lv_iconst (v := 1) hx hb dX4_loop_24 (by decide) ?_
    refine lv_goto (tgt := 29) hx hb dX4_loop_25 (by decide) ?_
    refine lv_istore hx hb dX4_loop_29 hl (by decide) rfl (fun ls hl => ?_)
    have hl : lv_has ls 7 [(4, .int 1), (3, .int (((S.1.1 11).toUInt32 >>> (((tA T i 5) * 4).toUInt32 &&& Int32.toUInt32 31)).toInt32 &&& 7)), (2, .int (((S.1.1 11).toUInt32 >>> (((tA T i 5) * 4).toUInt32 &&& Int32.toUInt32 31)).toInt32)), (0, .ref h), (1, .ref (ad i))] := hl
    refine lv_aload_n hx hb dX4_loop_31 rfl (lv_at hl 4 rfl) ?_
    refine va_getN (D := G.1) (ci := 0) (v := .int (tA T i 7)) (C := RX0) (T := TX0) (N := 13) hx hb hts inX0 hown hK.1 hP (10 + i) (sW_n hi) rfl 7 (by decide) (hK.2.1.use w_79) (fun _ h9 => h9) rfl dX4_loop_32 ?_
    refine lv_iconst (v := (-1)) hx hb dX4_loop_35 (by decide) ?_
    refine lv_icmp_ne (tgt := 51) hx hb dX4_loop_36 (by decide) (fun h25 => ?_) (fun h25 => ?_)
    ·
      rw [if_neg h25] at hE
      refine lv_iload_n hx hb dX4_loop_51 rfl (lv_at hl 1 rfl) ?_
      refine lv_iconst (v := 1) hx hb dX4_loop_52 (by decide) ?_
      refine lv_iadd hx hb dX4_loop_53 ?_
      refine lv_istore hx hb dX4_loop_54 hl (by decide) rfl (fun ls hl => ?_)
      have hl : lv_has ls 7 [(5, .int ((((S.1.1 11).toUInt32 >>> (((tA T i 5) * 4).toUInt32 &&& Int32.toUInt32 31)).toInt32 &&& 7) + 1)), (4, .int 1), (3, .int (((S.1.1 11).toUInt32 >>> (((tA T i 5) * 4).toUInt32 &&& Int32.toUInt32 31)).toInt32 &&& 7)), (2, .int (((S.1.1 11).toUInt32 >>> (((tA T i 5) * 4).toUInt32 &&& Int32.toUInt32 31)).toInt32)), (0, .ref h), (1, .ref (ad i))] := hl
      refine lv_aload_n hx hb dX4_loop_56 rfl (lv_at hl 4 rfl) ?_
      refine lv_aload_n hx hb dX4_loop_57 rfl (lv_at hl 5 rfl) ?_
      refine va_getN (D := G.1) (ci := 0) (v := .int (tA T i 5)) (C := RX0) (T := TX0) (N := 13) hx hb hts inX0 hown hK.1 hP (10 + i) (sW_n hi) rfl 5 (by decide) (hK.2.1.use w_74) (fun _ h9 => h9) rfl dX4_loop_58 ?_
      refine lv_iload hx hb dX4_loop_61 (lv_at hl 0 rfl) ?_
      obtain ⟨S26, r27, hg, hE⟩ := hE
      refine kA_i (va_runV (As := [.int (tA T i 5), .int ((((S.1.1 11).toUInt32 >>> (((tA T i 5) * 4).toUInt32 &&& Int32.toUInt32 31)).toInt32 &&& 7) + 1)]) (rest := []) F.1 (e_s_withLoop l G h q ad T hO S (tA T i 5) ((((S.1.1 11).toUInt32 >>> (((tA T i 5) * 4).toUInt32 &&& Int32.toUInt32 31)).toInt32 &&& 7) + 1) S26 r27 hg _) (cwV 2 hts (aw_V w_693 w_695 ws_X4_withLoop w_2 w_696) rfl rfl rfl (by decide +kernel) ⟨by decide, by decide⟩) ⟨cS_blind, va_recv (q := (RX4, TX4, 13)) (ci := 4) (q0 := 0) hK.1 hP rfl sW_0, cS_pre hP hD hK⟩ rfl rfl hl.1 rfl (lv_room (Nat.le_of_ble_eq_true rfl)) dX4_loop_63 ⟨Nat.le_refl _, Nat.le_refl _⟩) hD hS hA (fun r9 u0 H locs hp hP hD hS => ?_)
      have hp := hp.symm; subst hp
      refine lv_istore hx hb dX4_loop_66 hl (by decide) rfl (fun ls hl => ?_)
      have hl : lv_has ls 7 [(6, .int r27), (5, .int ((((S.1.1 11).toUInt32 >>> (((tA T i 5) * 4).toUInt32 &&& Int32.toUInt32 31)).toInt32 &&& 7) + 1)), (4, .int 1), (3, .int (((S.1.1 11).toUInt32 >>> (((tA T i 5) * 4).toUInt32 &&& Int32.toUInt32 31)).toInt32 &&& 7)), (2, .int (((S.1.1 11).toUInt32 >>> (((tA T i 5) * 4).toUInt32 &&& Int32.toUInt32 31)).toInt32)), (0, .ref h), (1, .ref (ad i))] := hl
      refine lv_iload_n hx hb dX4_loop_68 rfl (lv_at hl 3 rfl) ?_
      refine lv_aload_n hx hb dX4_loop_69 rfl (lv_at hl 6 rfl) ?_
      refine va_getN (D := G.1) (ci := 0) (v := .int (tA T i 6)) (C := RX0) (T := TX0) (N := 13) hx hb hts inX0 hown hK.1 hP (10 + i) (sW_n hi) rfl 6 (by decide) (hK.2.1.use w_77) (fun _ h9 => h9) rfl dX4_loop_70 ?_
      refine lv_icmp_ge (tgt := 87) hx hb dX4_loop_73 (by decide) (fun h28 => ?_) (fun h28 => ?_)
      ·
        rw [if_pos h28] at hE
        refine lv_iload hx hb dX4_loop_87 (lv_at hl 2 rfl) ?_
        refine lv_if_eq (tgt := 100) hx hb dX4_loop_89 (by decide) (fun h => absurd h (by decide)) (fun _ => ?_)
        refine lv_iload_n hx hb dX4_loop_92 rfl (lv_at hl 3 rfl) ?_
        refine lv_aload_n hx hb dX4_loop_93 rfl (lv_at hl 6 rfl) ?_
        refine va_getN (D := G.1) (ci := 0) (v := .int (tA T i 7)) (C := RX0) (T := TX0) (N := 13) hx hb hts inX0 hown hK.1 hP (10 + i) (sW_n hi) rfl 7 (by decide) (hK.2.1.use w_79) (fun _ h9 => h9) rfl dX4_loop_94 ?_
        refine lv_icmp_ne (tgt := 113) hx hb dX4_loop_97 (by decide) (fun h29 => ?_) (fun h29 => ?_)
        ·
          rw [if_neg h29] at hE
          refine lv_aload_n hx hb dX4_loop_113 rfl (lv_at hl 6 rfl) ?_
          refine va_getN (D := G.1) (ci := 0) (v := .int (tA T i 8)) (C := RX0) (T := TX0) (N := 13) hx hb hts inX0 hown hK.1 hP (10 + i) (sW_n hi) rfl 8 (by decide) (hK.2.1.use w_81) (fun _ h9 => h9) rfl dX4_loop_114 ?_
          refine lv_if_eq (tgt := 154) hx hb dX4_loop_117 (by decide) (fun h30 => ?_) (fun h30 => ?_)
          ·
            rw [if_pos h30] at hE
            refine lv_aload_n hx hb dX4_loop_154 rfl (lv_at hl 5 rfl) ?_
            refine lv_aload_n hx hb dX4_loop_155 rfl (lv_at hl 6 rfl) ?_
            refine va_getN (D := G.1) (ci := 0) (v := .int (tA T i 2)) (C := RX0) (T := TX0) (N := 13) hx hb hts inX0 hown hK.1 hP (10 + i) (sW_n hi) rfl 2 (by decide) (hK.2.1.use w_68) (fun _ h9 => h9) rfl dX4_loop_156 ?_
            refine lv_aload_n hx hb dX4_loop_159 rfl (lv_at hl 5 rfl) ?_
            refine va_get (D := G.1) (ci := 4) (C := RX4) (T := TX4) (N := 13) hx hb hts inX4 hown hK.1 hP 0 sW_0 rfl 11 (by decide) (hts _ w_153) (fun _ h9 => h9) sF_11 dX4_loop_160 ?_
            obtain ⟨S31, r32, hg, hE⟩ := hE
            refine kA_i (va_runV (As := [.int (tA T i 2), .int (S26.1.1 11)]) (rest := []) F.1 (e_s_letWait l G h q ad T hO S26 (tA T i 2) (S26.1.1 11) S31 r32 hg _) (cwV 2 hts (aw_V w_685 w_687 ws_X4_letWait w_2 w_688) rfl rfl rfl (by decide +kernel) ⟨by decide, by decide⟩) ⟨cS_blind, va_recv (q := (RX4, TX4, 13)) (ci := 4) (q0 := 0) hK.1 hP rfl sW_0, cS_pre hP hD hK⟩ rfl rfl hl.1 rfl (lv_room (Nat.le_of_ble_eq_true rfl)) dX4_loop_163 ⟨Nat.le_refl _, Nat.le_refl _⟩) hD hS hA (fun r9 u0 H locs hp hP hD hS => ?_)
            have hp := hp.symm; subst hp
            refine lv_if_eq (tgt := 186) hx hb dX4_loop_166 (by decide) (fun h33 => ?_) (fun h33 => ?_)
            ·
              rw [if_pos h33] at hE
              refine lv_iconst (v := 0) hx hb dX4_loop_186 (by decide) ?_
              obtain ⟨rfl, rfl⟩ := hE
              exact en_i F hS _ () (by rfl) rfl hP hD (Nat.le_refl _) (Nat.le_refl _) dX4_loop_187
            ·
              rw [if_neg h33] at hE
              refine lv_aload_n hx hb dX4_loop_169 rfl (lv_at hl 5 rfl) ?_
              refine lv_aload_n hx hb dX4_loop_170 rfl (lv_at hl 6 rfl) ?_
              refine va_getN (D := G.1) (ci := 0) (v := .int (tA T i 3)) (C := RX0) (T := TX0) (N := 13) hx hb hts inX0 hown hK.1 hP (10 + i) (sW_n hi) rfl 3 (by decide) (hK.2.1.use w_71) (fun _ h9 => h9) rfl dX4_loop_171 ?_
              refine lv_iload hx hb dX4_loop_174 (lv_at hl 0 rfl) ?_
              obtain ⟨S34, r35, hg, hE⟩ := hE
              refine kA_i (va_runV (As := [.int (tA T i 3), .int r27]) (rest := []) F.1 (e_s_goTo l G h q ad T hO S31 (tA T i 3) r27 S34 r35 hg _) (cwV 2 hts (aw_V w_711 w_713 ws_X4_goTo w_2 w_714) rfl rfl rfl (by decide +kernel) ⟨by decide, by decide⟩) ⟨cS_blind, va_recv (q := (RX4, TX4, 13)) (ci := 4) (q0 := 0) hK.1 hP rfl sW_0, cS_pre hP hD hK⟩ rfl rfl hl.1 rfl (lv_room (Nat.le_of_ble_eq_true rfl)) dX4_loop_176 ⟨Nat.le_refl _, Nat.le_refl _⟩) hD hS hA (fun r9 u0 H locs hp hP hD hS => ?_)
              have hp := hp.symm; subst hp
              refine lv_if_eq (tgt := 186) hx hb dX4_loop_179 (by decide) (fun h36 => ?_) (fun h36 => ?_)
              ·
                rw [if_pos h36] at hE
                refine lv_iconst (v := 0) hx hb dX4_loop_186 (by decide) ?_
                obtain ⟨rfl, rfl⟩ := hE
                exact en_i F hS _ () (by rfl) rfl hP hD (Nat.le_refl _) (Nat.le_refl _) dX4_loop_187
              ·
                rw [if_neg h36] at hE
                refine lv_iconst (v := 1) hx hb dX4_loop_182 (by decide) ?_
                refine lv_goto (tgt := 187) hx hb dX4_loop_183 (by decide) ?_
                obtain ⟨rfl, rfl⟩ := hE
                exact en_i F hS _ () (by rfl) rfl hP hD (Nat.le_refl _) (Nat.le_refl _) dX4_loop_187
          ·
            rw [if_neg h30] at hE
            refine lv_aload_n hx hb dX4_loop_120 rfl (lv_at hl 5 rfl) ?_
            refine lv_aload_n hx hb dX4_loop_121 rfl (lv_at hl 6 rfl) ?_
            refine va_getN (D := G.1) (ci := 0) (v := .int (tA T i 3)) (C := RX0) (T := TX0) (N := 13) hx hb hts inX0 hown hK.1 hP (10 + i) (sW_n hi) rfl 3 (by decide) (hK.2.1.use w_71) (fun _ h9 => h9) rfl dX4_loop_122 ?_
            refine lv_iload hx hb dX4_loop_125 (lv_at hl 0 rfl) ?_
            obtain ⟨S37, r38, hg, hE⟩ := hE
            refine kA_i (va_runV (As := [.int (tA T i 3), .int r27]) (rest := []) F.1 (e_s_letWait l G h q ad T hO S26 (tA T i 3) r27 S37 r38 hg _) (cwV 2 hts (aw_V w_685 w_687 ws_X4_letWait w_2 w_688) rfl rfl rfl (by decide +kernel) ⟨by decide, by decide⟩) ⟨cS_blind, va_recv (q := (RX4, TX4, 13)) (ci := 4) (q0 := 0) hK.1 hP rfl sW_0, cS_pre hP hD hK⟩ rfl rfl hl.1 rfl (lv_room (Nat.le_of_ble_eq_true rfl)) dX4_loop_127 ⟨Nat.le_refl _, Nat.le_refl _⟩) hD hS hA (fun r9 u0 H locs hp hP hD hS => ?_)
            have hp := hp.symm; subst hp
            refine lv_if_eq (tgt := 152) hx hb dX4_loop_130 (by decide) (fun h39 => ?_) (fun h39 => ?_)
            ·
              rw [if_pos h39] at hE
              refine lv_iconst (v := 0) hx hb dX4_loop_152 (by decide) ?_
              obtain ⟨rfl, rfl⟩ := hE
              exact en_i F hS _ () (by rfl) rfl hP hD (Nat.le_refl _) (Nat.le_refl _) dX4_loop_153
            ·
              rw [if_neg h39] at hE
              refine lv_aload_n hx hb dX4_loop_133 rfl (lv_at hl 5 rfl) ?_
              refine lv_aload_n hx hb dX4_loop_134 rfl (lv_at hl 6 rfl) ?_
              refine va_getN (D := G.1) (ci := 0) (v := .int (tA T i 2)) (C := RX0) (T := TX0) (N := 13) hx hb hts inX0 hown hK.1 hP (10 + i) (sW_n hi) rfl 2 (by decide) (hK.2.1.use w_68) (fun _ h9 => h9) rfl dX4_loop_135 ?_
              refine lv_aload_n hx hb dX4_loop_138 rfl (lv_at hl 5 rfl) ?_
              refine va_get (D := G.1) (ci := 4) (C := RX4) (T := TX4) (N := 13) hx hb hts inX4 hown hK.1 hP 0 sW_0 rfl 11 (by decide) (hts _ w_153) (fun _ h9 => h9) sF_11 dX4_loop_139 ?_
              obtain ⟨S40, r41, hg, hE⟩ := hE
              refine kA_i (va_runV (As := [.int (tA T i 2), .int (S37.1.1 11)]) (rest := []) F.1 (e_s_goTo l G h q ad T hO S37 (tA T i 2) (S37.1.1 11) S40 r41 hg _) (cwV 2 hts (aw_V w_711 w_713 ws_X4_goTo w_2 w_714) rfl rfl rfl (by decide +kernel) ⟨by decide, by decide⟩) ⟨cS_blind, va_recv (q := (RX4, TX4, 13)) (ci := 4) (q0 := 0) hK.1 hP rfl sW_0, cS_pre hP hD hK⟩ rfl rfl hl.1 rfl (lv_room (Nat.le_of_ble_eq_true rfl)) dX4_loop_142 ⟨Nat.le_refl _, Nat.le_refl _⟩) hD hS hA (fun r9 u0 H locs hp hP hD hS => ?_)
              have hp := hp.symm; subst hp
              refine lv_if_eq (tgt := 152) hx hb dX4_loop_145 (by decide) (fun h42 => ?_) (fun h42 => ?_)
              ·
                rw [if_pos h42] at hE
                refine lv_iconst (v := 0) hx hb dX4_loop_152 (by decide) ?_
                obtain ⟨rfl, rfl⟩ := hE
                exact en_i F hS _ () (by rfl) rfl hP hD (Nat.le_refl _) (Nat.le_refl _) dX4_loop_153
              ·
                rw [if_neg h42] at hE
                refine lv_iconst (v := 1) hx hb dX4_loop_148 (by decide) ?_
                refine lv_goto (tgt := 153) hx hb dX4_loop_149 (by decide) ?_
                obtain ⟨rfl, rfl⟩ := hE
                exact en_i F hS _ () (by rfl) rfl hP hD (Nat.le_refl _) (Nat.le_refl _) dX4_loop_153
        ·
          rw [if_pos h29] at hE
          refine lv_aload_n hx hb dX4_loop_100 rfl (lv_at hl 5 rfl) ?_
          refine lv_aload_n hx hb dX4_loop_101 rfl (lv_at hl 6 rfl) ?_
          refine va_getN (D := G.1) (ci := 0) (v := .int (tA T i 2)) (C := RX0) (T := TX0) (N := 13) hx hb hts inX0 hown hK.1 hP (10 + i) (sW_n hi) rfl 2 (by decide) (hK.2.1.use w_68) (fun _ h9 => h9) rfl dX4_loop_102 ?_
          refine lv_aload_n hx hb dX4_loop_105 rfl (lv_at hl 5 rfl) ?_
          refine va_get (D := G.1) (ci := 4) (C := RX4) (T := TX4) (N := 13) hx hb hts inX4 hown hK.1 hP 0 sW_0 rfl 11 (by decide) (hts _ w_153) (fun _ h9 => h9) sF_11 dX4_loop_106 ?_
          obtain ⟨S43, r44, hg, hE⟩ := hE
          refine kA_i (va_runV (As := [.int (tA T i 2), .int (S26.1.1 11)]) (rest := []) F.1 (e_s_goTo l G h q ad T hO S26 (tA T i 2) (S26.1.1 11) S43 r44 hg _) (cwV 2 hts (aw_V w_711 w_713 ws_X4_goTo w_2 w_714) rfl rfl rfl (by decide +kernel) ⟨by decide, by decide⟩) ⟨cS_blind, va_recv (q := (RX4, TX4, 13)) (ci := 4) (q0 := 0) hK.1 hP rfl sW_0, cS_pre hP hD hK⟩ rfl rfl hl.1 rfl (lv_room (Nat.le_of_ble_eq_true rfl)) dX4_loop_109 ⟨Nat.le_refl _, Nat.le_refl _⟩) hD hS hA (fun r9 u0 H locs hp hP hD hS => ?_)
          have hp := hp.symm; subst hp
          obtain ⟨hn, rfl, rfl⟩ := hE
          exact en_i F hS _ () hn rfl hP hD (Nat.le_refl _) (Nat.le_refl _) dX4_loop_112
      ·
        rw [if_neg h28] at hE
        refine lv_aload_n hx hb dX4_loop_76 rfl (lv_at hl 5 rfl) ?_
        refine lv_aload_n hx hb dX4_loop_77 rfl (lv_at hl 6 rfl) ?_
        refine va_getN (D := G.1) (ci := 0) (v := .int (tA T i 3)) (C := RX0) (T := TX0) (N := 13) hx hb hts inX0 hown hK.1 hP (10 + i) (sW_n hi) rfl 3 (by decide) (hK.2.1.use w_71) (fun _ h9 => h9) rfl dX4_loop_78 ?_
        refine lv_iload hx hb dX4_loop_81 (lv_at hl 0 rfl) ?_
        obtain ⟨S45, r46, hg, hE⟩ := hE
        refine kA_i (va_runV (As := [.int (tA T i 3), .int r27]) (rest := []) F.1 (e_s_goTo l G h q ad T hO S26 (tA T i 3) r27 S45 r46 hg _) (cwV 2 hts (aw_V w_711 w_713 ws_X4_goTo w_2 w_714) rfl rfl rfl (by decide +kernel) ⟨by decide, by decide⟩) ⟨cS_blind, va_recv (q := (RX4, TX4, 13)) (ci := 4) (q0 := 0) hK.1 hP rfl sW_0, cS_pre hP hD hK⟩ rfl rfl hl.1 rfl (lv_room (Nat.le_of_ble_eq_true rfl)) dX4_loop_83 ⟨Nat.le_refl _, Nat.le_refl _⟩) hD hS hA (fun r9 u0 H locs hp hP hD hS => ?_)
        have hp := hp.symm; subst hp
        obtain ⟨hn, rfl, rfl⟩ := hE
        exact en_i F hS _ () hn rfl hP hD (Nat.le_refl _) (Nat.le_refl _) dX4_loop_86
    ·
      rw [if_pos h25] at hE
      refine lv_iload_n hx hb dX4_loop_39 rfl (lv_at hl 1 rfl) ?_
      refine lv_aload_n hx hb dX4_loop_40 rfl (lv_at hl 4 rfl) ?_
      refine va_getN (D := G.1) (ci := 0) (v := .int (tA T i 6)) (C := RX0) (T := TX0) (N := 13) hx hb hts inX0 hown hK.1 hP (10 + i) (sW_n hi) rfl 6 (by decide) (hK.2.1.use w_77) (fun _ h9 => h9) rfl dX4_loop_41 ?_
      refine lv_icmp_lt (tgt := 51) hx hb dX4_loop_44 (by decide) (fun h47 => ?_) (fun h47 => ?_)
      ·
        rw [if_pos h47] at hE
        refine lv_iload_n hx hb dX4_loop_51 rfl (lv_at hl 1 rfl) ?_
        refine lv_iconst (v := 1) hx hb dX4_loop_52 (by decide) ?_
        refine lv_iadd hx hb dX4_loop_53 ?_
        refine lv_istore hx hb dX4_loop_54 hl (by decide) rfl (fun ls hl => ?_)
        have hl : lv_has ls 7 [(5, .int ((((S.1.1 11).toUInt32 >>> (((tA T i 5) * 4).toUInt32 &&& Int32.toUInt32 31)).toInt32 &&& 7) + 1)), (4, .int 1), (3, .int (((S.1.1 11).toUInt32 >>> (((tA T i 5) * 4).toUInt32 &&& Int32.toUInt32 31)).toInt32 &&& 7)), (2, .int (((S.1.1 11).toUInt32 >>> (((tA T i 5) * 4).toUInt32 &&& Int32.toUInt32 31)).toInt32)), (0, .ref h), (1, .ref (ad i))] := hl
        refine lv_aload_n hx hb dX4_loop_56 rfl (lv_at hl 4 rfl) ?_
        refine lv_aload_n hx hb dX4_loop_57 rfl (lv_at hl 5 rfl) ?_
        refine va_getN (D := G.1) (ci := 0) (v := .int (tA T i 5)) (C := RX0) (T := TX0) (N := 13) hx hb hts inX0 hown hK.1 hP (10 + i) (sW_n hi) rfl 5 (by decide) (hK.2.1.use w_74) (fun _ h9 => h9) rfl dX4_loop_58 ?_
        refine lv_iload hx hb dX4_loop_61 (lv_at hl 0 rfl) ?_
        obtain ⟨S48, r49, hg, hE⟩ := hE
        refine kA_i (va_runV (As := [.int (tA T i 5), .int ((((S.1.1 11).toUInt32 >>> (((tA T i 5) * 4).toUInt32 &&& Int32.toUInt32 31)).toInt32 &&& 7) + 1)]) (rest := []) F.1 (e_s_withLoop l G h q ad T hO S (tA T i 5) ((((S.1.1 11).toUInt32 >>> (((tA T i 5) * 4).toUInt32 &&& Int32.toUInt32 31)).toInt32 &&& 7) + 1) S48 r49 hg _) (cwV 2 hts (aw_V w_693 w_695 ws_X4_withLoop w_2 w_696) rfl rfl rfl (by decide +kernel) ⟨by decide, by decide⟩) ⟨cS_blind, va_recv (q := (RX4, TX4, 13)) (ci := 4) (q0 := 0) hK.1 hP rfl sW_0, cS_pre hP hD hK⟩ rfl rfl hl.1 rfl (lv_room (Nat.le_of_ble_eq_true rfl)) dX4_loop_63 ⟨Nat.le_refl _, Nat.le_refl _⟩) hD hS hA (fun r9 u0 H locs hp hP hD hS => ?_)
        have hp := hp.symm; subst hp
        refine lv_istore hx hb dX4_loop_66 hl (by decide) rfl (fun ls hl => ?_)
        have hl : lv_has ls 7 [(6, .int r49), (5, .int ((((S.1.1 11).toUInt32 >>> (((tA T i 5) * 4).toUInt32 &&& Int32.toUInt32 31)).toInt32 &&& 7) + 1)), (4, .int 1), (3, .int (((S.1.1 11).toUInt32 >>> (((tA T i 5) * 4).toUInt32 &&& Int32.toUInt32 31)).toInt32 &&& 7)), (2, .int (((S.1.1 11).toUInt32 >>> (((tA T i 5) * 4).toUInt32 &&& Int32.toUInt32 31)).toInt32)), (0, .ref h), (1, .ref (ad i))] := hl
        refine lv_iload_n hx hb dX4_loop_68 rfl (lv_at hl 3 rfl) ?_
        refine lv_aload_n hx hb dX4_loop_69 rfl (lv_at hl 6 rfl) ?_
        refine va_getN (D := G.1) (ci := 0) (v := .int (tA T i 6)) (C := RX0) (T := TX0) (N := 13) hx hb hts inX0 hown hK.1 hP (10 + i) (sW_n hi) rfl 6 (by decide) (hK.2.1.use w_77) (fun _ h9 => h9) rfl dX4_loop_70 ?_
        refine lv_icmp_ge (tgt := 87) hx hb dX4_loop_73 (by decide) (fun h50 => ?_) (fun h50 => ?_)
        ·
          rw [if_pos h50] at hE
          refine lv_iload hx hb dX4_loop_87 (lv_at hl 2 rfl) ?_
          refine lv_if_eq (tgt := 100) hx hb dX4_loop_89 (by decide) (fun h => absurd h (by decide)) (fun _ => ?_)
          refine lv_iload_n hx hb dX4_loop_92 rfl (lv_at hl 3 rfl) ?_
          refine lv_aload_n hx hb dX4_loop_93 rfl (lv_at hl 6 rfl) ?_
          refine va_getN (D := G.1) (ci := 0) (v := .int (tA T i 7)) (C := RX0) (T := TX0) (N := 13) hx hb hts inX0 hown hK.1 hP (10 + i) (sW_n hi) rfl 7 (by decide) (hK.2.1.use w_79) (fun _ h9 => h9) rfl dX4_loop_94 ?_
          refine lv_icmp_ne (tgt := 113) hx hb dX4_loop_97 (by decide) (fun h51 => ?_) (fun h51 => ?_)
          ·
            rw [if_neg h51] at hE
            refine lv_aload_n hx hb dX4_loop_113 rfl (lv_at hl 6 rfl) ?_
            refine va_getN (D := G.1) (ci := 0) (v := .int (tA T i 8)) (C := RX0) (T := TX0) (N := 13) hx hb hts inX0 hown hK.1 hP (10 + i) (sW_n hi) rfl 8 (by decide) (hK.2.1.use w_81) (fun _ h9 => h9) rfl dX4_loop_114 ?_
            refine lv_if_eq (tgt := 154) hx hb dX4_loop_117 (by decide) (fun h52 => ?_) (fun h52 => ?_)
            ·
              rw [if_pos h52] at hE
              refine lv_aload_n hx hb dX4_loop_154 rfl (lv_at hl 5 rfl) ?_
              refine lv_aload_n hx hb dX4_loop_155 rfl (lv_at hl 6 rfl) ?_
              refine va_getN (D := G.1) (ci := 0) (v := .int (tA T i 2)) (C := RX0) (T := TX0) (N := 13) hx hb hts inX0 hown hK.1 hP (10 + i) (sW_n hi) rfl 2 (by decide) (hK.2.1.use w_68) (fun _ h9 => h9) rfl dX4_loop_156 ?_
              refine lv_aload_n hx hb dX4_loop_159 rfl (lv_at hl 5 rfl) ?_
              refine va_get (D := G.1) (ci := 4) (C := RX4) (T := TX4) (N := 13) hx hb hts inX4 hown hK.1 hP 0 sW_0 rfl 11 (by decide) (hts _ w_153) (fun _ h9 => h9) sF_11 dX4_loop_160 ?_
              obtain ⟨S53, r54, hg, hE⟩ := hE
              refine kA_i (va_runV (As := [.int (tA T i 2), .int (S48.1.1 11)]) (rest := []) F.1 (e_s_letWait l G h q ad T hO S48 (tA T i 2) (S48.1.1 11) S53 r54 hg _) (cwV 2 hts (aw_V w_685 w_687 ws_X4_letWait w_2 w_688) rfl rfl rfl (by decide +kernel) ⟨by decide, by decide⟩) ⟨cS_blind, va_recv (q := (RX4, TX4, 13)) (ci := 4) (q0 := 0) hK.1 hP rfl sW_0, cS_pre hP hD hK⟩ rfl rfl hl.1 rfl (lv_room (Nat.le_of_ble_eq_true rfl)) dX4_loop_163 ⟨Nat.le_refl _, Nat.le_refl _⟩) hD hS hA (fun r9 u0 H locs hp hP hD hS => ?_)
              have hp := hp.symm; subst hp
              refine lv_if_eq (tgt := 186) hx hb dX4_loop_166 (by decide) (fun h55 => ?_) (fun h55 => ?_)
              ·
                rw [if_pos h55] at hE
                refine lv_iconst (v := 0) hx hb dX4_loop_186 (by decide) ?_
                obtain ⟨rfl, rfl⟩ := hE
                exact en_i F hS _ () (by rfl) rfl hP hD (Nat.le_refl _) (Nat.le_refl _) dX4_loop_187
              ·
                rw [if_neg h55] at hE
                refine lv_aload_n hx hb dX4_loop_169 rfl (lv_at hl 5 rfl) ?_
                refine lv_aload_n hx hb dX4_loop_170 rfl (lv_at hl 6 rfl) ?_
                refine va_getN (D := G.1) (ci := 0) (v := .int (tA T i 3)) (C := RX0) (T := TX0) (N := 13) hx hb hts inX0 hown hK.1 hP (10 + i) (sW_n hi) rfl 3 (by decide) (hK.2.1.use w_71) (fun _ h9 => h9) rfl dX4_loop_171 ?_
                refine lv_iload hx hb dX4_loop_174 (lv_at hl 0 rfl) ?_
                obtain ⟨S56, r57, hg, hE⟩ := hE
                refine kA_i (va_runV (As := [.int (tA T i 3), .int r49]) (rest := []) F.1 (e_s_goTo l G h q ad T hO S53 (tA T i 3) r49 S56 r57 hg _) (cwV 2 hts (aw_V w_711 w_713 ws_X4_goTo w_2 w_714) rfl rfl rfl (by decide +kernel) ⟨by decide, by decide⟩) ⟨cS_blind, va_recv (q := (RX4, TX4, 13)) (ci := 4) (q0 := 0) hK.1 hP rfl sW_0, cS_pre hP hD hK⟩ rfl rfl hl.1 rfl (lv_room (Nat.le_of_ble_eq_true rfl)) dX4_loop_176 ⟨Nat.le_refl _, Nat.le_refl _⟩) hD hS hA (fun r9 u0 H locs hp hP hD hS => ?_)
                have hp := hp.symm; subst hp
                refine lv_if_eq (tgt := 186) hx hb dX4_loop_179 (by decide) (fun h58 => ?_) (fun h58 => ?_)
                ·
                  rw [if_pos h58] at hE
                  refine lv_iconst (v := 0) hx hb dX4_loop_186 (by decide) ?_
                  obtain ⟨rfl, rfl⟩ := hE
                  exact en_i F hS _ () (by rfl) rfl hP hD (Nat.le_refl _) (Nat.le_refl _) dX4_loop_187
                ·
                  rw [if_neg h58] at hE
                  refine lv_iconst (v := 1) hx hb dX4_loop_182 (by decide) ?_
                  refine lv_goto (tgt := 187) hx hb dX4_loop_183 (by decide) ?_
                  obtain ⟨rfl, rfl⟩ := hE
                  exact en_i F hS _ () (by rfl) rfl hP hD (Nat.le_refl _) (Nat.le_refl _) dX4_loop_187
            ·
              rw [if_neg h52] at hE
              refine lv_aload_n hx hb dX4_loop_120 rfl (lv_at hl 5 rfl) ?_
              refine lv_aload_n hx hb dX4_loop_121 rfl (lv_at hl 6 rfl) ?_
              refine va_getN (D := G.1) (ci := 0) (v := .int (tA T i 3)) (C := RX0) (T := TX0) (N := 13) hx hb hts inX0 hown hK.1 hP (10 + i) (sW_n hi) rfl 3 (by decide) (hK.2.1.use w_71) (fun _ h9 => h9) rfl dX4_loop_122 ?_
              refine lv_iload hx hb dX4_loop_125 (lv_at hl 0 rfl) ?_
              obtain ⟨S59, r60, hg, hE⟩ := hE
              refine kA_i (va_runV (As := [.int (tA T i 3), .int r49]) (rest := []) F.1 (e_s_letWait l G h q ad T hO S48 (tA T i 3) r49 S59 r60 hg _) (cwV 2 hts (aw_V w_685 w_687 ws_X4_letWait w_2 w_688) rfl rfl rfl (by decide +kernel) ⟨by decide, by decide⟩) ⟨cS_blind, va_recv (q := (RX4, TX4, 13)) (ci := 4) (q0 := 0) hK.1 hP rfl sW_0, cS_pre hP hD hK⟩ rfl rfl hl.1 rfl (lv_room (Nat.le_of_ble_eq_true rfl)) dX4_loop_127 ⟨Nat.le_refl _, Nat.le_refl _⟩) hD hS hA (fun r9 u0 H locs hp hP hD hS => ?_)
              have hp := hp.symm; subst hp
              refine lv_if_eq (tgt := 152) hx hb dX4_loop_130 (by decide) (fun h61 => ?_) (fun h61 => ?_)
              ·
                rw [if_pos h61] at hE
                refine lv_iconst (v := 0) hx hb dX4_loop_152 (by decide) ?_
                obtain ⟨rfl, rfl⟩ := hE
                exact en_i F hS _ () (by rfl) rfl hP hD (Nat.le_refl _) (Nat.le_refl _) dX4_loop_153
              ·
                rw [if_neg h61] at hE
                refine lv_aload_n hx hb dX4_loop_133 rfl (lv_at hl 5 rfl) ?_
                refine lv_aload_n hx hb dX4_loop_134 rfl (lv_at hl 6 rfl) ?_
                refine va_getN (D := G.1) (ci := 0) (v := .int (tA T i 2)) (C := RX0) (T := TX0) (N := 13) hx hb hts inX0 hown hK.1 hP (10 + i) (sW_n hi) rfl 2 (by decide) (hK.2.1.use w_68) (fun _ h9 => h9) rfl dX4_loop_135 ?_
                refine lv_aload_n hx hb dX4_loop_138 rfl (lv_at hl 5 rfl) ?_
                refine va_get (D := G.1) (ci := 4) (C := RX4) (T := TX4) (N := 13) hx hb hts inX4 hown hK.1 hP 0 sW_0 rfl 11 (by decide) (hts _ w_153) (fun _ h9 => h9) sF_11 dX4_loop_139 ?_
                obtain ⟨S62, r63, hg, hE⟩ := hE
                refine kA_i (va_runV (As := [.int (tA T i 2), .int (S59.1.1 11)]) (rest := []) F.1 (e_s_goTo l G h q ad T hO S59 (tA T i 2) (S59.1.1 11) S62 r63 hg _) (cwV 2 hts (aw_V w_711 w_713 ws_X4_goTo w_2 w_714) rfl rfl rfl (by decide +kernel) ⟨by decide, by decide⟩) ⟨cS_blind, va_recv (q := (RX4, TX4, 13)) (ci := 4) (q0 := 0) hK.1 hP rfl sW_0, cS_pre hP hD hK⟩ rfl rfl hl.1 rfl (lv_room (Nat.le_of_ble_eq_true rfl)) dX4_loop_142 ⟨Nat.le_refl _, Nat.le_refl _⟩) hD hS hA (fun r9 u0 H locs hp hP hD hS => ?_)
                have hp := hp.symm; subst hp
                refine lv_if_eq (tgt := 152) hx hb dX4_loop_145 (by decide) (fun h64 => ?_) (fun h64 => ?_)
                ·
                  rw [if_pos h64] at hE
                  refine lv_iconst (v := 0) hx hb dX4_loop_152 (by decide) ?_
                  obtain ⟨rfl, rfl⟩ := hE
                  exact en_i F hS _ () (by rfl) rfl hP hD (Nat.le_refl _) (Nat.le_refl _) dX4_loop_153
                ·
                  rw [if_neg h64] at hE
                  refine lv_iconst (v := 1) hx hb dX4_loop_148 (by decide) ?_
                  refine lv_goto (tgt := 153) hx hb dX4_loop_149 (by decide) ?_
                  obtain ⟨rfl, rfl⟩ := hE
                  exact en_i F hS _ () (by rfl) rfl hP hD (Nat.le_refl _) (Nat.le_refl _) dX4_loop_153
          ·
            rw [if_pos h51] at hE
            refine lv_aload_n hx hb dX4_loop_100 rfl (lv_at hl 5 rfl) ?_
            refine lv_aload_n hx hb dX4_loop_101 rfl (lv_at hl 6 rfl) ?_
            refine va_getN (D := G.1) (ci := 0) (v := .int (tA T i 2)) (C := RX0) (T := TX0) (N := 13) hx hb hts inX0 hown hK.1 hP (10 + i) (sW_n hi) rfl 2 (by decide) (hK.2.1.use w_68) (fun _ h9 => h9) rfl dX4_loop_102 ?_
            refine lv_aload_n hx hb dX4_loop_105 rfl (lv_at hl 5 rfl) ?_
            refine va_get (D := G.1) (ci := 4) (C := RX4) (T := TX4) (N := 13) hx hb hts inX4 hown hK.1 hP 0 sW_0 rfl 11 (by decide) (hts _ w_153) (fun _ h9 => h9) sF_11 dX4_loop_106 ?_
            obtain ⟨S65, r66, hg, hE⟩ := hE
            refine kA_i (va_runV (As := [.int (tA T i 2), .int (S48.1.1 11)]) (rest := []) F.1 (e_s_goTo l G h q ad T hO S48 (tA T i 2) (S48.1.1 11) S65 r66 hg _) (cwV 2 hts (aw_V w_711 w_713 ws_X4_goTo w_2 w_714) rfl rfl rfl (by decide +kernel) ⟨by decide, by decide⟩) ⟨cS_blind, va_recv (q := (RX4, TX4, 13)) (ci := 4) (q0 := 0) hK.1 hP rfl sW_0, cS_pre hP hD hK⟩ rfl rfl hl.1 rfl (lv_room (Nat.le_of_ble_eq_true rfl)) dX4_loop_109 ⟨Nat.le_refl _, Nat.le_refl _⟩) hD hS hA (fun r9 u0 H locs hp hP hD hS => ?_)
            have hp := hp.symm; subst hp
            obtain ⟨hn, rfl, rfl⟩ := hE
            exact en_i F hS _ () hn rfl hP hD (Nat.le_refl _) (Nat.le_refl _) dX4_loop_112
        ·
          rw [if_neg h50] at hE
          refine lv_aload_n hx hb dX4_loop_76 rfl (lv_at hl 5 rfl) ?_
          refine lv_aload_n hx hb dX4_loop_77 rfl (lv_at hl 6 rfl) ?_
          refine va_getN (D := G.1) (ci := 0) (v := .int (tA T i 3)) (C := RX0) (T := TX0) (N := 13) hx hb hts inX0 hown hK.1 hP (10 + i) (sW_n hi) rfl 3 (by decide) (hK.2.1.use w_71) (fun _ h9 => h9) rfl dX4_loop_78 ?_
          refine lv_iload hx hb dX4_loop_81 (lv_at hl 0 rfl) ?_
          obtain ⟨S67, r68, hg, hE⟩ := hE
          refine kA_i (va_runV (As := [.int (tA T i 3), .int r49]) (rest := []) F.1 (e_s_goTo l G h q ad T hO S48 (tA T i 3) r49 S67 r68 hg _) (cwV 2 hts (aw_V w_711 w_713 ws_X4_goTo w_2 w_714) rfl rfl rfl (by decide +kernel) ⟨by decide, by decide⟩) ⟨cS_blind, va_recv (q := (RX4, TX4, 13)) (ci := 4) (q0 := 0) hK.1 hP rfl sW_0, cS_pre hP hD hK⟩ rfl rfl hl.1 rfl (lv_room (Nat.le_of_ble_eq_true rfl)) dX4_loop_83 ⟨Nat.le_refl _, Nat.le_refl _⟩) hD hS hA (fun r9 u0 H locs hp hP hD hS => ?_)
          have hp := hp.symm; subst hp
          obtain ⟨hn, rfl, rfl⟩ := hE
          exact en_i F hS _ () hn rfl hP hD (Nat.le_refl _) (Nat.le_refl _) dX4_loop_86
      ·
        rw [if_neg h47] at hE
        refine lv_iload_n hx hb dX4_loop_47 rfl (lv_at hl 1 rfl) ?_
        refine lv_goto (tgt := 54) hx hb dX4_loop_48 (by decide) ?_
        refine lv_istore hx hb dX4_loop_54 hl (by decide) rfl (fun ls hl => ?_)
        have hl : lv_has ls 7 [(5, .int (((S.1.1 11).toUInt32 >>> (((tA T i 5) * 4).toUInt32 &&& Int32.toUInt32 31)).toInt32 &&& 7)), (4, .int 1), (3, .int (((S.1.1 11).toUInt32 >>> (((tA T i 5) * 4).toUInt32 &&& Int32.toUInt32 31)).toInt32 &&& 7)), (2, .int (((S.1.1 11).toUInt32 >>> (((tA T i 5) * 4).toUInt32 &&& Int32.toUInt32 31)).toInt32)), (0, .ref h), (1, .ref (ad i))] := hl
        refine lv_aload_n hx hb dX4_loop_56 rfl (lv_at hl 4 rfl) ?_
        refine lv_aload_n hx hb dX4_loop_57 rfl (lv_at hl 5 rfl) ?_
        refine va_getN (D := G.1) (ci := 0) (v := .int (tA T i 5)) (C := RX0) (T := TX0) (N := 13) hx hb hts inX0 hown hK.1 hP (10 + i) (sW_n hi) rfl 5 (by decide) (hK.2.1.use w_74) (fun _ h9 => h9) rfl dX4_loop_58 ?_
        refine lv_iload hx hb dX4_loop_61 (lv_at hl 0 rfl) ?_
        obtain ⟨S69, r70, hg, hE⟩ := hE
        refine kA_i (va_runV (As := [.int (tA T i 5), .int (((S.1.1 11).toUInt32 >>> (((tA T i 5) * 4).toUInt32 &&& Int32.toUInt32 31)).toInt32 &&& 7)]) (rest := []) F.1 (e_s_withLoop l G h q ad T hO S (tA T i 5) (((S.1.1 11).toUInt32 >>> (((tA T i 5) * 4).toUInt32 &&& Int32.toUInt32 31)).toInt32 &&& 7) S69 r70 hg _) (cwV 2 hts (aw_V w_693 w_695 ws_X4_withLoop w_2 w_696) rfl rfl rfl (by decide +kernel) ⟨by decide, by decide⟩) ⟨cS_blind, va_recv (q := (RX4, TX4, 13)) (ci := 4) (q0 := 0) hK.1 hP rfl sW_0, cS_pre hP hD hK⟩ rfl rfl hl.1 rfl (lv_room (Nat.le_of_ble_eq_true rfl)) dX4_loop_63 ⟨Nat.le_refl _, Nat.le_refl _⟩) hD hS hA (fun r9 u0 H locs hp hP hD hS => ?_)
        have hp := hp.symm; subst hp
        refine lv_istore hx hb dX4_loop_66 hl (by decide) rfl (fun ls hl => ?_)
        have hl : lv_has ls 7 [(6, .int r70), (5, .int (((S.1.1 11).toUInt32 >>> (((tA T i 5) * 4).toUInt32 &&& Int32.toUInt32 31)).toInt32 &&& 7)), (4, .int 1), (3, .int (((S.1.1 11).toUInt32 >>> (((tA T i 5) * 4).toUInt32 &&& Int32.toUInt32 31)).toInt32 &&& 7)), (2, .int (((S.1.1 11).toUInt32 >>> (((tA T i 5) * 4).toUInt32 &&& Int32.toUInt32 31)).toInt32)), (0, .ref h), (1, .ref (ad i))] := hl
        refine lv_iload_n hx hb dX4_loop_68 rfl (lv_at hl 3 rfl) ?_
        refine lv_aload_n hx hb dX4_loop_69 rfl (lv_at hl 6 rfl) ?_
        refine va_getN (D := G.1) (ci := 0) (v := .int (tA T i 6)) (C := RX0) (T := TX0) (N := 13) hx hb hts inX0 hown hK.1 hP (10 + i) (sW_n hi) rfl 6 (by decide) (hK.2.1.use w_77) (fun _ h9 => h9) rfl dX4_loop_70 ?_
        refine lv_icmp_ge (tgt := 87) hx hb dX4_loop_73 (by decide) (fun h71 => ?_) (fun h71 => ?_)
        ·
          rw [if_pos h71] at hE
          refine lv_iload hx hb dX4_loop_87 (lv_at hl 2 rfl) ?_
          refine lv_if_eq (tgt := 100) hx hb dX4_loop_89 (by decide) (fun h => absurd h (by decide)) (fun _ => ?_)
          refine lv_iload_n hx hb dX4_loop_92 rfl (lv_at hl 3 rfl) ?_
          refine lv_aload_n hx hb dX4_loop_93 rfl (lv_at hl 6 rfl) ?_
          refine va_getN (D := G.1) (ci := 0) (v := .int (tA T i 7)) (C := RX0) (T := TX0) (N := 13) hx hb hts inX0 hown hK.1 hP (10 + i) (sW_n hi) rfl 7 (by decide) (hK.2.1.use w_79) (fun _ h9 => h9) rfl dX4_loop_94 ?_
          refine lv_icmp_ne (tgt := 113) hx hb dX4_loop_97 (by decide) (fun h72 => ?_) (fun h72 => ?_)
          ·
            rw [if_neg h72] at hE
            refine lv_aload_n hx hb dX4_loop_113 rfl (lv_at hl 6 rfl) ?_
            refine va_getN (D := G.1) (ci := 0) (v := .int (tA T i 8)) (C := RX0) (T := TX0) (N := 13) hx hb hts inX0 hown hK.1 hP (10 + i) (sW_n hi) rfl 8 (by decide) (hK.2.1.use w_81) (fun _ h9 => h9) rfl dX4_loop_114 ?_
            refine lv_if_eq (tgt := 154) hx hb dX4_loop_117 (by decide) (fun h73 => ?_) (fun h73 => ?_)
            ·
              rw [if_pos h73] at hE
              refine lv_aload_n hx hb dX4_loop_154 rfl (lv_at hl 5 rfl) ?_
              refine lv_aload_n hx hb dX4_loop_155 rfl (lv_at hl 6 rfl) ?_
              refine va_getN (D := G.1) (ci := 0) (v := .int (tA T i 2)) (C := RX0) (T := TX0) (N := 13) hx hb hts inX0 hown hK.1 hP (10 + i) (sW_n hi) rfl 2 (by decide) (hK.2.1.use w_68) (fun _ h9 => h9) rfl dX4_loop_156 ?_
              refine lv_aload_n hx hb dX4_loop_159 rfl (lv_at hl 5 rfl) ?_
              refine va_get (D := G.1) (ci := 4) (C := RX4) (T := TX4) (N := 13) hx hb hts inX4 hown hK.1 hP 0 sW_0 rfl 11 (by decide) (hts _ w_153) (fun _ h9 => h9) sF_11 dX4_loop_160 ?_
              obtain ⟨S74, r75, hg, hE⟩ := hE
              refine kA_i (va_runV (As := [.int (tA T i 2), .int (S69.1.1 11)]) (rest := []) F.1 (e_s_letWait l G h q ad T hO S69 (tA T i 2) (S69.1.1 11) S74 r75 hg _) (cwV 2 hts (aw_V w_685 w_687 ws_X4_letWait w_2 w_688) rfl rfl rfl (by decide +kernel) ⟨by decide, by decide⟩) ⟨cS_blind, va_recv (q := (RX4, TX4, 13)) (ci := 4) (q0 := 0) hK.1 hP rfl sW_0, cS_pre hP hD hK⟩ rfl rfl hl.1 rfl (lv_room (Nat.le_of_ble_eq_true rfl)) dX4_loop_163 ⟨Nat.le_refl _, Nat.le_refl _⟩) hD hS hA (fun r9 u0 H locs hp hP hD hS => ?_)
              have hp := hp.symm; subst hp
              refine lv_if_eq (tgt := 186) hx hb dX4_loop_166 (by decide) (fun h76 => ?_) (fun h76 => ?_)
              ·
                rw [if_pos h76] at hE
                refine lv_iconst (v := 0) hx hb dX4_loop_186 (by decide) ?_
                obtain ⟨rfl, rfl⟩ := hE
                exact en_i F hS _ () (by rfl) rfl hP hD (Nat.le_refl _) (Nat.le_refl _) dX4_loop_187
              ·
                rw [if_neg h76] at hE
                refine lv_aload_n hx hb dX4_loop_169 rfl (lv_at hl 5 rfl) ?_
                refine lv_aload_n hx hb dX4_loop_170 rfl (lv_at hl 6 rfl) ?_
                refine va_getN (D := G.1) (ci := 0) (v := .int (tA T i 3)) (C := RX0) (T := TX0) (N := 13) hx hb hts inX0 hown hK.1 hP (10 + i) (sW_n hi) rfl 3 (by decide) (hK.2.1.use w_71) (fun _ h9 => h9) rfl dX4_loop_171 ?_
                refine lv_iload hx hb dX4_loop_174 (lv_at hl 0 rfl) ?_
                obtain ⟨S77, r78, hg, hE⟩ := hE
                refine kA_i (va_runV (As := [.int (tA T i 3), .int r70]) (rest := []) F.1 (e_s_goTo l G h q ad T hO S74 (tA T i 3) r70 S77 r78 hg _) (cwV 2 hts (aw_V w_711 w_713 ws_X4_goTo w_2 w_714) rfl rfl rfl (by decide +kernel) ⟨by decide, by decide⟩) ⟨cS_blind, va_recv (q := (RX4, TX4, 13)) (ci := 4) (q0 := 0) hK.1 hP rfl sW_0, cS_pre hP hD hK⟩ rfl rfl hl.1 rfl (lv_room (Nat.le_of_ble_eq_true rfl)) dX4_loop_176 ⟨Nat.le_refl _, Nat.le_refl _⟩) hD hS hA (fun r9 u0 H locs hp hP hD hS => ?_)
                have hp := hp.symm; subst hp
                refine lv_if_eq (tgt := 186) hx hb dX4_loop_179 (by decide) (fun h79 => ?_) (fun h79 => ?_)
                ·
                  rw [if_pos h79] at hE
                  refine lv_iconst (v := 0) hx hb dX4_loop_186 (by decide) ?_
                  obtain ⟨rfl, rfl⟩ := hE
                  exact en_i F hS _ () (by rfl) rfl hP hD (Nat.le_refl _) (Nat.le_refl _) dX4_loop_187
                ·
                  rw [if_neg h79] at hE
                  refine lv_iconst (v := 1) hx hb dX4_loop_182 (by decide) ?_
                  refine lv_goto (tgt := 187) hx hb dX4_loop_183 (by decide) ?_
                  obtain ⟨rfl, rfl⟩ := hE
                  exact en_i F hS _ () (by rfl) rfl hP hD (Nat.le_refl _) (Nat.le_refl _) dX4_loop_187
            ·
              rw [if_neg h73] at hE
              refine lv_aload_n hx hb dX4_loop_120 rfl (lv_at hl 5 rfl) ?_
              refine lv_aload_n hx hb dX4_loop_121 rfl (lv_at hl 6 rfl) ?_
              refine va_getN (D := G.1) (ci := 0) (v := .int (tA T i 3)) (C := RX0) (T := TX0) (N := 13) hx hb hts inX0 hown hK.1 hP (10 + i) (sW_n hi) rfl 3 (by decide) (hK.2.1.use w_71) (fun _ h9 => h9) rfl dX4_loop_122 ?_
              refine lv_iload hx hb dX4_loop_125 (lv_at hl 0 rfl) ?_
              obtain ⟨S80, r81, hg, hE⟩ := hE
              refine kA_i (va_runV (As := [.int (tA T i 3), .int r70]) (rest := []) F.1 (e_s_letWait l G h q ad T hO S69 (tA T i 3) r70 S80 r81 hg _) (cwV 2 hts (aw_V w_685 w_687 ws_X4_letWait w_2 w_688) rfl rfl rfl (by decide +kernel) ⟨by decide, by decide⟩) ⟨cS_blind, va_recv (q := (RX4, TX4, 13)) (ci := 4) (q0 := 0) hK.1 hP rfl sW_0, cS_pre hP hD hK⟩ rfl rfl hl.1 rfl (lv_room (Nat.le_of_ble_eq_true rfl)) dX4_loop_127 ⟨Nat.le_refl _, Nat.le_refl _⟩) hD hS hA (fun r9 u0 H locs hp hP hD hS => ?_)
              have hp := hp.symm; subst hp
              refine lv_if_eq (tgt := 152) hx hb dX4_loop_130 (by decide) (fun h82 => ?_) (fun h82 => ?_)
              ·
                rw [if_pos h82] at hE
                refine lv_iconst (v := 0) hx hb dX4_loop_152 (by decide) ?_
                obtain ⟨rfl, rfl⟩ := hE
                exact en_i F hS _ () (by rfl) rfl hP hD (Nat.le_refl _) (Nat.le_refl _) dX4_loop_153
              ·
                rw [if_neg h82] at hE
                refine lv_aload_n hx hb dX4_loop_133 rfl (lv_at hl 5 rfl) ?_
                refine lv_aload_n hx hb dX4_loop_134 rfl (lv_at hl 6 rfl) ?_
                refine va_getN (D := G.1) (ci := 0) (v := .int (tA T i 2)) (C := RX0) (T := TX0) (N := 13) hx hb hts inX0 hown hK.1 hP (10 + i) (sW_n hi) rfl 2 (by decide) (hK.2.1.use w_68) (fun _ h9 => h9) rfl dX4_loop_135 ?_
                refine lv_aload_n hx hb dX4_loop_138 rfl (lv_at hl 5 rfl) ?_
                refine va_get (D := G.1) (ci := 4) (C := RX4) (T := TX4) (N := 13) hx hb hts inX4 hown hK.1 hP 0 sW_0 rfl 11 (by decide) (hts _ w_153) (fun _ h9 => h9) sF_11 dX4_loop_139 ?_
                obtain ⟨S83, r84, hg, hE⟩ := hE
                refine kA_i (va_runV (As := [.int (tA T i 2), .int (S80.1.1 11)]) (rest := []) F.1 (e_s_goTo l G h q ad T hO S80 (tA T i 2) (S80.1.1 11) S83 r84 hg _) (cwV 2 hts (aw_V w_711 w_713 ws_X4_goTo w_2 w_714) rfl rfl rfl (by decide +kernel) ⟨by decide, by decide⟩) ⟨cS_blind, va_recv (q := (RX4, TX4, 13)) (ci := 4) (q0 := 0) hK.1 hP rfl sW_0, cS_pre hP hD hK⟩ rfl rfl hl.1 rfl (lv_room (Nat.le_of_ble_eq_true rfl)) dX4_loop_142 ⟨Nat.le_refl _, Nat.le_refl _⟩) hD hS hA (fun r9 u0 H locs hp hP hD hS => ?_)
                have hp := hp.symm; subst hp
                refine lv_if_eq (tgt := 152) hx hb dX4_loop_145 (by decide) (fun h85 => ?_) (fun h85 => ?_)
                ·
                  rw [if_pos h85] at hE
                  refine lv_iconst (v := 0) hx hb dX4_loop_152 (by decide) ?_
                  obtain ⟨rfl, rfl⟩ := hE
                  exact en_i F hS _ () (by rfl) rfl hP hD (Nat.le_refl _) (Nat.le_refl _) dX4_loop_153
                ·
                  rw [if_neg h85] at hE
                  refine lv_iconst (v := 1) hx hb dX4_loop_148 (by decide) ?_
                  refine lv_goto (tgt := 153) hx hb dX4_loop_149 (by decide) ?_
                  obtain ⟨rfl, rfl⟩ := hE
                  exact en_i F hS _ () (by rfl) rfl hP hD (Nat.le_refl _) (Nat.le_refl _) dX4_loop_153
          ·
            rw [if_pos h72] at hE
            refine lv_aload_n hx hb dX4_loop_100 rfl (lv_at hl 5 rfl) ?_
            refine lv_aload_n hx hb dX4_loop_101 rfl (lv_at hl 6 rfl) ?_
            refine va_getN (D := G.1) (ci := 0) (v := .int (tA T i 2)) (C := RX0) (T := TX0) (N := 13) hx hb hts inX0 hown hK.1 hP (10 + i) (sW_n hi) rfl 2 (by decide) (hK.2.1.use w_68) (fun _ h9 => h9) rfl dX4_loop_102 ?_
            refine lv_aload_n hx hb dX4_loop_105 rfl (lv_at hl 5 rfl) ?_
            refine va_get (D := G.1) (ci := 4) (C := RX4) (T := TX4) (N := 13) hx hb hts inX4 hown hK.1 hP 0 sW_0 rfl 11 (by decide) (hts _ w_153) (fun _ h9 => h9) sF_11 dX4_loop_106 ?_
            obtain ⟨S86, r87, hg, hE⟩ := hE
            refine kA_i (va_runV (As := [.int (tA T i 2), .int (S69.1.1 11)]) (rest := []) F.1 (e_s_goTo l G h q ad T hO S69 (tA T i 2) (S69.1.1 11) S86 r87 hg _) (cwV 2 hts (aw_V w_711 w_713 ws_X4_goTo w_2 w_714) rfl rfl rfl (by decide +kernel) ⟨by decide, by decide⟩) ⟨cS_blind, va_recv (q := (RX4, TX4, 13)) (ci := 4) (q0 := 0) hK.1 hP rfl sW_0, cS_pre hP hD hK⟩ rfl rfl hl.1 rfl (lv_room (Nat.le_of_ble_eq_true rfl)) dX4_loop_109 ⟨Nat.le_refl _, Nat.le_refl _⟩) hD hS hA (fun r9 u0 H locs hp hP hD hS => ?_)
            have hp := hp.symm; subst hp
            obtain ⟨hn, rfl, rfl⟩ := hE
            exact en_i F hS _ () hn rfl hP hD (Nat.le_refl _) (Nat.le_refl _) dX4_loop_112
        ·
          rw [if_neg h71] at hE
          refine lv_aload_n hx hb dX4_loop_76 rfl (lv_at hl 5 rfl) ?_
          refine lv_aload_n hx hb dX4_loop_77 rfl (lv_at hl 6 rfl) ?_
          refine va_getN (D := G.1) (ci := 0) (v := .int (tA T i 3)) (C := RX0) (T := TX0) (N := 13) hx hb hts inX0 hown hK.1 hP (10 + i) (sW_n hi) rfl 3 (by decide) (hK.2.1.use w_71) (fun _ h9 => h9) rfl dX4_loop_78 ?_
          refine lv_iload hx hb dX4_loop_81 (lv_at hl 0 rfl) ?_
          obtain ⟨S88, r89, hg, hE⟩ := hE
          refine kA_i (va_runV (As := [.int (tA T i 3), .int r70]) (rest := []) F.1 (e_s_goTo l G h q ad T hO S69 (tA T i 3) r70 S88 r89 hg _) (cwV 2 hts (aw_V w_711 w_713 ws_X4_goTo w_2 w_714) rfl rfl rfl (by decide +kernel) ⟨by decide, by decide⟩) ⟨cS_blind, va_recv (q := (RX4, TX4, 13)) (ci := 4) (q0 := 0) hK.1 hP rfl sW_0, cS_pre hP hD hK⟩ rfl rfl hl.1 rfl (lv_room (Nat.le_of_ble_eq_true rfl)) dX4_loop_83 ⟨Nat.le_refl _, Nat.le_refl _⟩) hD hS hA (fun r9 u0 H locs hp hP hD hS => ?_)
          have hp := hp.symm; subst hp
          obtain ⟨hn, rfl, rfl⟩ := hE
          exact en_i F hS _ () hn rfl hP hD (Nat.le_refl _) (Nat.le_refl _) dX4_loop_86

theorem dX4_wasHere_0 : decode cX4_wasHere 0 = .ok (.aload_n 0, 1) := by decide +kernel
theorem dX4_wasHere_1 : decode cX4_wasHere 1 = .ok (.getfield 70, 3) := by decide +kernel
theorem dX4_wasHere_4 : decode cX4_wasHere 4 = .ok (.iconst 1, 1) := by decide +kernel
theorem dX4_wasHere_5 : decode cX4_wasHere 5 = .ok (.aload_n 1, 1) := by decide +kernel
theorem dX4_wasHere_6 : decode cX4_wasHere 6 = .ok (.getfield 125, 3) := by decide +kernel
theorem dX4_wasHere_9 : decode cX4_wasHere 9 = .ok (.iconst 1, 1) := by decide +kernel
theorem dX4_wasHere_10 : decode cX4_wasHere 10 = .ok (.iadd, 1) := by decide +kernel
theorem dX4_wasHere_11 : decode cX4_wasHere 11 = .ok (.iconst 4, 1) := by decide +kernel
theorem dX4_wasHere_12 : decode cX4_wasHere 12 = .ok (.imul, 1) := by decide +kernel
theorem dX4_wasHere_13 : decode cX4_wasHere 13 = .ok (.ishl, 1) := by decide +kernel
theorem dX4_wasHere_14 : decode cX4_wasHere 14 = .ok (.iconst 1, 1) := by decide +kernel
theorem dX4_wasHere_15 : decode cX4_wasHere 15 = .ok (.isub, 1) := by decide +kernel
theorem dX4_wasHere_16 : decode cX4_wasHere 16 = .ok (.iand, 1) := by decide +kernel
theorem dX4_wasHere_17 : decode cX4_wasHere 17 = .ok (.istore_n 3, 1) := by decide +kernel
theorem dX4_wasHere_18 : decode cX4_wasHere 18 = .ok (.aload_n 0, 1) := by decide +kernel
theorem dX4_wasHere_19 : decode cX4_wasHere 19 = .ok (.getfield 41, 3) := by decide +kernel
theorem dX4_wasHere_22 : decode cX4_wasHere 22 = .ok (.iload_n 2, 1) := by decide +kernel
theorem dX4_wasHere_23 : decode cX4_wasHere 23 = .ok (.iaload, 1) := by decide +kernel
theorem dX4_wasHere_24 : decode cX4_wasHere 24 = .ok (.i2l, 1) := by decide +kernel
theorem dX4_wasHere_25 : decode cX4_wasHere 25 = .ok (.bipush 32, 2) := by decide +kernel
theorem dX4_wasHere_27 : decode cX4_wasHere 27 = .ok (.lshl, 1) := by decide +kernel
theorem dX4_wasHere_28 : decode cX4_wasHere 28 = .ok (.aload_n 0, 1) := by decide +kernel
theorem dX4_wasHere_29 : decode cX4_wasHere 29 = .ok (.aload_n 1, 1) := by decide +kernel
theorem dX4_wasHere_30 : decode cX4_wasHere 30 = .ok (.getfield 191, 3) := by decide +kernel
theorem dX4_wasHere_33 : decode cX4_wasHere 33 = .ok (.iload_n 3, 1) := by decide +kernel
theorem dX4_wasHere_34 : decode cX4_wasHere 34 = .ok (.invokevirtual 187, 3) := by decide +kernel
theorem dX4_wasHere_37 : decode cX4_wasHere 37 = .ok (.i2l, 1) := by decide +kernel
theorem dX4_wasHere_38 : decode cX4_wasHere 38 = .ok (.lor, 1) := by decide +kernel
theorem dX4_wasHere_39 : decode cX4_wasHere 39 = .ok (.lstore 4, 2) := by decide +kernel
theorem dX4_wasHere_41 : decode cX4_wasHere 41 = .ok (.aload_n 0, 1) := by decide +kernel
theorem dX4_wasHere_42 : decode cX4_wasHere 42 = .ok (.getfield 56, 3) := by decide +kernel
theorem dX4_wasHere_45 : decode cX4_wasHere 45 = .ok (.aload_n 0, 1) := by decide +kernel
theorem dX4_wasHere_46 : decode cX4_wasHere 46 = .ok (.getfield 23, 3) := by decide +kernel
theorem dX4_wasHere_49 : decode cX4_wasHere 49 = .ok (.getfield 194, 3) := by decide +kernel
theorem dX4_wasHere_52 : decode cX4_wasHere 52 = .ok (.land, 1) := by decide +kernel
theorem dX4_wasHere_53 : decode cX4_wasHere 53 = .ok (.lstore 6, 2) := by decide +kernel
theorem dX4_wasHere_55 : decode cX4_wasHere 55 = .ok (.lload 6, 2) := by decide +kernel
theorem dX4_wasHere_57 : decode cX4_wasHere 57 = .ok (.ldc2_w 197, 3) := by decide +kernel
theorem dX4_wasHere_60 : decode cX4_wasHere 60 = .ok (.lmul, 1) := by decide +kernel
theorem dX4_wasHere_61 : decode cX4_wasHere 61 = .ok (.lload 4, 2) := by decide +kernel
theorem dX4_wasHere_63 : decode cX4_wasHere 63 = .ok (.ladd, 1) := by decide +kernel
theorem dX4_wasHere_64 : decode cX4_wasHere 64 = .ok (.ldc2_w 199, 3) := by decide +kernel
theorem dX4_wasHere_67 : decode cX4_wasHere 67 = .ok (.lmul, 1) := by decide +kernel
theorem dX4_wasHere_68 : decode cX4_wasHere 68 = .ok (.bipush 53, 2) := by decide +kernel
theorem dX4_wasHere_70 : decode cX4_wasHere 70 = .ok (.lushr, 1) := by decide +kernel
theorem dX4_wasHere_71 : decode cX4_wasHere 71 = .ok (.l2i, 1) := by decide +kernel
theorem dX4_wasHere_72 : decode cX4_wasHere 72 = .ok (.istore 8, 2) := by decide +kernel
theorem dX4_wasHere_74 : decode cX4_wasHere 74 = .ok (.iload 8, 2) := by decide +kernel
theorem dX4_wasHere_76 : decode cX4_wasHere 76 = .ok (.istore 9, 2) := by decide +kernel
theorem dX4_wasHere_78 : decode cX4_wasHere 78 = .ok (.bipush 7, 2) := by decide +kernel
theorem dX4_wasHere_80 : decode cX4_wasHere 80 = .ok (.istore 10, 2) := by decide +kernel
theorem dX4_wasHere_82 : decode cX4_wasHere 82 = .ok (.iload 10, 2) := by decide +kernel
theorem dX4_wasHere_84 : decode cX4_wasHere 84 = .ok (.ifCond .lt 71, 3) := by decide +kernel
theorem dX4_wasHere_87 : decode cX4_wasHere 87 = .ok (.iload 8, 2) := by decide +kernel
theorem dX4_wasHere_89 : decode cX4_wasHere 89 = .ok (.iload 10, 2) := by decide +kernel
theorem dX4_wasHere_91 : decode cX4_wasHere 91 = .ok (.iadd, 1) := by decide +kernel
theorem dX4_wasHere_92 : decode cX4_wasHere 92 = .ok (.sipush 2047, 3) := by decide +kernel
theorem dX4_wasHere_95 : decode cX4_wasHere 95 = .ok (.iand, 1) := by decide +kernel
theorem dX4_wasHere_96 : decode cX4_wasHere 96 = .ok (.istore 11, 2) := by decide +kernel
theorem dX4_wasHere_98 : decode cX4_wasHere 98 = .ok (.aload_n 0, 1) := by decide +kernel
theorem dX4_wasHere_99 : decode cX4_wasHere 99 = .ok (.getfield 35, 3) := by decide +kernel
theorem dX4_wasHere_102 : decode cX4_wasHere 102 = .ok (.iload 11, 2) := by decide +kernel
theorem dX4_wasHere_104 : decode cX4_wasHere 104 = .ok (.laload, 1) := by decide +kernel
theorem dX4_wasHere_105 : decode cX4_wasHere 105 = .ok (.lload 4, 2) := by decide +kernel
theorem dX4_wasHere_107 : decode cX4_wasHere 107 = .ok (.lcmp, 1) := by decide +kernel
theorem dX4_wasHere_108 : decode cX4_wasHere 108 = .ok (.ifCond .ne 18, 3) := by decide +kernel
theorem dX4_wasHere_111 : decode cX4_wasHere 111 = .ok (.aload_n 0, 1) := by decide +kernel
theorem dX4_wasHere_112 : decode cX4_wasHere 112 = .ok (.getfield 38, 3) := by decide +kernel
theorem dX4_wasHere_115 : decode cX4_wasHere 115 = .ok (.iload 11, 2) := by decide +kernel
theorem dX4_wasHere_117 : decode cX4_wasHere 117 = .ok (.laload, 1) := by decide +kernel
theorem dX4_wasHere_118 : decode cX4_wasHere 118 = .ok (.lload 6, 2) := by decide +kernel
theorem dX4_wasHere_120 : decode cX4_wasHere 120 = .ok (.lcmp, 1) := by decide +kernel
theorem dX4_wasHere_121 : decode cX4_wasHere 121 = .ok (.ifCond .ne 5, 3) := by decide +kernel
theorem dX4_wasHere_124 : decode cX4_wasHere 124 = .ok (.iconst 1, 1) := by decide +kernel
theorem dX4_wasHere_125 : decode cX4_wasHere 125 = .ok (.ireturn, 1) := by decide +kernel
theorem dX4_wasHere_126 : decode cX4_wasHere 126 = .ok (.aload_n 0, 1) := by decide +kernel
theorem dX4_wasHere_127 : decode cX4_wasHere 127 = .ok (.aload_n 0, 1) := by decide +kernel
theorem dX4_wasHere_128 : decode cX4_wasHere 128 = .ok (.getfield 35, 3) := by decide +kernel
theorem dX4_wasHere_131 : decode cX4_wasHere 131 = .ok (.iload 11, 2) := by decide +kernel
theorem dX4_wasHere_133 : decode cX4_wasHere 133 = .ok (.laload, 1) := by decide +kernel
theorem dX4_wasHere_134 : decode cX4_wasHere 134 = .ok (.bipush 32, 2) := by decide +kernel
theorem dX4_wasHere_136 : decode cX4_wasHere 136 = .ok (.lushr, 1) := by decide +kernel
theorem dX4_wasHere_137 : decode cX4_wasHere 137 = .ok (.l2i, 1) := by decide +kernel
theorem dX4_wasHere_138 : decode cX4_wasHere 138 = .ok (.iload_n 2, 1) := by decide +kernel
theorem dX4_wasHere_139 : decode cX4_wasHere 139 = .ok (.invokevirtual 201, 3) := by decide +kernel
theorem dX4_wasHere_142 : decode cX4_wasHere 142 = .ok (.ifCond .eq 7, 3) := by decide +kernel
theorem dX4_wasHere_145 : decode cX4_wasHere 145 = .ok (.iload 11, 2) := by decide +kernel
theorem dX4_wasHere_147 : decode cX4_wasHere 147 = .ok (.istore 9, 2) := by decide +kernel
theorem dX4_wasHere_149 : decode cX4_wasHere 149 = .ok (.iinc 10 (-1), 3) := by decide +kernel
theorem dX4_wasHere_152 : decode cX4_wasHere 152 = .ok (.goto (-70), 3) := by decide +kernel
theorem dX4_wasHere_155 : decode cX4_wasHere 155 = .ok (.aload_n 0, 1) := by decide +kernel
theorem dX4_wasHere_156 : decode cX4_wasHere 156 = .ok (.getfield 35, 3) := by decide +kernel
theorem dX4_wasHere_159 : decode cX4_wasHere 159 = .ok (.iload 9, 2) := by decide +kernel
theorem dX4_wasHere_161 : decode cX4_wasHere 161 = .ok (.lload 4, 2) := by decide +kernel
theorem dX4_wasHere_163 : decode cX4_wasHere 163 = .ok (.lastore, 1) := by decide +kernel
theorem dX4_wasHere_164 : decode cX4_wasHere 164 = .ok (.aload_n 0, 1) := by decide +kernel
theorem dX4_wasHere_165 : decode cX4_wasHere 165 = .ok (.getfield 38, 3) := by decide +kernel
theorem dX4_wasHere_168 : decode cX4_wasHere 168 = .ok (.iload 9, 2) := by decide +kernel
theorem dX4_wasHere_170 : decode cX4_wasHere 170 = .ok (.lload 6, 2) := by decide +kernel
theorem dX4_wasHere_172 : decode cX4_wasHere 172 = .ok (.lastore, 1) := by decide +kernel
theorem dX4_wasHere_173 : decode cX4_wasHere 173 = .ok (.iconst 0, 1) := by decide +kernel
theorem dX4_wasHere_174 : decode cX4_wasHere 174 = .ok (.ireturn, 1) := by decide +kernel
def L_s_wasHere_82 (T : TD) (i : Nat) : Nat → SS → Int32 → Int32 → Int64 → Int64 → Int32 → Int32 → Int32 → SS → Int32 → Prop
  | 0, _, _, _, _, _, _, _, _, _, _ => False
  | nf + 1, S, x2, x3, x4, x6, x8, x9, x10, S', r => if x10 < 0 then (vp_in x9 2048 ∧ (vp_in x9 2048 ∧ (S' = (sl (sl S 3 x9.toNatClampNeg x4) 4 x9.toNatClampNeg x6) ∧ r = 0))) else (vp_in ((x8 + x10) &&& 2047) 2048 ∧ (if (lg_cmp (S.1.2.2 3 ((x8 + x10) &&& 2047).toNatClampNeg) x4) = 0 then (vp_in ((x8 + x10) &&& 2047) 2048 ∧ (if (lg_cmp (S.1.2.2 4 ((x8 + x10) &&& 2047).toNatClampNeg) x6) = 0 then (S' = S ∧ r = 1) else (vp_in ((x8 + x10) &&& 2047) 2048 ∧ (∃ (S9 : SS) (r10 : Int32), E_s_isOver T S ((((S.1.2.2 3 ((x8 + x10) &&& 2047).toNatClampNeg).toUInt64 >>> ((32 : Int32).toInt64.toUInt64 &&& Int64.toUInt64 63)).toInt64).toInt32) x2 S9 r10 ∧ (if r10 = 0 then (L_s_wasHere_82 T i nf S9 x2 x3 x4 x6 x8 x9 (x10 + (-1)) S' r) else (L_s_wasHere_82 T i nf S9 x2 x3 x4 x6 x8 ((x8 + x10) &&& 2047) (x10 + (-1)) S' r)))))) else (vp_in ((x8 + x10) &&& 2047) 2048 ∧ (∃ (S5 : SS) (r6 : Int32), E_s_isOver T S ((((S.1.2.2 3 ((x8 + x10) &&& 2047).toNatClampNeg).toUInt64 >>> ((32 : Int32).toInt64.toUInt64 &&& Int64.toUInt64 63)).toInt64).toInt32) x2 S5 r6 ∧ (if r6 = 0 then (L_s_wasHere_82 T i nf S5 x2 x3 x4 x6 x8 x9 (x10 + (-1)) S' r) else (L_s_wasHere_82 T i nf S5 x2 x3 x4 x6 x8 ((x8 + x10) &&& 2047) (x10 + (-1)) S' r))))))
set_option maxHeartbeats 4000000 in
set_option maxRecDepth 100000 in
theorem L_s_wasHere_82_ok {l : Launch} {G : PG} {h : Nat} {q ad : Nat → Nat} {T : TD} (hO : tOK T) {i : Nat} {a2 : Int32} {S' : SS} {r : Int32} (hi : i < 32) {p : Program} {e : Env} {s : State} {m : MethodId} {below : List Frame} {meth : Method} {c : Code} {A : Nat → Prop} (F : bF p s m meth c cX4_wasHere 12 (some .boolean) ([.ref h, .ref (ad i), .int a2] : List Value).toArray yX4_wasHere) (hK : pg_K G s) (hA : ∀ q, s.heap.size ≤ q → A q) : ∀ (nf : Nat) (S : SS) (x2 : Int32) (x3 : Int32) (x4 : Int64) (x6 : Int64) (x8 : Int32) (x9 : Int32) (x10 : Int32) (H : Heap) (locs : List Loc) (ls : Array Slot), lv_has ls 12 [(10, .int x10), (9, .int x9), (8, .int x8), (6, .long x6), (4, .long x4), (3, .int x3), (0, .ref h), (1, .ref (ad i)), (2, .int x2)] → L_s_wasHere_82 T i nf S x2 x3 x4 x6 x8 x9 x10 S' r → va_P G.1 vwCl (sW G h q ad T S) H → va_D A (sW G h q ad T S) → va_S A s.heap H locs → W p l e { frames := 1, cells := 0, slots := 0, locals := 23 } s m ([.ref h, .ref (ad i), .int a2] : List Value).toArray below meth c H locs 0 0 (MQ below (va_Qi (fun (r9 : Int32) (_ : Unit) => r9 = r) (oB G A (fun (_ : Unit) => sW G h q ad T S')) A) ([.ref h, .ref (ad i), .int a2] : List Value).toArray s 0 0 A) (F0 m 82 ls []) := by
  have hx := F.1.1; have hb := F.1.2.1; have hml := F.1.2.2.1; have hts := F.1.2.2.2.2
  have hown : s.vm.findClass RX4 = some m.cls := F.1.2.2.2.1
  intro nf
  induction nf with
  | zero => intro S x2 x3 x4 x6 x8 x9 x10 H locs ls hl hE; exact hE.elim
  | succ nf ih =>
    intro S x2 x3 x4 x6 x8 x9 x10 H locs ls hl hE hP hD hS
    unfold L_s_wasHere_82 at hE
    refine lv_iload hx hb dX4_wasHere_82 (lv_at hl 0 rfl) ?_
    refine lv_if_lt (tgt := 155) hx hb dX4_wasHere_84 (by decide) (fun h3 => ?_) (fun h3 => ?_)
    ·
      rw [if_pos h3] at hE
      refine lv_aload_n hx hb dX4_wasHere_155 rfl (lv_at hl 6 rfl) ?_
      refine va_get (D := G.1) (ci := 4) (C := RX4) (T := TX4) (N := 13) hx hb hts inX4 hown hK.1 hP 0 sW_0 rfl 3 (by decide) (hts _ w_142) (fun _ h9 => h9) sF_3 dX4_wasHere_156 ?_
      refine lv_iload hx hb dX4_wasHere_159 (lv_at hl 1 rfl) ?_
      refine lv_lload hx hb dX4_wasHere_161 (lv_at hl 4 rfl) ?_
      obtain ⟨hin, hE⟩ := hE
      refine va_last (D := G.1) hx hb hK.1 hP hD hS 5 1 sW_g3 rfl hin dX4_wasHere_163 (fun H locs hP hD hS => ?_)
      rw [sW_a3] at hP hD
      refine lv_aload_n hx hb dX4_wasHere_164 rfl (lv_at hl 6 rfl) ?_
      refine va_get (D := G.1) (ci := 4) (C := RX4) (T := TX4) (N := 13) hx hb hts inX4 hown hK.1 hP 0 sW_0 rfl 4 (by decide) (hts _ w_143) (fun _ h9 => h9) sF_4 dX4_wasHere_165 ?_
      refine lv_iload hx hb dX4_wasHere_168 (lv_at hl 1 rfl) ?_
      refine lv_lload hx hb dX4_wasHere_170 (lv_at hl 3 rfl) ?_
      obtain ⟨hin, hE⟩ := hE
      refine va_last (D := G.1) hx hb hK.1 hP hD hS 6 1 sW_g4 rfl hin dX4_wasHere_172 (fun H locs hP hD hS => ?_)
      rw [sW_a4] at hP hD
      refine lv_iconst (v := 0) hx hb dX4_wasHere_173 (by decide) ?_
      obtain ⟨rfl, rfl⟩ := hE
      exact en_i F hS _ () (by rfl) rfl hP hD (Nat.le_refl _) (Nat.le_refl _) dX4_wasHere_174
    ·
      rw [if_neg h3] at hE
      refine lv_iload hx hb dX4_wasHere_87 (lv_at hl 2 rfl) ?_
      refine lv_iload hx hb dX4_wasHere_89 (lv_at hl 0 rfl) ?_
      refine lv_iadd hx hb dX4_wasHere_91 ?_
      refine lv_sipush (v := 2047) hx hb dX4_wasHere_92 (by decide) ?_
      refine lv_iand hx hb dX4_wasHere_95 ?_
      refine lv_istore hx hb dX4_wasHere_96 hl (by decide) rfl (fun ls hl => ?_)
      have hl : lv_has ls 12 [(11, .int ((x8 + x10) &&& 2047)), (10, .int x10), (9, .int x9), (8, .int x8), (6, .long x6), (4, .long x4), (3, .int x3), (0, .ref h), (1, .ref (ad i)), (2, .int x2)] := hl
      refine lv_aload_n hx hb dX4_wasHere_98 rfl (lv_at hl 7 rfl) ?_
      refine va_get (D := G.1) (ci := 4) (C := RX4) (T := TX4) (N := 13) hx hb hts inX4 hown hK.1 hP 0 sW_0 rfl 3 (by decide) (hts _ w_142) (fun _ h9 => h9) sF_3 dX4_wasHere_99 ?_
      refine lv_iload hx hb dX4_wasHere_102 (lv_at hl 0 rfl) ?_
      obtain ⟨hin, hE⟩ := hE
      refine va_lald (D := G.1) hx hb hK.1 hP 5 1 sW_g3 rfl hin dX4_wasHere_104 ?_
      refine lv_lload hx hb dX4_wasHere_105 (lv_at hl 5 rfl) ?_
      refine W.lcmp hx hb dX4_wasHere_107 ?_
      refine lv_if_ne (tgt := 126) hx hb dX4_wasHere_108 (by decide) (fun h4 => ?_) (fun h4 => ?_)
      ·
        rw [if_neg h4] at hE
        refine lv_aload_n hx hb dX4_wasHere_126 rfl (lv_at hl 7 rfl) ?_
        refine lv_aload_n hx hb dX4_wasHere_127 rfl (lv_at hl 7 rfl) ?_
        refine va_get (D := G.1) (ci := 4) (C := RX4) (T := TX4) (N := 13) hx hb hts inX4 hown hK.1 hP 0 sW_0 rfl 3 (by decide) (hts _ w_142) (fun _ h9 => h9) sF_3 dX4_wasHere_128 ?_
        refine lv_iload hx hb dX4_wasHere_131 (lv_at hl 0 rfl) ?_
        obtain ⟨hin, hE⟩ := hE
        refine va_lald (D := G.1) hx hb hK.1 hP 5 1 sW_g3 rfl hin dX4_wasHere_133 ?_
        refine lv_bipush (v := 32) hx hb dX4_wasHere_134 (by decide) ?_
        refine lv_lushr (v := ((S.1.2.2 3 ((x8 + x10) &&& 2047).toNatClampNeg).toUInt64 >>> ((32 : Int32).toInt64.toUInt64 &&& Int64.toUInt64 63)).toInt64) hx hb dX4_wasHere_136 rfl ?_
        refine lv_l2i (v := (((S.1.2.2 3 ((x8 + x10) &&& 2047).toNatClampNeg).toUInt64 >>> ((32 : Int32).toInt64.toUInt64 &&& Int64.toUInt64 63)).toInt64).toInt32) hx hb dX4_wasHere_137 rfl ?_
        refine lv_iload_n hx hb dX4_wasHere_138 rfl (lv_at hl 9 rfl) ?_
        obtain ⟨S5, r6, hg, hE⟩ := hE
        refine kA_i (va_runV (As := [.int ((((S.1.2.2 3 ((x8 + x10) &&& 2047).toNatClampNeg).toUInt64 >>> ((32 : Int32).toInt64.toUInt64 &&& Int64.toUInt64 63)).toInt64).toInt32), .int x2]) (rest := []) F.1 (e_s_isOver l G h q ad T hO S ((((S.1.2.2 3 ((x8 + x10) &&& 2047).toNatClampNeg).toUInt64 >>> ((32 : Int32).toInt64.toUInt64 &&& Int64.toUInt64 63)).toInt64).toInt32) x2 S5 r6 hg _) (cwV 2 hts (aw_V w_703 w_705 ws_X4_isOver w_2 w_706) rfl rfl rfl (by decide +kernel) ⟨by decide, by decide⟩) ⟨cS_blind, va_recv (q := (RX4, TX4, 13)) (ci := 4) (q0 := 0) hK.1 hP rfl sW_0, cS_pre hP hD hK⟩ rfl rfl hl.1 rfl (lv_room (Nat.le_of_ble_eq_true rfl)) dX4_wasHere_139 ⟨Nat.le_refl _, Nat.le_refl _⟩) hD hS hA (fun r9 u0 H locs hp hP hD hS => ?_)
        have hp := hp.symm; subst hp
        refine lv_if_eq (tgt := 149) hx hb dX4_wasHere_142 (by decide) (fun h7 => ?_) (fun h7 => ?_)
        ·
          rw [if_pos h7] at hE
          refine lv_iinc (v := (x10 + (-1))) (k := 1) hx hb dX4_wasHere_149 hl rfl rfl (by decide) rfl (fun ls hl => ?_)
          have hl : lv_has ls 12 [(10, .int (x10 + (-1))), (11, .int ((x8 + x10) &&& 2047)), (9, .int x9), (8, .int x8), (6, .long x6), (4, .long x4), (3, .int x3), (0, .ref h), (1, .ref (ad i)), (2, .int x2)] := hl
          refine lv_goto (tgt := 82) hx hb dX4_wasHere_152 (by decide) ?_
          exact ih S5 x2 x3 x4 x6 x8 x9 (x10 + (-1)) _ _ ls (lv_sub hl [0, 2, 3, 4, 5, 6, 7, 8, 9] rfl) hE hP hD hS
        ·
          rw [if_neg h7] at hE
          refine lv_iload hx hb dX4_wasHere_145 (lv_at hl 0 rfl) ?_
          refine lv_istore hx hb dX4_wasHere_147 hl (by decide) rfl (fun ls hl => ?_)
          have hl : lv_has ls 12 [(9, .int ((x8 + x10) &&& 2047)), (11, .int ((x8 + x10) &&& 2047)), (10, .int x10), (8, .int x8), (6, .long x6), (4, .long x4), (3, .int x3), (0, .ref h), (1, .ref (ad i)), (2, .int x2)] := hl
          refine lv_iinc (v := (x10 + (-1))) (k := 2) hx hb dX4_wasHere_149 hl rfl rfl (by decide) rfl (fun ls hl => ?_)
          have hl : lv_has ls 12 [(10, .int (x10 + (-1))), (9, .int ((x8 + x10) &&& 2047)), (11, .int ((x8 + x10) &&& 2047)), (8, .int x8), (6, .long x6), (4, .long x4), (3, .int x3), (0, .ref h), (1, .ref (ad i)), (2, .int x2)] := hl
          refine lv_goto (tgt := 82) hx hb dX4_wasHere_152 (by decide) ?_
          exact ih S5 x2 x3 x4 x6 x8 ((x8 + x10) &&& 2047) (x10 + (-1)) _ _ ls (lv_sub hl [0, 1, 3, 4, 5, 6, 7, 8, 9] rfl) hE hP hD hS
      ·
        rw [if_pos h4] at hE
        refine lv_aload_n hx hb dX4_wasHere_111 rfl (lv_at hl 7 rfl) ?_
        refine va_get (D := G.1) (ci := 4) (C := RX4) (T := TX4) (N := 13) hx hb hts inX4 hown hK.1 hP 0 sW_0 rfl 4 (by decide) (hts _ w_143) (fun _ h9 => h9) sF_4 dX4_wasHere_112 ?_
        refine lv_iload hx hb dX4_wasHere_115 (lv_at hl 0 rfl) ?_
        obtain ⟨hin, hE⟩ := hE
        refine va_lald (D := G.1) hx hb hK.1 hP 6 1 sW_g4 rfl hin dX4_wasHere_117 ?_
        refine lv_lload hx hb dX4_wasHere_118 (lv_at hl 4 rfl) ?_
        refine W.lcmp hx hb dX4_wasHere_120 ?_
        refine lv_if_ne (tgt := 126) hx hb dX4_wasHere_121 (by decide) (fun h8 => ?_) (fun h8 => ?_)
        ·
          rw [if_neg h8] at hE
          refine lv_aload_n hx hb dX4_wasHere_126 rfl (lv_at hl 7 rfl) ?_
          refine lv_aload_n hx hb dX4_wasHere_127 rfl (lv_at hl 7 rfl) ?_
          refine va_get (D := G.1) (ci := 4) (C := RX4) (T := TX4) (N := 13) hx hb hts inX4 hown hK.1 hP 0 sW_0 rfl 3 (by decide) (hts _ w_142) (fun _ h9 => h9) sF_3 dX4_wasHere_128 ?_
          refine lv_iload hx hb dX4_wasHere_131 (lv_at hl 0 rfl) ?_
          obtain ⟨hin, hE⟩ := hE
          refine va_lald (D := G.1) hx hb hK.1 hP 5 1 sW_g3 rfl hin dX4_wasHere_133 ?_
          refine lv_bipush (v := 32) hx hb dX4_wasHere_134 (by decide) ?_
          refine lv_lushr (v := ((S.1.2.2 3 ((x8 + x10) &&& 2047).toNatClampNeg).toUInt64 >>> ((32 : Int32).toInt64.toUInt64 &&& Int64.toUInt64 63)).toInt64) hx hb dX4_wasHere_136 rfl ?_
          refine lv_l2i (v := (((S.1.2.2 3 ((x8 + x10) &&& 2047).toNatClampNeg).toUInt64 >>> ((32 : Int32).toInt64.toUInt64 &&& Int64.toUInt64 63)).toInt64).toInt32) hx hb dX4_wasHere_137 rfl ?_
          refine lv_iload_n hx hb dX4_wasHere_138 rfl (lv_at hl 9 rfl) ?_
          obtain ⟨S9, r10, hg, hE⟩ := hE
          refine kA_i (va_runV (As := [.int ((((S.1.2.2 3 ((x8 + x10) &&& 2047).toNatClampNeg).toUInt64 >>> ((32 : Int32).toInt64.toUInt64 &&& Int64.toUInt64 63)).toInt64).toInt32), .int x2]) (rest := []) F.1 (e_s_isOver l G h q ad T hO S ((((S.1.2.2 3 ((x8 + x10) &&& 2047).toNatClampNeg).toUInt64 >>> ((32 : Int32).toInt64.toUInt64 &&& Int64.toUInt64 63)).toInt64).toInt32) x2 S9 r10 hg _) (cwV 2 hts (aw_V w_703 w_705 ws_X4_isOver w_2 w_706) rfl rfl rfl (by decide +kernel) ⟨by decide, by decide⟩) ⟨cS_blind, va_recv (q := (RX4, TX4, 13)) (ci := 4) (q0 := 0) hK.1 hP rfl sW_0, cS_pre hP hD hK⟩ rfl rfl hl.1 rfl (lv_room (Nat.le_of_ble_eq_true rfl)) dX4_wasHere_139 ⟨Nat.le_refl _, Nat.le_refl _⟩) hD hS hA (fun r9 u0 H locs hp hP hD hS => ?_)
          have hp := hp.symm; subst hp
          refine lv_if_eq (tgt := 149) hx hb dX4_wasHere_142 (by decide) (fun h11 => ?_) (fun h11 => ?_)
          ·
            rw [if_pos h11] at hE
            refine lv_iinc (v := (x10 + (-1))) (k := 1) hx hb dX4_wasHere_149 hl rfl rfl (by decide) rfl (fun ls hl => ?_)
            have hl : lv_has ls 12 [(10, .int (x10 + (-1))), (11, .int ((x8 + x10) &&& 2047)), (9, .int x9), (8, .int x8), (6, .long x6), (4, .long x4), (3, .int x3), (0, .ref h), (1, .ref (ad i)), (2, .int x2)] := hl
            refine lv_goto (tgt := 82) hx hb dX4_wasHere_152 (by decide) ?_
            exact ih S9 x2 x3 x4 x6 x8 x9 (x10 + (-1)) _ _ ls (lv_sub hl [0, 2, 3, 4, 5, 6, 7, 8, 9] rfl) hE hP hD hS
          ·
            rw [if_neg h11] at hE
            refine lv_iload hx hb dX4_wasHere_145 (lv_at hl 0 rfl) ?_
            refine lv_istore hx hb dX4_wasHere_147 hl (by decide) rfl (fun ls hl => ?_)
            have hl : lv_has ls 12 [(9, .int ((x8 + x10) &&& 2047)), (11, .int ((x8 + x10) &&& 2047)), (10, .int x10), (8, .int x8), (6, .long x6), (4, .long x4), (3, .int x3), (0, .ref h), (1, .ref (ad i)), (2, .int x2)] := hl
            refine lv_iinc (v := (x10 + (-1))) (k := 2) hx hb dX4_wasHere_149 hl rfl rfl (by decide) rfl (fun ls hl => ?_)
            have hl : lv_has ls 12 [(10, .int (x10 + (-1))), (9, .int ((x8 + x10) &&& 2047)), (11, .int ((x8 + x10) &&& 2047)), (8, .int x8), (6, .long x6), (4, .long x4), (3, .int x3), (0, .ref h), (1, .ref (ad i)), (2, .int x2)] := hl
            refine lv_goto (tgt := 82) hx hb dX4_wasHere_152 (by decide) ?_
            exact ih S9 x2 x3 x4 x6 x8 ((x8 + x10) &&& 2047) (x10 + (-1)) _ _ ls (lv_sub hl [0, 1, 3, 4, 5, 6, 7, 8, 9] rfl) hE hP hD hS
        ·
          rw [if_pos h8] at hE
          refine lv_iconst (v := 1) hx hb dX4_wasHere_124 (by decide) ?_
          obtain ⟨rfl, rfl⟩ := hE
          exact en_i F hS _ () (by rfl) rfl hP hD (Nat.le_refl _) (Nat.le_refl _) dX4_wasHere_125
def E_s_wasHere (T : TD) (S : SS) (i : Nat) (a2 : Int32) (S' : SS) (r : Int32) : Prop := vp_in a2 10 ∧ (∃ (S1 : SS) (r2 : Int32), E_s_packed T S (tA T i 0) ((S.1.1 11) &&& (((1 : Int32) <<< ((((tA T i 5) + 1) * 4) &&& 31)) - 1)) S1 r2 ∧ (∃ nf : Nat, L_s_wasHere_82 T i nf S1 a2 ((S.1.1 11) &&& (((1 : Int32) <<< ((((tA T i 5) + 1) * 4) &&& 31)) - 1)) ((((S.1.2.1 5 a2.toNatClampNeg).toInt64) <<< ((32 : Int32).toInt64 &&& 63)) ||| r2.toInt64) (S1.2 &&& (tAq T)) (((((((S1.2 &&& (tAq T)) * 31) + ((((S.1.2.1 5 a2.toNatClampNeg).toInt64) <<< ((32 : Int32).toInt64 &&& 63)) ||| r2.toInt64)) * (-7046029254386353131)).toUInt64 >>> ((53 : Int32).toInt64.toUInt64 &&& Int64.toUInt64 63)).toInt64).toInt32) (((((((S1.2 &&& (tAq T)) * 31) + ((((S.1.2.1 5 a2.toNatClampNeg).toInt64) <<< ((32 : Int32).toInt64 &&& 63)) ||| r2.toInt64)) * (-7046029254386353131)).toUInt64 >>> ((53 : Int32).toInt64.toUInt64 &&& Int64.toUInt64 63)).toInt64).toInt32) 7 S' r))
set_option maxHeartbeats 4000000 in
set_option maxRecDepth 100000 in
theorem e_s_wasHere (l : Launch) (G : PG) (h : Nat) (q ad : Nat → Nat) (T : TD) (hO : tOK T) (S : SS) (i : Nat) (hi : i < 32) (a2 : Int32) (S' : SS) (r : Int32) (hE : E_s_wasHere T S i a2 S' r) : Ci l yX4_wasHere (Cond.code yX4_wasHere cX4_wasHere 12 (some .boolean) :: aW) { frames := 1, cells := 0, slots := 0, locals := 23 } G (sW G h q ad T S) [.ref h, .ref (ad i), .int a2] (fun (r9 : Int32) (_ : Unit) => r9 = r) (fun (_ : Unit) => sW G h q ad T S') 0 0 := by
  refine ofB (y := yX4_wasHere) (G := G) (cc := cX4_wasHere) (maxL := 12) (ret := (some .boolean)) (Qc := fun A => va_Qi (fun (r9 : Int32) (_ : Unit) => r9 = r) (oB G A (fun (_ : Unit) => sW G h q ad T S')) A) (by decide) rfl ?_
  intro p e s m below meth c A F hK hA hP hD
  have hS : va_S A s.heap s.heap [] := va_S.rf
  have hx := F.1.1; have hb := F.1.2.1; have hml := F.1.2.2.1; have hts := F.1.2.2.2.2
  have hown : s.vm.findClass RX4 = some m.cls := F.1.2.2.2.1
  have hl := lv_entry ([.ref h, .ref (ad i), .int a2]) (n := 12) (Nat.le_of_ble_eq_true rfl)
  rw [lg_entry_eq]
  generalize (lg_sl ([.ref h, .ref (ad i), .int a2]) ++ List.replicate (12 - (lg_sl ([.ref h, .ref (ad i), .int a2])).length) Slot.unset).toArray = ls at hl ⊢
  have hl : lv_has ls 12 [(0, .ref h), (1, .ref (ad i)), (2, .int a2)] := hl
  unfold E_s_wasHere at hE
  refine lv_aload_n hx hb dX4_wasHere_0 rfl (lv_at hl 0 rfl) ?_
  refine va_get (D := G.1) (ci := 4) (C := RX4) (T := TX4) (N := 13) hx hb hts inX4 hown hK.1 hP 0 sW_0 rfl 11 (by decide) (hts _ w_153) (fun _ h9 => h9) sF_11 dX4_wasHere_1 ?_
  refine lv_iconst (v := 1) hx hb dX4_wasHere_4 (by decide) ?_
  refine lv_aload_n hx hb dX4_wasHere_5 rfl (lv_at hl 1 rfl) ?_
  refine va_getN (D := G.1) (ci := 0) (v := .int (tA T i 5)) (C := RX0) (T := TX0) (N := 13) hx hb hts inX0 hown hK.1 hP (10 + i) (sW_n hi) rfl 5 (by decide) (hK.2.1.use w_74) (fun _ h9 => h9) rfl dX4_wasHere_6 ?_
  refine lv_iconst (v := 1) hx hb dX4_wasHere_9 (by decide) ?_
  refine lv_iadd hx hb dX4_wasHere_10 ?_
  refine lv_iconst (v := 4) hx hb dX4_wasHere_11 (by decide) ?_
  refine lv_imul hx hb dX4_wasHere_12 ?_
  refine lv_ishl hx hb dX4_wasHere_13 ?_
  refine lv_iconst (v := 1) hx hb dX4_wasHere_14 (by decide) ?_
  refine lv_isub hx hb dX4_wasHere_15 ?_
  refine lv_iand hx hb dX4_wasHere_16 ?_
  refine lv_istore_n hx hb dX4_wasHere_17 rfl hl (by decide) rfl (fun ls hl => ?_)
  have hl : lv_has ls 12 [(3, .int ((S.1.1 11) &&& (((1 : Int32) <<< ((((tA T i 5) + 1) * 4) &&& 31)) - 1))), (0, .ref h), (1, .ref (ad i)), (2, .int a2)] := hl
  refine lv_aload_n hx hb dX4_wasHere_18 rfl (lv_at hl 1 rfl) ?_
  refine va_get (D := G.1) (ci := 4) (C := RX4) (T := TX4) (N := 13) hx hb hts inX4 hown hK.1 hP 0 sW_0 rfl 5 (by decide) (hts _ w_144) (fun _ h9 => h9) sF_5 dX4_wasHere_19 ?_
  refine lv_iload_n hx hb dX4_wasHere_22 rfl (lv_at hl 3 rfl) ?_
  obtain ⟨hin, hE⟩ := hE
  refine va_iald (D := G.1) hx hb hK.1 hP 7 0 sW_g5 rfl hin dX4_wasHere_23 ?_
  refine lv_i2l (v := (S.1.2.1 5 a2.toNatClampNeg).toInt64) hx hb dX4_wasHere_24 rfl ?_
  refine lv_bipush (v := 32) hx hb dX4_wasHere_25 (by decide) ?_
  refine lv_lshl (v := (((S.1.2.1 5 a2.toNatClampNeg).toInt64) <<< ((32 : Int32).toInt64 &&& 63))) hx hb dX4_wasHere_27 rfl ?_
  refine lv_aload_n hx hb dX4_wasHere_28 rfl (lv_at hl 1 rfl) ?_
  refine lv_aload_n hx hb dX4_wasHere_29 rfl (lv_at hl 2 rfl) ?_
  refine va_getN (D := G.1) (ci := 0) (v := .int (tA T i 0)) (C := RX0) (T := TX0) (N := 13) hx hb hts inX0 hown hK.1 hP (10 + i) (sW_n hi) rfl 0 (by decide) (hK.2.1.use w_63) (fun _ h9 => h9) rfl dX4_wasHere_30 ?_
  refine lv_iload_n hx hb dX4_wasHere_33 rfl (lv_at hl 0 rfl) ?_
  obtain ⟨S1, r2, hg, hE⟩ := hE
  refine kA_i (va_runV (As := [.int (tA T i 0), .int ((S.1.1 11) &&& (((1 : Int32) <<< ((((tA T i 5) + 1) * 4) &&& 31)) - 1))]) (rest := [.long (((S.1.2.1 5 a2.toNatClampNeg).toInt64) <<< ((32 : Int32).toInt64 &&& 63))]) F.1 (e_s_packed l G h q ad T hO S (tA T i 0) ((S.1.1 11) &&& (((1 : Int32) <<< ((((tA T i 5) + 1) * 4) &&& 31)) - 1)) S1 r2 hg _) (cwV 2 hts (aw_V w_689 w_691 ws_X4_packed w_2 w_692) rfl rfl rfl (by decide +kernel) ⟨by decide, by decide⟩) ⟨cS_blind, va_recv (q := (RX4, TX4, 13)) (ci := 4) (q0 := 0) hK.1 hP rfl sW_0, cS_pre hP hD hK⟩ rfl rfl hl.1 rfl (lv_room (Nat.le_of_ble_eq_true rfl)) dX4_wasHere_34 ⟨Nat.le_refl _, Nat.le_refl _⟩) hD hS hA (fun r9 u0 H locs hp hP hD hS => ?_)
  have hp := hp.symm; subst hp
  refine lv_i2l (v := r2.toInt64) hx hb dX4_wasHere_37 rfl ?_
  refine lv_lor hx hb dX4_wasHere_38 ?_
  refine lv_lstore hx hb dX4_wasHere_39 hl (by decide) rfl (fun ls hl => ?_)
  have hl : lv_has ls 12 [(4, .long ((((S.1.2.1 5 a2.toNatClampNeg).toInt64) <<< ((32 : Int32).toInt64 &&& 63)) ||| r2.toInt64)), (3, .int ((S.1.1 11) &&& (((1 : Int32) <<< ((((tA T i 5) + 1) * 4) &&& 31)) - 1))), (0, .ref h), (1, .ref (ad i)), (2, .int a2)] := hl
  refine lv_aload_n hx hb dX4_wasHere_41 rfl (lv_at hl 2 rfl) ?_
  refine va_get (D := G.1) (ci := 4) (C := RX4) (T := TX4) (N := 13) hx hb hts inX4 hown hK.1 hP 0 sW_0 rfl 12 (by decide) (hts _ w_154) (fun _ h9 => h9) sF_12 dX4_wasHere_42 ?_
  refine lv_aload_n hx hb dX4_wasHere_45 rfl (lv_at hl 2 rfl) ?_
  refine va_get (D := G.1) (ci := 4) (C := RX4) (T := TX4) (N := 13) hx hb hts inX4 hown hK.1 hP 0 sW_0 rfl 8 (by decide) (hts _ w_148) (fun _ h9 => h9) sF_8 dX4_wasHere_46 ?_
  refine va_getN (D := G.1) (ci := 1) (v := .long (tAq T)) (C := RX1) (T := TX1) (N := 5) hx hb hts inX1 hown hK.1 hP 8 sW_8 rfl 4 (by decide) (hK.2.1.use w_127) (fun _ h9 => h9) rfl dX4_wasHere_49 ?_
  refine lv_land hx hb dX4_wasHere_52 ?_
  refine lv_lstore hx hb dX4_wasHere_53 hl (by decide) rfl (fun ls hl => ?_)
  have hl : lv_has ls 12 [(6, .long (S1.2 &&& (tAq T))), (4, .long ((((S.1.2.1 5 a2.toNatClampNeg).toInt64) <<< ((32 : Int32).toInt64 &&& 63)) ||| r2.toInt64)), (3, .int ((S.1.1 11) &&& (((1 : Int32) <<< ((((tA T i 5) + 1) * 4) &&& 31)) - 1))), (0, .ref h), (1, .ref (ad i)), (2, .int a2)] := hl
  refine lv_lload hx hb dX4_wasHere_55 (lv_at hl 0 rfl) ?_
  refine lv_ldc2 (v := 31) hx hb hown (hts _ w_701) dX4_wasHere_57 ?_
  refine lv_lmul hx hb dX4_wasHere_60 ?_
  refine lv_lload hx hb dX4_wasHere_61 (lv_at hl 1 rfl) ?_
  refine lv_ladd hx hb dX4_wasHere_63 ?_
  refine lv_ldc2 (v := (-7046029254386353131)) hx hb hown (hts _ w_702) dX4_wasHere_64 ?_
  refine lv_lmul hx hb dX4_wasHere_67 ?_
  refine lv_bipush (v := 53) hx hb dX4_wasHere_68 (by decide) ?_
  refine lv_lushr (v := (((((S1.2 &&& (tAq T)) * 31) + ((((S.1.2.1 5 a2.toNatClampNeg).toInt64) <<< ((32 : Int32).toInt64 &&& 63)) ||| r2.toInt64)) * (-7046029254386353131)).toUInt64 >>> ((53 : Int32).toInt64.toUInt64 &&& Int64.toUInt64 63)).toInt64) hx hb dX4_wasHere_70 rfl ?_
  refine lv_l2i (v := ((((((S1.2 &&& (tAq T)) * 31) + ((((S.1.2.1 5 a2.toNatClampNeg).toInt64) <<< ((32 : Int32).toInt64 &&& 63)) ||| r2.toInt64)) * (-7046029254386353131)).toUInt64 >>> ((53 : Int32).toInt64.toUInt64 &&& Int64.toUInt64 63)).toInt64).toInt32) hx hb dX4_wasHere_71 rfl ?_
  refine lv_istore hx hb dX4_wasHere_72 hl (by decide) rfl (fun ls hl => ?_)
  have hl : lv_has ls 12 [(8, .int (((((((S1.2 &&& (tAq T)) * 31) + ((((S.1.2.1 5 a2.toNatClampNeg).toInt64) <<< ((32 : Int32).toInt64 &&& 63)) ||| r2.toInt64)) * (-7046029254386353131)).toUInt64 >>> ((53 : Int32).toInt64.toUInt64 &&& Int64.toUInt64 63)).toInt64).toInt32)), (6, .long (S1.2 &&& (tAq T))), (4, .long ((((S.1.2.1 5 a2.toNatClampNeg).toInt64) <<< ((32 : Int32).toInt64 &&& 63)) ||| r2.toInt64)), (3, .int ((S.1.1 11) &&& (((1 : Int32) <<< ((((tA T i 5) + 1) * 4) &&& 31)) - 1))), (0, .ref h), (1, .ref (ad i)), (2, .int a2)] := hl
  refine lv_iload hx hb dX4_wasHere_74 (lv_at hl 0 rfl) ?_
  refine lv_istore hx hb dX4_wasHere_76 hl (by decide) rfl (fun ls hl => ?_)
  have hl : lv_has ls 12 [(9, .int (((((((S1.2 &&& (tAq T)) * 31) + ((((S.1.2.1 5 a2.toNatClampNeg).toInt64) <<< ((32 : Int32).toInt64 &&& 63)) ||| r2.toInt64)) * (-7046029254386353131)).toUInt64 >>> ((53 : Int32).toInt64.toUInt64 &&& Int64.toUInt64 63)).toInt64).toInt32)), (8, .int (((((((S1.2 &&& (tAq T)) * 31) + ((((S.1.2.1 5 a2.toNatClampNeg).toInt64) <<< ((32 : Int32).toInt64 &&& 63)) ||| r2.toInt64)) * (-7046029254386353131)).toUInt64 >>> ((53 : Int32).toInt64.toUInt64 &&& Int64.toUInt64 63)).toInt64).toInt32)), (6, .long (S1.2 &&& (tAq T))), (4, .long ((((S.1.2.1 5 a2.toNatClampNeg).toInt64) <<< ((32 : Int32).toInt64 &&& 63)) ||| r2.toInt64)), (3, .int ((S.1.1 11) &&& (((1 : Int32) <<< ((((tA T i 5) + 1) * 4) &&& 31)) - 1))), (0, .ref h), (1, .ref (ad i)), (2, .int a2)] := hl
  refine lv_bipush (v := 7) hx hb dX4_wasHere_78 (by decide) ?_
  refine lv_istore hx hb dX4_wasHere_80 hl (by decide) rfl (fun ls hl => ?_)
  have hl : lv_has ls 12 [(10, .int 7), (9, .int (((((((S1.2 &&& (tAq T)) * 31) + ((((S.1.2.1 5 a2.toNatClampNeg).toInt64) <<< ((32 : Int32).toInt64 &&& 63)) ||| r2.toInt64)) * (-7046029254386353131)).toUInt64 >>> ((53 : Int32).toInt64.toUInt64 &&& Int64.toUInt64 63)).toInt64).toInt32)), (8, .int (((((((S1.2 &&& (tAq T)) * 31) + ((((S.1.2.1 5 a2.toNatClampNeg).toInt64) <<< ((32 : Int32).toInt64 &&& 63)) ||| r2.toInt64)) * (-7046029254386353131)).toUInt64 >>> ((53 : Int32).toInt64.toUInt64 &&& Int64.toUInt64 63)).toInt64).toInt32)), (6, .long (S1.2 &&& (tAq T))), (4, .long ((((S.1.2.1 5 a2.toNatClampNeg).toInt64) <<< ((32 : Int32).toInt64 &&& 63)) ||| r2.toInt64)), (3, .int ((S.1.1 11) &&& (((1 : Int32) <<< ((((tA T i 5) + 1) * 4) &&& 31)) - 1))), (0, .ref h), (1, .ref (ad i)), (2, .int a2)] := hl
  obtain ⟨nf, hE⟩ := hE
  exact L_s_wasHere_82_ok hO hi F hK hA nf S1 a2 ((S.1.1 11) &&& (((1 : Int32) <<< ((((tA T i 5) + 1) * 4) &&& 31)) - 1)) ((((S.1.2.1 5 a2.toNatClampNeg).toInt64) <<< ((32 : Int32).toInt64 &&& 63)) ||| r2.toInt64) (S1.2 &&& (tAq T)) (((((((S1.2 &&& (tAq T)) * 31) + ((((S.1.2.1 5 a2.toNatClampNeg).toInt64) <<< ((32 : Int32).toInt64 &&& 63)) ||| r2.toInt64)) * (-7046029254386353131)).toUInt64 >>> ((53 : Int32).toInt64.toUInt64 &&& Int64.toUInt64 63)).toInt64).toInt32) (((((((S1.2 &&& (tAq T)) * 31) + ((((S.1.2.1 5 a2.toNatClampNeg).toInt64) <<< ((32 : Int32).toInt64 &&& 63)) ||| r2.toInt64)) * (-7046029254386353131)).toUInt64 >>> ((53 : Int32).toInt64.toUInt64 &&& Int64.toUInt64 63)).toInt64).toInt32) 7 _ _ ls (lv_sub hl [0, 1, 2, 3, 4, 5, 6, 7, 8] rfl) hE hP hD hS

