/-! Reader: J, g the row (count, characters); Q what changes: ints by slot (2 at 3 bad 4 behinds 5 tail 8 least 9 most 12 first 13 groups), longs by slot (6 low 7 high 14 asked), the count of nodes, the nodes' fields, lows, highs -/
abbrev QS : Type := (Nat → Int32) × (Nat → Int64) × Nat × (Nat → Nat → Int32) × (Nat → Int64) × (Nat → Int64)
def rf (Q : QS) (k : Nat) (x : Int32) : QS := (upd Q.1 k x, Q.2)
def rl (Q : QS) (k : Nat) (x : Int64) : QS := (Q.1, vp_updL Q.2.1 k x, Q.2.2)
def rc (Q : QS) (c : Nat) : QS := (Q.1, Q.2.1, c, Q.2.2.2)
def rn (Q : QS) (i k : Nat) (x : Int32) : QS := (Q.1, Q.2.1, Q.2.2.1, va_up Q.2.2.2.1 i (upd (Q.2.2.2.1 i) k x), Q.2.2.2.2)
def rlo (Q : QS) (i : Nat) (x : Int64) : QS := (Q.1, Q.2.1, Q.2.2.1, Q.2.2.2.1, vp_updL Q.2.2.2.2.1 i x, Q.2.2.2.2.2)
def rhi (Q : QS) (i : Nat) (x : Int64) : QS := (Q.1, Q.2.1, Q.2.2.1, Q.2.2.2.1, Q.2.2.2.2.1, vp_updL Q.2.2.2.2.2 i x)
def gOK (J : Nat) (g : Nat → Int32) : Prop := J ≤ 14 ∧ ∀ k, narrow .char (.int (g k)) = .int (g k)
def rF (q : Nat → Nat) (Q : QS) : List Value := [.ref (q 0), .ref (q 1), .int (Q.1 2), .int (Q.1 3), .int (Q.1 4), .int (Q.1 5), .long (Q.2.1 6), .long (Q.2.1 7), .int (Q.1 8), .int (Q.1 9)]
def pF (q : Nat → Nat) (Q : QS) : List Value := [.ref (q 21), .int (nI Q.2.2.1), .int (Q.1 12), .int (Q.1 13), .long (Q.2.1 14)]
def qX (G : PG) (h : Nat) (q ad : Nat → Nat) (J : Nat) (g : Nat → Int32) (Q : QS) : va_W := [(h, .inr (2, rF q Q)), (q 0, .inr (3, [.ref (q 20), .int (nI J)])), (q 20, .inl (G.2 2, 14, .inl g)), (q 1, .inr (1, pF q Q)), (q 21, .inl (G.2 4, 32, .inr (.inr (.inr (.inr (nf ad 32))))))]
def qW (G : PG) (h : Nat) (q ad : Nat → Nat) (J : Nat) (g : Nat → Int32) (Q : QS) : va_W := qX G h q ad J g Q ++ np ad Q.2.2.2.1 Q.2.2.2.2.1 Q.2.2.2.2.2 32
theorem lk_n {x k : Int32} {z : Int} (hz : k.toInt = z) (h : ¬ x = k) : ¬ z = x.toInt := fun e => h (Int32.toInt_inj.mp (by rw [hz]; exact e.symm))
theorem vp_lt {i : Int32} {n : Nat} (h : vp_in i n) : i.toNatClampNeg < n := Nat.not_le.mp fun q => h (Or.inr q)
theorem np_setL {ad : Nat → Nat} {a : Nat → Nat → Int32} {lo hi : Nat → Int64} {n i : Nat} (h : i < n) {x : Int64} : (np ad a lo hi n).set i (ad i, .inr (0, ndF (a i) x (hi i))) = np ad a (vp_updL lo i x) hi n := by
  refine List.ext_getElem? fun j => ?_
  rw [List.getElem?_set]
  by_cases hj : j < n
  · rw [np_get hj, np_get hj]
    by_cases e : i = j
    · subst e
      have h2 : i < (np ad a lo hi n).length := by show i < ((List.range n).map _).length; simp; exact h
      have h3 : vp_updL lo i x i = x := by simp [vp_updL]
      simp [h2, h3]
    · have h3 : vp_updL lo i x j = lo j := by simp [vp_updL, Ne.symm e]
      simp [e, h3]
  · have hl : ∀ lo' : Nat → Int64, (np ad a lo' hi n)[j]? = none := fun lo' => List.getElem?_eq_none (by show ((List.range n).map _).length ≤ j; simp; omega)
    rw [hl, hl, if_neg (by omega)]
theorem np_setH {ad : Nat → Nat} {a : Nat → Nat → Int32} {lo hi : Nat → Int64} {n i : Nat} (h : i < n) {x : Int64} : (np ad a lo hi n).set i (ad i, .inr (0, ndF (a i) (lo i) x)) = np ad a lo (vp_updL hi i x) n := by
  refine List.ext_getElem? fun j => ?_
  rw [List.getElem?_set]
  by_cases hj : j < n
  · rw [np_get hj, np_get hj]
    by_cases e : i = j
    · subst e
      have h2 : i < (np ad a lo hi n).length := by show i < ((List.range n).map _).length; simp; exact h
      have h3 : vp_updL hi i x i = x := by simp [vp_updL]
      simp [h2, h3]
    · have h3 : vp_updL hi i x j = hi j := by simp [vp_updL, Ne.symm e]
      simp [e, h3]
  · have hl : ∀ hi' : Nat → Int64, (np ad a lo hi' n)[j]? = none := fun hi' => List.getElem?_eq_none (by show ((List.range n).map _).length ≤ j; simp; omega)
    rw [hl, hl, if_neg (by omega)]
theorem ap_set {X Y : va_W} {k i : Nat} {v : Nat × _} (hk : X.length = k) : (X ++ Y).set (k + i) v = X ++ Y.set i v := by
  subst hk
  rw [List.set_append_right _ _ (Nat.le_add_right _ _), Nat.add_sub_cancel_left]
section QW
variable {G : PG} {h : Nat} {q ad : Nat → Nat} {J : Nat} {g : Nat → Int32} {Q : QS} {H : Heap} {A : Nat → Prop}
theorem qW_0 : (qW G h q ad J g Q)[0]? = some (h, .inr (2, rF q Q)) := rfl
theorem qW_3 : (qW G h q ad J g Q)[3]? = some (q 1, .inr (1, pF q Q)) := rfl
theorem qW_4 : (qW G h q ad J g Q)[4]? = some (q 21, .inl (G.2 4, 32, .inr (.inr (.inr (.inr (nf ad 32)))))) := rfl
theorem qW_nd {i : Nat} (hi : i < 32) : (qW G h q ad J g Q)[5 + i]? = some (ad i, .inr (0, ndF (Q.2.2.2.1 i) (Q.2.2.2.2.1 i) (Q.2.2.2.2.2 i))) := np_at (X := qX G h q ad J g Q) 5 rfl hi rfl
theorem qP_row (hP : va_P G.1 vwCl (qW G h q ad J g Q) H) : va_P G.1 vwCl [(q 0, .inr (3, [.ref (q 20), .int (nI J)])), (q 20, .inl (G.2 2, 14, .inl g))] H := hP.sub [1, 2] rfl
theorem qD_row (hD : va_D A (qW G h q ad J g Q)) : va_D A [(q 0, .inr (3, [.ref (q 20), .int (nI J)])), (q 20, .inl (G.2 2, 14, .inl g))] := hD.sub [1, 2] (by decide) rfl
theorem qP_prog (hP : va_P G.1 vwCl (qW G h q ad J g Q) H) : va_P G.1 vwCl (([(q 1, .inr (1, pF q Q)), (q 21, .inl (G.2 4, 32, .inr (.inr (.inr (.inr (nf ad 32))))))] : va_W) ++ np ad Q.2.2.2.1 Q.2.2.2.2.1 Q.2.2.2.2.2 32) H := va_P.part (X := qX G h q ad J g Q) hP [3, 4] rfl
theorem qD_prog (hD : va_D A (qW G h q ad J g Q)) : va_D A (([(q 1, .inr (1, pF q Q)), (q 21, .inl (G.2 4, 32, .inr (.inr (.inr (.inr (nf ad 32))))))] : va_W) ++ np ad Q.2.2.2.1 Q.2.2.2.2.1 Q.2.2.2.2.2 32) := va_D.part (X := qX G h q ad J g Q) hD [3, 4] (by decide) rfl
theorem rF_0 : (rF q Q)[0]? = some (.ref (q 0)) := rfl
theorem rF_1 : (rF q Q)[1]? = some (.ref (q 1)) := rfl
theorem rF_2 : (rF q Q)[2]? = some (.int (Q.1 2)) := rfl
theorem rF_l2 : 2 < (rF q Q).length := Nat.le_of_ble_eq_true rfl
theorem qW_f2 {x : Int32} : (qW G h q ad J g Q).set 0 (h, .inr (2, (rF q Q).set 2 (.int x))) = qW G h q ad J g (rf Q 2 x) := rfl
theorem rF_3 : (rF q Q)[3]? = some (.int (Q.1 3)) := rfl
theorem rF_l3 : 3 < (rF q Q).length := Nat.le_of_ble_eq_true rfl
theorem qW_f3 {x : Int32} : (qW G h q ad J g Q).set 0 (h, .inr (2, (rF q Q).set 3 (.int x))) = qW G h q ad J g (rf Q 3 x) := rfl
theorem rF_4 : (rF q Q)[4]? = some (.int (Q.1 4)) := rfl
theorem rF_l4 : 4 < (rF q Q).length := Nat.le_of_ble_eq_true rfl
theorem qW_f4 {x : Int32} : (qW G h q ad J g Q).set 0 (h, .inr (2, (rF q Q).set 4 (.int x))) = qW G h q ad J g (rf Q 4 x) := rfl
theorem rF_5 : (rF q Q)[5]? = some (.int (Q.1 5)) := rfl
theorem rF_l5 : 5 < (rF q Q).length := Nat.le_of_ble_eq_true rfl
theorem qW_f5 {x : Int32} : (qW G h q ad J g Q).set 0 (h, .inr (2, (rF q Q).set 5 (.int x))) = qW G h q ad J g (rf Q 5 x) := rfl
theorem rF_6 : (rF q Q)[6]? = some (.long (Q.2.1 6)) := rfl
theorem rF_l6 : 6 < (rF q Q).length := Nat.le_of_ble_eq_true rfl
theorem qW_f6 {x : Int64} : (qW G h q ad J g Q).set 0 (h, .inr (2, (rF q Q).set 6 (.long x))) = qW G h q ad J g (rl Q 6 x) := rfl
theorem rF_7 : (rF q Q)[7]? = some (.long (Q.2.1 7)) := rfl
theorem rF_l7 : 7 < (rF q Q).length := Nat.le_of_ble_eq_true rfl
theorem qW_f7 {x : Int64} : (qW G h q ad J g Q).set 0 (h, .inr (2, (rF q Q).set 7 (.long x))) = qW G h q ad J g (rl Q 7 x) := rfl
theorem rF_8 : (rF q Q)[8]? = some (.int (Q.1 8)) := rfl
theorem rF_l8 : 8 < (rF q Q).length := Nat.le_of_ble_eq_true rfl
theorem qW_f8 {x : Int32} : (qW G h q ad J g Q).set 0 (h, .inr (2, (rF q Q).set 8 (.int x))) = qW G h q ad J g (rf Q 8 x) := rfl
theorem rF_9 : (rF q Q)[9]? = some (.int (Q.1 9)) := rfl
theorem rF_l9 : 9 < (rF q Q).length := Nat.le_of_ble_eq_true rfl
theorem qW_f9 {x : Int32} : (qW G h q ad J g Q).set 0 (h, .inr (2, (rF q Q).set 9 (.int x))) = qW G h q ad J g (rf Q 9 x) := rfl
theorem pF_0 : (pF q Q)[0]? = some (.ref (q 21)) := rfl
theorem pF_l0 : 0 < (pF q Q).length := Nat.le_of_ble_eq_true rfl
theorem pF_1 : (pF q Q)[1]? = some (.int (nI Q.2.2.1)) := rfl
theorem pF_l1 : 1 < (pF q Q).length := Nat.le_of_ble_eq_true rfl
theorem pF_2 : (pF q Q)[2]? = some (.int (Q.1 12)) := rfl
theorem pF_l2 : 2 < (pF q Q).length := Nat.le_of_ble_eq_true rfl
theorem qW_p2 {x : Int32} : (qW G h q ad J g Q).set 3 (q 1, .inr (1, (pF q Q).set 2 (.int x))) = qW G h q ad J g (rf Q 12 x) := rfl
theorem pF_3 : (pF q Q)[3]? = some (.int (Q.1 13)) := rfl
theorem pF_l3 : 3 < (pF q Q).length := Nat.le_of_ble_eq_true rfl
theorem qW_p3 {x : Int32} : (qW G h q ad J g Q).set 3 (q 1, .inr (1, (pF q Q).set 3 (.int x))) = qW G h q ad J g (rf Q 13 x) := rfl
theorem pF_4 : (pF q Q)[4]? = some (.long (Q.2.1 14)) := rfl
theorem pF_l4 : 4 < (pF q Q).length := Nat.le_of_ble_eq_true rfl
theorem qW_p4 {x : Int64} : (qW G h q ad J g Q).set 3 (q 1, .inr (1, (pF q Q).set 4 (.long x))) = qW G h q ad J g (rl Q 14 x) := rfl
theorem qW_c1 : (qW G h q ad J g Q).set 3 (q 1, .inr (1, (pF q Q).set 1 (.int 1))) = qW G h q ad J g (rc Q 1) := rfl
theorem qW_cs {c : Nat} : (qW G h q ad J g Q).set 3 (q 1, .inr (1, (pF q Q).set 1 (.int (nI c + 1)))) = qW G h q ad J g (rc Q (c + 1)) := by rw [← nI_succ]; rfl
theorem qW_n1 {i : Nat} (hi : i < 32) {x : Int32} : (qW G h q ad J g Q).set (5 + i) (ad i, .inr (0, (ndF (Q.2.2.2.1 i) (Q.2.2.2.2.1 i) (Q.2.2.2.2.2 i)).set 1 (.int x))) = qW G h q ad J g (rn Q i 1 x) := np_up (X := qX G h q ad J g Q) (x := upd (Q.2.2.2.1 i) 1 x) 5 rfl hi
theorem qW_n2 {i : Nat} (hi : i < 32) {x : Int32} : (qW G h q ad J g Q).set (5 + i) (ad i, .inr (0, (ndF (Q.2.2.2.1 i) (Q.2.2.2.2.1 i) (Q.2.2.2.2.2 i)).set 2 (.int x))) = qW G h q ad J g (rn Q i 2 x) := np_up (X := qX G h q ad J g Q) (x := upd (Q.2.2.2.1 i) 2 x) 5 rfl hi
theorem qW_n3 {i : Nat} (hi : i < 32) {x : Int32} : (qW G h q ad J g Q).set (5 + i) (ad i, .inr (0, (ndF (Q.2.2.2.1 i) (Q.2.2.2.2.1 i) (Q.2.2.2.2.2 i)).set 3 (.int x))) = qW G h q ad J g (rn Q i 3 x) := np_up (X := qX G h q ad J g Q) (x := upd (Q.2.2.2.1 i) 3 x) 5 rfl hi
theorem qW_n4 {i : Nat} (hi : i < 32) {x : Int32} : (qW G h q ad J g Q).set (5 + i) (ad i, .inr (0, (ndF (Q.2.2.2.1 i) (Q.2.2.2.2.1 i) (Q.2.2.2.2.2 i)).set 4 (.int x))) = qW G h q ad J g (rn Q i 4 x) := np_up (X := qX G h q ad J g Q) (x := upd (Q.2.2.2.1 i) 4 x) 5 rfl hi
theorem qW_n5 {i : Nat} (hi : i < 32) {x : Int32} : (qW G h q ad J g Q).set (5 + i) (ad i, .inr (0, (ndF (Q.2.2.2.1 i) (Q.2.2.2.2.1 i) (Q.2.2.2.2.2 i)).set 5 (.int x))) = qW G h q ad J g (rn Q i 5 x) := np_up (X := qX G h q ad J g Q) (x := upd (Q.2.2.2.1 i) 5 x) 5 rfl hi
theorem qW_n6 {i : Nat} (hi : i < 32) {x : Int32} : (qW G h q ad J g Q).set (5 + i) (ad i, .inr (0, (ndF (Q.2.2.2.1 i) (Q.2.2.2.2.1 i) (Q.2.2.2.2.2 i)).set 6 (.int x))) = qW G h q ad J g (rn Q i 6 x) := np_up (X := qX G h q ad J g Q) (x := upd (Q.2.2.2.1 i) 6 x) 5 rfl hi
theorem qW_n7 {i : Nat} (hi : i < 32) {x : Int32} : (qW G h q ad J g Q).set (5 + i) (ad i, .inr (0, (ndF (Q.2.2.2.1 i) (Q.2.2.2.2.1 i) (Q.2.2.2.2.2 i)).set 7 (.int x))) = qW G h q ad J g (rn Q i 7 x) := np_up (X := qX G h q ad J g Q) (x := upd (Q.2.2.2.1 i) 7 x) 5 rfl hi
theorem qW_n8 {i : Nat} (hi : i < 32) {x : Int32} : (qW G h q ad J g Q).set (5 + i) (ad i, .inr (0, (ndF (Q.2.2.2.1 i) (Q.2.2.2.2.1 i) (Q.2.2.2.2.2 i)).set 8 (.int x))) = qW G h q ad J g (rn Q i 8 x) := np_up (X := qX G h q ad J g Q) (x := upd (Q.2.2.2.1 i) 8 x) 5 rfl hi
theorem qW_n9 {i : Nat} (hi : i < 32) {x : Int32} : (qW G h q ad J g Q).set (5 + i) (ad i, .inr (0, (ndF (Q.2.2.2.1 i) (Q.2.2.2.2.1 i) (Q.2.2.2.2.2 i)).set 9 (.int x))) = qW G h q ad J g (rn Q i 9 x) := np_up (X := qX G h q ad J g Q) (x := upd (Q.2.2.2.1 i) 9 x) 5 rfl hi
theorem qW_n10 {i : Nat} (hi : i < 32) {x : Int32} : (qW G h q ad J g Q).set (5 + i) (ad i, .inr (0, (ndF (Q.2.2.2.1 i) (Q.2.2.2.2.1 i) (Q.2.2.2.2.2 i)).set 10 (.int x))) = qW G h q ad J g (rn Q i 10 x) := np_up (X := qX G h q ad J g Q) (x := upd (Q.2.2.2.1 i) 10 x) 5 rfl hi
theorem qW_n11 {i : Nat} (hi : i < 32) {x : Int64} : (qW G h q ad J g Q).set (5 + i) (ad i, .inr (0, (ndF (Q.2.2.2.1 i) (Q.2.2.2.2.1 i) (Q.2.2.2.2.2 i)).set 11 (.long x))) = qW G h q ad J g (rlo Q i x) := by
  show (qX G h q ad J g Q ++ np ad Q.2.2.2.1 Q.2.2.2.2.1 Q.2.2.2.2.2 32).set (5 + i) (ad i, .inr (0, ndF (Q.2.2.2.1 i) x (Q.2.2.2.2.2 i))) = qX G h q ad J g Q ++ np ad Q.2.2.2.1 (vp_updL Q.2.2.2.2.1 i x) Q.2.2.2.2.2 32
  rw [ap_set (k := 5) rfl, np_setL hi]
theorem qW_n12 {i : Nat} (hi : i < 32) {x : Int64} : (qW G h q ad J g Q).set (5 + i) (ad i, .inr (0, (ndF (Q.2.2.2.1 i) (Q.2.2.2.2.1 i) (Q.2.2.2.2.2 i)).set 12 (.long x))) = qW G h q ad J g (rhi Q i x) := by
  show (qX G h q ad J g Q ++ np ad Q.2.2.2.1 Q.2.2.2.2.1 Q.2.2.2.2.2 32).set (5 + i) (ad i, .inr (0, ndF (Q.2.2.2.1 i) (Q.2.2.2.2.1 i) x)) = qX G h q ad J g Q ++ np ad Q.2.2.2.1 Q.2.2.2.2.1 (vp_updL Q.2.2.2.2.2 i x) 32
  rw [ap_set (k := 5) rfl, np_setH hi]
end QW

def E_r_prestart (J : Nat) (g : Nat → Int32) (Q : QS)  (Q' : QS) (r : Int32) : Prop := Q' = (rl (rf (rf (rc Q 1) 12 0) 13 0) 14 0) ∧ r = 0
set_option maxHeartbeats 4000000 in
set_option maxRecDepth 100000 in
theorem e_r_prestart (l : Launch) (G : PG) (h : Nat) (q ad : Nat → Nat) (J : Nat) (g : Nat → Int32) (hO : gOK J g) (Q : QS)  (Q' : QS) (r : Int32) (hE : E_r_prestart J g Q Q' r) : Cv l yX1_restart (Cond.code yX1_restart cX1_restart 1 none :: aW) { frames := 0, cells := 0, slots := 0, locals := 0 } G (qW G h q ad J g Q) [.ref (q 1)] (fun (_ : Unit) => True) (fun (_ : Unit) => qW G h q ad J g Q') 0 0 := by
  refine ofB (y := yX1_restart) (G := G) (cc := cX1_restart) (maxL := 1) (ret := none) (Qc := fun A => va_Qv (fun (_ : Unit) => True) (oB G A (fun (_ : Unit) => qW G h q ad J g Q')) A) (by decide) rfl ?_
  intro p e s m below meth c A F hK hA hP hD
  have hS : va_S A s.heap s.heap [] := va_S.rf
  have hx := F.1.1; have hb := F.1.2.1; have hml := F.1.2.2.1; have hts := F.1.2.2.2.2
  have hown : s.vm.findClass RX1 = some m.cls := F.1.2.2.2.1
  have hl := lv_entry ([.ref (q 1)]) (n := 1) (Nat.le_of_ble_eq_true rfl)
  rw [lg_entry_eq]
  generalize (lg_sl ([.ref (q 1)]) ++ List.replicate (1 - (lg_sl ([.ref (q 1)])).length) Slot.unset).toArray = ls at hl ⊢
  have hl : lv_has ls 1 [(0, .ref (q 1))] := hl
  unfold E_r_prestart at hE
  refine lv_aload_n hx hb dX1_restart_0 rfl (lv_at hl 0 rfl) ?_
  refine lv_iconst (v := 1) hx hb dX1_restart_1 (by decide) ?_
  refine va_put (D := G.1) (ci := 1) (v := .int 1) (ty := .int) (C := RX1) (T := TX1) (N := 5) hx hb hts inX1 tyX1 tyX1_ok nmX1 hown hK.1 hP hD hS 3 qW_3 rfl 1 (by decide) (hts _ w_118) (fun _ h9 => h9) rfl (by decide +kernel) rfl rfl pF_l1 dX1_restart_2 (fun H locs hP hD hS => ?_)
  rw [qW_c1] at hP hD
  refine lv_aload_n hx hb dX1_restart_5 rfl (lv_at hl 0 rfl) ?_
  refine lv_iconst (v := 0) hx hb dX1_restart_6 (by decide) ?_
  refine va_put (D := G.1) (ci := 1) (v := .int 0) (ty := .int) (C := RX1) (T := TX1) (N := 5) hx hb hts inX1 tyX1 tyX1_ok nmX1 hown hK.1 hP hD hS 3 qW_3 rfl 2 (by decide) (hts _ w_119) (fun _ h9 => h9) rfl (by decide +kernel) rfl rfl pF_l2 dX1_restart_7 (fun H locs hP hD hS => ?_)
  rw [qW_p2] at hP hD
  refine lv_aload_n hx hb dX1_restart_10 rfl (lv_at hl 0 rfl) ?_
  refine lv_iconst (v := 0) hx hb dX1_restart_11 (by decide) ?_
  refine va_put (D := G.1) (ci := 1) (v := .int 0) (ty := .int) (C := RX1) (T := TX1) (N := 5) hx hb hts inX1 tyX1 tyX1_ok nmX1 hown hK.1 hP hD hS 3 qW_3 rfl 3 (by decide) (hts _ w_122) (fun _ h9 => h9) rfl (by decide +kernel) rfl rfl pF_l3 dX1_restart_12 (fun H locs hP hD hS => ?_)
  rw [qW_p3] at hP hD
  refine lv_aload_n hx hb dX1_restart_15 rfl (lv_at hl 0 rfl) ?_
  refine lv_lconst (v := 0) hx hb dX1_restart_16 (by decide) ?_
  refine va_put (D := G.1) (ci := 1) (v := .long 0) (ty := .long) (C := RX1) (T := TX1) (N := 5) hx hb hts inX1 tyX1 tyX1_ok nmX1 hown hK.1 hP hD hS 3 qW_3 rfl 4 (by decide) (hts _ w_125) (fun _ h9 => h9) rfl (by decide +kernel) rfl rfl pF_l4 dX1_restart_17 (fun H locs hP hD hS => ?_)
  rw [qW_p4] at hP hD
  obtain ⟨rfl, rfl⟩ := hE
  exact en_v F hS () trivial hP hD (Nat.le_refl _) (Nat.le_refl _) dX1_restart_20


def E_r_padd (J : Nat) (g : Nat → Int32) (Q : QS) (a1 : Int32) (Q' : QS) (r : Int32) : Prop := if (nI Q.2.2.1) < 32 then (vp_in (nI Q.2.2.1) 32 ∧ (Q' = (rc (rn (rn (rn Q ((nI Q.2.2.1).toNatClampNeg) 1 a1) ((nI Q.2.2.1).toNatClampNeg) 2 0) ((nI Q.2.2.1).toNatClampNeg) 3 0) (Q.2.2.1 + 1)) ∧ r = ((rc (rn (rn (rn Q ((nI Q.2.2.1).toNatClampNeg) 1 a1) ((nI Q.2.2.1).toNatClampNeg) 2 0) ((nI Q.2.2.1).toNatClampNeg) 3 0) (Q.2.2.1 + 1)).2.2.2.1 ((nI Q.2.2.1).toNatClampNeg) 0))) else (Q' = Q ∧ r = 0)
set_option maxHeartbeats 4000000 in
set_option maxRecDepth 100000 in
theorem e_r_padd (l : Launch) (G : PG) (h : Nat) (q ad : Nat → Nat) (J : Nat) (g : Nat → Int32) (hO : gOK J g) (Q : QS) (a1 : Int32) (Q' : QS) (r : Int32) (hE : E_r_padd J g Q a1 Q' r) : Ci l yX1_add (Cond.code yX1_add cX1_add 3 (some .int) :: aW) { frames := 0, cells := 0, slots := 0, locals := 0 } G (qW G h q ad J g Q) [.ref (q 1), .int a1] (fun (r9 : Int32) (_ : Unit) => r9 = r) (fun (_ : Unit) => qW G h q ad J g Q') 0 0 := by
  refine ofB (y := yX1_add) (G := G) (cc := cX1_add) (maxL := 3) (ret := (some .int)) (Qc := fun A => va_Qi (fun (r9 : Int32) (_ : Unit) => r9 = r) (oB G A (fun (_ : Unit) => qW G h q ad J g Q')) A) (by decide) rfl ?_
  intro p e s m below meth c A F hK hA hP hD
  have hS : va_S A s.heap s.heap [] := va_S.rf
  have hx := F.1.1; have hb := F.1.2.1; have hml := F.1.2.2.1; have hts := F.1.2.2.2.2
  have hown : s.vm.findClass RX1 = some m.cls := F.1.2.2.2.1
  have hl := lv_entry ([.ref (q 1), .int a1]) (n := 3) (Nat.le_of_ble_eq_true rfl)
  rw [lg_entry_eq]
  generalize (lg_sl ([.ref (q 1), .int a1]) ++ List.replicate (3 - (lg_sl ([.ref (q 1), .int a1])).length) Slot.unset).toArray = ls at hl ⊢
  have hl : lv_has ls 3 [(0, .ref (q 1)), (1, .int a1)] := hl
  unfold E_r_padd at hE
  refine lv_aload_n hx hb dX1_add_0 rfl (lv_at hl 0 rfl) ?_
  refine va_get (D := G.1) (ci := 1) (C := RX1) (T := TX1) (N := 5) hx hb hts inX1 hown hK.1 hP 3 qW_3 rfl 1 (by decide) (hts _ w_118) (fun _ h9 => h9) pF_1 dX1_add_1 ?_
  refine lv_aload_n hx hb dX1_add_4 rfl (lv_at hl 0 rfl) ?_
  refine va_get (D := G.1) (ci := 1) (C := RX1) (T := TX1) (N := 5) hx hb hts inX1 hown hK.1 hP 3 qW_3 rfl 0 (by decide) (hts _ w_117) (fun _ h9 => h9) pF_0 dX1_add_5 ?_
  refine va_alen (D := G.1) (v := 32) hx hb hK.1 hP 4 4 qW_4 rfl rfl dX1_add_8 ?_
  refine lv_icmp_lt (tgt := 14) hx hb dX1_add_9 (by decide) (fun h1 => ?_) (fun h1 => ?_)
  ·
    rw [if_pos h1] at hE
    refine lv_aload_n hx hb dX1_add_14 rfl (lv_at hl 0 rfl) ?_
    refine va_get (D := G.1) (ci := 1) (C := RX1) (T := TX1) (N := 5) hx hb hts inX1 hown hK.1 hP 3 qW_3 rfl 0 (by decide) (hts _ w_117) (fun _ h9 => h9) pF_0 dX1_add_15 ?_
    refine lv_aload_n hx hb dX1_add_18 rfl (lv_at hl 0 rfl) ?_
    refine va_get (D := G.1) (ci := 1) (C := RX1) (T := TX1) (N := 5) hx hb hts inX1 hown hK.1 hP 3 qW_3 rfl 1 (by decide) (hts _ w_118) (fun _ h9 => h9) pF_1 dX1_add_19 ?_
    obtain ⟨hc2, hE⟩ := hE
    refine va_aldq (D := G.1) hx hb hK.1 hP 4 4 qW_4 rfl hc2 dX1_add_22 ?_
    refine tp_v (.ref (ad (nI Q.2.2.1).toNatClampNeg)) (by rw [nf_at (vp_lt hc2)]; rfl) ?_
    refine lv_astore_n hx hb dX1_add_23 rfl hl (by decide) rfl (fun ls hl => ?_)
    have hl : lv_has ls 3 [(2, .ref (ad (nI Q.2.2.1).toNatClampNeg)), (0, .ref (q 1)), (1, .int a1)] := hl
    refine lv_aload_n hx hb dX1_add_24 rfl (lv_at hl 0 rfl) ?_
    refine lv_iload_n hx hb dX1_add_25 rfl (lv_at hl 2 rfl) ?_
    refine va_putN (D := G.1) (ci := 0) (v := .int a1) (ty := .int) (C := RX0) (T := TX0) (N := 13) hx hb hts inX0 tyX0 tyX0_ok nmX0 hown hK.1 hP hD hS (5 + ((nI Q.2.2.1).toNatClampNeg)) (qW_nd (vp_lt hc2)) rfl 1 (by decide) (hK.2.1.use w_64) (fun _ h9 => h9) rfl (by decide +kernel) rfl rfl (Nat.le_of_ble_eq_true rfl) dX1_add_26 (fun H locs hP hD hS => ?_)
    rw [qW_n1 (vp_lt hc2)] at hP hD
    refine lv_aload_n hx hb dX1_add_29 rfl (lv_at hl 0 rfl) ?_
    refine lv_iconst (v := 0) hx hb dX1_add_30 (by decide) ?_
    refine va_putN (D := G.1) (ci := 0) (v := .int 0) (ty := .int) (C := RX0) (T := TX0) (N := 13) hx hb hts inX0 tyX0 tyX0_ok nmX0 hown hK.1 hP hD hS (5 + ((nI Q.2.2.1).toNatClampNeg)) (qW_nd (vp_lt hc2)) rfl 2 (by decide) (hK.2.1.use w_66) (fun _ h9 => h9) rfl (by decide +kernel) rfl rfl (Nat.le_of_ble_eq_true rfl) dX1_add_31 (fun H locs hP hD hS => ?_)
    rw [qW_n2 (vp_lt hc2)] at hP hD
    refine lv_aload_n hx hb dX1_add_34 rfl (lv_at hl 0 rfl) ?_
    refine lv_iconst (v := 0) hx hb dX1_add_35 (by decide) ?_
    refine va_putN (D := G.1) (ci := 0) (v := .int 0) (ty := .int) (C := RX0) (T := TX0) (N := 13) hx hb hts inX0 tyX0 tyX0_ok nmX0 hown hK.1 hP hD hS (5 + ((nI Q.2.2.1).toNatClampNeg)) (qW_nd (vp_lt hc2)) rfl 3 (by decide) (hK.2.1.use w_69) (fun _ h9 => h9) rfl (by decide +kernel) rfl rfl (Nat.le_of_ble_eq_true rfl) dX1_add_36 (fun H locs hP hD hS => ?_)
    rw [qW_n3 (vp_lt hc2)] at hP hD
    refine lv_aload_n hx hb dX1_add_39 rfl (lv_at hl 1 rfl) ?_
    refine lv_dup hx hb dX1_add_40 rfl ?_
    refine va_get (D := G.1) (ci := 1) (C := RX1) (T := TX1) (N := 5) hx hb hts inX1 hown hK.1 hP 3 qW_3 rfl 1 (by decide) (hts _ w_118) (fun _ h9 => h9) pF_1 dX1_add_41 ?_
    refine tp_i (nI Q.2.2.1) rfl ?_
    refine lv_iconst (v := 1) hx hb dX1_add_44 (by decide) ?_
    refine lv_iadd hx hb dX1_add_45 ?_
    refine va_put (D := G.1) (ci := 1) (v := .int ((nI Q.2.2.1) + 1)) (ty := .int) (C := RX1) (T := TX1) (N := 5) hx hb hts inX1 tyX1 tyX1_ok nmX1 hown hK.1 hP hD hS 3 qW_3 rfl 1 (by decide) (hts _ w_118) (fun _ h9 => h9) rfl (by decide +kernel) rfl rfl pF_l1 dX1_add_46 (fun H locs hP hD hS => ?_)
    rw [qW_cs] at hP hD
    refine lv_aload_n hx hb dX1_add_49 rfl (lv_at hl 0 rfl) ?_
    refine va_getN (D := G.1) (ci := 0) (v := .int ((rc (rn (rn (rn Q ((nI Q.2.2.1).toNatClampNeg) 1 a1) ((nI Q.2.2.1).toNatClampNeg) 2 0) ((nI Q.2.2.1).toNatClampNeg) 3 0) (Q.2.2.1 + 1)).2.2.2.1 ((nI Q.2.2.1).toNatClampNeg) 0)) (C := RX0) (T := TX0) (N := 13) hx hb hts inX0 hown hK.1 hP (5 + ((nI Q.2.2.1).toNatClampNeg)) (qW_nd (vp_lt hc2)) rfl 0 (by decide) (hK.2.1.use w_62) (fun _ h9 => h9) rfl dX1_add_50 ?_
    obtain ⟨rfl, rfl⟩ := hE
    exact en_i F hS _ () (by rfl) rfl hP hD (Nat.le_refl _) (Nat.le_refl _) dX1_add_53
  ·
    rw [if_neg h1] at hE
    refine lv_iconst (v := 0) hx hb dX1_add_12 (by decide) ?_
    obtain ⟨rfl, rfl⟩ := hE
    exact en_i F hS _ () (by rfl) rfl hP hD (Nat.le_refl _) (Nat.le_refl _) dX1_add_13

theorem dX2_add_13 : decode cX2_add 13 = .ok (.aload_n 0, 1) := by decide +kernel
theorem dX2_add_14 : decode cX2_add 14 = .ok (.iconst 1, 1) := by decide +kernel
theorem dX2_add_15 : decode cX2_add 15 = .ok (.putfield 36, 3) := by decide +kernel
def E_r_add (J : Nat) (g : Nat → Int32) (Q : QS) (a1 : Int32) (Q' : QS) (r : Int32) : Prop := ∃ (Q1 : QS) (r2 : Int32), E_r_padd J g Q a1 Q1 r2 ∧ (if r2 = 0 then (Q' = (rf Q1 3 1) ∧ r = r2) else (Q' = Q1 ∧ r = r2))
set_option maxHeartbeats 4000000 in
set_option maxRecDepth 100000 in
theorem e_r_add (l : Launch) (G : PG) (h : Nat) (q ad : Nat → Nat) (J : Nat) (g : Nat → Int32) (hO : gOK J g) (Q : QS) (a1 : Int32) (Q' : QS) (r : Int32) (hE : E_r_add J g Q a1 Q' r) : Ci l yX2_add (Cond.code yX2_add cX2_add 3 (some .int) :: aW) { frames := 1, cells := 0, slots := 0, locals := 22 } G (qW G h q ad J g Q) [.ref h, .int a1] (fun (r9 : Int32) (_ : Unit) => r9 = r) (fun (_ : Unit) => qW G h q ad J g Q') 0 0 := by
  refine ofB (y := yX2_add) (G := G) (cc := cX2_add) (maxL := 3) (ret := (some .int)) (Qc := fun A => va_Qi (fun (r9 : Int32) (_ : Unit) => r9 = r) (oB G A (fun (_ : Unit) => qW G h q ad J g Q')) A) (by decide) rfl ?_
  intro p e s m below meth c A F hK hA hP hD
  have hS : va_S A s.heap s.heap [] := va_S.rf
  have hx := F.1.1; have hb := F.1.2.1; have hml := F.1.2.2.1; have hts := F.1.2.2.2.2
  have hown : s.vm.findClass RX2 = some m.cls := F.1.2.2.2.1
  have hl := lv_entry ([.ref h, .int a1]) (n := 3) (Nat.le_of_ble_eq_true rfl)
  rw [lg_entry_eq]
  generalize (lg_sl ([.ref h, .int a1]) ++ List.replicate (3 - (lg_sl ([.ref h, .int a1])).length) Slot.unset).toArray = ls at hl ⊢
  have hl : lv_has ls 3 [(0, .ref h), (1, .int a1)] := hl
  unfold E_r_add at hE
  refine lv_aload_n hx hb dX2_add_0 rfl (lv_at hl 0 rfl) ?_
  refine va_get (D := G.1) (ci := 2) (C := RX2) (T := TX2) (N := 10) hx hb hts inX2 hown hK.1 hP 0 qW_0 rfl 1 (by decide) (hts _ w_276) (fun _ h9 => h9) rF_1 dX2_add_1 ?_
  refine lv_iload_n hx hb dX2_add_4 rfl (lv_at hl 1 rfl) ?_
  obtain ⟨Q1, r2, hg, hE⟩ := hE
  refine kA_i (va_runV (As := [.int a1]) (rest := []) F.1 (e_r_padd l G h q ad J g hO Q a1 Q1 r2 hg _) (cwV 1 hts (aw_V w_318 w_319 w_320 w_4 w_321) rfl rfl rfl (by decide +kernel) ⟨by decide, by decide⟩) ⟨cS_blind, va_recv (q := (RX1, TX1, 5)) (ci := 1) (q0 := 3) hK.1 hP rfl qW_3, cS_pre hP hD hK⟩ rfl rfl hl.1 rfl (lv_room (Nat.le_of_ble_eq_true rfl)) dX2_add_5 ⟨Nat.le_refl _, Nat.le_refl _⟩) hD hS hA (fun r9 u0 H locs hp hP hD hS => ?_)
  have hp := hp.symm; subst hp
  refine lv_istore_n hx hb dX2_add_8 rfl hl (by decide) rfl (fun ls hl => ?_)
  have hl : lv_has ls 3 [(2, .int r2), (0, .ref h), (1, .int a1)] := hl
  refine lv_iload_n hx hb dX2_add_9 rfl (lv_at hl 0 rfl) ?_
  refine lv_if_ne (tgt := 18) hx hb dX2_add_10 (by decide) (fun h3 => ?_) (fun h3 => ?_)
  ·
    rw [if_neg h3] at hE
    refine lv_iload_n hx hb dX2_add_18 rfl (lv_at hl 0 rfl) ?_
    obtain ⟨rfl, rfl⟩ := hE
    exact en_i F hS _ () (by rfl) rfl hP hD (Nat.le_refl _) (Nat.le_refl _) dX2_add_19
  ·
    rw [if_pos h3] at hE
    refine lv_aload_n hx hb dX2_add_13 rfl (lv_at hl 1 rfl) ?_
    refine lv_iconst (v := 1) hx hb dX2_add_14 (by decide) ?_
    refine va_put (D := G.1) (ci := 2) (v := .int 1) (ty := .boolean) (C := RX2) (T := TX2) (N := 10) hx hb hts inX2 tyX2 tyX2_ok nmX2 hown hK.1 hP hD hS 0 qW_0 rfl 3 (by decide) (hts _ w_278) (fun _ h9 => h9) rfl (by decide +kernel) rfl rfl rF_l3 dX2_add_15 (fun H locs hP hD hS => ?_)
    rw [qW_f3] at hP hD
    refine lv_iload_n hx hb dX2_add_18 rfl (lv_at hl 0 rfl) ?_
    obtain ⟨rfl, rfl⟩ := hE
    exact en_i F hS _ () (by rfl) rfl hP hD (Nat.le_refl _) (Nat.le_refl _) dX2_add_19

theorem dX2_refuse_0 : decode cX2_refuse 0 = .ok (.aload_n 0, 1) := by decide +kernel
theorem dX2_refuse_1 : decode cX2_refuse 1 = .ok (.iconst 1, 1) := by decide +kernel
theorem dX2_refuse_2 : decode cX2_refuse 2 = .ok (.putfield 36, 3) := by decide +kernel
theorem dX2_refuse_5 : decode cX2_refuse 5 = .ok (.aload_n 0, 1) := by decide +kernel
theorem dX2_refuse_6 : decode cX2_refuse 6 = .ok (.iconst 0, 1) := by decide +kernel
theorem dX2_refuse_7 : decode cX2_refuse 7 = .ok (.putfield 74, 3) := by decide +kernel
theorem dX2_refuse_10 : decode cX2_refuse 10 = .ok (.iconst 0, 1) := by decide +kernel
theorem dX2_refuse_11 : decode cX2_refuse 11 = .ok (.ireturn, 1) := by decide +kernel
def E_r_refuse (J : Nat) (g : Nat → Int32) (Q : QS)  (Q' : QS) (r : Int32) : Prop := Q' = (rf (rf Q 3 1) 5 0) ∧ r = 0
set_option maxHeartbeats 4000000 in
set_option maxRecDepth 100000 in
theorem e_r_refuse (l : Launch) (G : PG) (h : Nat) (q ad : Nat → Nat) (J : Nat) (g : Nat → Int32) (hO : gOK J g) (Q : QS)  (Q' : QS) (r : Int32) (hE : E_r_refuse J g Q Q' r) : Ci l yX2_refuse (Cond.code yX2_refuse cX2_refuse 1 (some .int) :: aW) { frames := 0, cells := 0, slots := 0, locals := 0 } G (qW G h q ad J g Q) [.ref h] (fun (r9 : Int32) (_ : Unit) => r9 = r) (fun (_ : Unit) => qW G h q ad J g Q') 0 0 := by
  refine ofB (y := yX2_refuse) (G := G) (cc := cX2_refuse) (maxL := 1) (ret := (some .int)) (Qc := fun A => va_Qi (fun (r9 : Int32) (_ : Unit) => r9 = r) (oB G A (fun (_ : Unit) => qW G h q ad J g Q')) A) (by decide) rfl ?_
  intro p e s m below meth c A F hK hA hP hD
  have hS : va_S A s.heap s.heap [] := va_S.rf
  have hx := F.1.1; have hb := F.1.2.1; have hml := F.1.2.2.1; have hts := F.1.2.2.2.2
  have hown : s.vm.findClass RX2 = some m.cls := F.1.2.2.2.1
  have hl := lv_entry ([.ref h]) (n := 1) (Nat.le_of_ble_eq_true rfl)
  rw [lg_entry_eq]
  generalize (lg_sl ([.ref h]) ++ List.replicate (1 - (lg_sl ([.ref h])).length) Slot.unset).toArray = ls at hl ⊢
  have hl : lv_has ls 1 [(0, .ref h)] := hl
  unfold E_r_refuse at hE
  refine lv_aload_n hx hb dX2_refuse_0 rfl (lv_at hl 0 rfl) ?_
  refine lv_iconst (v := 1) hx hb dX2_refuse_1 (by decide) ?_
  refine va_put (D := G.1) (ci := 2) (v := .int 1) (ty := .boolean) (C := RX2) (T := TX2) (N := 10) hx hb hts inX2 tyX2 tyX2_ok nmX2 hown hK.1 hP hD hS 0 qW_0 rfl 3 (by decide) (hts _ w_278) (fun _ h9 => h9) rfl (by decide +kernel) rfl rfl rF_l3 dX2_refuse_2 (fun H locs hP hD hS => ?_)
  rw [qW_f3] at hP hD
  refine lv_aload_n hx hb dX2_refuse_5 rfl (lv_at hl 0 rfl) ?_
  refine lv_iconst (v := 0) hx hb dX2_refuse_6 (by decide) ?_
  refine va_put (D := G.1) (ci := 2) (v := .int 0) (ty := .int) (C := RX2) (T := TX2) (N := 10) hx hb hts inX2 tyX2 tyX2_ok nmX2 hown hK.1 hP hD hS 0 qW_0 rfl 5 (by decide) (hts _ w_280) (fun _ h9 => h9) rfl (by decide +kernel) rfl rfl rF_l5 dX2_refuse_7 (fun H locs hP hD hS => ?_)
  rw [qW_f5] at hP hD
  refine lv_iconst (v := 0) hx hb dX2_refuse_10 (by decide) ?_
  obtain ⟨rfl, rfl⟩ := hE
  exact en_i F hS _ () (by rfl) rfl hP hD (Nat.le_refl _) (Nat.le_refl _) dX2_refuse_11

theorem dX2_take_0 : decode cX2_take 0 = .ok (.aload_n 0, 1) := by decide +kernel
theorem dX2_take_1 : decode cX2_take 1 = .ok (.getfield 9, 3) := by decide +kernel
theorem dX2_take_4 : decode cX2_take 4 = .ok (.aload_n 0, 1) := by decide +kernel
theorem dX2_take_5 : decode cX2_take 5 = .ok (.getfield 40, 3) := by decide +kernel
theorem dX2_take_8 : decode cX2_take 8 = .ok (.invokevirtual 52, 3) := by decide +kernel
theorem dX2_take_11 : decode cX2_take 11 = .ok (.iload_n 1, 1) := by decide +kernel
theorem dX2_take_12 : decode cX2_take 12 = .ok (.if_icmp .ne 7, 3) := by decide +kernel
theorem dX2_take_15 : decode cX2_take 15 = .ok (.iconst 1, 1) := by decide +kernel
theorem dX2_take_16 : decode cX2_take 16 = .ok (.goto 4, 3) := by decide +kernel
theorem dX2_take_19 : decode cX2_take 19 = .ok (.iconst 0, 1) := by decide +kernel
theorem dX2_take_20 : decode cX2_take 20 = .ok (.istore_n 2, 1) := by decide +kernel
theorem dX2_take_21 : decode cX2_take 21 = .ok (.aload_n 0, 1) := by decide +kernel
theorem dX2_take_22 : decode cX2_take 22 = .ok (.dup, 1) := by decide +kernel
theorem dX2_take_23 : decode cX2_take 23 = .ok (.getfield 40, 3) := by decide +kernel
theorem dX2_take_26 : decode cX2_take 26 = .ok (.iload_n 2, 1) := by decide +kernel
theorem dX2_take_27 : decode cX2_take 27 = .ok (.ifCond .eq 7, 3) := by decide +kernel
theorem dX2_take_30 : decode cX2_take 30 = .ok (.iconst 1, 1) := by decide +kernel
theorem dX2_take_31 : decode cX2_take 31 = .ok (.goto 4, 3) := by decide +kernel
theorem dX2_take_34 : decode cX2_take 34 = .ok (.iconst 0, 1) := by decide +kernel
theorem dX2_take_35 : decode cX2_take 35 = .ok (.iadd, 1) := by decide +kernel
theorem dX2_take_36 : decode cX2_take 36 = .ok (.putfield 40, 3) := by decide +kernel
theorem dX2_take_39 : decode cX2_take 39 = .ok (.iload_n 2, 1) := by decide +kernel
theorem dX2_take_40 : decode cX2_take 40 = .ok (.ireturn, 1) := by decide +kernel
def E_r_take (J : Nat) (g : Nat → Int32) (Q : QS) (a1 : Int32) (Q' : QS) (r : Int32) : Prop := if (rw_at J g (Q.1 2)) = a1 then (Q' = (rf Q 2 ((Q.1 2) + 1)) ∧ r = 1) else (Q' = (rf Q 2 ((Q.1 2) + 0)) ∧ r = 0)
set_option maxHeartbeats 4000000 in
set_option maxRecDepth 100000 in
theorem e_r_take (l : Launch) (G : PG) (h : Nat) (q ad : Nat → Nat) (J : Nat) (g : Nat → Int32) (hO : gOK J g) (Q : QS) (a1 : Int32) (Q' : QS) (r : Int32) (hE : E_r_take J g Q a1 Q' r) : Ci l yX2_take (Cond.code yX2_take cX2_take 3 (some .boolean) :: aW) { frames := 1, cells := 0, slots := 0, locals := 21 } G (qW G h q ad J g Q) [.ref h, .int a1] (fun (r9 : Int32) (_ : Unit) => r9 = r) (fun (_ : Unit) => qW G h q ad J g Q') 0 0 := by
  refine ofB (y := yX2_take) (G := G) (cc := cX2_take) (maxL := 3) (ret := (some .boolean)) (Qc := fun A => va_Qi (fun (r9 : Int32) (_ : Unit) => r9 = r) (oB G A (fun (_ : Unit) => qW G h q ad J g Q')) A) (by decide) rfl ?_
  intro p e s m below meth c A F hK hA hP hD
  have hS : va_S A s.heap s.heap [] := va_S.rf
  have hx := F.1.1; have hb := F.1.2.1; have hml := F.1.2.2.1; have hts := F.1.2.2.2.2
  have hown : s.vm.findClass RX2 = some m.cls := F.1.2.2.2.1
  have hl := lv_entry ([.ref h, .int a1]) (n := 3) (Nat.le_of_ble_eq_true rfl)
  rw [lg_entry_eq]
  generalize (lg_sl ([.ref h, .int a1]) ++ List.replicate (3 - (lg_sl ([.ref h, .int a1])).length) Slot.unset).toArray = ls at hl ⊢
  have hl : lv_has ls 3 [(0, .ref h), (1, .int a1)] := hl
  unfold E_r_take at hE
  refine lv_aload_n hx hb dX2_take_0 rfl (lv_at hl 0 rfl) ?_
  refine va_get (D := G.1) (ci := 2) (C := RX2) (T := TX2) (N := 10) hx hb hts inX2 hown hK.1 hP 0 qW_0 rfl 0 (by decide) (hts _ w_275) (fun _ h9 => h9) rF_0 dX2_take_1 ?_
  refine lv_aload_n hx hb dX2_take_4 rfl (lv_at hl 0 rfl) ?_
  refine va_get (D := G.1) (ci := 2) (C := RX2) (T := TX2) (N := 10) hx hb hts inX2 hown hK.1 hP 0 qW_0 rfl 2 (by decide) (hts _ w_277) (fun _ h9 => h9) rF_2 dX2_take_5 ?_
  refine kp_V (va_runV (As := [.int (Q.1 2)]) (rest := []) F.1 (v_row_at l G _ _ _ J g (Q.1 2) hO.1 (by decide) hO.2 _) (cwV 1 hts (aw_V w_335 w_336 w_337 w_3 w_338) rfl rfl rfl (by decide +kernel) ⟨by decide, by decide⟩) ⟨cS_blind, va_recv (q := (RX3, TX3, 2)) (ci := 3) (q0 := 0) hK.1 (qP_row hP) rfl rfl, cS_pre (qP_row hP) (qD_row hD) hK⟩ rfl rfl hl.1 rfl (lv_room (Nat.le_of_ble_eq_true rfl)) dX2_take_8 ⟨Nat.le_refl _, Nat.le_refl _⟩) (fun v9 hp => ?_)
  subst hp
  refine lv_iload_n hx hb dX2_take_11 rfl (lv_at hl 1 rfl) ?_
  refine lv_icmp_ne (tgt := 19) hx hb dX2_take_12 (by decide) (fun h1 => ?_) (fun h1 => ?_)
  ·
    rw [if_neg h1] at hE
    refine lv_iconst (v := 0) hx hb dX2_take_19 (by decide) ?_
    refine lv_istore_n hx hb dX2_take_20 rfl hl (by decide) rfl (fun ls hl => ?_)
    have hl : lv_has ls 3 [(2, .int 0), (0, .ref h), (1, .int a1)] := hl
    refine lv_aload_n hx hb dX2_take_21 rfl (lv_at hl 1 rfl) ?_
    refine lv_dup hx hb dX2_take_22 rfl ?_
    refine va_get (D := G.1) (ci := 2) (C := RX2) (T := TX2) (N := 10) hx hb hts inX2 hown hK.1 hP 0 qW_0 rfl 2 (by decide) (hts _ w_277) (fun _ h9 => h9) rF_2 dX2_take_23 ?_
    refine lv_iload_n hx hb dX2_take_26 rfl (lv_at hl 0 rfl) ?_
    refine lv_if_eq (tgt := 34) hx hb dX2_take_27 (by decide) (fun _ => ?_) (fun h => absurd (by decide) h)
    refine lv_iconst (v := 0) hx hb dX2_take_34 (by decide) ?_
    refine lv_iadd hx hb dX2_take_35 ?_
    refine va_put (D := G.1) (ci := 2) (v := .int ((Q.1 2) + 0)) (ty := .int) (C := RX2) (T := TX2) (N := 10) hx hb hts inX2 tyX2 tyX2_ok nmX2 hown hK.1 hP hD hS 0 qW_0 rfl 2 (by decide) (hts _ w_277) (fun _ h9 => h9) rfl (by decide +kernel) rfl rfl rF_l2 dX2_take_36 (fun H locs hP hD hS => ?_)
    rw [qW_f2] at hP hD
    refine lv_iload_n hx hb dX2_take_39 rfl (lv_at hl 0 rfl) ?_
    obtain ⟨rfl, rfl⟩ := hE
    exact en_i F hS _ () (by rfl) rfl hP hD (Nat.le_refl _) (Nat.le_refl _) dX2_take_40
  ·
    rw [if_pos h1] at hE
    refine lv_iconst (v := 1) hx hb dX2_take_15 (by decide) ?_
    refine lv_goto (tgt := 20) hx hb dX2_take_16 (by decide) ?_
    refine lv_istore_n hx hb dX2_take_20 rfl hl (by decide) rfl (fun ls hl => ?_)
    have hl : lv_has ls 3 [(2, .int 1), (0, .ref h), (1, .int a1)] := hl
    refine lv_aload_n hx hb dX2_take_21 rfl (lv_at hl 1 rfl) ?_
    refine lv_dup hx hb dX2_take_22 rfl ?_
    refine va_get (D := G.1) (ci := 2) (C := RX2) (T := TX2) (N := 10) hx hb hts inX2 hown hK.1 hP 0 qW_0 rfl 2 (by decide) (hts _ w_277) (fun _ h9 => h9) rF_2 dX2_take_23 ?_
    refine lv_iload_n hx hb dX2_take_26 rfl (lv_at hl 0 rfl) ?_
    refine lv_if_eq (tgt := 34) hx hb dX2_take_27 (by decide) (fun h => absurd h (by decide)) (fun _ => ?_)
    refine lv_iconst (v := 1) hx hb dX2_take_30 (by decide) ?_
    refine lv_goto (tgt := 35) hx hb dX2_take_31 (by decide) ?_
    refine lv_iadd hx hb dX2_take_35 ?_
    refine va_put (D := G.1) (ci := 2) (v := .int ((Q.1 2) + 1)) (ty := .int) (C := RX2) (T := TX2) (N := 10) hx hb hts inX2 tyX2 tyX2_ok nmX2 hown hK.1 hP hD hS 0 qW_0 rfl 2 (by decide) (hts _ w_277) (fun _ h9 => h9) rfl (by decide +kernel) rfl rfl rF_l2 dX2_take_36 (fun H locs hP hD hS => ?_)
    rw [qW_f2] at hP hD
    refine lv_iload_n hx hb dX2_take_39 rfl (lv_at hl 0 rfl) ?_
    obtain ⟨rfl, rfl⟩ := hE
    exact en_i F hS _ () (by rfl) rfl hP hD (Nat.le_refl _) (Nat.le_refl _) dX2_take_40

theorem dX2_expect_0 : decode cX2_expect 0 = .ok (.aload_n 0, 1) := by decide +kernel
theorem dX2_expect_1 : decode cX2_expect 1 = .ok (.iload_n 1, 1) := by decide +kernel
theorem dX2_expect_2 : decode cX2_expect 2 = .ok (.invokevirtual 94, 3) := by decide +kernel
theorem dX2_expect_5 : decode cX2_expect 5 = .ok (.ifCond .ne 8, 3) := by decide +kernel
theorem dX2_expect_8 : decode cX2_expect 8 = .ok (.aload_n 0, 1) := by decide +kernel
theorem dX2_expect_9 : decode cX2_expect 9 = .ok (.iconst 1, 1) := by decide +kernel
theorem dX2_expect_10 : decode cX2_expect 10 = .ok (.putfield 36, 3) := by decide +kernel
theorem dX2_expect_13 : decode cX2_expect 13 = .ok (.return_, 1) := by decide +kernel
def E_r_expect (J : Nat) (g : Nat → Int32) (Q : QS) (a1 : Int32) (Q' : QS) (r : Int32) : Prop := ∃ (Q1 : QS) (r2 : Int32), E_r_take J g Q a1 Q1 r2 ∧ (if r2 = 0 then (Q' = (rf Q1 3 1) ∧ r = 0) else (Q' = Q1 ∧ r = 0))
set_option maxHeartbeats 4000000 in
set_option maxRecDepth 100000 in
theorem e_r_expect (l : Launch) (G : PG) (h : Nat) (q ad : Nat → Nat) (J : Nat) (g : Nat → Int32) (hO : gOK J g) (Q : QS) (a1 : Int32) (Q' : QS) (r : Int32) (hE : E_r_expect J g Q a1 Q' r) : Cv l yX2_expect (Cond.code yX2_expect cX2_expect 2 none :: aW) { frames := 2, cells := 0, slots := 0, locals := 43 } G (qW G h q ad J g Q) [.ref h, .int a1] (fun (_ : Unit) => True) (fun (_ : Unit) => qW G h q ad J g Q') 0 0 := by
  refine ofB (y := yX2_expect) (G := G) (cc := cX2_expect) (maxL := 2) (ret := none) (Qc := fun A => va_Qv (fun (_ : Unit) => True) (oB G A (fun (_ : Unit) => qW G h q ad J g Q')) A) (by decide) rfl ?_
  intro p e s m below meth c A F hK hA hP hD
  have hS : va_S A s.heap s.heap [] := va_S.rf
  have hx := F.1.1; have hb := F.1.2.1; have hml := F.1.2.2.1; have hts := F.1.2.2.2.2
  have hown : s.vm.findClass RX2 = some m.cls := F.1.2.2.2.1
  have hl := lv_entry ([.ref h, .int a1]) (n := 2) (Nat.le_of_ble_eq_true rfl)
  rw [lg_entry_eq]
  generalize (lg_sl ([.ref h, .int a1]) ++ List.replicate (2 - (lg_sl ([.ref h, .int a1])).length) Slot.unset).toArray = ls at hl ⊢
  have hl : lv_has ls 2 [(0, .ref h), (1, .int a1)] := hl
  unfold E_r_expect at hE
  refine lv_aload_n hx hb dX2_expect_0 rfl (lv_at hl 0 rfl) ?_
  refine lv_iload_n hx hb dX2_expect_1 rfl (lv_at hl 1 rfl) ?_
  obtain ⟨Q1, r2, hg, hE⟩ := hE
  refine kA_i (va_runV (As := [.int a1]) (rest := []) F.1 (e_r_take l G h q ad J g hO Q a1 Q1 r2 hg _) (cwV 1 hts (aw_V w_359 w_361 ws_X2_take w_7 w_362) rfl rfl rfl (by decide +kernel) ⟨by decide, by decide⟩) ⟨cS_blind, va_recv (q := (RX2, TX2, 10)) (ci := 2) (q0 := 0) hK.1 hP rfl qW_0, cS_pre hP hD hK⟩ rfl rfl hl.1 rfl (lv_room (Nat.le_of_ble_eq_true rfl)) dX2_expect_2 ⟨Nat.le_refl _, Nat.le_refl _⟩) hD hS hA (fun r9 u0 H locs hp hP hD hS => ?_)
  have hp := hp.symm; subst hp
  refine lv_if_ne (tgt := 13) hx hb dX2_expect_5 (by decide) (fun h3 => ?_) (fun h3 => ?_)
  ·
    rw [if_neg h3] at hE
    obtain ⟨rfl, rfl⟩ := hE
    exact en_v F hS () trivial hP hD (Nat.le_refl _) (Nat.le_refl _) dX2_expect_13
  ·
    rw [if_pos h3] at hE
    refine lv_aload_n hx hb dX2_expect_8 rfl (lv_at hl 0 rfl) ?_
    refine lv_iconst (v := 1) hx hb dX2_expect_9 (by decide) ?_
    refine va_put (D := G.1) (ci := 2) (v := .int 1) (ty := .boolean) (C := RX2) (T := TX2) (N := 10) hx hb hts inX2 tyX2 tyX2_ok nmX2 hown hK.1 hP hD hS 0 qW_0 rfl 3 (by decide) (hts _ w_278) (fun _ h9 => h9) rfl (by decide +kernel) rfl rfl rF_l3 dX2_expect_10 (fun H locs hP hD hS => ?_)
    rw [qW_f3] at hP hD
    obtain ⟨rfl, rfl⟩ := hE
    exact en_v F hS () trivial hP hD (Nat.le_refl _) (Nat.le_refl _) dX2_expect_13

theorem dX2_single_0 : decode cX2_single 0 = .ok (.aload_n 0, 1) := by decide +kernel
theorem dX2_single_1 : decode cX2_single 1 = .ok (.aload_n 0, 1) := by decide +kernel
theorem dX2_single_2 : decode cX2_single 2 = .ok (.iload_n 1, 1) := by decide +kernel
theorem dX2_single_3 : decode cX2_single 3 = .ok (.invokevirtual 24, 3) := by decide +kernel
theorem dX2_single_6 : decode cX2_single 6 = .ok (.putfield 74, 3) := by decide +kernel
theorem dX2_single_9 : decode cX2_single 9 = .ok (.aload_n 0, 1) := by decide +kernel
theorem dX2_single_10 : decode cX2_single 10 = .ok (.getfield 74, 3) := by decide +kernel
theorem dX2_single_13 : decode cX2_single 13 = .ok (.ireturn, 1) := by decide +kernel
def E_r_single (J : Nat) (g : Nat → Int32) (Q : QS) (a1 : Int32) (Q' : QS) (r : Int32) : Prop := ∃ (Q1 : QS) (r2 : Int32), E_r_add J g Q a1 Q1 r2 ∧ (Q' = (rf Q1 5 r2) ∧ r = r2)
set_option maxHeartbeats 4000000 in
set_option maxRecDepth 100000 in
theorem e_r_single (l : Launch) (G : PG) (h : Nat) (q ad : Nat → Nat) (J : Nat) (g : Nat → Int32) (hO : gOK J g) (Q : QS) (a1 : Int32) (Q' : QS) (r : Int32) (hE : E_r_single J g Q a1 Q' r) : Ci l yX2_single (Cond.code yX2_single cX2_single 2 (some .int) :: aW) { frames := 2, cells := 0, slots := 0, locals := 44 } G (qW G h q ad J g Q) [.ref h, .int a1] (fun (r9 : Int32) (_ : Unit) => r9 = r) (fun (_ : Unit) => qW G h q ad J g Q') 0 0 := by
  refine ofB (y := yX2_single) (G := G) (cc := cX2_single) (maxL := 2) (ret := (some .int)) (Qc := fun A => va_Qi (fun (r9 : Int32) (_ : Unit) => r9 = r) (oB G A (fun (_ : Unit) => qW G h q ad J g Q')) A) (by decide) rfl ?_
  intro p e s m below meth c A F hK hA hP hD
  have hS : va_S A s.heap s.heap [] := va_S.rf
  have hx := F.1.1; have hb := F.1.2.1; have hml := F.1.2.2.1; have hts := F.1.2.2.2.2
  have hown : s.vm.findClass RX2 = some m.cls := F.1.2.2.2.1
  have hl := lv_entry ([.ref h, .int a1]) (n := 2) (Nat.le_of_ble_eq_true rfl)
  rw [lg_entry_eq]
  generalize (lg_sl ([.ref h, .int a1]) ++ List.replicate (2 - (lg_sl ([.ref h, .int a1])).length) Slot.unset).toArray = ls at hl ⊢
  have hl : lv_has ls 2 [(0, .ref h), (1, .int a1)] := hl
  unfold E_r_single at hE
  refine lv_aload_n hx hb dX2_single_0 rfl (lv_at hl 0 rfl) ?_
  refine lv_aload_n hx hb dX2_single_1 rfl (lv_at hl 0 rfl) ?_
  refine lv_iload_n hx hb dX2_single_2 rfl (lv_at hl 1 rfl) ?_
  obtain ⟨Q1, r2, hg, hE⟩ := hE
  refine kA_i (va_runV (As := [.int a1]) (rest := [.ref h]) F.1 (e_r_add l G h q ad J g hO Q a1 Q1 r2 hg _) (cwV 1 hts (aw_V w_314 w_316 ws_X2_add w_7 w_317) rfl rfl rfl (by decide +kernel) ⟨by decide, by decide⟩) ⟨cS_blind, va_recv (q := (RX2, TX2, 10)) (ci := 2) (q0 := 0) hK.1 hP rfl qW_0, cS_pre hP hD hK⟩ rfl rfl hl.1 rfl (lv_room (Nat.le_of_ble_eq_true rfl)) dX2_single_3 ⟨Nat.le_refl _, Nat.le_refl _⟩) hD hS hA (fun r9 u0 H locs hp hP hD hS => ?_)
  have hp := hp.symm; subst hp
  refine va_put (D := G.1) (ci := 2) (v := .int r2) (ty := .int) (C := RX2) (T := TX2) (N := 10) hx hb hts inX2 tyX2 tyX2_ok nmX2 hown hK.1 hP hD hS 0 qW_0 rfl 5 (by decide) (hts _ w_280) (fun _ h9 => h9) rfl (by decide +kernel) rfl rfl rF_l5 dX2_single_6 (fun H locs hP hD hS => ?_)
  rw [qW_f5] at hP hD
  refine lv_aload_n hx hb dX2_single_9 rfl (lv_at hl 0 rfl) ?_
  refine va_get (D := G.1) (ci := 2) (C := RX2) (T := TX2) (N := 10) hx hb hts inX2 hown hK.1 hP 0 qW_0 rfl 5 (by decide) (hts _ w_280) (fun _ h9 => h9) rF_5 dX2_single_10 ?_
  refine tp_i r2 rfl ?_
  obtain ⟨rfl, rfl⟩ := hE
  exact en_i F hS _ () (by rfl) rfl hP hD (Nat.le_refl _) (Nat.le_refl _) dX2_single_13

theorem dX2_set_0 : decode cX2_set 0 = .ok (.aload_n 0, 1) := by decide +kernel
theorem dX2_set_1 : decode cX2_set 1 = .ok (.aload_n 0, 1) := by decide +kernel
theorem dX2_set_2 : decode cX2_set 2 = .ok (.iconst 2, 1) := by decide +kernel
theorem dX2_set_3 : decode cX2_set 3 = .ok (.invokevirtual 24, 3) := by decide +kernel
theorem dX2_set_6 : decode cX2_set 6 = .ok (.putfield 74, 3) := by decide +kernel
theorem dX2_set_9 : decode cX2_set 9 = .ok (.aload_n 0, 1) := by decide +kernel
theorem dX2_set_10 : decode cX2_set 10 = .ok (.getfield 15, 3) := by decide +kernel
theorem dX2_set_13 : decode cX2_set 13 = .ok (.aload_n 0, 1) := by decide +kernel
theorem dX2_set_14 : decode cX2_set 14 = .ok (.getfield 74, 3) := by decide +kernel
theorem dX2_set_17 : decode cX2_set 17 = .ok (.invokevirtual 55, 3) := by decide +kernel
theorem dX2_set_20 : decode cX2_set 20 = .ok (.lload_n 1, 1) := by decide +kernel
theorem dX2_set_21 : decode cX2_set 21 = .ok (.putfield 206, 3) := by decide +kernel
theorem dX2_set_24 : decode cX2_set 24 = .ok (.aload_n 0, 1) := by decide +kernel
theorem dX2_set_25 : decode cX2_set 25 = .ok (.getfield 15, 3) := by decide +kernel
theorem dX2_set_28 : decode cX2_set 28 = .ok (.aload_n 0, 1) := by decide +kernel
theorem dX2_set_29 : decode cX2_set 29 = .ok (.getfield 74, 3) := by decide +kernel
theorem dX2_set_32 : decode cX2_set 32 = .ok (.invokevirtual 55, 3) := by decide +kernel
theorem dX2_set_35 : decode cX2_set 35 = .ok (.lload_n 3, 1) := by decide +kernel
theorem dX2_set_36 : decode cX2_set 36 = .ok (.putfield 207, 3) := by decide +kernel
theorem dX2_set_39 : decode cX2_set 39 = .ok (.aload_n 0, 1) := by decide +kernel
theorem dX2_set_40 : decode cX2_set 40 = .ok (.getfield 74, 3) := by decide +kernel
theorem dX2_set_43 : decode cX2_set 43 = .ok (.ireturn, 1) := by decide +kernel
def E_r_set (J : Nat) (g : Nat → Int32) (Q : QS) (a1 : Int64) (a2 : Int64) (Q' : QS) (r : Int32) : Prop := ∃ (Q1 : QS) (r2 : Int32), E_r_add J g Q 2 Q1 r2 ∧ ((0 < Q1.2.2.1 ∧ Q1.2.2.1 ≤ 32) ∧ ((0 < Q1.2.2.1 ∧ Q1.2.2.1 ≤ 32) ∧ (Q' = (rhi (rlo (rf Q1 5 r2) (pn_ix Q1.2.2.1 r2) a1) (pn_ix Q1.2.2.1 r2) a2) ∧ r = r2)))
set_option maxHeartbeats 4000000 in
set_option maxRecDepth 100000 in
theorem e_r_set (l : Launch) (G : PG) (h : Nat) (q ad : Nat → Nat) (J : Nat) (g : Nat → Int32) (hO : gOK J g) (Q : QS) (a1 : Int64) (a2 : Int64) (Q' : QS) (r : Int32) (hE : E_r_set J g Q a1 a2 Q' r) : Ci l yX2_set (Cond.code yX2_set cX2_set 5 (some .int) :: aW) { frames := 2, cells := 0, slots := 0, locals := 44 } G (qW G h q ad J g Q) [.ref h, .long a1, .long a2] (fun (r9 : Int32) (_ : Unit) => r9 = r) (fun (_ : Unit) => qW G h q ad J g Q') 0 0 := by
  refine ofB (y := yX2_set) (G := G) (cc := cX2_set) (maxL := 5) (ret := (some .int)) (Qc := fun A => va_Qi (fun (r9 : Int32) (_ : Unit) => r9 = r) (oB G A (fun (_ : Unit) => qW G h q ad J g Q')) A) (by decide) rfl ?_
  intro p e s m below meth c A F hK hA hP hD
  have hS : va_S A s.heap s.heap [] := va_S.rf
  have hx := F.1.1; have hb := F.1.2.1; have hml := F.1.2.2.1; have hts := F.1.2.2.2.2
  have hown : s.vm.findClass RX2 = some m.cls := F.1.2.2.2.1
  have hl := lv_entry ([.ref h, .long a1, .long a2]) (n := 5) (Nat.le_of_ble_eq_true rfl)
  rw [lg_entry_eq]
  generalize (lg_sl ([.ref h, .long a1, .long a2]) ++ List.replicate (5 - (lg_sl ([.ref h, .long a1, .long a2])).length) Slot.unset).toArray = ls at hl ⊢
  have hl : lv_has ls 5 [(0, .ref h), (1, .long a1), (3, .long a2)] := hl
  unfold E_r_set at hE
  refine lv_aload_n hx hb dX2_set_0 rfl (lv_at hl 0 rfl) ?_
  refine lv_aload_n hx hb dX2_set_1 rfl (lv_at hl 0 rfl) ?_
  refine lv_iconst (v := 2) hx hb dX2_set_2 (by decide) ?_
  obtain ⟨Q1, r2, hg, hE⟩ := hE
  refine kA_i (va_runV (As := [.int 2]) (rest := [.ref h]) F.1 (e_r_add l G h q ad J g hO Q 2 Q1 r2 hg _) (cwV 1 hts (aw_V w_314 w_316 ws_X2_add w_7 w_317) rfl rfl rfl (by decide +kernel) ⟨by decide, by decide⟩) ⟨cS_blind, va_recv (q := (RX2, TX2, 10)) (ci := 2) (q0 := 0) hK.1 hP rfl qW_0, cS_pre hP hD hK⟩ rfl rfl hl.1 rfl (lv_room (Nat.le_of_ble_eq_true rfl)) dX2_set_3 ⟨Nat.le_refl _, Nat.le_refl _⟩) hD hS hA (fun r9 u0 H locs hp hP hD hS => ?_)
  have hp := hp.symm; subst hp
  refine va_put (D := G.1) (ci := 2) (v := .int r2) (ty := .int) (C := RX2) (T := TX2) (N := 10) hx hb hts inX2 tyX2 tyX2_ok nmX2 hown hK.1 hP hD hS 0 qW_0 rfl 5 (by decide) (hts _ w_280) (fun _ h9 => h9) rfl (by decide +kernel) rfl rfl rF_l5 dX2_set_6 (fun H locs hP hD hS => ?_)
  rw [qW_f5] at hP hD
  refine lv_aload_n hx hb dX2_set_9 rfl (lv_at hl 0 rfl) ?_
  refine va_get (D := G.1) (ci := 2) (C := RX2) (T := TX2) (N := 10) hx hb hts inX2 hown hK.1 hP 0 qW_0 rfl 1 (by decide) (hts _ w_276) (fun _ h9 => h9) rF_1 dX2_set_10 ?_
  refine lv_aload_n hx hb dX2_set_13 rfl (lv_at hl 0 rfl) ?_
  refine va_get (D := G.1) (ci := 2) (C := RX2) (T := TX2) (N := 10) hx hb hts inX2 hown hK.1 hP 0 qW_0 rfl 5 (by decide) (hts _ w_280) (fun _ h9 => h9) rF_5 dX2_set_14 ?_
  refine tp_i r2 rfl ?_
  obtain ⟨hc3, hE⟩ := hE
  refine kp_V (va_runV (As := [.int r2]) (rest := []) F.1 (v_prog_node l G _ _ Q1.2.2.1 _ _ _ ad _ _ _ r2 hc3.1 hc3.2 _) (cwV 1 hts (aw_V w_339 w_340 w_341 w_4 w_342) rfl rfl rfl (by decide +kernel) ⟨by decide, by decide⟩) ⟨cS_blind, va_recv (q := (RX1, TX1, 5)) (ci := 1) (q0 := 0) hK.1 (qP_prog (Q := (rf Q1 5 r2)) hP) rfl rfl, cS_pre (qP_prog (Q := (rf Q1 5 r2)) hP) (qD_prog (Q := (rf Q1 5 r2)) hD) hK⟩ rfl rfl hl.1 rfl (lv_room (Nat.le_of_ble_eq_true rfl)) dX2_set_17 ⟨Nat.le_refl _, Nat.le_refl _⟩) (fun v9 hp => ?_)
  subst hp
  refine lv_lload_n hx hb dX2_set_20 rfl (lv_at hl 1 rfl) ?_
  refine va_putN (D := G.1) (ci := 0) (v := .long a1) (ty := .long) (C := RX0) (T := TX0) (N := 13) hx hb hts inX0 tyX0 tyX0_ok nmX0 hown hK.1 hP hD hS (5 + (pn_ix Q1.2.2.1 r2)) (qW_nd (pn_lt hc3.1 hc3.2)) rfl 11 (by decide) (hK.2.1.use w_87) (fun _ h9 => h9) rfl (by decide +kernel) rfl rfl (Nat.le_of_ble_eq_true rfl) dX2_set_21 (fun H locs hP hD hS => ?_)
  rw [qW_n11 (pn_lt hc3.1 hc3.2)] at hP hD
  refine lv_aload_n hx hb dX2_set_24 rfl (lv_at hl 0 rfl) ?_
  refine va_get (D := G.1) (ci := 2) (C := RX2) (T := TX2) (N := 10) hx hb hts inX2 hown hK.1 hP 0 qW_0 rfl 1 (by decide) (hts _ w_276) (fun _ h9 => h9) rF_1 dX2_set_25 ?_
  refine lv_aload_n hx hb dX2_set_28 rfl (lv_at hl 0 rfl) ?_
  refine va_get (D := G.1) (ci := 2) (C := RX2) (T := TX2) (N := 10) hx hb hts inX2 hown hK.1 hP 0 qW_0 rfl 5 (by decide) (hts _ w_280) (fun _ h9 => h9) rF_5 dX2_set_29 ?_
  refine tp_i r2 rfl ?_
  obtain ⟨hc4, hE⟩ := hE
  refine kp_V (va_runV (As := [.int r2]) (rest := []) F.1 (v_prog_node l G _ _ Q1.2.2.1 _ _ _ ad _ _ _ r2 hc4.1 hc4.2 _) (cwV 1 hts (aw_V w_339 w_340 w_341 w_4 w_342) rfl rfl rfl (by decide +kernel) ⟨by decide, by decide⟩) ⟨cS_blind, va_recv (q := (RX1, TX1, 5)) (ci := 1) (q0 := 0) hK.1 (qP_prog (Q := (rlo (rf Q1 5 r2) (pn_ix Q1.2.2.1 r2) a1)) hP) rfl rfl, cS_pre (qP_prog (Q := (rlo (rf Q1 5 r2) (pn_ix Q1.2.2.1 r2) a1)) hP) (qD_prog (Q := (rlo (rf Q1 5 r2) (pn_ix Q1.2.2.1 r2) a1)) hD) hK⟩ rfl rfl hl.1 rfl (lv_room (Nat.le_of_ble_eq_true rfl)) dX2_set_32 ⟨Nat.le_refl _, Nat.le_refl _⟩) (fun v9 hp => ?_)
  subst hp
  refine lv_lload_n hx hb dX2_set_35 rfl (lv_at hl 2 rfl) ?_
  refine va_putN (D := G.1) (ci := 0) (v := .long a2) (ty := .long) (C := RX0) (T := TX0) (N := 13) hx hb hts inX0 tyX0 tyX0_ok nmX0 hown hK.1 hP hD hS (5 + (pn_ix Q1.2.2.1 r2)) (qW_nd (pn_lt hc4.1 hc4.2)) rfl 12 (by decide) (hK.2.1.use w_89) (fun _ h9 => h9) rfl (by decide +kernel) rfl rfl (Nat.le_of_ble_eq_true rfl) dX2_set_36 (fun H locs hP hD hS => ?_)
  rw [qW_n12 (pn_lt hc4.1 hc4.2)] at hP hD
  refine lv_aload_n hx hb dX2_set_39 rfl (lv_at hl 0 rfl) ?_
  refine va_get (D := G.1) (ci := 2) (C := RX2) (T := TX2) (N := 10) hx hb hts inX2 hown hK.1 hP 0 qW_0 rfl 5 (by decide) (hts _ w_280) (fun _ h9 => h9) rF_5 dX2_set_40 ?_
  refine tp_i r2 rfl ?_
  obtain ⟨rfl, rfl⟩ := hE
  exact en_i F hS _ () (by rfl) rfl hP hD (Nat.le_refl _) (Nat.le_refl _) dX2_set_43

theorem dX2_addItem_0 : decode cX2_addItem 0 = .ok (.iload_n 1, 1) := by decide +kernel
theorem dX2_addItem_1 : decode cX2_addItem 1 = .ok (.bipush 64, 2) := by decide +kernel
theorem dX2_addItem_3 : decode cX2_addItem 3 = .ok (.if_icmp .ge 18, 3) := by decide +kernel
theorem dX2_addItem_6 : decode cX2_addItem 6 = .ok (.aload_n 0, 1) := by decide +kernel
theorem dX2_addItem_7 : decode cX2_addItem 7 = .ok (.dup, 1) := by decide +kernel
theorem dX2_addItem_8 : decode cX2_addItem 8 = .ok (.getfield 168, 3) := by decide +kernel
theorem dX2_addItem_11 : decode cX2_addItem 11 = .ok (.lconst 1, 1) := by decide +kernel
theorem dX2_addItem_12 : decode cX2_addItem 12 = .ok (.iload_n 1, 1) := by decide +kernel
theorem dX2_addItem_13 : decode cX2_addItem 13 = .ok (.lshl, 1) := by decide +kernel
theorem dX2_addItem_14 : decode cX2_addItem 14 = .ok (.lor, 1) := by decide +kernel
theorem dX2_addItem_15 : decode cX2_addItem 15 = .ok (.putfield 168, 3) := by decide +kernel
theorem dX2_addItem_18 : decode cX2_addItem 18 = .ok (.goto 18, 3) := by decide +kernel
theorem dX2_addItem_21 : decode cX2_addItem 21 = .ok (.aload_n 0, 1) := by decide +kernel
theorem dX2_addItem_22 : decode cX2_addItem 22 = .ok (.dup, 1) := by decide +kernel
theorem dX2_addItem_23 : decode cX2_addItem 23 = .ok (.getfield 171, 3) := by decide +kernel
theorem dX2_addItem_26 : decode cX2_addItem 26 = .ok (.lconst 1, 1) := by decide +kernel
theorem dX2_addItem_27 : decode cX2_addItem 27 = .ok (.iload_n 1, 1) := by decide +kernel
theorem dX2_addItem_28 : decode cX2_addItem 28 = .ok (.bipush 64, 2) := by decide +kernel
theorem dX2_addItem_30 : decode cX2_addItem 30 = .ok (.isub, 1) := by decide +kernel
theorem dX2_addItem_31 : decode cX2_addItem 31 = .ok (.lshl, 1) := by decide +kernel
theorem dX2_addItem_32 : decode cX2_addItem 32 = .ok (.lor, 1) := by decide +kernel
theorem dX2_addItem_33 : decode cX2_addItem 33 = .ok (.putfield 171, 3) := by decide +kernel
theorem dX2_addItem_36 : decode cX2_addItem 36 = .ok (.return_, 1) := by decide +kernel
def E_r_addItem (J : Nat) (g : Nat → Int32) (Q : QS) (a1 : Int32) (Q' : QS) (r : Int32) : Prop := if 64 ≤ a1 then (Q' = (rl Q 7 ((Q.2.1 7) ||| ((1 : Int64) <<< ((a1 - 64).toInt64 &&& 63)))) ∧ r = 0) else (Q' = (rl Q 6 ((Q.2.1 6) ||| ((1 : Int64) <<< (a1.toInt64 &&& 63)))) ∧ r = 0)
set_option maxHeartbeats 4000000 in
set_option maxRecDepth 100000 in
theorem e_r_addItem (l : Launch) (G : PG) (h : Nat) (q ad : Nat → Nat) (J : Nat) (g : Nat → Int32) (hO : gOK J g) (Q : QS) (a1 : Int32) (Q' : QS) (r : Int32) (hE : E_r_addItem J g Q a1 Q' r) : Cv l yX2_addItem (Cond.code yX2_addItem cX2_addItem 2 none :: aW) { frames := 0, cells := 0, slots := 0, locals := 0 } G (qW G h q ad J g Q) [.ref h, .int a1] (fun (_ : Unit) => True) (fun (_ : Unit) => qW G h q ad J g Q') 0 0 := by
  refine ofB (y := yX2_addItem) (G := G) (cc := cX2_addItem) (maxL := 2) (ret := none) (Qc := fun A => va_Qv (fun (_ : Unit) => True) (oB G A (fun (_ : Unit) => qW G h q ad J g Q')) A) (by decide) rfl ?_
  intro p e s m below meth c A F hK hA hP hD
  have hS : va_S A s.heap s.heap [] := va_S.rf
  have hx := F.1.1; have hb := F.1.2.1; have hml := F.1.2.2.1; have hts := F.1.2.2.2.2
  have hown : s.vm.findClass RX2 = some m.cls := F.1.2.2.2.1
  have hl := lv_entry ([.ref h, .int a1]) (n := 2) (Nat.le_of_ble_eq_true rfl)
  rw [lg_entry_eq]
  generalize (lg_sl ([.ref h, .int a1]) ++ List.replicate (2 - (lg_sl ([.ref h, .int a1])).length) Slot.unset).toArray = ls at hl ⊢
  have hl : lv_has ls 2 [(0, .ref h), (1, .int a1)] := hl
  unfold E_r_addItem at hE
  refine lv_iload_n hx hb dX2_addItem_0 rfl (lv_at hl 1 rfl) ?_
  refine lv_bipush (v := 64) hx hb dX2_addItem_1 (by decide) ?_
  refine lv_icmp_ge (tgt := 21) hx hb dX2_addItem_3 (by decide) (fun h1 => ?_) (fun h1 => ?_)
  ·
    rw [if_pos h1] at hE
    refine lv_aload_n hx hb dX2_addItem_21 rfl (lv_at hl 0 rfl) ?_
    refine lv_dup hx hb dX2_addItem_22 rfl ?_
    refine va_get (D := G.1) (ci := 2) (C := RX2) (T := TX2) (N := 10) hx hb hts inX2 hown hK.1 hP 0 qW_0 rfl 7 (by decide) (hts _ w_282) (fun _ h9 => h9) rF_7 dX2_addItem_23 ?_
    refine lv_lconst (v := 1) hx hb dX2_addItem_26 (by decide) ?_
    refine lv_iload_n hx hb dX2_addItem_27 rfl (lv_at hl 1 rfl) ?_
    refine lv_bipush (v := 64) hx hb dX2_addItem_28 (by decide) ?_
    refine lv_isub hx hb dX2_addItem_30 ?_
    refine lv_lshl (v := ((1 : Int64) <<< ((a1 - 64).toInt64 &&& 63))) hx hb dX2_addItem_31 rfl ?_
    refine lv_lor hx hb dX2_addItem_32 ?_
    refine va_put (D := G.1) (ci := 2) (v := .long ((Q.2.1 7) ||| ((1 : Int64) <<< ((a1 - 64).toInt64 &&& 63)))) (ty := .long) (C := RX2) (T := TX2) (N := 10) hx hb hts inX2 tyX2 tyX2_ok nmX2 hown hK.1 hP hD hS 0 qW_0 rfl 7 (by decide) (hts _ w_282) (fun _ h9 => h9) rfl (by decide +kernel) rfl rfl rF_l7 dX2_addItem_33 (fun H locs hP hD hS => ?_)
    rw [qW_f7] at hP hD
    obtain ⟨rfl, rfl⟩ := hE
    exact en_v F hS () trivial hP hD (Nat.le_refl _) (Nat.le_refl _) dX2_addItem_36
  ·
    rw [if_neg h1] at hE
    refine lv_aload_n hx hb dX2_addItem_6 rfl (lv_at hl 0 rfl) ?_
    refine lv_dup hx hb dX2_addItem_7 rfl ?_
    refine va_get (D := G.1) (ci := 2) (C := RX2) (T := TX2) (N := 10) hx hb hts inX2 hown hK.1 hP 0 qW_0 rfl 6 (by decide) (hts _ w_281) (fun _ h9 => h9) rF_6 dX2_addItem_8 ?_
    refine lv_lconst (v := 1) hx hb dX2_addItem_11 (by decide) ?_
    refine lv_iload_n hx hb dX2_addItem_12 rfl (lv_at hl 1 rfl) ?_
    refine lv_lshl (v := ((1 : Int64) <<< (a1.toInt64 &&& 63))) hx hb dX2_addItem_13 rfl ?_
    refine lv_lor hx hb dX2_addItem_14 ?_
    refine va_put (D := G.1) (ci := 2) (v := .long ((Q.2.1 6) ||| ((1 : Int64) <<< (a1.toInt64 &&& 63)))) (ty := .long) (C := RX2) (T := TX2) (N := 10) hx hb hts inX2 tyX2 tyX2_ok nmX2 hown hK.1 hP hD hS 0 qW_0 rfl 6 (by decide) (hts _ w_281) (fun _ h9 => h9) rfl (by decide +kernel) rfl rfl rF_l6 dX2_addItem_15 (fun H locs hP hD hS => ?_)
    rw [qW_f6] at hP hD
    refine lv_goto (tgt := 36) hx hb dX2_addItem_18 (by decide) ?_
    obtain ⟨rfl, rfl⟩ := hE
    exact en_v F hS () trivial hP hD (Nat.le_refl _) (Nat.le_refl _) dX2_addItem_36

theorem dX2_character_0 : decode cX2_character 0 = .ok (.aload_n 0, 1) := by decide +kernel
theorem dX2_character_1 : decode cX2_character 1 = .ok (.lconst 0, 1) := by decide +kernel
theorem dX2_character_2 : decode cX2_character 2 = .ok (.putfield 168, 3) := by decide +kernel
theorem dX2_character_5 : decode cX2_character 5 = .ok (.aload_n 0, 1) := by decide +kernel
theorem dX2_character_6 : decode cX2_character 6 = .ok (.lconst 0, 1) := by decide +kernel
theorem dX2_character_7 : decode cX2_character 7 = .ok (.putfield 171, 3) := by decide +kernel
theorem dX2_character_10 : decode cX2_character 10 = .ok (.aload_n 0, 1) := by decide +kernel
theorem dX2_character_11 : decode cX2_character 11 = .ok (.iload_n 1, 1) := by decide +kernel
theorem dX2_character_12 : decode cX2_character 12 = .ok (.invokevirtual 183, 3) := by decide +kernel
theorem dX2_character_15 : decode cX2_character 15 = .ok (.aload_n 0, 1) := by decide +kernel
theorem dX2_character_16 : decode cX2_character 16 = .ok (.aload_n 0, 1) := by decide +kernel
theorem dX2_character_17 : decode cX2_character 17 = .ok (.getfield 168, 3) := by decide +kernel
theorem dX2_character_20 : decode cX2_character 20 = .ok (.aload_n 0, 1) := by decide +kernel
theorem dX2_character_21 : decode cX2_character 21 = .ok (.getfield 171, 3) := by decide +kernel
theorem dX2_character_24 : decode cX2_character 24 = .ok (.invokevirtual 128, 3) := by decide +kernel
theorem dX2_character_27 : decode cX2_character 27 = .ok (.ireturn, 1) := by decide +kernel
def E_r_character (J : Nat) (g : Nat → Int32) (Q : QS) (a1 : Int32) (Q' : QS) (r : Int32) : Prop := ∃ Q1 : QS, E_r_addItem J g (rl (rl Q 6 0) 7 0) a1 Q1 0 ∧ (∃ (Q3 : QS) (r4 : Int32), E_r_set J g Q1 (Q1.2.1 6) (Q1.2.1 7) Q3 r4 ∧ (Q' = Q3 ∧ r = r4))
set_option maxHeartbeats 4000000 in
set_option maxRecDepth 100000 in
theorem e_r_character (l : Launch) (G : PG) (h : Nat) (q ad : Nat → Nat) (J : Nat) (g : Nat → Int32) (hO : gOK J g) (Q : QS) (a1 : Int32) (Q' : QS) (r : Int32) (hE : E_r_character J g Q a1 Q' r) : Ci l yX2_character (Cond.code yX2_character cX2_character 2 (some .int) :: aW) { frames := 3, cells := 0, slots := 0, locals := 68 } G (qW G h q ad J g Q) [.ref h, .int a1] (fun (r9 : Int32) (_ : Unit) => r9 = r) (fun (_ : Unit) => qW G h q ad J g Q') 0 0 := by
  refine ofB (y := yX2_character) (G := G) (cc := cX2_character) (maxL := 2) (ret := (some .int)) (Qc := fun A => va_Qi (fun (r9 : Int32) (_ : Unit) => r9 = r) (oB G A (fun (_ : Unit) => qW G h q ad J g Q')) A) (by decide) rfl ?_
  intro p e s m below meth c A F hK hA hP hD
  have hS : va_S A s.heap s.heap [] := va_S.rf
  have hx := F.1.1; have hb := F.1.2.1; have hml := F.1.2.2.1; have hts := F.1.2.2.2.2
  have hown : s.vm.findClass RX2 = some m.cls := F.1.2.2.2.1
  have hl := lv_entry ([.ref h, .int a1]) (n := 2) (Nat.le_of_ble_eq_true rfl)
  rw [lg_entry_eq]
  generalize (lg_sl ([.ref h, .int a1]) ++ List.replicate (2 - (lg_sl ([.ref h, .int a1])).length) Slot.unset).toArray = ls at hl ⊢
  have hl : lv_has ls 2 [(0, .ref h), (1, .int a1)] := hl
  unfold E_r_character at hE
  refine lv_aload_n hx hb dX2_character_0 rfl (lv_at hl 0 rfl) ?_
  refine lv_lconst (v := 0) hx hb dX2_character_1 (by decide) ?_
  refine va_put (D := G.1) (ci := 2) (v := .long 0) (ty := .long) (C := RX2) (T := TX2) (N := 10) hx hb hts inX2 tyX2 tyX2_ok nmX2 hown hK.1 hP hD hS 0 qW_0 rfl 6 (by decide) (hts _ w_281) (fun _ h9 => h9) rfl (by decide +kernel) rfl rfl rF_l6 dX2_character_2 (fun H locs hP hD hS => ?_)
  rw [qW_f6] at hP hD
  refine lv_aload_n hx hb dX2_character_5 rfl (lv_at hl 0 rfl) ?_
  refine lv_lconst (v := 0) hx hb dX2_character_6 (by decide) ?_
  refine va_put (D := G.1) (ci := 2) (v := .long 0) (ty := .long) (C := RX2) (T := TX2) (N := 10) hx hb hts inX2 tyX2 tyX2_ok nmX2 hown hK.1 hP hD hS 0 qW_0 rfl 7 (by decide) (hts _ w_282) (fun _ h9 => h9) rfl (by decide +kernel) rfl rfl rF_l7 dX2_character_7 (fun H locs hP hD hS => ?_)
  rw [qW_f7] at hP hD
  refine lv_aload_n hx hb dX2_character_10 rfl (lv_at hl 0 rfl) ?_
  refine lv_iload_n hx hb dX2_character_11 rfl (lv_at hl 1 rfl) ?_
  obtain ⟨Q1, hg, hE⟩ := hE
  refine kA_v (va_runV (As := [.int a1]) (rest := []) F.1 (e_r_addItem l G h q ad J g hO (rl (rl Q 6 0) 7 0) a1 Q1 0 hg _) (cwV 1 hts (aw_V w_492 w_494 ws_X2_addItem w_7 w_495) rfl rfl rfl (by decide +kernel) ⟨by decide, by decide⟩) ⟨cS_blind, va_recv (q := (RX2, TX2, 10)) (ci := 2) (q0 := 0) hK.1 hP rfl qW_0, cS_pre hP hD hK⟩ rfl rfl hl.1 rfl (lv_room (Nat.le_of_ble_eq_true rfl)) dX2_character_12 ⟨Nat.le_refl _, Nat.le_refl _⟩) hD hS hA (fun u0 H locs hp hP hD hS => ?_)
  refine lv_aload_n hx hb dX2_character_15 rfl (lv_at hl 0 rfl) ?_
  refine lv_aload_n hx hb dX2_character_16 rfl (lv_at hl 0 rfl) ?_
  refine va_get (D := G.1) (ci := 2) (C := RX2) (T := TX2) (N := 10) hx hb hts inX2 hown hK.1 hP 0 qW_0 rfl 6 (by decide) (hts _ w_281) (fun _ h9 => h9) rF_6 dX2_character_17 ?_
  refine lv_aload_n hx hb dX2_character_20 rfl (lv_at hl 0 rfl) ?_
  refine va_get (D := G.1) (ci := 2) (C := RX2) (T := TX2) (N := 10) hx hb hts inX2 hown hK.1 hP 0 qW_0 rfl 7 (by decide) (hts _ w_282) (fun _ h9 => h9) rF_7 dX2_character_21 ?_
  obtain ⟨Q3, r4, hg, hE⟩ := hE
  refine kA_i (va_runV (As := [.long (Q1.2.1 6), .long (Q1.2.1 7)]) (rest := []) F.1 (e_r_set l G h q ad J g hO Q1 (Q1.2.1 6) (Q1.2.1 7) Q3 r4 hg _) (cwV 2 hts (aw_V w_500 w_502 ws_X2_set w_7 w_503) rfl rfl rfl (by decide +kernel) ⟨by decide, by decide⟩) ⟨cS_blind, va_recv (q := (RX2, TX2, 10)) (ci := 2) (q0 := 0) hK.1 hP rfl qW_0, cS_pre hP hD hK⟩ rfl rfl hl.1 rfl (lv_room (Nat.le_of_ble_eq_true rfl)) dX2_character_24 ⟨Nat.le_refl _, Nat.le_refl _⟩) hD hS hA (fun r9 u0 H locs hp hP hD hS => ?_)
  have hp := hp.symm; subst hp
  obtain ⟨rfl, rfl⟩ := hE
  exact en_i F hS _ () (by rfl) rfl hP hD (Nat.le_refl _) (Nat.le_refl _) dX2_character_27

theorem dX2_withBody_0 : decode cX2_withBody 0 = .ok (.aload_n 0, 1) := by decide +kernel
theorem dX2_withBody_1 : decode cX2_withBody 1 = .ok (.iload_n 1, 1) := by decide +kernel
theorem dX2_withBody_2 : decode cX2_withBody 2 = .ok (.invokevirtual 132, 3) := by decide +kernel
theorem dX2_withBody_5 : decode cX2_withBody 5 = .ok (.istore_n 3, 1) := by decide +kernel
theorem dX2_withBody_6 : decode cX2_withBody 6 = .ok (.aload_n 0, 1) := by decide +kernel
theorem dX2_withBody_7 : decode cX2_withBody 7 = .ok (.getfield 15, 3) := by decide +kernel
theorem dX2_withBody_10 : decode cX2_withBody 10 = .ok (.iload_n 3, 1) := by decide +kernel
theorem dX2_withBody_11 : decode cX2_withBody 11 = .ok (.invokevirtual 55, 3) := by decide +kernel
theorem dX2_withBody_14 : decode cX2_withBody 14 = .ok (.iload_n 2, 1) := by decide +kernel
theorem dX2_withBody_15 : decode cX2_withBody 15 = .ok (.putfield 59, 3) := by decide +kernel
theorem dX2_withBody_18 : decode cX2_withBody 18 = .ok (.iload_n 3, 1) := by decide +kernel
theorem dX2_withBody_19 : decode cX2_withBody 19 = .ok (.ireturn, 1) := by decide +kernel
def E_r_withBody (J : Nat) (g : Nat → Int32) (Q : QS) (a1 : Int32) (a2 : Int32) (Q' : QS) (r : Int32) : Prop := ∃ (Q1 : QS) (r2 : Int32), E_r_single J g Q a1 Q1 r2 ∧ ((0 < Q1.2.2.1 ∧ Q1.2.2.1 ≤ 32) ∧ (Q' = (rn Q1 (pn_ix Q1.2.2.1 r2) 3 a2) ∧ r = r2))
set_option maxHeartbeats 4000000 in
set_option maxRecDepth 100000 in
theorem e_r_withBody (l : Launch) (G : PG) (h : Nat) (q ad : Nat → Nat) (J : Nat) (g : Nat → Int32) (hO : gOK J g) (Q : QS) (a1 : Int32) (a2 : Int32) (Q' : QS) (r : Int32) (hE : E_r_withBody J g Q a1 a2 Q' r) : Ci l yX2_withBody (Cond.code yX2_withBody cX2_withBody 4 (some .int) :: aW) { frames := 3, cells := 0, slots := 0, locals := 65 } G (qW G h q ad J g Q) [.ref h, .int a1, .int a2] (fun (r9 : Int32) (_ : Unit) => r9 = r) (fun (_ : Unit) => qW G h q ad J g Q') 0 0 := by
  refine ofB (y := yX2_withBody) (G := G) (cc := cX2_withBody) (maxL := 4) (ret := (some .int)) (Qc := fun A => va_Qi (fun (r9 : Int32) (_ : Unit) => r9 = r) (oB G A (fun (_ : Unit) => qW G h q ad J g Q')) A) (by decide) rfl ?_
  intro p e s m below meth c A F hK hA hP hD
  have hS : va_S A s.heap s.heap [] := va_S.rf
  have hx := F.1.1; have hb := F.1.2.1; have hml := F.1.2.2.1; have hts := F.1.2.2.2.2
  have hown : s.vm.findClass RX2 = some m.cls := F.1.2.2.2.1
  have hl := lv_entry ([.ref h, .int a1, .int a2]) (n := 4) (Nat.le_of_ble_eq_true rfl)
  rw [lg_entry_eq]
  generalize (lg_sl ([.ref h, .int a1, .int a2]) ++ List.replicate (4 - (lg_sl ([.ref h, .int a1, .int a2])).length) Slot.unset).toArray = ls at hl ⊢
  have hl : lv_has ls 4 [(0, .ref h), (1, .int a1), (2, .int a2)] := hl
  unfold E_r_withBody at hE
  refine lv_aload_n hx hb dX2_withBody_0 rfl (lv_at hl 0 rfl) ?_
  refine lv_iload_n hx hb dX2_withBody_1 rfl (lv_at hl 1 rfl) ?_
  obtain ⟨Q1, r2, hg, hE⟩ := hE
  refine kA_i (va_runV (As := [.int a1]) (rest := []) F.1 (e_r_single l G h q ad J g hO Q a1 Q1 r2 hg _) (cwV 1 hts (aw_V w_383 w_385 ws_X2_single w_7 w_386) rfl rfl rfl (by decide +kernel) ⟨by decide, by decide⟩) ⟨cS_blind, va_recv (q := (RX2, TX2, 10)) (ci := 2) (q0 := 0) hK.1 hP rfl qW_0, cS_pre hP hD hK⟩ rfl rfl hl.1 rfl (lv_room (Nat.le_of_ble_eq_true rfl)) dX2_withBody_2 ⟨Nat.le_refl _, Nat.le_refl _⟩) hD hS hA (fun r9 u0 H locs hp hP hD hS => ?_)
  have hp := hp.symm; subst hp
  refine lv_istore_n hx hb dX2_withBody_5 rfl hl (by decide) rfl (fun ls hl => ?_)
  have hl : lv_has ls 4 [(3, .int r2), (0, .ref h), (1, .int a1), (2, .int a2)] := hl
  refine lv_aload_n hx hb dX2_withBody_6 rfl (lv_at hl 1 rfl) ?_
  refine va_get (D := G.1) (ci := 2) (C := RX2) (T := TX2) (N := 10) hx hb hts inX2 hown hK.1 hP 0 qW_0 rfl 1 (by decide) (hts _ w_276) (fun _ h9 => h9) rF_1 dX2_withBody_7 ?_
  refine lv_iload_n hx hb dX2_withBody_10 rfl (lv_at hl 0 rfl) ?_
  obtain ⟨hc3, hE⟩ := hE
  refine kp_V (va_runV (As := [.int r2]) (rest := []) F.1 (v_prog_node l G _ _ Q1.2.2.1 _ _ _ ad _ _ _ r2 hc3.1 hc3.2 _) (cwV 1 hts (aw_V w_339 w_340 w_341 w_4 w_342) rfl rfl rfl (by decide +kernel) ⟨by decide, by decide⟩) ⟨cS_blind, va_recv (q := (RX1, TX1, 5)) (ci := 1) (q0 := 0) hK.1 (qP_prog (Q := Q1) hP) rfl rfl, cS_pre (qP_prog (Q := Q1) hP) (qD_prog (Q := Q1) hD) hK⟩ rfl rfl hl.1 rfl (lv_room (Nat.le_of_ble_eq_true rfl)) dX2_withBody_11 ⟨Nat.le_refl _, Nat.le_refl _⟩) (fun v9 hp => ?_)
  subst hp
  refine lv_iload_n hx hb dX2_withBody_14 rfl (lv_at hl 3 rfl) ?_
  refine va_putN (D := G.1) (ci := 0) (v := .int a2) (ty := .int) (C := RX0) (T := TX0) (N := 13) hx hb hts inX0 tyX0 tyX0_ok nmX0 hown hK.1 hP hD hS (5 + (pn_ix Q1.2.2.1 r2)) (qW_nd (pn_lt hc3.1 hc3.2)) rfl 3 (by decide) (hK.2.1.use w_70) (fun _ h9 => h9) rfl (by decide +kernel) rfl rfl (Nat.le_of_ble_eq_true rfl) dX2_withBody_15 (fun H locs hP hD hS => ?_)
  rw [qW_n3 (pn_lt hc3.1 hc3.2)] at hP hD
  refine lv_iload_n hx hb dX2_withBody_18 rfl (lv_at hl 0 rfl) ?_
  obtain ⟨rfl, rfl⟩ := hE
  exact en_i F hS _ () (by rfl) rfl hP hD (Nat.le_refl _) (Nat.le_refl _) dX2_withBody_19

theorem dX2_isSequenceOver_14 : decode cX2_isSequenceOver 14 = .ok (.aload_n 0, 1) := by decide +kernel
theorem dX2_isSequenceOver_15 : decode cX2_isSequenceOver 15 = .ok (.getfield 9, 3) := by decide +kernel
theorem dX2_isSequenceOver_18 : decode cX2_isSequenceOver 18 = .ok (.aload_n 0, 1) := by decide +kernel
theorem dX2_isSequenceOver_19 : decode cX2_isSequenceOver 19 = .ok (.getfield 40, 3) := by decide +kernel
theorem dX2_isSequenceOver_22 : decode cX2_isSequenceOver 22 = .ok (.invokevirtual 52, 3) := by decide +kernel
theorem dX2_isSequenceOver_25 : decode cX2_isSequenceOver 25 = .ok (.bipush 124, 2) := by decide +kernel
theorem dX2_isSequenceOver_27 : decode cX2_isSequenceOver 27 = .ok (.if_icmp .eq 19, 3) := by decide +kernel
theorem dX2_isSequenceOver_30 : decode cX2_isSequenceOver 30 = .ok (.aload_n 0, 1) := by decide +kernel
theorem dX2_isSequenceOver_31 : decode cX2_isSequenceOver 31 = .ok (.getfield 9, 3) := by decide +kernel
theorem dX2_isSequenceOver_34 : decode cX2_isSequenceOver 34 = .ok (.aload_n 0, 1) := by decide +kernel
theorem dX2_isSequenceOver_35 : decode cX2_isSequenceOver 35 = .ok (.getfield 40, 3) := by decide +kernel
theorem dX2_isSequenceOver_38 : decode cX2_isSequenceOver 38 = .ok (.invokevirtual 52, 3) := by decide +kernel
theorem dX2_isSequenceOver_41 : decode cX2_isSequenceOver 41 = .ok (.bipush 41, 2) := by decide +kernel
theorem dX2_isSequenceOver_43 : decode cX2_isSequenceOver 43 = .ok (.if_icmp .ne 7, 3) := by decide +kernel
theorem dX2_isSequenceOver_50 : decode cX2_isSequenceOver 50 = .ok (.iconst 0, 1) := by decide +kernel
def E_r_isSequenceOver (J : Nat) (g : Nat → Int32) (Q : QS)  (Q' : QS) (r : Int32) : Prop := if (nI J) ≤ (Q.1 2) then (Q' = Q ∧ r = 1) else (if (rw_at J g (Q.1 2)) = 124 then (Q' = Q ∧ r = 1) else (if (rw_at J g (Q.1 2)) = 41 then (Q' = Q ∧ r = 1) else (Q' = Q ∧ r = 0)))
set_option maxHeartbeats 4000000 in
set_option maxRecDepth 100000 in
theorem e_r_isSequenceOver (l : Launch) (G : PG) (h : Nat) (q ad : Nat → Nat) (J : Nat) (g : Nat → Int32) (hO : gOK J g) (Q : QS)  (Q' : QS) (r : Int32) (hE : E_r_isSequenceOver J g Q Q' r) : Ci l yX2_isSequenceOver (Cond.code yX2_isSequenceOver cX2_isSequenceOver 1 (some .boolean) :: aW) { frames := 1, cells := 0, slots := 0, locals := 21 } G (qW G h q ad J g Q) [.ref h] (fun (r9 : Int32) (_ : Unit) => r9 = r) (fun (_ : Unit) => qW G h q ad J g Q') 0 0 := by
  refine ofB (y := yX2_isSequenceOver) (G := G) (cc := cX2_isSequenceOver) (maxL := 1) (ret := (some .boolean)) (Qc := fun A => va_Qi (fun (r9 : Int32) (_ : Unit) => r9 = r) (oB G A (fun (_ : Unit) => qW G h q ad J g Q')) A) (by decide) rfl ?_
  intro p e s m below meth c A F hK hA hP hD
  have hS : va_S A s.heap s.heap [] := va_S.rf
  have hx := F.1.1; have hb := F.1.2.1; have hml := F.1.2.2.1; have hts := F.1.2.2.2.2
  have hown : s.vm.findClass RX2 = some m.cls := F.1.2.2.2.1
  have hl := lv_entry ([.ref h]) (n := 1) (Nat.le_of_ble_eq_true rfl)
  rw [lg_entry_eq]
  generalize (lg_sl ([.ref h]) ++ List.replicate (1 - (lg_sl ([.ref h])).length) Slot.unset).toArray = ls at hl ⊢
  have hl : lv_has ls 1 [(0, .ref h)] := hl
  unfold E_r_isSequenceOver at hE
  refine lv_aload_n hx hb dX2_isSequenceOver_0 rfl (lv_at hl 0 rfl) ?_
  refine va_get (D := G.1) (ci := 2) (C := RX2) (T := TX2) (N := 10) hx hb hts inX2 hown hK.1 hP 0 qW_0 rfl 2 (by decide) (hts _ w_277) (fun _ h9 => h9) rF_2 dX2_isSequenceOver_1 ?_
  refine lv_aload_n hx hb dX2_isSequenceOver_4 rfl (lv_at hl 0 rfl) ?_
  refine va_get (D := G.1) (ci := 2) (C := RX2) (T := TX2) (N := 10) hx hb hts inX2 hown hK.1 hP 0 qW_0 rfl 0 (by decide) (hts _ w_275) (fun _ h9 => h9) rF_0 dX2_isSequenceOver_5 ?_
  refine kp_V (va_runV (As := []) (rest := [.int (Q.1 2)]) F.1 (v_row_size l G _ _ _ _ _ _) (cwV 0 hts (aw_V w_334 w_258 w_259 w_3 w_260) rfl rfl rfl (by decide +kernel) ⟨by decide, by decide⟩) ⟨cS_blind, va_recv (q := (RX3, TX3, 2)) (ci := 3) (q0 := 0) hK.1 (qP_row hP) rfl rfl, cS_pre (qP_row hP) (qD_row hD) hK⟩ rfl rfl hl.1 rfl (lv_room (Nat.le_of_ble_eq_true rfl)) dX2_isSequenceOver_8 ⟨Nat.le_refl _, Nat.le_refl _⟩) (fun v9 hp => ?_)
  subst hp
  refine lv_icmp_ge (tgt := 46) hx hb dX2_isSequenceOver_11 (by decide) (fun h1 => ?_) (fun h1 => ?_)
  ·
    rw [if_pos h1] at hE
    refine lv_iconst (v := 1) hx hb dX2_isSequenceOver_46 (by decide) ?_
    refine lv_goto (tgt := 51) hx hb dX2_isSequenceOver_47 (by decide) ?_
    obtain ⟨rfl, rfl⟩ := hE
    exact en_i F hS _ () (by rfl) rfl hP hD (Nat.le_refl _) (Nat.le_refl _) dX2_isSequenceOver_51
  ·
    rw [if_neg h1] at hE
    refine lv_aload_n hx hb dX2_isSequenceOver_14 rfl (lv_at hl 0 rfl) ?_
    refine va_get (D := G.1) (ci := 2) (C := RX2) (T := TX2) (N := 10) hx hb hts inX2 hown hK.1 hP 0 qW_0 rfl 0 (by decide) (hts _ w_275) (fun _ h9 => h9) rF_0 dX2_isSequenceOver_15 ?_
    refine lv_aload_n hx hb dX2_isSequenceOver_18 rfl (lv_at hl 0 rfl) ?_
    refine va_get (D := G.1) (ci := 2) (C := RX2) (T := TX2) (N := 10) hx hb hts inX2 hown hK.1 hP 0 qW_0 rfl 2 (by decide) (hts _ w_277) (fun _ h9 => h9) rF_2 dX2_isSequenceOver_19 ?_
    refine kp_V (va_runV (As := [.int (Q.1 2)]) (rest := []) F.1 (v_row_at l G _ _ _ J g (Q.1 2) hO.1 (by decide) hO.2 _) (cwV 1 hts (aw_V w_335 w_336 w_337 w_3 w_338) rfl rfl rfl (by decide +kernel) ⟨by decide, by decide⟩) ⟨cS_blind, va_recv (q := (RX3, TX3, 2)) (ci := 3) (q0 := 0) hK.1 (qP_row hP) rfl rfl, cS_pre (qP_row hP) (qD_row hD) hK⟩ rfl rfl hl.1 rfl (lv_room (Nat.le_of_ble_eq_true rfl)) dX2_isSequenceOver_22 ⟨Nat.le_refl _, Nat.le_refl _⟩) (fun v9 hp => ?_)
    subst hp
    refine lv_bipush (v := 124) hx hb dX2_isSequenceOver_25 (by decide) ?_
    refine lv_icmp_eq (tgt := 46) hx hb dX2_isSequenceOver_27 (by decide) (fun h2 => ?_) (fun h2 => ?_)
    ·
      rw [if_pos h2] at hE
      refine lv_iconst (v := 1) hx hb dX2_isSequenceOver_46 (by decide) ?_
      refine lv_goto (tgt := 51) hx hb dX2_isSequenceOver_47 (by decide) ?_
      obtain ⟨rfl, rfl⟩ := hE
      exact en_i F hS _ () (by rfl) rfl hP hD (Nat.le_refl _) (Nat.le_refl _) dX2_isSequenceOver_51
    ·
      rw [if_neg h2] at hE
      refine lv_aload_n hx hb dX2_isSequenceOver_30 rfl (lv_at hl 0 rfl) ?_
      refine va_get (D := G.1) (ci := 2) (C := RX2) (T := TX2) (N := 10) hx hb hts inX2 hown hK.1 hP 0 qW_0 rfl 0 (by decide) (hts _ w_275) (fun _ h9 => h9) rF_0 dX2_isSequenceOver_31 ?_
      refine lv_aload_n hx hb dX2_isSequenceOver_34 rfl (lv_at hl 0 rfl) ?_
      refine va_get (D := G.1) (ci := 2) (C := RX2) (T := TX2) (N := 10) hx hb hts inX2 hown hK.1 hP 0 qW_0 rfl 2 (by decide) (hts _ w_277) (fun _ h9 => h9) rF_2 dX2_isSequenceOver_35 ?_
      refine kp_V (va_runV (As := [.int (Q.1 2)]) (rest := []) F.1 (v_row_at l G _ _ _ J g (Q.1 2) hO.1 (by decide) hO.2 _) (cwV 1 hts (aw_V w_335 w_336 w_337 w_3 w_338) rfl rfl rfl (by decide +kernel) ⟨by decide, by decide⟩) ⟨cS_blind, va_recv (q := (RX3, TX3, 2)) (ci := 3) (q0 := 0) hK.1 (qP_row hP) rfl rfl, cS_pre (qP_row hP) (qD_row hD) hK⟩ rfl rfl hl.1 rfl (lv_room (Nat.le_of_ble_eq_true rfl)) dX2_isSequenceOver_38 ⟨Nat.le_refl _, Nat.le_refl _⟩) (fun v9 hp => ?_)
      subst hp
      refine lv_bipush (v := 41) hx hb dX2_isSequenceOver_41 (by decide) ?_
      refine lv_icmp_ne (tgt := 50) hx hb dX2_isSequenceOver_43 (by decide) (fun h3 => ?_) (fun h3 => ?_)
      ·
        rw [if_neg h3] at hE
        refine lv_iconst (v := 0) hx hb dX2_isSequenceOver_50 (by decide) ?_
        obtain ⟨rfl, rfl⟩ := hE
        exact en_i F hS _ () (by rfl) rfl hP hD (Nat.le_refl _) (Nat.le_refl _) dX2_isSequenceOver_51
      ·
        rw [if_pos h3] at hE
        refine lv_iconst (v := 1) hx hb dX2_isSequenceOver_46 (by decide) ?_
        refine lv_goto (tgt := 51) hx hb dX2_isSequenceOver_47 (by decide) ?_
        obtain ⟨rfl, rfl⟩ := hE
        exact en_i F hS _ () (by rfl) rfl hP hD (Nat.le_refl _) (Nat.le_refl _) dX2_isSequenceOver_51

theorem dX2_count_0 : decode cX2_count 0 = .ok (.aload_n 0, 1) := by decide +kernel
theorem dX2_count_1 : decode cX2_count 1 = .ok (.getfield 9, 3) := by decide +kernel
theorem dX2_count_4 : decode cX2_count 4 = .ok (.aload_n 0, 1) := by decide +kernel
theorem dX2_count_5 : decode cX2_count 5 = .ok (.getfield 40, 3) := by decide +kernel
theorem dX2_count_8 : decode cX2_count 8 = .ok (.invokevirtual 52, 3) := by decide +kernel
theorem dX2_count_11 : decode cX2_count 11 = .ok (.istore_n 1, 1) := by decide +kernel
theorem dX2_count_12 : decode cX2_count 12 = .ok (.aload_n 0, 1) := by decide +kernel
theorem dX2_count_13 : decode cX2_count 13 = .ok (.dup, 1) := by decide +kernel
theorem dX2_count_14 : decode cX2_count 14 = .ok (.getfield 40, 3) := by decide +kernel
theorem dX2_count_17 : decode cX2_count 17 = .ok (.iconst 1, 1) := by decide +kernel
theorem dX2_count_18 : decode cX2_count 18 = .ok (.iadd, 1) := by decide +kernel
theorem dX2_count_19 : decode cX2_count 19 = .ok (.putfield 40, 3) := by decide +kernel
theorem dX2_count_22 : decode cX2_count 22 = .ok (.iload_n 1, 1) := by decide +kernel
theorem dX2_count_23 : decode cX2_count 23 = .ok (.bipush 48, 2) := by decide +kernel
theorem dX2_count_25 : decode cX2_count 25 = .ok (.if_icmp .lt 9, 3) := by decide +kernel
theorem dX2_count_28 : decode cX2_count 28 = .ok (.iload_n 1, 1) := by decide +kernel
theorem dX2_count_29 : decode cX2_count 29 = .ok (.bipush 52, 2) := by decide +kernel
theorem dX2_count_31 : decode cX2_count 31 = .ok (.if_icmp .le 8, 3) := by decide +kernel
theorem dX2_count_34 : decode cX2_count 34 = .ok (.aload_n 0, 1) := by decide +kernel
theorem dX2_count_35 : decode cX2_count 35 = .ok (.iconst 1, 1) := by decide +kernel
theorem dX2_count_36 : decode cX2_count 36 = .ok (.putfield 36, 3) := by decide +kernel
theorem dX2_count_39 : decode cX2_count 39 = .ok (.iload_n 1, 1) := by decide +kernel
theorem dX2_count_40 : decode cX2_count 40 = .ok (.bipush 48, 2) := by decide +kernel
theorem dX2_count_42 : decode cX2_count 42 = .ok (.isub, 1) := by decide +kernel
theorem dX2_count_43 : decode cX2_count 43 = .ok (.ireturn, 1) := by decide +kernel
def E_r_count (J : Nat) (g : Nat → Int32) (Q : QS)  (Q' : QS) (r : Int32) : Prop := if (rw_at J g (Q.1 2)) < 48 then (Q' = (rf (rf Q 2 ((Q.1 2) + 1)) 3 1) ∧ r = ((rw_at J g (Q.1 2)) - 48)) else (if (rw_at J g (Q.1 2)) ≤ 52 then (Q' = (rf Q 2 ((Q.1 2) + 1)) ∧ r = ((rw_at J g (Q.1 2)) - 48)) else (Q' = (rf (rf Q 2 ((Q.1 2) + 1)) 3 1) ∧ r = ((rw_at J g (Q.1 2)) - 48)))
set_option maxHeartbeats 4000000 in
set_option maxRecDepth 100000 in
theorem e_r_count (l : Launch) (G : PG) (h : Nat) (q ad : Nat → Nat) (J : Nat) (g : Nat → Int32) (hO : gOK J g) (Q : QS)  (Q' : QS) (r : Int32) (hE : E_r_count J g Q Q' r) : Ci l yX2_count (Cond.code yX2_count cX2_count 2 (some .int) :: aW) { frames := 1, cells := 0, slots := 0, locals := 21 } G (qW G h q ad J g Q) [.ref h] (fun (r9 : Int32) (_ : Unit) => r9 = r) (fun (_ : Unit) => qW G h q ad J g Q') 0 0 := by
  refine ofB (y := yX2_count) (G := G) (cc := cX2_count) (maxL := 2) (ret := (some .int)) (Qc := fun A => va_Qi (fun (r9 : Int32) (_ : Unit) => r9 = r) (oB G A (fun (_ : Unit) => qW G h q ad J g Q')) A) (by decide) rfl ?_
  intro p e s m below meth c A F hK hA hP hD
  have hS : va_S A s.heap s.heap [] := va_S.rf
  have hx := F.1.1; have hb := F.1.2.1; have hml := F.1.2.2.1; have hts := F.1.2.2.2.2
  have hown : s.vm.findClass RX2 = some m.cls := F.1.2.2.2.1
  have hl := lv_entry ([.ref h]) (n := 2) (Nat.le_of_ble_eq_true rfl)
  rw [lg_entry_eq]
  generalize (lg_sl ([.ref h]) ++ List.replicate (2 - (lg_sl ([.ref h])).length) Slot.unset).toArray = ls at hl ⊢
  have hl : lv_has ls 2 [(0, .ref h)] := hl
  unfold E_r_count at hE
  refine lv_aload_n hx hb dX2_count_0 rfl (lv_at hl 0 rfl) ?_
  refine va_get (D := G.1) (ci := 2) (C := RX2) (T := TX2) (N := 10) hx hb hts inX2 hown hK.1 hP 0 qW_0 rfl 0 (by decide) (hts _ w_275) (fun _ h9 => h9) rF_0 dX2_count_1 ?_
  refine lv_aload_n hx hb dX2_count_4 rfl (lv_at hl 0 rfl) ?_
  refine va_get (D := G.1) (ci := 2) (C := RX2) (T := TX2) (N := 10) hx hb hts inX2 hown hK.1 hP 0 qW_0 rfl 2 (by decide) (hts _ w_277) (fun _ h9 => h9) rF_2 dX2_count_5 ?_
  refine kp_V (va_runV (As := [.int (Q.1 2)]) (rest := []) F.1 (v_row_at l G _ _ _ J g (Q.1 2) hO.1 (by decide) hO.2 _) (cwV 1 hts (aw_V w_335 w_336 w_337 w_3 w_338) rfl rfl rfl (by decide +kernel) ⟨by decide, by decide⟩) ⟨cS_blind, va_recv (q := (RX3, TX3, 2)) (ci := 3) (q0 := 0) hK.1 (qP_row hP) rfl rfl, cS_pre (qP_row hP) (qD_row hD) hK⟩ rfl rfl hl.1 rfl (lv_room (Nat.le_of_ble_eq_true rfl)) dX2_count_8 ⟨Nat.le_refl _, Nat.le_refl _⟩) (fun v9 hp => ?_)
  subst hp
  refine lv_istore_n hx hb dX2_count_11 rfl hl (by decide) rfl (fun ls hl => ?_)
  have hl : lv_has ls 2 [(1, .int (rw_at J g (Q.1 2))), (0, .ref h)] := hl
  refine lv_aload_n hx hb dX2_count_12 rfl (lv_at hl 1 rfl) ?_
  refine lv_dup hx hb dX2_count_13 rfl ?_
  refine va_get (D := G.1) (ci := 2) (C := RX2) (T := TX2) (N := 10) hx hb hts inX2 hown hK.1 hP 0 qW_0 rfl 2 (by decide) (hts _ w_277) (fun _ h9 => h9) rF_2 dX2_count_14 ?_
  refine lv_iconst (v := 1) hx hb dX2_count_17 (by decide) ?_
  refine lv_iadd hx hb dX2_count_18 ?_
  refine va_put (D := G.1) (ci := 2) (v := .int ((Q.1 2) + 1)) (ty := .int) (C := RX2) (T := TX2) (N := 10) hx hb hts inX2 tyX2 tyX2_ok nmX2 hown hK.1 hP hD hS 0 qW_0 rfl 2 (by decide) (hts _ w_277) (fun _ h9 => h9) rfl (by decide +kernel) rfl rfl rF_l2 dX2_count_19 (fun H locs hP hD hS => ?_)
  rw [qW_f2] at hP hD
  refine lv_iload_n hx hb dX2_count_22 rfl (lv_at hl 0 rfl) ?_
  refine lv_bipush (v := 48) hx hb dX2_count_23 (by decide) ?_
  refine lv_icmp_lt (tgt := 34) hx hb dX2_count_25 (by decide) (fun h1 => ?_) (fun h1 => ?_)
  ·
    rw [if_pos h1] at hE
    refine lv_aload_n hx hb dX2_count_34 rfl (lv_at hl 1 rfl) ?_
    refine lv_iconst (v := 1) hx hb dX2_count_35 (by decide) ?_
    refine va_put (D := G.1) (ci := 2) (v := .int 1) (ty := .boolean) (C := RX2) (T := TX2) (N := 10) hx hb hts inX2 tyX2 tyX2_ok nmX2 hown hK.1 hP hD hS 0 qW_0 rfl 3 (by decide) (hts _ w_278) (fun _ h9 => h9) rfl (by decide +kernel) rfl rfl rF_l3 dX2_count_36 (fun H locs hP hD hS => ?_)
    rw [qW_f3] at hP hD
    refine lv_iload_n hx hb dX2_count_39 rfl (lv_at hl 0 rfl) ?_
    refine lv_bipush (v := 48) hx hb dX2_count_40 (by decide) ?_
    refine lv_isub hx hb dX2_count_42 ?_
    obtain ⟨rfl, rfl⟩ := hE
    exact en_i F hS _ () (by rfl) rfl hP hD (Nat.le_refl _) (Nat.le_refl _) dX2_count_43
  ·
    rw [if_neg h1] at hE
    refine lv_iload_n hx hb dX2_count_28 rfl (lv_at hl 0 rfl) ?_
    refine lv_bipush (v := 52) hx hb dX2_count_29 (by decide) ?_
    refine lv_icmp_le (tgt := 39) hx hb dX2_count_31 (by decide) (fun h2 => ?_) (fun h2 => ?_)
    ·
      rw [if_pos h2] at hE
      refine lv_iload_n hx hb dX2_count_39 rfl (lv_at hl 0 rfl) ?_
      refine lv_bipush (v := 48) hx hb dX2_count_40 (by decide) ?_
      refine lv_isub hx hb dX2_count_42 ?_
      obtain ⟨rfl, rfl⟩ := hE
      exact en_i F hS _ () (by rfl) rfl hP hD (Nat.le_refl _) (Nat.le_refl _) dX2_count_43
    ·
      rw [if_neg h2] at hE
      refine lv_aload_n hx hb dX2_count_34 rfl (lv_at hl 1 rfl) ?_
      refine lv_iconst (v := 1) hx hb dX2_count_35 (by decide) ?_
      refine va_put (D := G.1) (ci := 2) (v := .int 1) (ty := .boolean) (C := RX2) (T := TX2) (N := 10) hx hb hts inX2 tyX2 tyX2_ok nmX2 hown hK.1 hP hD hS 0 qW_0 rfl 3 (by decide) (hts _ w_278) (fun _ h9 => h9) rfl (by decide +kernel) rfl rfl rF_l3 dX2_count_36 (fun H locs hP hD hS => ?_)
      rw [qW_f3] at hP hD
      refine lv_iload_n hx hb dX2_count_39 rfl (lv_at hl 0 rfl) ?_
      refine lv_bipush (v := 48) hx hb dX2_count_40 (by decide) ?_
      refine lv_isub hx hb dX2_count_42 ?_
      obtain ⟨rfl, rfl⟩ := hE
      exact en_i F hS _ () (by rfl) rfl hP hD (Nat.le_refl _) (Nat.le_refl _) dX2_count_43

theorem dX2_readCounts_0 : decode cX2_readCounts 0 = .ok (.aload_n 0, 1) := by decide +kernel
theorem dX2_readCounts_1 : decode cX2_readCounts 1 = .ok (.aload_n 0, 1) := by decide +kernel
theorem dX2_readCounts_2 : decode cX2_readCounts 2 = .ok (.invokevirtual 110, 3) := by decide +kernel
theorem dX2_readCounts_5 : decode cX2_readCounts 5 = .ok (.putfield 86, 3) := by decide +kernel
theorem dX2_readCounts_8 : decode cX2_readCounts 8 = .ok (.aload_n 0, 1) := by decide +kernel
theorem dX2_readCounts_9 : decode cX2_readCounts 9 = .ok (.aload_n 0, 1) := by decide +kernel
theorem dX2_readCounts_10 : decode cX2_readCounts 10 = .ok (.getfield 86, 3) := by decide +kernel
theorem dX2_readCounts_13 : decode cX2_readCounts 13 = .ok (.putfield 90, 3) := by decide +kernel
theorem dX2_readCounts_16 : decode cX2_readCounts 16 = .ok (.aload_n 0, 1) := by decide +kernel
theorem dX2_readCounts_17 : decode cX2_readCounts 17 = .ok (.bipush 44, 2) := by decide +kernel
theorem dX2_readCounts_19 : decode cX2_readCounts 19 = .ok (.invokevirtual 94, 3) := by decide +kernel
theorem dX2_readCounts_22 : decode cX2_readCounts 22 = .ok (.ifCond .eq 31, 3) := by decide +kernel
theorem dX2_readCounts_25 : decode cX2_readCounts 25 = .ok (.aload_n 0, 1) := by decide +kernel
theorem dX2_readCounts_26 : decode cX2_readCounts 26 = .ok (.aload_n 0, 1) := by decide +kernel
theorem dX2_readCounts_27 : decode cX2_readCounts 27 = .ok (.getfield 9, 3) := by decide +kernel
theorem dX2_readCounts_30 : decode cX2_readCounts 30 = .ok (.aload_n 0, 1) := by decide +kernel
theorem dX2_readCounts_31 : decode cX2_readCounts 31 = .ok (.getfield 40, 3) := by decide +kernel
theorem dX2_readCounts_34 : decode cX2_readCounts 34 = .ok (.invokevirtual 52, 3) := by decide +kernel
theorem dX2_readCounts_37 : decode cX2_readCounts 37 = .ok (.bipush 125, 2) := by decide +kernel
theorem dX2_readCounts_39 : decode cX2_readCounts 39 = .ok (.if_icmp .ne 7, 3) := by decide +kernel
theorem dX2_readCounts_42 : decode cX2_readCounts 42 = .ok (.iconst (-1), 1) := by decide +kernel
theorem dX2_readCounts_43 : decode cX2_readCounts 43 = .ok (.goto 7, 3) := by decide +kernel
theorem dX2_readCounts_46 : decode cX2_readCounts 46 = .ok (.aload_n 0, 1) := by decide +kernel
theorem dX2_readCounts_47 : decode cX2_readCounts 47 = .ok (.invokevirtual 110, 3) := by decide +kernel
theorem dX2_readCounts_50 : decode cX2_readCounts 50 = .ok (.putfield 90, 3) := by decide +kernel
theorem dX2_readCounts_53 : decode cX2_readCounts 53 = .ok (.aload_n 0, 1) := by decide +kernel
theorem dX2_readCounts_54 : decode cX2_readCounts 54 = .ok (.bipush 125, 2) := by decide +kernel
theorem dX2_readCounts_56 : decode cX2_readCounts 56 = .ok (.invokevirtual 113, 3) := by decide +kernel
theorem dX2_readCounts_59 : decode cX2_readCounts 59 = .ok (.return_, 1) := by decide +kernel
def E_r_readCounts (J : Nat) (g : Nat → Int32) (Q : QS)  (Q' : QS) (r : Int32) : Prop := ∃ (Q1 : QS) (r2 : Int32), E_r_count J g Q Q1 r2 ∧ (∃ (Q3 : QS) (r4 : Int32), E_r_take J g (rf (rf Q1 8 r2) 9 r2) 44 Q3 r4 ∧ (if r4 = 0 then (∃ Q6 : QS, E_r_expect J g Q3 125 Q6 0 ∧ (Q' = Q6 ∧ r = 0)) else (if (rw_at J g (Q3.1 2)) = 125 then (∃ Q13 : QS, E_r_expect J g (rf Q3 9 (-1)) 125 Q13 0 ∧ (Q' = Q13 ∧ r = 0)) else (∃ (Q9 : QS) (r10 : Int32), E_r_count J g Q3 Q9 r10 ∧ (∃ Q11 : QS, E_r_expect J g (rf Q9 9 r10) 125 Q11 0 ∧ (Q' = Q11 ∧ r = 0))))))
set_option maxHeartbeats 4000000 in
set_option maxRecDepth 100000 in
theorem e_r_readCounts (l : Launch) (G : PG) (h : Nat) (q ad : Nat → Nat) (J : Nat) (g : Nat → Int32) (hO : gOK J g) (Q : QS)  (Q' : QS) (r : Int32) (hE : E_r_readCounts J g Q Q' r) : Cv l yX2_readCounts (Cond.code yX2_readCounts cX2_readCounts 1 none :: aW) { frames := 3, cells := 0, slots := 0, locals := 64 } G (qW G h q ad J g Q) [.ref h] (fun (_ : Unit) => True) (fun (_ : Unit) => qW G h q ad J g Q') 0 0 := by
  refine ofB (y := yX2_readCounts) (G := G) (cc := cX2_readCounts) (maxL := 1) (ret := none) (Qc := fun A => va_Qv (fun (_ : Unit) => True) (oB G A (fun (_ : Unit) => qW G h q ad J g Q')) A) (by decide) rfl ?_
  intro p e s m below meth c A F hK hA hP hD
  have hS : va_S A s.heap s.heap [] := va_S.rf
  have hx := F.1.1; have hb := F.1.2.1; have hml := F.1.2.2.1; have hts := F.1.2.2.2.2
  have hown : s.vm.findClass RX2 = some m.cls := F.1.2.2.2.1
  have hl := lv_entry ([.ref h]) (n := 1) (Nat.le_of_ble_eq_true rfl)
  rw [lg_entry_eq]
  generalize (lg_sl ([.ref h]) ++ List.replicate (1 - (lg_sl ([.ref h])).length) Slot.unset).toArray = ls at hl ⊢
  have hl : lv_has ls 1 [(0, .ref h)] := hl
  unfold E_r_readCounts at hE
  refine lv_aload_n hx hb dX2_readCounts_0 rfl (lv_at hl 0 rfl) ?_
  refine lv_aload_n hx hb dX2_readCounts_1 rfl (lv_at hl 0 rfl) ?_
  obtain ⟨Q1, r2, hg, hE⟩ := hE
  refine kA_i (va_runV (As := []) (rest := [.ref h]) F.1 (e_r_count l G h q ad J g hO Q Q1 r2 hg _) (cwV 0 hts (aw_V w_526 w_528 ws_X2_count w_7 w_529) rfl rfl rfl (by decide +kernel) ⟨by decide, by decide⟩) ⟨cS_blind, va_recv (q := (RX2, TX2, 10)) (ci := 2) (q0 := 0) hK.1 hP rfl qW_0, cS_pre hP hD hK⟩ rfl rfl hl.1 rfl (lv_room (Nat.le_of_ble_eq_true rfl)) dX2_readCounts_2 ⟨Nat.le_refl _, Nat.le_refl _⟩) hD hS hA (fun r9 u0 H locs hp hP hD hS => ?_)
  have hp := hp.symm; subst hp
  refine va_put (D := G.1) (ci := 2) (v := .int r2) (ty := .int) (C := RX2) (T := TX2) (N := 10) hx hb hts inX2 tyX2 tyX2_ok nmX2 hown hK.1 hP hD hS 0 qW_0 rfl 8 (by decide) (hts _ w_283) (fun _ h9 => h9) rfl (by decide +kernel) rfl rfl rF_l8 dX2_readCounts_5 (fun H locs hP hD hS => ?_)
  rw [qW_f8] at hP hD
  refine lv_aload_n hx hb dX2_readCounts_8 rfl (lv_at hl 0 rfl) ?_
  refine lv_aload_n hx hb dX2_readCounts_9 rfl (lv_at hl 0 rfl) ?_
  refine va_get (D := G.1) (ci := 2) (C := RX2) (T := TX2) (N := 10) hx hb hts inX2 hown hK.1 hP 0 qW_0 rfl 8 (by decide) (hts _ w_283) (fun _ h9 => h9) rF_8 dX2_readCounts_10 ?_
  refine tp_i r2 rfl ?_
  refine va_put (D := G.1) (ci := 2) (v := .int r2) (ty := .int) (C := RX2) (T := TX2) (N := 10) hx hb hts inX2 tyX2 tyX2_ok nmX2 hown hK.1 hP hD hS 0 qW_0 rfl 9 (by decide) (hts _ w_284) (fun _ h9 => h9) rfl (by decide +kernel) rfl rfl rF_l9 dX2_readCounts_13 (fun H locs hP hD hS => ?_)
  rw [qW_f9] at hP hD
  refine lv_aload_n hx hb dX2_readCounts_16 rfl (lv_at hl 0 rfl) ?_
  refine lv_bipush (v := 44) hx hb dX2_readCounts_17 (by decide) ?_
  obtain ⟨Q3, r4, hg, hE⟩ := hE
  refine kA_i (va_runV (As := [.int 44]) (rest := []) F.1 (e_r_take l G h q ad J g hO (rf (rf Q1 8 r2) 9 r2) 44 Q3 r4 hg _) (cwV 1 hts (aw_V w_359 w_361 ws_X2_take w_7 w_362) rfl rfl rfl (by decide +kernel) ⟨by decide, by decide⟩) ⟨cS_blind, va_recv (q := (RX2, TX2, 10)) (ci := 2) (q0 := 0) hK.1 hP rfl qW_0, cS_pre hP hD hK⟩ rfl rfl hl.1 rfl (lv_room (Nat.le_of_ble_eq_true rfl)) dX2_readCounts_19 ⟨Nat.le_refl _, Nat.le_refl _⟩) hD hS hA (fun r9 u0 H locs hp hP hD hS => ?_)
  have hp := hp.symm; subst hp
  refine lv_if_eq (tgt := 53) hx hb dX2_readCounts_22 (by decide) (fun h5 => ?_) (fun h5 => ?_)
  ·
    rw [if_pos h5] at hE
    refine lv_aload_n hx hb dX2_readCounts_53 rfl (lv_at hl 0 rfl) ?_
    refine lv_bipush (v := 125) hx hb dX2_readCounts_54 (by decide) ?_
    obtain ⟨Q6, hg, hE⟩ := hE
    refine kA_v (va_runV (As := [.int 125]) (rest := []) F.1 (e_r_expect l G h q ad J g hO Q3 125 Q6 0 hg _) (cwV 1 hts (aw_V w_371 w_373 ws_X2_expect w_7 w_374) rfl rfl rfl (by decide +kernel) ⟨by decide, by decide⟩) ⟨cS_blind, va_recv (q := (RX2, TX2, 10)) (ci := 2) (q0 := 0) hK.1 hP rfl qW_0, cS_pre hP hD hK⟩ rfl rfl hl.1 rfl (lv_room (Nat.le_of_ble_eq_true rfl)) dX2_readCounts_56 ⟨Nat.le_refl _, Nat.le_refl _⟩) hD hS hA (fun u0 H locs hp hP hD hS => ?_)
    obtain ⟨rfl, rfl⟩ := hE
    exact en_v F hS () trivial hP hD (Nat.le_refl _) (Nat.le_refl _) dX2_readCounts_59
  ·
    rw [if_neg h5] at hE
    refine lv_aload_n hx hb dX2_readCounts_25 rfl (lv_at hl 0 rfl) ?_
    refine lv_aload_n hx hb dX2_readCounts_26 rfl (lv_at hl 0 rfl) ?_
    refine va_get (D := G.1) (ci := 2) (C := RX2) (T := TX2) (N := 10) hx hb hts inX2 hown hK.1 hP 0 qW_0 rfl 0 (by decide) (hts _ w_275) (fun _ h9 => h9) rF_0 dX2_readCounts_27 ?_
    refine lv_aload_n hx hb dX2_readCounts_30 rfl (lv_at hl 0 rfl) ?_
    refine va_get (D := G.1) (ci := 2) (C := RX2) (T := TX2) (N := 10) hx hb hts inX2 hown hK.1 hP 0 qW_0 rfl 2 (by decide) (hts _ w_277) (fun _ h9 => h9) rF_2 dX2_readCounts_31 ?_
    refine kp_V (va_runV (As := [.int (Q3.1 2)]) (rest := [.ref h]) F.1 (v_row_at l G _ _ _ J g (Q3.1 2) hO.1 (by decide) hO.2 _) (cwV 1 hts (aw_V w_335 w_336 w_337 w_3 w_338) rfl rfl rfl (by decide +kernel) ⟨by decide, by decide⟩) ⟨cS_blind, va_recv (q := (RX3, TX3, 2)) (ci := 3) (q0 := 0) hK.1 (qP_row hP) rfl rfl, cS_pre (qP_row hP) (qD_row hD) hK⟩ rfl rfl hl.1 rfl (lv_room (Nat.le_of_ble_eq_true rfl)) dX2_readCounts_34 ⟨Nat.le_refl _, Nat.le_refl _⟩) (fun v9 hp => ?_)
    subst hp
    refine lv_bipush (v := 125) hx hb dX2_readCounts_37 (by decide) ?_
    refine lv_icmp_ne (tgt := 46) hx hb dX2_readCounts_39 (by decide) (fun h8 => ?_) (fun h8 => ?_)
    ·
      rw [if_neg h8] at hE
      refine lv_aload_n hx hb dX2_readCounts_46 rfl (lv_at hl 0 rfl) ?_
      obtain ⟨Q9, r10, hg, hE⟩ := hE
      refine kA_i (va_runV (As := []) (rest := [.ref h]) F.1 (e_r_count l G h q ad J g hO Q3 Q9 r10 hg _) (cwV 0 hts (aw_V w_526 w_528 ws_X2_count w_7 w_529) rfl rfl rfl (by decide +kernel) ⟨by decide, by decide⟩) ⟨cS_blind, va_recv (q := (RX2, TX2, 10)) (ci := 2) (q0 := 0) hK.1 hP rfl qW_0, cS_pre hP hD hK⟩ rfl rfl hl.1 rfl (lv_room (Nat.le_of_ble_eq_true rfl)) dX2_readCounts_47 ⟨Nat.le_refl _, Nat.le_refl _⟩) hD hS hA (fun r9 u0 H locs hp hP hD hS => ?_)
      have hp := hp.symm; subst hp
      refine va_put (D := G.1) (ci := 2) (v := .int r10) (ty := .int) (C := RX2) (T := TX2) (N := 10) hx hb hts inX2 tyX2 tyX2_ok nmX2 hown hK.1 hP hD hS 0 qW_0 rfl 9 (by decide) (hts _ w_284) (fun _ h9 => h9) rfl (by decide +kernel) rfl rfl rF_l9 dX2_readCounts_50 (fun H locs hP hD hS => ?_)
      rw [qW_f9] at hP hD
      refine lv_aload_n hx hb dX2_readCounts_53 rfl (lv_at hl 0 rfl) ?_
      refine lv_bipush (v := 125) hx hb dX2_readCounts_54 (by decide) ?_
      obtain ⟨Q11, hg, hE⟩ := hE
      refine kA_v (va_runV (As := [.int 125]) (rest := []) F.1 (e_r_expect l G h q ad J g hO (rf Q9 9 r10) 125 Q11 0 hg _) (cwV 1 hts (aw_V w_371 w_373 ws_X2_expect w_7 w_374) rfl rfl rfl (by decide +kernel) ⟨by decide, by decide⟩) ⟨cS_blind, va_recv (q := (RX2, TX2, 10)) (ci := 2) (q0 := 0) hK.1 hP rfl qW_0, cS_pre hP hD hK⟩ rfl rfl hl.1 rfl (lv_room (Nat.le_of_ble_eq_true rfl)) dX2_readCounts_56 ⟨Nat.le_refl _, Nat.le_refl _⟩) hD hS hA (fun u0 H locs hp hP hD hS => ?_)
      obtain ⟨rfl, rfl⟩ := hE
      exact en_v F hS () trivial hP hD (Nat.le_refl _) (Nat.le_refl _) dX2_readCounts_59
    ·
      rw [if_pos h8] at hE
      refine lv_iconst (v := (-1)) hx hb dX2_readCounts_42 (by decide) ?_
      refine lv_goto (tgt := 50) hx hb dX2_readCounts_43 (by decide) ?_
      refine va_put (D := G.1) (ci := 2) (v := .int (-1)) (ty := .int) (C := RX2) (T := TX2) (N := 10) hx hb hts inX2 tyX2 tyX2_ok nmX2 hown hK.1 hP hD hS 0 qW_0 rfl 9 (by decide) (hts _ w_284) (fun _ h9 => h9) rfl (by decide +kernel) rfl rfl rF_l9 dX2_readCounts_50 (fun H locs hP hD hS => ?_)
      rw [qW_f9] at hP hD
      refine lv_aload_n hx hb dX2_readCounts_53 rfl (lv_at hl 0 rfl) ?_
      refine lv_bipush (v := 125) hx hb dX2_readCounts_54 (by decide) ?_
      obtain ⟨Q13, hg, hE⟩ := hE
      refine kA_v (va_runV (As := [.int 125]) (rest := []) F.1 (e_r_expect l G h q ad J g hO (rf Q3 9 (-1)) 125 Q13 0 hg _) (cwV 1 hts (aw_V w_371 w_373 ws_X2_expect w_7 w_374) rfl rfl rfl (by decide +kernel) ⟨by decide, by decide⟩) ⟨cS_blind, va_recv (q := (RX2, TX2, 10)) (ci := 2) (q0 := 0) hK.1 hP rfl qW_0, cS_pre hP hD hK⟩ rfl rfl hl.1 rfl (lv_room (Nat.le_of_ble_eq_true rfl)) dX2_readCounts_56 ⟨Nat.le_refl _, Nat.le_refl _⟩) hD hS hA (fun u0 H locs hp hP hD hS => ?_)
      obtain ⟨rfl, rfl⟩ := hE
      exact en_v F hS () trivial hP hD (Nat.le_refl _) (Nat.le_refl _) dX2_readCounts_59

theorem dX2_readLoop_0 : decode cX2_readLoop 0 = .ok (.aload_n 0, 1) := by decide +kernel
theorem dX2_readLoop_1 : decode cX2_readLoop 1 = .ok (.getfield 9, 3) := by decide +kernel
theorem dX2_readLoop_4 : decode cX2_readLoop 4 = .ok (.aload_n 0, 1) := by decide +kernel
theorem dX2_readLoop_5 : decode cX2_readLoop 5 = .ok (.getfield 40, 3) := by decide +kernel
theorem dX2_readLoop_8 : decode cX2_readLoop 8 = .ok (.invokevirtual 52, 3) := by decide +kernel
theorem dX2_readLoop_11 : decode cX2_readLoop 11 = .ok (.istore_n 1, 1) := by decide +kernel
theorem dX2_readLoop_12 : decode cX2_readLoop 12 = .ok (.iload_n 1, 1) := by decide +kernel
theorem dX2_readLoop_13 : decode cX2_readLoop 13 = .ok (.bipush 63, 2) := by decide +kernel
theorem dX2_readLoop_15 : decode cX2_readLoop 15 = .ok (.if_icmp .eq 23, 3) := by decide +kernel
theorem dX2_readLoop_18 : decode cX2_readLoop 18 = .ok (.iload_n 1, 1) := by decide +kernel
theorem dX2_readLoop_19 : decode cX2_readLoop 19 = .ok (.bipush 42, 2) := by decide +kernel
theorem dX2_readLoop_21 : decode cX2_readLoop 21 = .ok (.if_icmp .eq 17, 3) := by decide +kernel
theorem dX2_readLoop_24 : decode cX2_readLoop 24 = .ok (.iload_n 1, 1) := by decide +kernel
theorem dX2_readLoop_25 : decode cX2_readLoop 25 = .ok (.bipush 43, 2) := by decide +kernel
theorem dX2_readLoop_27 : decode cX2_readLoop 27 = .ok (.if_icmp .eq 11, 3) := by decide +kernel
theorem dX2_readLoop_30 : decode cX2_readLoop 30 = .ok (.iload_n 1, 1) := by decide +kernel
theorem dX2_readLoop_31 : decode cX2_readLoop 31 = .ok (.bipush 123, 2) := by decide +kernel
theorem dX2_readLoop_33 : decode cX2_readLoop 33 = .ok (.if_icmp .eq 5, 3) := by decide +kernel
theorem dX2_readLoop_36 : decode cX2_readLoop 36 = .ok (.iconst 0, 1) := by decide +kernel
theorem dX2_readLoop_37 : decode cX2_readLoop 37 = .ok (.ireturn, 1) := by decide +kernel
theorem dX2_readLoop_38 : decode cX2_readLoop 38 = .ok (.aload_n 0, 1) := by decide +kernel
theorem dX2_readLoop_39 : decode cX2_readLoop 39 = .ok (.dup, 1) := by decide +kernel
theorem dX2_readLoop_40 : decode cX2_readLoop 40 = .ok (.getfield 40, 3) := by decide +kernel
theorem dX2_readLoop_43 : decode cX2_readLoop 43 = .ok (.iconst 1, 1) := by decide +kernel
theorem dX2_readLoop_44 : decode cX2_readLoop 44 = .ok (.iadd, 1) := by decide +kernel
theorem dX2_readLoop_45 : decode cX2_readLoop 45 = .ok (.putfield 40, 3) := by decide +kernel
theorem dX2_readLoop_48 : decode cX2_readLoop 48 = .ok (.aload_n 0, 1) := by decide +kernel
theorem dX2_readLoop_49 : decode cX2_readLoop 49 = .ok (.iload_n 1, 1) := by decide +kernel
theorem dX2_readLoop_50 : decode cX2_readLoop 50 = .ok (.bipush 43, 2) := by decide +kernel
theorem dX2_readLoop_52 : decode cX2_readLoop 52 = .ok (.if_icmp .ne 7, 3) := by decide +kernel
theorem dX2_readLoop_55 : decode cX2_readLoop 55 = .ok (.iconst 1, 1) := by decide +kernel
theorem dX2_readLoop_56 : decode cX2_readLoop 56 = .ok (.goto 4, 3) := by decide +kernel
theorem dX2_readLoop_59 : decode cX2_readLoop 59 = .ok (.iconst 0, 1) := by decide +kernel
theorem dX2_readLoop_60 : decode cX2_readLoop 60 = .ok (.putfield 86, 3) := by decide +kernel
theorem dX2_readLoop_63 : decode cX2_readLoop 63 = .ok (.aload_n 0, 1) := by decide +kernel
theorem dX2_readLoop_64 : decode cX2_readLoop 64 = .ok (.iload_n 1, 1) := by decide +kernel
theorem dX2_readLoop_65 : decode cX2_readLoop 65 = .ok (.bipush 63, 2) := by decide +kernel
theorem dX2_readLoop_67 : decode cX2_readLoop 67 = .ok (.if_icmp .ne 7, 3) := by decide +kernel
theorem dX2_readLoop_70 : decode cX2_readLoop 70 = .ok (.iconst 1, 1) := by decide +kernel
theorem dX2_readLoop_71 : decode cX2_readLoop 71 = .ok (.goto 4, 3) := by decide +kernel
theorem dX2_readLoop_74 : decode cX2_readLoop 74 = .ok (.iconst (-1), 1) := by decide +kernel
theorem dX2_readLoop_75 : decode cX2_readLoop 75 = .ok (.putfield 90, 3) := by decide +kernel
theorem dX2_readLoop_78 : decode cX2_readLoop 78 = .ok (.iload_n 1, 1) := by decide +kernel
theorem dX2_readLoop_79 : decode cX2_readLoop 79 = .ok (.bipush 123, 2) := by decide +kernel
theorem dX2_readLoop_81 : decode cX2_readLoop 81 = .ok (.if_icmp .ne 7, 3) := by decide +kernel
theorem dX2_readLoop_84 : decode cX2_readLoop 84 = .ok (.aload_n 0, 1) := by decide +kernel
theorem dX2_readLoop_85 : decode cX2_readLoop 85 = .ok (.invokevirtual 104, 3) := by decide +kernel
theorem dX2_readLoop_88 : decode cX2_readLoop 88 = .ok (.aload_n 0, 1) := by decide +kernel
theorem dX2_readLoop_89 : decode cX2_readLoop 89 = .ok (.getfield 90, 3) := by decide +kernel
theorem dX2_readLoop_92 : decode cX2_readLoop 92 = .ok (.iconst (-1), 1) := by decide +kernel
theorem dX2_readLoop_93 : decode cX2_readLoop 93 = .ok (.if_icmp .ne 13, 3) := by decide +kernel
theorem dX2_readLoop_96 : decode cX2_readLoop 96 = .ok (.aload_n 0, 1) := by decide +kernel
theorem dX2_readLoop_97 : decode cX2_readLoop 97 = .ok (.getfield 107, 3) := by decide +kernel
theorem dX2_readLoop_100 : decode cX2_readLoop 100 = .ok (.ifCond .le 22, 3) := by decide +kernel
theorem dX2_readLoop_103 : decode cX2_readLoop 103 = .ok (.goto 14, 3) := by decide +kernel
theorem dX2_readLoop_106 : decode cX2_readLoop 106 = .ok (.aload_n 0, 1) := by decide +kernel
theorem dX2_readLoop_107 : decode cX2_readLoop 107 = .ok (.getfield 90, 3) := by decide +kernel
theorem dX2_readLoop_110 : decode cX2_readLoop 110 = .ok (.aload_n 0, 1) := by decide +kernel
theorem dX2_readLoop_111 : decode cX2_readLoop 111 = .ok (.getfield 86, 3) := by decide +kernel
theorem dX2_readLoop_114 : decode cX2_readLoop 114 = .ok (.if_icmp .ge 8, 3) := by decide +kernel
theorem dX2_readLoop_117 : decode cX2_readLoop 117 = .ok (.aload_n 0, 1) := by decide +kernel
theorem dX2_readLoop_118 : decode cX2_readLoop 118 = .ok (.iconst 1, 1) := by decide +kernel
theorem dX2_readLoop_119 : decode cX2_readLoop 119 = .ok (.putfield 36, 3) := by decide +kernel
theorem dX2_readLoop_122 : decode cX2_readLoop 122 = .ok (.iconst 1, 1) := by decide +kernel
theorem dX2_readLoop_123 : decode cX2_readLoop 123 = .ok (.ireturn, 1) := by decide +kernel
def E_r_readLoop (J : Nat) (g : Nat → Int32) (Q : QS)  (Q' : QS) (r : Int32) : Prop := if (rw_at J g (Q.1 2)) = 63 then (if (rw_at J g (Q.1 2)) = 43 then (if (rw_at J g (Q.1 2)) = 63 then (if (rw_at J g (Q.1 2)) = 123 then (∃ Q26 : QS, E_r_readCounts J g (rf (rf (rf Q 2 ((Q.1 2) + 1)) 8 1) 9 1) Q26 0 ∧ (if (Q26.1 9) = (-1) then (if (Q26.1 4) ≤ 0 then (Q' = Q26 ∧ r = 1) else (Q' = (rf Q26 3 1) ∧ r = 1)) else (if (Q26.1 8) ≤ (Q26.1 9) then (Q' = Q26 ∧ r = 1) else (Q' = (rf Q26 3 1) ∧ r = 1)))) else (Q' = (rf (rf (rf Q 2 ((Q.1 2) + 1)) 8 1) 9 1) ∧ r = 1)) else (if (rw_at J g (Q.1 2)) = 123 then (∃ Q20 : QS, E_r_readCounts J g (rf (rf (rf Q 2 ((Q.1 2) + 1)) 8 1) 9 (-1)) Q20 0 ∧ (if (Q20.1 9) = (-1) then (if (Q20.1 4) ≤ 0 then (Q' = Q20 ∧ r = 1) else (Q' = (rf Q20 3 1) ∧ r = 1)) else (if (Q20.1 8) ≤ (Q20.1 9) then (Q' = Q20 ∧ r = 1) else (Q' = (rf Q20 3 1) ∧ r = 1)))) else (if (Q.1 4) ≤ 0 then (Q' = (rf (rf (rf Q 2 ((Q.1 2) + 1)) 8 1) 9 (-1)) ∧ r = 1) else (Q' = (rf (rf (rf (rf Q 2 ((Q.1 2) + 1)) 8 1) 9 (-1)) 3 1) ∧ r = 1)))) else (if (rw_at J g (Q.1 2)) = 63 then (if (rw_at J g (Q.1 2)) = 123 then (∃ Q12 : QS, E_r_readCounts J g (rf (rf (rf Q 2 ((Q.1 2) + 1)) 8 0) 9 1) Q12 0 ∧ (if (Q12.1 9) = (-1) then (if (Q12.1 4) ≤ 0 then (Q' = Q12 ∧ r = 1) else (Q' = (rf Q12 3 1) ∧ r = 1)) else (if (Q12.1 8) ≤ (Q12.1 9) then (Q' = Q12 ∧ r = 1) else (Q' = (rf Q12 3 1) ∧ r = 1)))) else (Q' = (rf (rf (rf Q 2 ((Q.1 2) + 1)) 8 0) 9 1) ∧ r = 1)) else (if (rw_at J g (Q.1 2)) = 123 then (∃ Q6 : QS, E_r_readCounts J g (rf (rf (rf Q 2 ((Q.1 2) + 1)) 8 0) 9 (-1)) Q6 0 ∧ (if (Q6.1 9) = (-1) then (if (Q6.1 4) ≤ 0 then (Q' = Q6 ∧ r = 1) else (Q' = (rf Q6 3 1) ∧ r = 1)) else (if (Q6.1 8) ≤ (Q6.1 9) then (Q' = Q6 ∧ r = 1) else (Q' = (rf Q6 3 1) ∧ r = 1)))) else (if (Q.1 4) ≤ 0 then (Q' = (rf (rf (rf Q 2 ((Q.1 2) + 1)) 8 0) 9 (-1)) ∧ r = 1) else (Q' = (rf (rf (rf (rf Q 2 ((Q.1 2) + 1)) 8 0) 9 (-1)) 3 1) ∧ r = 1))))) else (if (rw_at J g (Q.1 2)) = 42 then (if (rw_at J g (Q.1 2)) = 43 then (if (rw_at J g (Q.1 2)) = 63 then (if (rw_at J g (Q.1 2)) = 123 then (∃ Q56 : QS, E_r_readCounts J g (rf (rf (rf Q 2 ((Q.1 2) + 1)) 8 1) 9 1) Q56 0 ∧ (if (Q56.1 9) = (-1) then (if (Q56.1 4) ≤ 0 then (Q' = Q56 ∧ r = 1) else (Q' = (rf Q56 3 1) ∧ r = 1)) else (if (Q56.1 8) ≤ (Q56.1 9) then (Q' = Q56 ∧ r = 1) else (Q' = (rf Q56 3 1) ∧ r = 1)))) else (Q' = (rf (rf (rf Q 2 ((Q.1 2) + 1)) 8 1) 9 1) ∧ r = 1)) else (if (rw_at J g (Q.1 2)) = 123 then (∃ Q50 : QS, E_r_readCounts J g (rf (rf (rf Q 2 ((Q.1 2) + 1)) 8 1) 9 (-1)) Q50 0 ∧ (if (Q50.1 9) = (-1) then (if (Q50.1 4) ≤ 0 then (Q' = Q50 ∧ r = 1) else (Q' = (rf Q50 3 1) ∧ r = 1)) else (if (Q50.1 8) ≤ (Q50.1 9) then (Q' = Q50 ∧ r = 1) else (Q' = (rf Q50 3 1) ∧ r = 1)))) else (if (Q.1 4) ≤ 0 then (Q' = (rf (rf (rf Q 2 ((Q.1 2) + 1)) 8 1) 9 (-1)) ∧ r = 1) else (Q' = (rf (rf (rf (rf Q 2 ((Q.1 2) + 1)) 8 1) 9 (-1)) 3 1) ∧ r = 1)))) else (if (rw_at J g (Q.1 2)) = 63 then (if (rw_at J g (Q.1 2)) = 123 then (∃ Q42 : QS, E_r_readCounts J g (rf (rf (rf Q 2 ((Q.1 2) + 1)) 8 0) 9 1) Q42 0 ∧ (if (Q42.1 9) = (-1) then (if (Q42.1 4) ≤ 0 then (Q' = Q42 ∧ r = 1) else (Q' = (rf Q42 3 1) ∧ r = 1)) else (if (Q42.1 8) ≤ (Q42.1 9) then (Q' = Q42 ∧ r = 1) else (Q' = (rf Q42 3 1) ∧ r = 1)))) else (Q' = (rf (rf (rf Q 2 ((Q.1 2) + 1)) 8 0) 9 1) ∧ r = 1)) else (if (rw_at J g (Q.1 2)) = 123 then (∃ Q36 : QS, E_r_readCounts J g (rf (rf (rf Q 2 ((Q.1 2) + 1)) 8 0) 9 (-1)) Q36 0 ∧ (if (Q36.1 9) = (-1) then (if (Q36.1 4) ≤ 0 then (Q' = Q36 ∧ r = 1) else (Q' = (rf Q36 3 1) ∧ r = 1)) else (if (Q36.1 8) ≤ (Q36.1 9) then (Q' = Q36 ∧ r = 1) else (Q' = (rf Q36 3 1) ∧ r = 1)))) else (if (Q.1 4) ≤ 0 then (Q' = (rf (rf (rf Q 2 ((Q.1 2) + 1)) 8 0) 9 (-1)) ∧ r = 1) else (Q' = (rf (rf (rf (rf Q 2 ((Q.1 2) + 1)) 8 0) 9 (-1)) 3 1) ∧ r = 1))))) else (if (rw_at J g (Q.1 2)) = 43 then (if (rw_at J g (Q.1 2)) = 43 then (if (rw_at J g (Q.1 2)) = 63 then (if (rw_at J g (Q.1 2)) = 123 then (∃ Q86 : QS, E_r_readCounts J g (rf (rf (rf Q 2 ((Q.1 2) + 1)) 8 1) 9 1) Q86 0 ∧ (if (Q86.1 9) = (-1) then (if (Q86.1 4) ≤ 0 then (Q' = Q86 ∧ r = 1) else (Q' = (rf Q86 3 1) ∧ r = 1)) else (if (Q86.1 8) ≤ (Q86.1 9) then (Q' = Q86 ∧ r = 1) else (Q' = (rf Q86 3 1) ∧ r = 1)))) else (Q' = (rf (rf (rf Q 2 ((Q.1 2) + 1)) 8 1) 9 1) ∧ r = 1)) else (if (rw_at J g (Q.1 2)) = 123 then (∃ Q80 : QS, E_r_readCounts J g (rf (rf (rf Q 2 ((Q.1 2) + 1)) 8 1) 9 (-1)) Q80 0 ∧ (if (Q80.1 9) = (-1) then (if (Q80.1 4) ≤ 0 then (Q' = Q80 ∧ r = 1) else (Q' = (rf Q80 3 1) ∧ r = 1)) else (if (Q80.1 8) ≤ (Q80.1 9) then (Q' = Q80 ∧ r = 1) else (Q' = (rf Q80 3 1) ∧ r = 1)))) else (if (Q.1 4) ≤ 0 then (Q' = (rf (rf (rf Q 2 ((Q.1 2) + 1)) 8 1) 9 (-1)) ∧ r = 1) else (Q' = (rf (rf (rf (rf Q 2 ((Q.1 2) + 1)) 8 1) 9 (-1)) 3 1) ∧ r = 1)))) else (if (rw_at J g (Q.1 2)) = 63 then (if (rw_at J g (Q.1 2)) = 123 then (∃ Q72 : QS, E_r_readCounts J g (rf (rf (rf Q 2 ((Q.1 2) + 1)) 8 0) 9 1) Q72 0 ∧ (if (Q72.1 9) = (-1) then (if (Q72.1 4) ≤ 0 then (Q' = Q72 ∧ r = 1) else (Q' = (rf Q72 3 1) ∧ r = 1)) else (if (Q72.1 8) ≤ (Q72.1 9) then (Q' = Q72 ∧ r = 1) else (Q' = (rf Q72 3 1) ∧ r = 1)))) else (Q' = (rf (rf (rf Q 2 ((Q.1 2) + 1)) 8 0) 9 1) ∧ r = 1)) else (if (rw_at J g (Q.1 2)) = 123 then (∃ Q66 : QS, E_r_readCounts J g (rf (rf (rf Q 2 ((Q.1 2) + 1)) 8 0) 9 (-1)) Q66 0 ∧ (if (Q66.1 9) = (-1) then (if (Q66.1 4) ≤ 0 then (Q' = Q66 ∧ r = 1) else (Q' = (rf Q66 3 1) ∧ r = 1)) else (if (Q66.1 8) ≤ (Q66.1 9) then (Q' = Q66 ∧ r = 1) else (Q' = (rf Q66 3 1) ∧ r = 1)))) else (if (Q.1 4) ≤ 0 then (Q' = (rf (rf (rf Q 2 ((Q.1 2) + 1)) 8 0) 9 (-1)) ∧ r = 1) else (Q' = (rf (rf (rf (rf Q 2 ((Q.1 2) + 1)) 8 0) 9 (-1)) 3 1) ∧ r = 1))))) else (if (rw_at J g (Q.1 2)) = 123 then (if (rw_at J g (Q.1 2)) = 43 then (if (rw_at J g (Q.1 2)) = 63 then (if (rw_at J g (Q.1 2)) = 123 then (∃ Q116 : QS, E_r_readCounts J g (rf (rf (rf Q 2 ((Q.1 2) + 1)) 8 1) 9 1) Q116 0 ∧ (if (Q116.1 9) = (-1) then (if (Q116.1 4) ≤ 0 then (Q' = Q116 ∧ r = 1) else (Q' = (rf Q116 3 1) ∧ r = 1)) else (if (Q116.1 8) ≤ (Q116.1 9) then (Q' = Q116 ∧ r = 1) else (Q' = (rf Q116 3 1) ∧ r = 1)))) else (Q' = (rf (rf (rf Q 2 ((Q.1 2) + 1)) 8 1) 9 1) ∧ r = 1)) else (if (rw_at J g (Q.1 2)) = 123 then (∃ Q110 : QS, E_r_readCounts J g (rf (rf (rf Q 2 ((Q.1 2) + 1)) 8 1) 9 (-1)) Q110 0 ∧ (if (Q110.1 9) = (-1) then (if (Q110.1 4) ≤ 0 then (Q' = Q110 ∧ r = 1) else (Q' = (rf Q110 3 1) ∧ r = 1)) else (if (Q110.1 8) ≤ (Q110.1 9) then (Q' = Q110 ∧ r = 1) else (Q' = (rf Q110 3 1) ∧ r = 1)))) else (if (Q.1 4) ≤ 0 then (Q' = (rf (rf (rf Q 2 ((Q.1 2) + 1)) 8 1) 9 (-1)) ∧ r = 1) else (Q' = (rf (rf (rf (rf Q 2 ((Q.1 2) + 1)) 8 1) 9 (-1)) 3 1) ∧ r = 1)))) else (if (rw_at J g (Q.1 2)) = 63 then (if (rw_at J g (Q.1 2)) = 123 then (∃ Q102 : QS, E_r_readCounts J g (rf (rf (rf Q 2 ((Q.1 2) + 1)) 8 0) 9 1) Q102 0 ∧ (if (Q102.1 9) = (-1) then (if (Q102.1 4) ≤ 0 then (Q' = Q102 ∧ r = 1) else (Q' = (rf Q102 3 1) ∧ r = 1)) else (if (Q102.1 8) ≤ (Q102.1 9) then (Q' = Q102 ∧ r = 1) else (Q' = (rf Q102 3 1) ∧ r = 1)))) else (Q' = (rf (rf (rf Q 2 ((Q.1 2) + 1)) 8 0) 9 1) ∧ r = 1)) else (if (rw_at J g (Q.1 2)) = 123 then (∃ Q96 : QS, E_r_readCounts J g (rf (rf (rf Q 2 ((Q.1 2) + 1)) 8 0) 9 (-1)) Q96 0 ∧ (if (Q96.1 9) = (-1) then (if (Q96.1 4) ≤ 0 then (Q' = Q96 ∧ r = 1) else (Q' = (rf Q96 3 1) ∧ r = 1)) else (if (Q96.1 8) ≤ (Q96.1 9) then (Q' = Q96 ∧ r = 1) else (Q' = (rf Q96 3 1) ∧ r = 1)))) else (if (Q.1 4) ≤ 0 then (Q' = (rf (rf (rf Q 2 ((Q.1 2) + 1)) 8 0) 9 (-1)) ∧ r = 1) else (Q' = (rf (rf (rf (rf Q 2 ((Q.1 2) + 1)) 8 0) 9 (-1)) 3 1) ∧ r = 1))))) else (Q' = Q ∧ r = 0))))
set_option maxHeartbeats 4000000 in
set_option maxRecDepth 100000 in
theorem e_r_readLoop (l : Launch) (G : PG) (h : Nat) (q ad : Nat → Nat) (J : Nat) (g : Nat → Int32) (hO : gOK J g) (Q : QS)  (Q' : QS) (r : Int32) (hE : E_r_readLoop J g Q Q' r) : Ci l yX2_readLoop (Cond.code yX2_readLoop cX2_readLoop 2 (some .boolean) :: aW) { frames := 4, cells := 0, slots := 0, locals := 84 } G (qW G h q ad J g Q) [.ref h] (fun (r9 : Int32) (_ : Unit) => r9 = r) (fun (_ : Unit) => qW G h q ad J g Q') 0 0 := by
  refine ofB (y := yX2_readLoop) (G := G) (cc := cX2_readLoop) (maxL := 2) (ret := (some .boolean)) (Qc := fun A => va_Qi (fun (r9 : Int32) (_ : Unit) => r9 = r) (oB G A (fun (_ : Unit) => qW G h q ad J g Q')) A) (by decide) rfl ?_
  intro p e s m below meth c A F hK hA hP hD
  have hS : va_S A s.heap s.heap [] := va_S.rf
  have hx := F.1.1; have hb := F.1.2.1; have hml := F.1.2.2.1; have hts := F.1.2.2.2.2
  have hown : s.vm.findClass RX2 = some m.cls := F.1.2.2.2.1
  have hl := lv_entry ([.ref h]) (n := 2) (Nat.le_of_ble_eq_true rfl)
  rw [lg_entry_eq]
  generalize (lg_sl ([.ref h]) ++ List.replicate (2 - (lg_sl ([.ref h])).length) Slot.unset).toArray = ls at hl ⊢
  have hl : lv_has ls 2 [(0, .ref h)] := hl
  unfold E_r_readLoop at hE
  refine lv_aload_n hx hb dX2_readLoop_0 rfl (lv_at hl 0 rfl) ?_
  refine va_get (D := G.1) (ci := 2) (C := RX2) (T := TX2) (N := 10) hx hb hts inX2 hown hK.1 hP 0 qW_0 rfl 0 (by decide) (hts _ w_275) (fun _ h9 => h9) rF_0 dX2_readLoop_1 ?_
  refine lv_aload_n hx hb dX2_readLoop_4 rfl (lv_at hl 0 rfl) ?_
  refine va_get (D := G.1) (ci := 2) (C := RX2) (T := TX2) (N := 10) hx hb hts inX2 hown hK.1 hP 0 qW_0 rfl 2 (by decide) (hts _ w_277) (fun _ h9 => h9) rF_2 dX2_readLoop_5 ?_
  refine kp_V (va_runV (As := [.int (Q.1 2)]) (rest := []) F.1 (v_row_at l G _ _ _ J g (Q.1 2) hO.1 (by decide) hO.2 _) (cwV 1 hts (aw_V w_335 w_336 w_337 w_3 w_338) rfl rfl rfl (by decide +kernel) ⟨by decide, by decide⟩) ⟨cS_blind, va_recv (q := (RX3, TX3, 2)) (ci := 3) (q0 := 0) hK.1 (qP_row hP) rfl rfl, cS_pre (qP_row hP) (qD_row hD) hK⟩ rfl rfl hl.1 rfl (lv_room (Nat.le_of_ble_eq_true rfl)) dX2_readLoop_8 ⟨Nat.le_refl _, Nat.le_refl _⟩) (fun v9 hp => ?_)
  subst hp
  refine lv_istore_n hx hb dX2_readLoop_11 rfl hl (by decide) rfl (fun ls hl => ?_)
  have hl : lv_has ls 2 [(1, .int (rw_at J g (Q.1 2))), (0, .ref h)] := hl
  refine lv_iload_n hx hb dX2_readLoop_12 rfl (lv_at hl 0 rfl) ?_
  refine lv_bipush (v := 63) hx hb dX2_readLoop_13 (by decide) ?_
  refine lv_icmp_eq (tgt := 38) hx hb dX2_readLoop_15 (by decide) (fun h1 => ?_) (fun h1 => ?_)
  ·
    rw [if_pos h1] at hE
    refine lv_aload_n hx hb dX2_readLoop_38 rfl (lv_at hl 1 rfl) ?_
    refine lv_dup hx hb dX2_readLoop_39 rfl ?_
    refine va_get (D := G.1) (ci := 2) (C := RX2) (T := TX2) (N := 10) hx hb hts inX2 hown hK.1 hP 0 qW_0 rfl 2 (by decide) (hts _ w_277) (fun _ h9 => h9) rF_2 dX2_readLoop_40 ?_
    refine lv_iconst (v := 1) hx hb dX2_readLoop_43 (by decide) ?_
    refine lv_iadd hx hb dX2_readLoop_44 ?_
    refine va_put (D := G.1) (ci := 2) (v := .int ((Q.1 2) + 1)) (ty := .int) (C := RX2) (T := TX2) (N := 10) hx hb hts inX2 tyX2 tyX2_ok nmX2 hown hK.1 hP hD hS 0 qW_0 rfl 2 (by decide) (hts _ w_277) (fun _ h9 => h9) rfl (by decide +kernel) rfl rfl rF_l2 dX2_readLoop_45 (fun H locs hP hD hS => ?_)
    rw [qW_f2] at hP hD
    refine lv_aload_n hx hb dX2_readLoop_48 rfl (lv_at hl 1 rfl) ?_
    refine lv_iload_n hx hb dX2_readLoop_49 rfl (lv_at hl 0 rfl) ?_
    refine lv_bipush (v := 43) hx hb dX2_readLoop_50 (by decide) ?_
    refine lv_icmp_ne (tgt := 59) hx hb dX2_readLoop_52 (by decide) (fun h2 => ?_) (fun h2 => ?_)
    ·
      rw [if_neg h2] at hE
      refine lv_iconst (v := 0) hx hb dX2_readLoop_59 (by decide) ?_
      refine va_put (D := G.1) (ci := 2) (v := .int 0) (ty := .int) (C := RX2) (T := TX2) (N := 10) hx hb hts inX2 tyX2 tyX2_ok nmX2 hown hK.1 hP hD hS 0 qW_0 rfl 8 (by decide) (hts _ w_283) (fun _ h9 => h9) rfl (by decide +kernel) rfl rfl rF_l8 dX2_readLoop_60 (fun H locs hP hD hS => ?_)
      rw [qW_f8] at hP hD
      refine lv_aload_n hx hb dX2_readLoop_63 rfl (lv_at hl 1 rfl) ?_
      refine lv_iload_n hx hb dX2_readLoop_64 rfl (lv_at hl 0 rfl) ?_
      refine lv_bipush (v := 63) hx hb dX2_readLoop_65 (by decide) ?_
      refine lv_icmp_ne (tgt := 74) hx hb dX2_readLoop_67 (by decide) (fun h3 => ?_) (fun h3 => ?_)
      ·
        rw [if_neg h3] at hE
        refine lv_iconst (v := (-1)) hx hb dX2_readLoop_74 (by decide) ?_
        refine va_put (D := G.1) (ci := 2) (v := .int (-1)) (ty := .int) (C := RX2) (T := TX2) (N := 10) hx hb hts inX2 tyX2 tyX2_ok nmX2 hown hK.1 hP hD hS 0 qW_0 rfl 9 (by decide) (hts _ w_284) (fun _ h9 => h9) rfl (by decide +kernel) rfl rfl rF_l9 dX2_readLoop_75 (fun H locs hP hD hS => ?_)
        rw [qW_f9] at hP hD
        refine lv_iload_n hx hb dX2_readLoop_78 rfl (lv_at hl 0 rfl) ?_
        refine lv_bipush (v := 123) hx hb dX2_readLoop_79 (by decide) ?_
        refine lv_icmp_ne (tgt := 88) hx hb dX2_readLoop_81 (by decide) (fun h4 => ?_) (fun h4 => ?_)
        ·
          rw [if_neg h4] at hE
          refine lv_aload_n hx hb dX2_readLoop_88 rfl (lv_at hl 1 rfl) ?_
          refine va_get (D := G.1) (ci := 2) (C := RX2) (T := TX2) (N := 10) hx hb hts inX2 hown hK.1 hP 0 qW_0 rfl 9 (by decide) (hts _ w_284) (fun _ h9 => h9) rF_9 dX2_readLoop_89 ?_
          refine tp_i (-1) rfl ?_
          refine lv_iconst (v := (-1)) hx hb dX2_readLoop_92 (by decide) ?_
          refine lv_icmp_ne (tgt := 106) hx hb dX2_readLoop_93 (by decide) (fun h => absurd (by decide) h) (fun _ => ?_)
          refine lv_aload_n hx hb dX2_readLoop_96 rfl (lv_at hl 1 rfl) ?_
          refine va_get (D := G.1) (ci := 2) (C := RX2) (T := TX2) (N := 10) hx hb hts inX2 hown hK.1 hP 0 qW_0 rfl 4 (by decide) (hts _ w_279) (fun _ h9 => h9) rF_4 dX2_readLoop_97 ?_
          refine tp_i (Q.1 4) rfl ?_
          refine lv_if_le (tgt := 122) hx hb dX2_readLoop_100 (by decide) (fun h5 => ?_) (fun h5 => ?_)
          ·
            rw [if_pos h5] at hE
            refine lv_iconst (v := 1) hx hb dX2_readLoop_122 (by decide) ?_
            obtain ⟨rfl, rfl⟩ := hE
            exact en_i F hS _ () (by rfl) rfl hP hD (Nat.le_refl _) (Nat.le_refl _) dX2_readLoop_123
          ·
            rw [if_neg h5] at hE
            refine lv_goto (tgt := 117) hx hb dX2_readLoop_103 (by decide) ?_
            refine lv_aload_n hx hb dX2_readLoop_117 rfl (lv_at hl 1 rfl) ?_
            refine lv_iconst (v := 1) hx hb dX2_readLoop_118 (by decide) ?_
            refine va_put (D := G.1) (ci := 2) (v := .int 1) (ty := .boolean) (C := RX2) (T := TX2) (N := 10) hx hb hts inX2 tyX2 tyX2_ok nmX2 hown hK.1 hP hD hS 0 qW_0 rfl 3 (by decide) (hts _ w_278) (fun _ h9 => h9) rfl (by decide +kernel) rfl rfl rF_l3 dX2_readLoop_119 (fun H locs hP hD hS => ?_)
            rw [qW_f3] at hP hD
            refine lv_iconst (v := 1) hx hb dX2_readLoop_122 (by decide) ?_
            obtain ⟨rfl, rfl⟩ := hE
            exact en_i F hS _ () (by rfl) rfl hP hD (Nat.le_refl _) (Nat.le_refl _) dX2_readLoop_123
        ·
          rw [if_pos h4] at hE
          refine lv_aload_n hx hb dX2_readLoop_84 rfl (lv_at hl 1 rfl) ?_
          obtain ⟨Q6, hg, hE⟩ := hE
          refine kA_v (va_runV (As := []) (rest := []) F.1 (e_r_readCounts l G h q ad J g hO (rf (rf (rf Q 2 ((Q.1 2) + 1)) 8 0) 9 (-1)) Q6 0 hg _) (cwV 0 hts (aw_V w_522 w_524 ws_X2_readCounts w_7 w_525) rfl rfl rfl (by decide +kernel) ⟨by decide, by decide⟩) ⟨cS_blind, va_recv (q := (RX2, TX2, 10)) (ci := 2) (q0 := 0) hK.1 hP rfl qW_0, cS_pre hP hD hK⟩ rfl rfl hl.1 rfl (lv_room (Nat.le_of_ble_eq_true rfl)) dX2_readLoop_85 ⟨Nat.le_refl _, Nat.le_refl _⟩) hD hS hA (fun u0 H locs hp hP hD hS => ?_)
          refine lv_aload_n hx hb dX2_readLoop_88 rfl (lv_at hl 1 rfl) ?_
          refine va_get (D := G.1) (ci := 2) (C := RX2) (T := TX2) (N := 10) hx hb hts inX2 hown hK.1 hP 0 qW_0 rfl 9 (by decide) (hts _ w_284) (fun _ h9 => h9) rF_9 dX2_readLoop_89 ?_
          refine lv_iconst (v := (-1)) hx hb dX2_readLoop_92 (by decide) ?_
          refine lv_icmp_ne (tgt := 106) hx hb dX2_readLoop_93 (by decide) (fun h8 => ?_) (fun h8 => ?_)
          ·
            rw [if_neg h8] at hE
            refine lv_aload_n hx hb dX2_readLoop_106 rfl (lv_at hl 1 rfl) ?_
            refine va_get (D := G.1) (ci := 2) (C := RX2) (T := TX2) (N := 10) hx hb hts inX2 hown hK.1 hP 0 qW_0 rfl 9 (by decide) (hts _ w_284) (fun _ h9 => h9) rF_9 dX2_readLoop_107 ?_
            refine lv_aload_n hx hb dX2_readLoop_110 rfl (lv_at hl 1 rfl) ?_
            refine va_get (D := G.1) (ci := 2) (C := RX2) (T := TX2) (N := 10) hx hb hts inX2 hown hK.1 hP 0 qW_0 rfl 8 (by decide) (hts _ w_283) (fun _ h9 => h9) rF_8 dX2_readLoop_111 ?_
            refine lv_icmp_ge (tgt := 122) hx hb dX2_readLoop_114 (by decide) (fun h9 => ?_) (fun h9 => ?_)
            ·
              rw [if_pos h9] at hE
              refine lv_iconst (v := 1) hx hb dX2_readLoop_122 (by decide) ?_
              obtain ⟨rfl, rfl⟩ := hE
              exact en_i F hS _ () (by rfl) rfl hP hD (Nat.le_refl _) (Nat.le_refl _) dX2_readLoop_123
            ·
              rw [if_neg h9] at hE
              refine lv_aload_n hx hb dX2_readLoop_117 rfl (lv_at hl 1 rfl) ?_
              refine lv_iconst (v := 1) hx hb dX2_readLoop_118 (by decide) ?_
              refine va_put (D := G.1) (ci := 2) (v := .int 1) (ty := .boolean) (C := RX2) (T := TX2) (N := 10) hx hb hts inX2 tyX2 tyX2_ok nmX2 hown hK.1 hP hD hS 0 qW_0 rfl 3 (by decide) (hts _ w_278) (fun _ h9 => h9) rfl (by decide +kernel) rfl rfl rF_l3 dX2_readLoop_119 (fun H locs hP hD hS => ?_)
              rw [qW_f3] at hP hD
              refine lv_iconst (v := 1) hx hb dX2_readLoop_122 (by decide) ?_
              obtain ⟨rfl, rfl⟩ := hE
              exact en_i F hS _ () (by rfl) rfl hP hD (Nat.le_refl _) (Nat.le_refl _) dX2_readLoop_123
          ·
            rw [if_pos h8] at hE
            refine lv_aload_n hx hb dX2_readLoop_96 rfl (lv_at hl 1 rfl) ?_
            refine va_get (D := G.1) (ci := 2) (C := RX2) (T := TX2) (N := 10) hx hb hts inX2 hown hK.1 hP 0 qW_0 rfl 4 (by decide) (hts _ w_279) (fun _ h9 => h9) rF_4 dX2_readLoop_97 ?_
            refine lv_if_le (tgt := 122) hx hb dX2_readLoop_100 (by decide) (fun h10 => ?_) (fun h10 => ?_)
            ·
              rw [if_pos h10] at hE
              refine lv_iconst (v := 1) hx hb dX2_readLoop_122 (by decide) ?_
              obtain ⟨rfl, rfl⟩ := hE
              exact en_i F hS _ () (by rfl) rfl hP hD (Nat.le_refl _) (Nat.le_refl _) dX2_readLoop_123
            ·
              rw [if_neg h10] at hE
              refine lv_goto (tgt := 117) hx hb dX2_readLoop_103 (by decide) ?_
              refine lv_aload_n hx hb dX2_readLoop_117 rfl (lv_at hl 1 rfl) ?_
              refine lv_iconst (v := 1) hx hb dX2_readLoop_118 (by decide) ?_
              refine va_put (D := G.1) (ci := 2) (v := .int 1) (ty := .boolean) (C := RX2) (T := TX2) (N := 10) hx hb hts inX2 tyX2 tyX2_ok nmX2 hown hK.1 hP hD hS 0 qW_0 rfl 3 (by decide) (hts _ w_278) (fun _ h9 => h9) rfl (by decide +kernel) rfl rfl rF_l3 dX2_readLoop_119 (fun H locs hP hD hS => ?_)
              rw [qW_f3] at hP hD
              refine lv_iconst (v := 1) hx hb dX2_readLoop_122 (by decide) ?_
              obtain ⟨rfl, rfl⟩ := hE
              exact en_i F hS _ () (by rfl) rfl hP hD (Nat.le_refl _) (Nat.le_refl _) dX2_readLoop_123
      ·
        rw [if_pos h3] at hE
        refine lv_iconst (v := 1) hx hb dX2_readLoop_70 (by decide) ?_
        refine lv_goto (tgt := 75) hx hb dX2_readLoop_71 (by decide) ?_
        refine va_put (D := G.1) (ci := 2) (v := .int 1) (ty := .int) (C := RX2) (T := TX2) (N := 10) hx hb hts inX2 tyX2 tyX2_ok nmX2 hown hK.1 hP hD hS 0 qW_0 rfl 9 (by decide) (hts _ w_284) (fun _ h9 => h9) rfl (by decide +kernel) rfl rfl rF_l9 dX2_readLoop_75 (fun H locs hP hD hS => ?_)
        rw [qW_f9] at hP hD
        refine lv_iload_n hx hb dX2_readLoop_78 rfl (lv_at hl 0 rfl) ?_
        refine lv_bipush (v := 123) hx hb dX2_readLoop_79 (by decide) ?_
        refine lv_icmp_ne (tgt := 88) hx hb dX2_readLoop_81 (by decide) (fun h11 => ?_) (fun h11 => ?_)
        ·
          rw [if_neg h11] at hE
          refine lv_aload_n hx hb dX2_readLoop_88 rfl (lv_at hl 1 rfl) ?_
          refine va_get (D := G.1) (ci := 2) (C := RX2) (T := TX2) (N := 10) hx hb hts inX2 hown hK.1 hP 0 qW_0 rfl 9 (by decide) (hts _ w_284) (fun _ h9 => h9) rF_9 dX2_readLoop_89 ?_
          refine tp_i 1 rfl ?_
          refine lv_iconst (v := (-1)) hx hb dX2_readLoop_92 (by decide) ?_
          refine lv_icmp_ne (tgt := 106) hx hb dX2_readLoop_93 (by decide) (fun _ => ?_) (fun h => absurd h (by decide))
          refine lv_aload_n hx hb dX2_readLoop_106 rfl (lv_at hl 1 rfl) ?_
          refine va_get (D := G.1) (ci := 2) (C := RX2) (T := TX2) (N := 10) hx hb hts inX2 hown hK.1 hP 0 qW_0 rfl 9 (by decide) (hts _ w_284) (fun _ h9 => h9) rF_9 dX2_readLoop_107 ?_
          refine tp_i 1 rfl ?_
          refine lv_aload_n hx hb dX2_readLoop_110 rfl (lv_at hl 1 rfl) ?_
          refine va_get (D := G.1) (ci := 2) (C := RX2) (T := TX2) (N := 10) hx hb hts inX2 hown hK.1 hP 0 qW_0 rfl 8 (by decide) (hts _ w_283) (fun _ h9 => h9) rF_8 dX2_readLoop_111 ?_
          refine tp_i 0 rfl ?_
          refine lv_icmp_ge (tgt := 122) hx hb dX2_readLoop_114 (by decide) (fun _ => ?_) (fun h => absurd (by decide) h)
          refine lv_iconst (v := 1) hx hb dX2_readLoop_122 (by decide) ?_
          obtain ⟨rfl, rfl⟩ := hE
          exact en_i F hS _ () (by rfl) rfl hP hD (Nat.le_refl _) (Nat.le_refl _) dX2_readLoop_123
        ·
          rw [if_pos h11] at hE
          refine lv_aload_n hx hb dX2_readLoop_84 rfl (lv_at hl 1 rfl) ?_
          obtain ⟨Q12, hg, hE⟩ := hE
          refine kA_v (va_runV (As := []) (rest := []) F.1 (e_r_readCounts l G h q ad J g hO (rf (rf (rf Q 2 ((Q.1 2) + 1)) 8 0) 9 1) Q12 0 hg _) (cwV 0 hts (aw_V w_522 w_524 ws_X2_readCounts w_7 w_525) rfl rfl rfl (by decide +kernel) ⟨by decide, by decide⟩) ⟨cS_blind, va_recv (q := (RX2, TX2, 10)) (ci := 2) (q0 := 0) hK.1 hP rfl qW_0, cS_pre hP hD hK⟩ rfl rfl hl.1 rfl (lv_room (Nat.le_of_ble_eq_true rfl)) dX2_readLoop_85 ⟨Nat.le_refl _, Nat.le_refl _⟩) hD hS hA (fun u0 H locs hp hP hD hS => ?_)
          refine lv_aload_n hx hb dX2_readLoop_88 rfl (lv_at hl 1 rfl) ?_
          refine va_get (D := G.1) (ci := 2) (C := RX2) (T := TX2) (N := 10) hx hb hts inX2 hown hK.1 hP 0 qW_0 rfl 9 (by decide) (hts _ w_284) (fun _ h9 => h9) rF_9 dX2_readLoop_89 ?_
          refine lv_iconst (v := (-1)) hx hb dX2_readLoop_92 (by decide) ?_
          refine lv_icmp_ne (tgt := 106) hx hb dX2_readLoop_93 (by decide) (fun h14 => ?_) (fun h14 => ?_)
          ·
            rw [if_neg h14] at hE
            refine lv_aload_n hx hb dX2_readLoop_106 rfl (lv_at hl 1 rfl) ?_
            refine va_get (D := G.1) (ci := 2) (C := RX2) (T := TX2) (N := 10) hx hb hts inX2 hown hK.1 hP 0 qW_0 rfl 9 (by decide) (hts _ w_284) (fun _ h9 => h9) rF_9 dX2_readLoop_107 ?_
            refine lv_aload_n hx hb dX2_readLoop_110 rfl (lv_at hl 1 rfl) ?_
            refine va_get (D := G.1) (ci := 2) (C := RX2) (T := TX2) (N := 10) hx hb hts inX2 hown hK.1 hP 0 qW_0 rfl 8 (by decide) (hts _ w_283) (fun _ h9 => h9) rF_8 dX2_readLoop_111 ?_
            refine lv_icmp_ge (tgt := 122) hx hb dX2_readLoop_114 (by decide) (fun h15 => ?_) (fun h15 => ?_)
            ·
              rw [if_pos h15] at hE
              refine lv_iconst (v := 1) hx hb dX2_readLoop_122 (by decide) ?_
              obtain ⟨rfl, rfl⟩ := hE
              exact en_i F hS _ () (by rfl) rfl hP hD (Nat.le_refl _) (Nat.le_refl _) dX2_readLoop_123
            ·
              rw [if_neg h15] at hE
              refine lv_aload_n hx hb dX2_readLoop_117 rfl (lv_at hl 1 rfl) ?_
              refine lv_iconst (v := 1) hx hb dX2_readLoop_118 (by decide) ?_
              refine va_put (D := G.1) (ci := 2) (v := .int 1) (ty := .boolean) (C := RX2) (T := TX2) (N := 10) hx hb hts inX2 tyX2 tyX2_ok nmX2 hown hK.1 hP hD hS 0 qW_0 rfl 3 (by decide) (hts _ w_278) (fun _ h9 => h9) rfl (by decide +kernel) rfl rfl rF_l3 dX2_readLoop_119 (fun H locs hP hD hS => ?_)
              rw [qW_f3] at hP hD
              refine lv_iconst (v := 1) hx hb dX2_readLoop_122 (by decide) ?_
              obtain ⟨rfl, rfl⟩ := hE
              exact en_i F hS _ () (by rfl) rfl hP hD (Nat.le_refl _) (Nat.le_refl _) dX2_readLoop_123
          ·
            rw [if_pos h14] at hE
            refine lv_aload_n hx hb dX2_readLoop_96 rfl (lv_at hl 1 rfl) ?_
            refine va_get (D := G.1) (ci := 2) (C := RX2) (T := TX2) (N := 10) hx hb hts inX2 hown hK.1 hP 0 qW_0 rfl 4 (by decide) (hts _ w_279) (fun _ h9 => h9) rF_4 dX2_readLoop_97 ?_
            refine lv_if_le (tgt := 122) hx hb dX2_readLoop_100 (by decide) (fun h16 => ?_) (fun h16 => ?_)
            ·
              rw [if_pos h16] at hE
              refine lv_iconst (v := 1) hx hb dX2_readLoop_122 (by decide) ?_
              obtain ⟨rfl, rfl⟩ := hE
              exact en_i F hS _ () (by rfl) rfl hP hD (Nat.le_refl _) (Nat.le_refl _) dX2_readLoop_123
            ·
              rw [if_neg h16] at hE
              refine lv_goto (tgt := 117) hx hb dX2_readLoop_103 (by decide) ?_
              refine lv_aload_n hx hb dX2_readLoop_117 rfl (lv_at hl 1 rfl) ?_
              refine lv_iconst (v := 1) hx hb dX2_readLoop_118 (by decide) ?_
              refine va_put (D := G.1) (ci := 2) (v := .int 1) (ty := .boolean) (C := RX2) (T := TX2) (N := 10) hx hb hts inX2 tyX2 tyX2_ok nmX2 hown hK.1 hP hD hS 0 qW_0 rfl 3 (by decide) (hts _ w_278) (fun _ h9 => h9) rfl (by decide +kernel) rfl rfl rF_l3 dX2_readLoop_119 (fun H locs hP hD hS => ?_)
              rw [qW_f3] at hP hD
              refine lv_iconst (v := 1) hx hb dX2_readLoop_122 (by decide) ?_
              obtain ⟨rfl, rfl⟩ := hE
              exact en_i F hS _ () (by rfl) rfl hP hD (Nat.le_refl _) (Nat.le_refl _) dX2_readLoop_123
    ·
      rw [if_pos h2] at hE
      refine lv_iconst (v := 1) hx hb dX2_readLoop_55 (by decide) ?_
      refine lv_goto (tgt := 60) hx hb dX2_readLoop_56 (by decide) ?_
      refine va_put (D := G.1) (ci := 2) (v := .int 1) (ty := .int) (C := RX2) (T := TX2) (N := 10) hx hb hts inX2 tyX2 tyX2_ok nmX2 hown hK.1 hP hD hS 0 qW_0 rfl 8 (by decide) (hts _ w_283) (fun _ h9 => h9) rfl (by decide +kernel) rfl rfl rF_l8 dX2_readLoop_60 (fun H locs hP hD hS => ?_)
      rw [qW_f8] at hP hD
      refine lv_aload_n hx hb dX2_readLoop_63 rfl (lv_at hl 1 rfl) ?_
      refine lv_iload_n hx hb dX2_readLoop_64 rfl (lv_at hl 0 rfl) ?_
      refine lv_bipush (v := 63) hx hb dX2_readLoop_65 (by decide) ?_
      refine lv_icmp_ne (tgt := 74) hx hb dX2_readLoop_67 (by decide) (fun h17 => ?_) (fun h17 => ?_)
      ·
        rw [if_neg h17] at hE
        refine lv_iconst (v := (-1)) hx hb dX2_readLoop_74 (by decide) ?_
        refine va_put (D := G.1) (ci := 2) (v := .int (-1)) (ty := .int) (C := RX2) (T := TX2) (N := 10) hx hb hts inX2 tyX2 tyX2_ok nmX2 hown hK.1 hP hD hS 0 qW_0 rfl 9 (by decide) (hts _ w_284) (fun _ h9 => h9) rfl (by decide +kernel) rfl rfl rF_l9 dX2_readLoop_75 (fun H locs hP hD hS => ?_)
        rw [qW_f9] at hP hD
        refine lv_iload_n hx hb dX2_readLoop_78 rfl (lv_at hl 0 rfl) ?_
        refine lv_bipush (v := 123) hx hb dX2_readLoop_79 (by decide) ?_
        refine lv_icmp_ne (tgt := 88) hx hb dX2_readLoop_81 (by decide) (fun h18 => ?_) (fun h18 => ?_)
        ·
          rw [if_neg h18] at hE
          refine lv_aload_n hx hb dX2_readLoop_88 rfl (lv_at hl 1 rfl) ?_
          refine va_get (D := G.1) (ci := 2) (C := RX2) (T := TX2) (N := 10) hx hb hts inX2 hown hK.1 hP 0 qW_0 rfl 9 (by decide) (hts _ w_284) (fun _ h9 => h9) rF_9 dX2_readLoop_89 ?_
          refine tp_i (-1) rfl ?_
          refine lv_iconst (v := (-1)) hx hb dX2_readLoop_92 (by decide) ?_
          refine lv_icmp_ne (tgt := 106) hx hb dX2_readLoop_93 (by decide) (fun h => absurd (by decide) h) (fun _ => ?_)
          refine lv_aload_n hx hb dX2_readLoop_96 rfl (lv_at hl 1 rfl) ?_
          refine va_get (D := G.1) (ci := 2) (C := RX2) (T := TX2) (N := 10) hx hb hts inX2 hown hK.1 hP 0 qW_0 rfl 4 (by decide) (hts _ w_279) (fun _ h9 => h9) rF_4 dX2_readLoop_97 ?_
          refine tp_i (Q.1 4) rfl ?_
          refine lv_if_le (tgt := 122) hx hb dX2_readLoop_100 (by decide) (fun h19 => ?_) (fun h19 => ?_)
          ·
            rw [if_pos h19] at hE
            refine lv_iconst (v := 1) hx hb dX2_readLoop_122 (by decide) ?_
            obtain ⟨rfl, rfl⟩ := hE
            exact en_i F hS _ () (by rfl) rfl hP hD (Nat.le_refl _) (Nat.le_refl _) dX2_readLoop_123
          ·
            rw [if_neg h19] at hE
            refine lv_goto (tgt := 117) hx hb dX2_readLoop_103 (by decide) ?_
            refine lv_aload_n hx hb dX2_readLoop_117 rfl (lv_at hl 1 rfl) ?_
            refine lv_iconst (v := 1) hx hb dX2_readLoop_118 (by decide) ?_
            refine va_put (D := G.1) (ci := 2) (v := .int 1) (ty := .boolean) (C := RX2) (T := TX2) (N := 10) hx hb hts inX2 tyX2 tyX2_ok nmX2 hown hK.1 hP hD hS 0 qW_0 rfl 3 (by decide) (hts _ w_278) (fun _ h9 => h9) rfl (by decide +kernel) rfl rfl rF_l3 dX2_readLoop_119 (fun H locs hP hD hS => ?_)
            rw [qW_f3] at hP hD
            refine lv_iconst (v := 1) hx hb dX2_readLoop_122 (by decide) ?_
            obtain ⟨rfl, rfl⟩ := hE
            exact en_i F hS _ () (by rfl) rfl hP hD (Nat.le_refl _) (Nat.le_refl _) dX2_readLoop_123
        ·
          rw [if_pos h18] at hE
          refine lv_aload_n hx hb dX2_readLoop_84 rfl (lv_at hl 1 rfl) ?_
          obtain ⟨Q20, hg, hE⟩ := hE
          refine kA_v (va_runV (As := []) (rest := []) F.1 (e_r_readCounts l G h q ad J g hO (rf (rf (rf Q 2 ((Q.1 2) + 1)) 8 1) 9 (-1)) Q20 0 hg _) (cwV 0 hts (aw_V w_522 w_524 ws_X2_readCounts w_7 w_525) rfl rfl rfl (by decide +kernel) ⟨by decide, by decide⟩) ⟨cS_blind, va_recv (q := (RX2, TX2, 10)) (ci := 2) (q0 := 0) hK.1 hP rfl qW_0, cS_pre hP hD hK⟩ rfl rfl hl.1 rfl (lv_room (Nat.le_of_ble_eq_true rfl)) dX2_readLoop_85 ⟨Nat.le_refl _, Nat.le_refl _⟩) hD hS hA (fun u0 H locs hp hP hD hS => ?_)
          refine lv_aload_n hx hb dX2_readLoop_88 rfl (lv_at hl 1 rfl) ?_
          refine va_get (D := G.1) (ci := 2) (C := RX2) (T := TX2) (N := 10) hx hb hts inX2 hown hK.1 hP 0 qW_0 rfl 9 (by decide) (hts _ w_284) (fun _ h9 => h9) rF_9 dX2_readLoop_89 ?_
          refine lv_iconst (v := (-1)) hx hb dX2_readLoop_92 (by decide) ?_
          refine lv_icmp_ne (tgt := 106) hx hb dX2_readLoop_93 (by decide) (fun h22 => ?_) (fun h22 => ?_)
          ·
            rw [if_neg h22] at hE
            refine lv_aload_n hx hb dX2_readLoop_106 rfl (lv_at hl 1 rfl) ?_
            refine va_get (D := G.1) (ci := 2) (C := RX2) (T := TX2) (N := 10) hx hb hts inX2 hown hK.1 hP 0 qW_0 rfl 9 (by decide) (hts _ w_284) (fun _ h9 => h9) rF_9 dX2_readLoop_107 ?_
            refine lv_aload_n hx hb dX2_readLoop_110 rfl (lv_at hl 1 rfl) ?_
            refine va_get (D := G.1) (ci := 2) (C := RX2) (T := TX2) (N := 10) hx hb hts inX2 hown hK.1 hP 0 qW_0 rfl 8 (by decide) (hts _ w_283) (fun _ h9 => h9) rF_8 dX2_readLoop_111 ?_
            refine lv_icmp_ge (tgt := 122) hx hb dX2_readLoop_114 (by decide) (fun h23 => ?_) (fun h23 => ?_)
            ·
              rw [if_pos h23] at hE
              refine lv_iconst (v := 1) hx hb dX2_readLoop_122 (by decide) ?_
              obtain ⟨rfl, rfl⟩ := hE
              exact en_i F hS _ () (by rfl) rfl hP hD (Nat.le_refl _) (Nat.le_refl _) dX2_readLoop_123
            ·
              rw [if_neg h23] at hE
              refine lv_aload_n hx hb dX2_readLoop_117 rfl (lv_at hl 1 rfl) ?_
              refine lv_iconst (v := 1) hx hb dX2_readLoop_118 (by decide) ?_
              refine va_put (D := G.1) (ci := 2) (v := .int 1) (ty := .boolean) (C := RX2) (T := TX2) (N := 10) hx hb hts inX2 tyX2 tyX2_ok nmX2 hown hK.1 hP hD hS 0 qW_0 rfl 3 (by decide) (hts _ w_278) (fun _ h9 => h9) rfl (by decide +kernel) rfl rfl rF_l3 dX2_readLoop_119 (fun H locs hP hD hS => ?_)
              rw [qW_f3] at hP hD
              refine lv_iconst (v := 1) hx hb dX2_readLoop_122 (by decide) ?_
              obtain ⟨rfl, rfl⟩ := hE
              exact en_i F hS _ () (by rfl) rfl hP hD (Nat.le_refl _) (Nat.le_refl _) dX2_readLoop_123
          ·
            rw [if_pos h22] at hE
            refine lv_aload_n hx hb dX2_readLoop_96 rfl (lv_at hl 1 rfl) ?_
            refine va_get (D := G.1) (ci := 2) (C := RX2) (T := TX2) (N := 10) hx hb hts inX2 hown hK.1 hP 0 qW_0 rfl 4 (by decide) (hts _ w_279) (fun _ h9 => h9) rF_4 dX2_readLoop_97 ?_
            refine lv_if_le (tgt := 122) hx hb dX2_readLoop_100 (by decide) (fun h24 => ?_) (fun h24 => ?_)
            ·
              rw [if_pos h24] at hE
              refine lv_iconst (v := 1) hx hb dX2_readLoop_122 (by decide) ?_
              obtain ⟨rfl, rfl⟩ := hE
              exact en_i F hS _ () (by rfl) rfl hP hD (Nat.le_refl _) (Nat.le_refl _) dX2_readLoop_123
            ·
              rw [if_neg h24] at hE
              refine lv_goto (tgt := 117) hx hb dX2_readLoop_103 (by decide) ?_
              refine lv_aload_n hx hb dX2_readLoop_117 rfl (lv_at hl 1 rfl) ?_
              refine lv_iconst (v := 1) hx hb dX2_readLoop_118 (by decide) ?_
              refine va_put (D := G.1) (ci := 2) (v := .int 1) (ty := .boolean) (C := RX2) (T := TX2) (N := 10) hx hb hts inX2 tyX2 tyX2_ok nmX2 hown hK.1 hP hD hS 0 qW_0 rfl 3 (by decide) (hts _ w_278) (fun _ h9 => h9) rfl (by decide +kernel) rfl rfl rF_l3 dX2_readLoop_119 (fun H locs hP hD hS => ?_)
              rw [qW_f3] at hP hD
              refine lv_iconst (v := 1) hx hb dX2_readLoop_122 (by decide) ?_
              obtain ⟨rfl, rfl⟩ := hE
              exact en_i F hS _ () (by rfl) rfl hP hD (Nat.le_refl _) (Nat.le_refl _) dX2_readLoop_123
      ·
        rw [if_pos h17] at hE
        refine lv_iconst (v := 1) hx hb dX2_readLoop_70 (by decide) ?_
        refine lv_goto (tgt := 75) hx hb dX2_readLoop_71 (by decide) ?_
        refine va_put (D := G.1) (ci := 2) (v := .int 1) (ty := .int) (C := RX2) (T := TX2) (N := 10) hx hb hts inX2 tyX2 tyX2_ok nmX2 hown hK.1 hP hD hS 0 qW_0 rfl 9 (by decide) (hts _ w_284) (fun _ h9 => h9) rfl (by decide +kernel) rfl rfl rF_l9 dX2_readLoop_75 (fun H locs hP hD hS => ?_)
        rw [qW_f9] at hP hD
        refine lv_iload_n hx hb dX2_readLoop_78 rfl (lv_at hl 0 rfl) ?_
        refine lv_bipush (v := 123) hx hb dX2_readLoop_79 (by decide) ?_
        refine lv_icmp_ne (tgt := 88) hx hb dX2_readLoop_81 (by decide) (fun h25 => ?_) (fun h25 => ?_)
        ·
          rw [if_neg h25] at hE
          refine lv_aload_n hx hb dX2_readLoop_88 rfl (lv_at hl 1 rfl) ?_
          refine va_get (D := G.1) (ci := 2) (C := RX2) (T := TX2) (N := 10) hx hb hts inX2 hown hK.1 hP 0 qW_0 rfl 9 (by decide) (hts _ w_284) (fun _ h9 => h9) rF_9 dX2_readLoop_89 ?_
          refine tp_i 1 rfl ?_
          refine lv_iconst (v := (-1)) hx hb dX2_readLoop_92 (by decide) ?_
          refine lv_icmp_ne (tgt := 106) hx hb dX2_readLoop_93 (by decide) (fun _ => ?_) (fun h => absurd h (by decide))
          refine lv_aload_n hx hb dX2_readLoop_106 rfl (lv_at hl 1 rfl) ?_
          refine va_get (D := G.1) (ci := 2) (C := RX2) (T := TX2) (N := 10) hx hb hts inX2 hown hK.1 hP 0 qW_0 rfl 9 (by decide) (hts _ w_284) (fun _ h9 => h9) rF_9 dX2_readLoop_107 ?_
          refine tp_i 1 rfl ?_
          refine lv_aload_n hx hb dX2_readLoop_110 rfl (lv_at hl 1 rfl) ?_
          refine va_get (D := G.1) (ci := 2) (C := RX2) (T := TX2) (N := 10) hx hb hts inX2 hown hK.1 hP 0 qW_0 rfl 8 (by decide) (hts _ w_283) (fun _ h9 => h9) rF_8 dX2_readLoop_111 ?_
          refine tp_i 1 rfl ?_
          refine lv_icmp_ge (tgt := 122) hx hb dX2_readLoop_114 (by decide) (fun _ => ?_) (fun h => absurd (by decide) h)
          refine lv_iconst (v := 1) hx hb dX2_readLoop_122 (by decide) ?_
          obtain ⟨rfl, rfl⟩ := hE
          exact en_i F hS _ () (by rfl) rfl hP hD (Nat.le_refl _) (Nat.le_refl _) dX2_readLoop_123
        ·
          rw [if_pos h25] at hE
          refine lv_aload_n hx hb dX2_readLoop_84 rfl (lv_at hl 1 rfl) ?_
          obtain ⟨Q26, hg, hE⟩ := hE
          refine kA_v (va_runV (As := []) (rest := []) F.1 (e_r_readCounts l G h q ad J g hO (rf (rf (rf Q 2 ((Q.1 2) + 1)) 8 1) 9 1) Q26 0 hg _) (cwV 0 hts (aw_V w_522 w_524 ws_X2_readCounts w_7 w_525) rfl rfl rfl (by decide +kernel) ⟨by decide, by decide⟩) ⟨cS_blind, va_recv (q := (RX2, TX2, 10)) (ci := 2) (q0 := 0) hK.1 hP rfl qW_0, cS_pre hP hD hK⟩ rfl rfl hl.1 rfl (lv_room (Nat.le_of_ble_eq_true rfl)) dX2_readLoop_85 ⟨Nat.le_refl _, Nat.le_refl _⟩) hD hS hA (fun u0 H locs hp hP hD hS => ?_)
          refine lv_aload_n hx hb dX2_readLoop_88 rfl (lv_at hl 1 rfl) ?_
          refine va_get (D := G.1) (ci := 2) (C := RX2) (T := TX2) (N := 10) hx hb hts inX2 hown hK.1 hP 0 qW_0 rfl 9 (by decide) (hts _ w_284) (fun _ h9 => h9) rF_9 dX2_readLoop_89 ?_
          refine lv_iconst (v := (-1)) hx hb dX2_readLoop_92 (by decide) ?_
          refine lv_icmp_ne (tgt := 106) hx hb dX2_readLoop_93 (by decide) (fun h28 => ?_) (fun h28 => ?_)
          ·
            rw [if_neg h28] at hE
            refine lv_aload_n hx hb dX2_readLoop_106 rfl (lv_at hl 1 rfl) ?_
            refine va_get (D := G.1) (ci := 2) (C := RX2) (T := TX2) (N := 10) hx hb hts inX2 hown hK.1 hP 0 qW_0 rfl 9 (by decide) (hts _ w_284) (fun _ h9 => h9) rF_9 dX2_readLoop_107 ?_
            refine lv_aload_n hx hb dX2_readLoop_110 rfl (lv_at hl 1 rfl) ?_
            refine va_get (D := G.1) (ci := 2) (C := RX2) (T := TX2) (N := 10) hx hb hts inX2 hown hK.1 hP 0 qW_0 rfl 8 (by decide) (hts _ w_283) (fun _ h9 => h9) rF_8 dX2_readLoop_111 ?_
            refine lv_icmp_ge (tgt := 122) hx hb dX2_readLoop_114 (by decide) (fun h29 => ?_) (fun h29 => ?_)
            ·
              rw [if_pos h29] at hE
              refine lv_iconst (v := 1) hx hb dX2_readLoop_122 (by decide) ?_
              obtain ⟨rfl, rfl⟩ := hE
              exact en_i F hS _ () (by rfl) rfl hP hD (Nat.le_refl _) (Nat.le_refl _) dX2_readLoop_123
            ·
              rw [if_neg h29] at hE
              refine lv_aload_n hx hb dX2_readLoop_117 rfl (lv_at hl 1 rfl) ?_
              refine lv_iconst (v := 1) hx hb dX2_readLoop_118 (by decide) ?_
              refine va_put (D := G.1) (ci := 2) (v := .int 1) (ty := .boolean) (C := RX2) (T := TX2) (N := 10) hx hb hts inX2 tyX2 tyX2_ok nmX2 hown hK.1 hP hD hS 0 qW_0 rfl 3 (by decide) (hts _ w_278) (fun _ h9 => h9) rfl (by decide +kernel) rfl rfl rF_l3 dX2_readLoop_119 (fun H locs hP hD hS => ?_)
              rw [qW_f3] at hP hD
              refine lv_iconst (v := 1) hx hb dX2_readLoop_122 (by decide) ?_
              obtain ⟨rfl, rfl⟩ := hE
              exact en_i F hS _ () (by rfl) rfl hP hD (Nat.le_refl _) (Nat.le_refl _) dX2_readLoop_123
          ·
            rw [if_pos h28] at hE
            refine lv_aload_n hx hb dX2_readLoop_96 rfl (lv_at hl 1 rfl) ?_
            refine va_get (D := G.1) (ci := 2) (C := RX2) (T := TX2) (N := 10) hx hb hts inX2 hown hK.1 hP 0 qW_0 rfl 4 (by decide) (hts _ w_279) (fun _ h9 => h9) rF_4 dX2_readLoop_97 ?_
            refine lv_if_le (tgt := 122) hx hb dX2_readLoop_100 (by decide) (fun h30 => ?_) (fun h30 => ?_)
            ·
              rw [if_pos h30] at hE
              refine lv_iconst (v := 1) hx hb dX2_readLoop_122 (by decide) ?_
              obtain ⟨rfl, rfl⟩ := hE
              exact en_i F hS _ () (by rfl) rfl hP hD (Nat.le_refl _) (Nat.le_refl _) dX2_readLoop_123
            ·
              rw [if_neg h30] at hE
              refine lv_goto (tgt := 117) hx hb dX2_readLoop_103 (by decide) ?_
              refine lv_aload_n hx hb dX2_readLoop_117 rfl (lv_at hl 1 rfl) ?_
              refine lv_iconst (v := 1) hx hb dX2_readLoop_118 (by decide) ?_
              refine va_put (D := G.1) (ci := 2) (v := .int 1) (ty := .boolean) (C := RX2) (T := TX2) (N := 10) hx hb hts inX2 tyX2 tyX2_ok nmX2 hown hK.1 hP hD hS 0 qW_0 rfl 3 (by decide) (hts _ w_278) (fun _ h9 => h9) rfl (by decide +kernel) rfl rfl rF_l3 dX2_readLoop_119 (fun H locs hP hD hS => ?_)
              rw [qW_f3] at hP hD
              refine lv_iconst (v := 1) hx hb dX2_readLoop_122 (by decide) ?_
              obtain ⟨rfl, rfl⟩ := hE
              exact en_i F hS _ () (by rfl) rfl hP hD (Nat.le_refl _) (Nat.le_refl _) dX2_readLoop_123
  ·
    rw [if_neg h1] at hE
    refine lv_iload_n hx hb dX2_readLoop_18 rfl (lv_at hl 0 rfl) ?_
    refine lv_bipush (v := 42) hx hb dX2_readLoop_19 (by decide) ?_
    refine lv_icmp_eq (tgt := 38) hx hb dX2_readLoop_21 (by decide) (fun h31 => ?_) (fun h31 => ?_)
    ·
      rw [if_pos h31] at hE
      refine lv_aload_n hx hb dX2_readLoop_38 rfl (lv_at hl 1 rfl) ?_
      refine lv_dup hx hb dX2_readLoop_39 rfl ?_
      refine va_get (D := G.1) (ci := 2) (C := RX2) (T := TX2) (N := 10) hx hb hts inX2 hown hK.1 hP 0 qW_0 rfl 2 (by decide) (hts _ w_277) (fun _ h9 => h9) rF_2 dX2_readLoop_40 ?_
      refine lv_iconst (v := 1) hx hb dX2_readLoop_43 (by decide) ?_
      refine lv_iadd hx hb dX2_readLoop_44 ?_
      refine va_put (D := G.1) (ci := 2) (v := .int ((Q.1 2) + 1)) (ty := .int) (C := RX2) (T := TX2) (N := 10) hx hb hts inX2 tyX2 tyX2_ok nmX2 hown hK.1 hP hD hS 0 qW_0 rfl 2 (by decide) (hts _ w_277) (fun _ h9 => h9) rfl (by decide +kernel) rfl rfl rF_l2 dX2_readLoop_45 (fun H locs hP hD hS => ?_)
      rw [qW_f2] at hP hD
      refine lv_aload_n hx hb dX2_readLoop_48 rfl (lv_at hl 1 rfl) ?_
      refine lv_iload_n hx hb dX2_readLoop_49 rfl (lv_at hl 0 rfl) ?_
      refine lv_bipush (v := 43) hx hb dX2_readLoop_50 (by decide) ?_
      refine lv_icmp_ne (tgt := 59) hx hb dX2_readLoop_52 (by decide) (fun h32 => ?_) (fun h32 => ?_)
      ·
        rw [if_neg h32] at hE
        refine lv_iconst (v := 0) hx hb dX2_readLoop_59 (by decide) ?_
        refine va_put (D := G.1) (ci := 2) (v := .int 0) (ty := .int) (C := RX2) (T := TX2) (N := 10) hx hb hts inX2 tyX2 tyX2_ok nmX2 hown hK.1 hP hD hS 0 qW_0 rfl 8 (by decide) (hts _ w_283) (fun _ h9 => h9) rfl (by decide +kernel) rfl rfl rF_l8 dX2_readLoop_60 (fun H locs hP hD hS => ?_)
        rw [qW_f8] at hP hD
        refine lv_aload_n hx hb dX2_readLoop_63 rfl (lv_at hl 1 rfl) ?_
        refine lv_iload_n hx hb dX2_readLoop_64 rfl (lv_at hl 0 rfl) ?_
        refine lv_bipush (v := 63) hx hb dX2_readLoop_65 (by decide) ?_
        refine lv_icmp_ne (tgt := 74) hx hb dX2_readLoop_67 (by decide) (fun h33 => ?_) (fun h33 => ?_)
        ·
          rw [if_neg h33] at hE
          refine lv_iconst (v := (-1)) hx hb dX2_readLoop_74 (by decide) ?_
          refine va_put (D := G.1) (ci := 2) (v := .int (-1)) (ty := .int) (C := RX2) (T := TX2) (N := 10) hx hb hts inX2 tyX2 tyX2_ok nmX2 hown hK.1 hP hD hS 0 qW_0 rfl 9 (by decide) (hts _ w_284) (fun _ h9 => h9) rfl (by decide +kernel) rfl rfl rF_l9 dX2_readLoop_75 (fun H locs hP hD hS => ?_)
          rw [qW_f9] at hP hD
          refine lv_iload_n hx hb dX2_readLoop_78 rfl (lv_at hl 0 rfl) ?_
          refine lv_bipush (v := 123) hx hb dX2_readLoop_79 (by decide) ?_
          refine lv_icmp_ne (tgt := 88) hx hb dX2_readLoop_81 (by decide) (fun h34 => ?_) (fun h34 => ?_)
          ·
            rw [if_neg h34] at hE
            refine lv_aload_n hx hb dX2_readLoop_88 rfl (lv_at hl 1 rfl) ?_
            refine va_get (D := G.1) (ci := 2) (C := RX2) (T := TX2) (N := 10) hx hb hts inX2 hown hK.1 hP 0 qW_0 rfl 9 (by decide) (hts _ w_284) (fun _ h9 => h9) rF_9 dX2_readLoop_89 ?_
            refine tp_i (-1) rfl ?_
            refine lv_iconst (v := (-1)) hx hb dX2_readLoop_92 (by decide) ?_
            refine lv_icmp_ne (tgt := 106) hx hb dX2_readLoop_93 (by decide) (fun h => absurd (by decide) h) (fun _ => ?_)
            refine lv_aload_n hx hb dX2_readLoop_96 rfl (lv_at hl 1 rfl) ?_
            refine va_get (D := G.1) (ci := 2) (C := RX2) (T := TX2) (N := 10) hx hb hts inX2 hown hK.1 hP 0 qW_0 rfl 4 (by decide) (hts _ w_279) (fun _ h9 => h9) rF_4 dX2_readLoop_97 ?_
            refine tp_i (Q.1 4) rfl ?_
            refine lv_if_le (tgt := 122) hx hb dX2_readLoop_100 (by decide) (fun h35 => ?_) (fun h35 => ?_)
            ·
              rw [if_pos h35] at hE
              refine lv_iconst (v := 1) hx hb dX2_readLoop_122 (by decide) ?_
              obtain ⟨rfl, rfl⟩ := hE
              exact en_i F hS _ () (by rfl) rfl hP hD (Nat.le_refl _) (Nat.le_refl _) dX2_readLoop_123
            ·
              rw [if_neg h35] at hE
              refine lv_goto (tgt := 117) hx hb dX2_readLoop_103 (by decide) ?_
              refine lv_aload_n hx hb dX2_readLoop_117 rfl (lv_at hl 1 rfl) ?_
              refine lv_iconst (v := 1) hx hb dX2_readLoop_118 (by decide) ?_
              refine va_put (D := G.1) (ci := 2) (v := .int 1) (ty := .boolean) (C := RX2) (T := TX2) (N := 10) hx hb hts inX2 tyX2 tyX2_ok nmX2 hown hK.1 hP hD hS 0 qW_0 rfl 3 (by decide) (hts _ w_278) (fun _ h9 => h9) rfl (by decide +kernel) rfl rfl rF_l3 dX2_readLoop_119 (fun H locs hP hD hS => ?_)
              rw [qW_f3] at hP hD
              refine lv_iconst (v := 1) hx hb dX2_readLoop_122 (by decide) ?_
              obtain ⟨rfl, rfl⟩ := hE
              exact en_i F hS _ () (by rfl) rfl hP hD (Nat.le_refl _) (Nat.le_refl _) dX2_readLoop_123
          ·
            rw [if_pos h34] at hE
            refine lv_aload_n hx hb dX2_readLoop_84 rfl (lv_at hl 1 rfl) ?_
            obtain ⟨Q36, hg, hE⟩ := hE
            refine kA_v (va_runV (As := []) (rest := []) F.1 (e_r_readCounts l G h q ad J g hO (rf (rf (rf Q 2 ((Q.1 2) + 1)) 8 0) 9 (-1)) Q36 0 hg _) (cwV 0 hts (aw_V w_522 w_524 ws_X2_readCounts w_7 w_525) rfl rfl rfl (by decide +kernel) ⟨by decide, by decide⟩) ⟨cS_blind, va_recv (q := (RX2, TX2, 10)) (ci := 2) (q0 := 0) hK.1 hP rfl qW_0, cS_pre hP hD hK⟩ rfl rfl hl.1 rfl (lv_room (Nat.le_of_ble_eq_true rfl)) dX2_readLoop_85 ⟨Nat.le_refl _, Nat.le_refl _⟩) hD hS hA (fun u0 H locs hp hP hD hS => ?_)
            refine lv_aload_n hx hb dX2_readLoop_88 rfl (lv_at hl 1 rfl) ?_
            refine va_get (D := G.1) (ci := 2) (C := RX2) (T := TX2) (N := 10) hx hb hts inX2 hown hK.1 hP 0 qW_0 rfl 9 (by decide) (hts _ w_284) (fun _ h9 => h9) rF_9 dX2_readLoop_89 ?_
            refine lv_iconst (v := (-1)) hx hb dX2_readLoop_92 (by decide) ?_
            refine lv_icmp_ne (tgt := 106) hx hb dX2_readLoop_93 (by decide) (fun h38 => ?_) (fun h38 => ?_)
            ·
              rw [if_neg h38] at hE
              refine lv_aload_n hx hb dX2_readLoop_106 rfl (lv_at hl 1 rfl) ?_
              refine va_get (D := G.1) (ci := 2) (C := RX2) (T := TX2) (N := 10) hx hb hts inX2 hown hK.1 hP 0 qW_0 rfl 9 (by decide) (hts _ w_284) (fun _ h9 => h9) rF_9 dX2_readLoop_107 ?_
              refine lv_aload_n hx hb dX2_readLoop_110 rfl (lv_at hl 1 rfl) ?_
              refine va_get (D := G.1) (ci := 2) (C := RX2) (T := TX2) (N := 10) hx hb hts inX2 hown hK.1 hP 0 qW_0 rfl 8 (by decide) (hts _ w_283) (fun _ h9 => h9) rF_8 dX2_readLoop_111 ?_
              refine lv_icmp_ge (tgt := 122) hx hb dX2_readLoop_114 (by decide) (fun h39 => ?_) (fun h39 => ?_)
              ·
                rw [if_pos h39] at hE
                refine lv_iconst (v := 1) hx hb dX2_readLoop_122 (by decide) ?_
                obtain ⟨rfl, rfl⟩ := hE
                exact en_i F hS _ () (by rfl) rfl hP hD (Nat.le_refl _) (Nat.le_refl _) dX2_readLoop_123
              ·
                rw [if_neg h39] at hE
                refine lv_aload_n hx hb dX2_readLoop_117 rfl (lv_at hl 1 rfl) ?_
                refine lv_iconst (v := 1) hx hb dX2_readLoop_118 (by decide) ?_
                refine va_put (D := G.1) (ci := 2) (v := .int 1) (ty := .boolean) (C := RX2) (T := TX2) (N := 10) hx hb hts inX2 tyX2 tyX2_ok nmX2 hown hK.1 hP hD hS 0 qW_0 rfl 3 (by decide) (hts _ w_278) (fun _ h9 => h9) rfl (by decide +kernel) rfl rfl rF_l3 dX2_readLoop_119 (fun H locs hP hD hS => ?_)
                rw [qW_f3] at hP hD
                refine lv_iconst (v := 1) hx hb dX2_readLoop_122 (by decide) ?_
                obtain ⟨rfl, rfl⟩ := hE
                exact en_i F hS _ () (by rfl) rfl hP hD (Nat.le_refl _) (Nat.le_refl _) dX2_readLoop_123
            ·
              rw [if_pos h38] at hE
              refine lv_aload_n hx hb dX2_readLoop_96 rfl (lv_at hl 1 rfl) ?_
              refine va_get (D := G.1) (ci := 2) (C := RX2) (T := TX2) (N := 10) hx hb hts inX2 hown hK.1 hP 0 qW_0 rfl 4 (by decide) (hts _ w_279) (fun _ h9 => h9) rF_4 dX2_readLoop_97 ?_
              refine lv_if_le (tgt := 122) hx hb dX2_readLoop_100 (by decide) (fun h40 => ?_) (fun h40 => ?_)
              ·
                rw [if_pos h40] at hE
                refine lv_iconst (v := 1) hx hb dX2_readLoop_122 (by decide) ?_
                obtain ⟨rfl, rfl⟩ := hE
                exact en_i F hS _ () (by rfl) rfl hP hD (Nat.le_refl _) (Nat.le_refl _) dX2_readLoop_123
              ·
                rw [if_neg h40] at hE
                refine lv_goto (tgt := 117) hx hb dX2_readLoop_103 (by decide) ?_
                refine lv_aload_n hx hb dX2_readLoop_117 rfl (lv_at hl 1 rfl) ?_
                refine lv_iconst (v := 1) hx hb dX2_readLoop_118 (by decide) ?_
                refine va_put (D := G.1) (ci := 2) (v := .int 1) (ty := .boolean) (C := RX2) (T := TX2) (N := 10) hx hb hts inX2 tyX2 tyX2_ok nmX2 hown hK.1 hP hD hS 0 qW_0 rfl 3 (by decide) (hts _ w_278) (fun _ h9 => h9) rfl (by decide +kernel) rfl rfl rF_l3 dX2_readLoop_119 (fun H locs hP hD hS => ?_)
                rw [qW_f3] at hP hD
                refine lv_iconst (v := 1) hx hb dX2_readLoop_122 (by decide) ?_
                obtain ⟨rfl, rfl⟩ := hE
                exact en_i F hS _ () (by rfl) rfl hP hD (Nat.le_refl _) (Nat.le_refl _) dX2_readLoop_123
        ·
          rw [if_pos h33] at hE
          refine lv_iconst (v := 1) hx hb dX2_readLoop_70 (by decide) ?_
          refine lv_goto (tgt := 75) hx hb dX2_readLoop_71 (by decide) ?_
          refine va_put (D := G.1) (ci := 2) (v := .int 1) (ty := .int) (C := RX2) (T := TX2) (N := 10) hx hb hts inX2 tyX2 tyX2_ok nmX2 hown hK.1 hP hD hS 0 qW_0 rfl 9 (by decide) (hts _ w_284) (fun _ h9 => h9) rfl (by decide +kernel) rfl rfl rF_l9 dX2_readLoop_75 (fun H locs hP hD hS => ?_)
          rw [qW_f9] at hP hD
          refine lv_iload_n hx hb dX2_readLoop_78 rfl (lv_at hl 0 rfl) ?_
          refine lv_bipush (v := 123) hx hb dX2_readLoop_79 (by decide) ?_
          refine lv_icmp_ne (tgt := 88) hx hb dX2_readLoop_81 (by decide) (fun h41 => ?_) (fun h41 => ?_)
          ·
            rw [if_neg h41] at hE
            refine lv_aload_n hx hb dX2_readLoop_88 rfl (lv_at hl 1 rfl) ?_
            refine va_get (D := G.1) (ci := 2) (C := RX2) (T := TX2) (N := 10) hx hb hts inX2 hown hK.1 hP 0 qW_0 rfl 9 (by decide) (hts _ w_284) (fun _ h9 => h9) rF_9 dX2_readLoop_89 ?_
            refine tp_i 1 rfl ?_
            refine lv_iconst (v := (-1)) hx hb dX2_readLoop_92 (by decide) ?_
            refine lv_icmp_ne (tgt := 106) hx hb dX2_readLoop_93 (by decide) (fun _ => ?_) (fun h => absurd h (by decide))
            refine lv_aload_n hx hb dX2_readLoop_106 rfl (lv_at hl 1 rfl) ?_
            refine va_get (D := G.1) (ci := 2) (C := RX2) (T := TX2) (N := 10) hx hb hts inX2 hown hK.1 hP 0 qW_0 rfl 9 (by decide) (hts _ w_284) (fun _ h9 => h9) rF_9 dX2_readLoop_107 ?_
            refine tp_i 1 rfl ?_
            refine lv_aload_n hx hb dX2_readLoop_110 rfl (lv_at hl 1 rfl) ?_
            refine va_get (D := G.1) (ci := 2) (C := RX2) (T := TX2) (N := 10) hx hb hts inX2 hown hK.1 hP 0 qW_0 rfl 8 (by decide) (hts _ w_283) (fun _ h9 => h9) rF_8 dX2_readLoop_111 ?_
            refine tp_i 0 rfl ?_
            refine lv_icmp_ge (tgt := 122) hx hb dX2_readLoop_114 (by decide) (fun _ => ?_) (fun h => absurd (by decide) h)
            refine lv_iconst (v := 1) hx hb dX2_readLoop_122 (by decide) ?_
            obtain ⟨rfl, rfl⟩ := hE
            exact en_i F hS _ () (by rfl) rfl hP hD (Nat.le_refl _) (Nat.le_refl _) dX2_readLoop_123
          ·
            rw [if_pos h41] at hE
            refine lv_aload_n hx hb dX2_readLoop_84 rfl (lv_at hl 1 rfl) ?_
            obtain ⟨Q42, hg, hE⟩ := hE
            refine kA_v (va_runV (As := []) (rest := []) F.1 (e_r_readCounts l G h q ad J g hO (rf (rf (rf Q 2 ((Q.1 2) + 1)) 8 0) 9 1) Q42 0 hg _) (cwV 0 hts (aw_V w_522 w_524 ws_X2_readCounts w_7 w_525) rfl rfl rfl (by decide +kernel) ⟨by decide, by decide⟩) ⟨cS_blind, va_recv (q := (RX2, TX2, 10)) (ci := 2) (q0 := 0) hK.1 hP rfl qW_0, cS_pre hP hD hK⟩ rfl rfl hl.1 rfl (lv_room (Nat.le_of_ble_eq_true rfl)) dX2_readLoop_85 ⟨Nat.le_refl _, Nat.le_refl _⟩) hD hS hA (fun u0 H locs hp hP hD hS => ?_)
            refine lv_aload_n hx hb dX2_readLoop_88 rfl (lv_at hl 1 rfl) ?_
            refine va_get (D := G.1) (ci := 2) (C := RX2) (T := TX2) (N := 10) hx hb hts inX2 hown hK.1 hP 0 qW_0 rfl 9 (by decide) (hts _ w_284) (fun _ h9 => h9) rF_9 dX2_readLoop_89 ?_
            refine lv_iconst (v := (-1)) hx hb dX2_readLoop_92 (by decide) ?_
            refine lv_icmp_ne (tgt := 106) hx hb dX2_readLoop_93 (by decide) (fun h44 => ?_) (fun h44 => ?_)
            ·
              rw [if_neg h44] at hE
              refine lv_aload_n hx hb dX2_readLoop_106 rfl (lv_at hl 1 rfl) ?_
              refine va_get (D := G.1) (ci := 2) (C := RX2) (T := TX2) (N := 10) hx hb hts inX2 hown hK.1 hP 0 qW_0 rfl 9 (by decide) (hts _ w_284) (fun _ h9 => h9) rF_9 dX2_readLoop_107 ?_
              refine lv_aload_n hx hb dX2_readLoop_110 rfl (lv_at hl 1 rfl) ?_
              refine va_get (D := G.1) (ci := 2) (C := RX2) (T := TX2) (N := 10) hx hb hts inX2 hown hK.1 hP 0 qW_0 rfl 8 (by decide) (hts _ w_283) (fun _ h9 => h9) rF_8 dX2_readLoop_111 ?_
              refine lv_icmp_ge (tgt := 122) hx hb dX2_readLoop_114 (by decide) (fun h45 => ?_) (fun h45 => ?_)
              ·
                rw [if_pos h45] at hE
                refine lv_iconst (v := 1) hx hb dX2_readLoop_122 (by decide) ?_
                obtain ⟨rfl, rfl⟩ := hE
                exact en_i F hS _ () (by rfl) rfl hP hD (Nat.le_refl _) (Nat.le_refl _) dX2_readLoop_123
              ·
                rw [if_neg h45] at hE
                refine lv_aload_n hx hb dX2_readLoop_117 rfl (lv_at hl 1 rfl) ?_
                refine lv_iconst (v := 1) hx hb dX2_readLoop_118 (by decide) ?_
                refine va_put (D := G.1) (ci := 2) (v := .int 1) (ty := .boolean) (C := RX2) (T := TX2) (N := 10) hx hb hts inX2 tyX2 tyX2_ok nmX2 hown hK.1 hP hD hS 0 qW_0 rfl 3 (by decide) (hts _ w_278) (fun _ h9 => h9) rfl (by decide +kernel) rfl rfl rF_l3 dX2_readLoop_119 (fun H locs hP hD hS => ?_)
                rw [qW_f3] at hP hD
                refine lv_iconst (v := 1) hx hb dX2_readLoop_122 (by decide) ?_
                obtain ⟨rfl, rfl⟩ := hE
                exact en_i F hS _ () (by rfl) rfl hP hD (Nat.le_refl _) (Nat.le_refl _) dX2_readLoop_123
            ·
              rw [if_pos h44] at hE
              refine lv_aload_n hx hb dX2_readLoop_96 rfl (lv_at hl 1 rfl) ?_
              refine va_get (D := G.1) (ci := 2) (C := RX2) (T := TX2) (N := 10) hx hb hts inX2 hown hK.1 hP 0 qW_0 rfl 4 (by decide) (hts _ w_279) (fun _ h9 => h9) rF_4 dX2_readLoop_97 ?_
              refine lv_if_le (tgt := 122) hx hb dX2_readLoop_100 (by decide) (fun h46 => ?_) (fun h46 => ?_)
              ·
                rw [if_pos h46] at hE
                refine lv_iconst (v := 1) hx hb dX2_readLoop_122 (by decide) ?_
                obtain ⟨rfl, rfl⟩ := hE
                exact en_i F hS _ () (by rfl) rfl hP hD (Nat.le_refl _) (Nat.le_refl _) dX2_readLoop_123
              ·
                rw [if_neg h46] at hE
                refine lv_goto (tgt := 117) hx hb dX2_readLoop_103 (by decide) ?_
                refine lv_aload_n hx hb dX2_readLoop_117 rfl (lv_at hl 1 rfl) ?_
                refine lv_iconst (v := 1) hx hb dX2_readLoop_118 (by decide) ?_
                refine va_put (D := G.1) (ci := 2) (v := .int 1) (ty := .boolean) (C := RX2) (T := TX2) (N := 10) hx hb hts inX2 tyX2 tyX2_ok nmX2 hown hK.1 hP hD hS 0 qW_0 rfl 3 (by decide) (hts _ w_278) (fun _ h9 => h9) rfl (by decide +kernel) rfl rfl rF_l3 dX2_readLoop_119 (fun H locs hP hD hS => ?_)
                rw [qW_f3] at hP hD
                refine lv_iconst (v := 1) hx hb dX2_readLoop_122 (by decide) ?_
                obtain ⟨rfl, rfl⟩ := hE
                exact en_i F hS _ () (by rfl) rfl hP hD (Nat.le_refl _) (Nat.le_refl _) dX2_readLoop_123
      ·
        rw [if_pos h32] at hE
        refine lv_iconst (v := 1) hx hb dX2_readLoop_55 (by decide) ?_
        refine lv_goto (tgt := 60) hx hb dX2_readLoop_56 (by decide) ?_
        refine va_put (D := G.1) (ci := 2) (v := .int 1) (ty := .int) (C := RX2) (T := TX2) (N := 10) hx hb hts inX2 tyX2 tyX2_ok nmX2 hown hK.1 hP hD hS 0 qW_0 rfl 8 (by decide) (hts _ w_283) (fun _ h9 => h9) rfl (by decide +kernel) rfl rfl rF_l8 dX2_readLoop_60 (fun H locs hP hD hS => ?_)
        rw [qW_f8] at hP hD
        refine lv_aload_n hx hb dX2_readLoop_63 rfl (lv_at hl 1 rfl) ?_
        refine lv_iload_n hx hb dX2_readLoop_64 rfl (lv_at hl 0 rfl) ?_
        refine lv_bipush (v := 63) hx hb dX2_readLoop_65 (by decide) ?_
        refine lv_icmp_ne (tgt := 74) hx hb dX2_readLoop_67 (by decide) (fun h47 => ?_) (fun h47 => ?_)
        ·
          rw [if_neg h47] at hE
          refine lv_iconst (v := (-1)) hx hb dX2_readLoop_74 (by decide) ?_
          refine va_put (D := G.1) (ci := 2) (v := .int (-1)) (ty := .int) (C := RX2) (T := TX2) (N := 10) hx hb hts inX2 tyX2 tyX2_ok nmX2 hown hK.1 hP hD hS 0 qW_0 rfl 9 (by decide) (hts _ w_284) (fun _ h9 => h9) rfl (by decide +kernel) rfl rfl rF_l9 dX2_readLoop_75 (fun H locs hP hD hS => ?_)
          rw [qW_f9] at hP hD
          refine lv_iload_n hx hb dX2_readLoop_78 rfl (lv_at hl 0 rfl) ?_
          refine lv_bipush (v := 123) hx hb dX2_readLoop_79 (by decide) ?_
          refine lv_icmp_ne (tgt := 88) hx hb dX2_readLoop_81 (by decide) (fun h48 => ?_) (fun h48 => ?_)
          ·
            rw [if_neg h48] at hE
            refine lv_aload_n hx hb dX2_readLoop_88 rfl (lv_at hl 1 rfl) ?_
            refine va_get (D := G.1) (ci := 2) (C := RX2) (T := TX2) (N := 10) hx hb hts inX2 hown hK.1 hP 0 qW_0 rfl 9 (by decide) (hts _ w_284) (fun _ h9 => h9) rF_9 dX2_readLoop_89 ?_
            refine tp_i (-1) rfl ?_
            refine lv_iconst (v := (-1)) hx hb dX2_readLoop_92 (by decide) ?_
            refine lv_icmp_ne (tgt := 106) hx hb dX2_readLoop_93 (by decide) (fun h => absurd (by decide) h) (fun _ => ?_)
            refine lv_aload_n hx hb dX2_readLoop_96 rfl (lv_at hl 1 rfl) ?_
            refine va_get (D := G.1) (ci := 2) (C := RX2) (T := TX2) (N := 10) hx hb hts inX2 hown hK.1 hP 0 qW_0 rfl 4 (by decide) (hts _ w_279) (fun _ h9 => h9) rF_4 dX2_readLoop_97 ?_
            refine tp_i (Q.1 4) rfl ?_
            refine lv_if_le (tgt := 122) hx hb dX2_readLoop_100 (by decide) (fun h49 => ?_) (fun h49 => ?_)
            ·
              rw [if_pos h49] at hE
              refine lv_iconst (v := 1) hx hb dX2_readLoop_122 (by decide) ?_
              obtain ⟨rfl, rfl⟩ := hE
              exact en_i F hS _ () (by rfl) rfl hP hD (Nat.le_refl _) (Nat.le_refl _) dX2_readLoop_123
            ·
              rw [if_neg h49] at hE
              refine lv_goto (tgt := 117) hx hb dX2_readLoop_103 (by decide) ?_
              refine lv_aload_n hx hb dX2_readLoop_117 rfl (lv_at hl 1 rfl) ?_
              refine lv_iconst (v := 1) hx hb dX2_readLoop_118 (by decide) ?_
              refine va_put (D := G.1) (ci := 2) (v := .int 1) (ty := .boolean) (C := RX2) (T := TX2) (N := 10) hx hb hts inX2 tyX2 tyX2_ok nmX2 hown hK.1 hP hD hS 0 qW_0 rfl 3 (by decide) (hts _ w_278) (fun _ h9 => h9) rfl (by decide +kernel) rfl rfl rF_l3 dX2_readLoop_119 (fun H locs hP hD hS => ?_)
              rw [qW_f3] at hP hD
              refine lv_iconst (v := 1) hx hb dX2_readLoop_122 (by decide) ?_
              obtain ⟨rfl, rfl⟩ := hE
              exact en_i F hS _ () (by rfl) rfl hP hD (Nat.le_refl _) (Nat.le_refl _) dX2_readLoop_123
          ·
            rw [if_pos h48] at hE
            refine lv_aload_n hx hb dX2_readLoop_84 rfl (lv_at hl 1 rfl) ?_
            obtain ⟨Q50, hg, hE⟩ := hE
            refine kA_v (va_runV (As := []) (rest := []) F.1 (e_r_readCounts l G h q ad J g hO (rf (rf (rf Q 2 ((Q.1 2) + 1)) 8 1) 9 (-1)) Q50 0 hg _) (cwV 0 hts (aw_V w_522 w_524 ws_X2_readCounts w_7 w_525) rfl rfl rfl (by decide +kernel) ⟨by decide, by decide⟩) ⟨cS_blind, va_recv (q := (RX2, TX2, 10)) (ci := 2) (q0 := 0) hK.1 hP rfl qW_0, cS_pre hP hD hK⟩ rfl rfl hl.1 rfl (lv_room (Nat.le_of_ble_eq_true rfl)) dX2_readLoop_85 ⟨Nat.le_refl _, Nat.le_refl _⟩) hD hS hA (fun u0 H locs hp hP hD hS => ?_)
            refine lv_aload_n hx hb dX2_readLoop_88 rfl (lv_at hl 1 rfl) ?_
            refine va_get (D := G.1) (ci := 2) (C := RX2) (T := TX2) (N := 10) hx hb hts inX2 hown hK.1 hP 0 qW_0 rfl 9 (by decide) (hts _ w_284) (fun _ h9 => h9) rF_9 dX2_readLoop_89 ?_
            refine lv_iconst (v := (-1)) hx hb dX2_readLoop_92 (by decide) ?_
            refine lv_icmp_ne (tgt := 106) hx hb dX2_readLoop_93 (by decide) (fun h52 => ?_) (fun h52 => ?_)
            ·
              rw [if_neg h52] at hE
              refine lv_aload_n hx hb dX2_readLoop_106 rfl (lv_at hl 1 rfl) ?_
              refine va_get (D := G.1) (ci := 2) (C := RX2) (T := TX2) (N := 10) hx hb hts inX2 hown hK.1 hP 0 qW_0 rfl 9 (by decide) (hts _ w_284) (fun _ h9 => h9) rF_9 dX2_readLoop_107 ?_
              refine lv_aload_n hx hb dX2_readLoop_110 rfl (lv_at hl 1 rfl) ?_
              refine va_get (D := G.1) (ci := 2) (C := RX2) (T := TX2) (N := 10) hx hb hts inX2 hown hK.1 hP 0 qW_0 rfl 8 (by decide) (hts _ w_283) (fun _ h9 => h9) rF_8 dX2_readLoop_111 ?_
              refine lv_icmp_ge (tgt := 122) hx hb dX2_readLoop_114 (by decide) (fun h53 => ?_) (fun h53 => ?_)
              ·
                rw [if_pos h53] at hE
                refine lv_iconst (v := 1) hx hb dX2_readLoop_122 (by decide) ?_
                obtain ⟨rfl, rfl⟩ := hE
                exact en_i F hS _ () (by rfl) rfl hP hD (Nat.le_refl _) (Nat.le_refl _) dX2_readLoop_123
              ·
                rw [if_neg h53] at hE
                refine lv_aload_n hx hb dX2_readLoop_117 rfl (lv_at hl 1 rfl) ?_
                refine lv_iconst (v := 1) hx hb dX2_readLoop_118 (by decide) ?_
                refine va_put (D := G.1) (ci := 2) (v := .int 1) (ty := .boolean) (C := RX2) (T := TX2) (N := 10) hx hb hts inX2 tyX2 tyX2_ok nmX2 hown hK.1 hP hD hS 0 qW_0 rfl 3 (by decide) (hts _ w_278) (fun _ h9 => h9) rfl (by decide +kernel) rfl rfl rF_l3 dX2_readLoop_119 (fun H locs hP hD hS => ?_)
                rw [qW_f3] at hP hD
                refine lv_iconst (v := 1) hx hb dX2_readLoop_122 (by decide) ?_
                obtain ⟨rfl, rfl⟩ := hE
                exact en_i F hS _ () (by rfl) rfl hP hD (Nat.le_refl _) (Nat.le_refl _) dX2_readLoop_123
            ·
              rw [if_pos h52] at hE
              refine lv_aload_n hx hb dX2_readLoop_96 rfl (lv_at hl 1 rfl) ?_
              refine va_get (D := G.1) (ci := 2) (C := RX2) (T := TX2) (N := 10) hx hb hts inX2 hown hK.1 hP 0 qW_0 rfl 4 (by decide) (hts _ w_279) (fun _ h9 => h9) rF_4 dX2_readLoop_97 ?_
              refine lv_if_le (tgt := 122) hx hb dX2_readLoop_100 (by decide) (fun h54 => ?_) (fun h54 => ?_)
              ·
                rw [if_pos h54] at hE
                refine lv_iconst (v := 1) hx hb dX2_readLoop_122 (by decide) ?_
                obtain ⟨rfl, rfl⟩ := hE
                exact en_i F hS _ () (by rfl) rfl hP hD (Nat.le_refl _) (Nat.le_refl _) dX2_readLoop_123
              ·
                rw [if_neg h54] at hE
                refine lv_goto (tgt := 117) hx hb dX2_readLoop_103 (by decide) ?_
                refine lv_aload_n hx hb dX2_readLoop_117 rfl (lv_at hl 1 rfl) ?_
                refine lv_iconst (v := 1) hx hb dX2_readLoop_118 (by decide) ?_
                refine va_put (D := G.1) (ci := 2) (v := .int 1) (ty := .boolean) (C := RX2) (T := TX2) (N := 10) hx hb hts inX2 tyX2 tyX2_ok nmX2 hown hK.1 hP hD hS 0 qW_0 rfl 3 (by decide) (hts _ w_278) (fun _ h9 => h9) rfl (by decide +kernel) rfl rfl rF_l3 dX2_readLoop_119 (fun H locs hP hD hS => ?_)
                rw [qW_f3] at hP hD
                refine lv_iconst (v := 1) hx hb dX2_readLoop_122 (by decide) ?_
                obtain ⟨rfl, rfl⟩ := hE
                exact en_i F hS _ () (by rfl) rfl hP hD (Nat.le_refl _) (Nat.le_refl _) dX2_readLoop_123
        ·
          rw [if_pos h47] at hE
          refine lv_iconst (v := 1) hx hb dX2_readLoop_70 (by decide) ?_
          refine lv_goto (tgt := 75) hx hb dX2_readLoop_71 (by decide) ?_
          refine va_put (D := G.1) (ci := 2) (v := .int 1) (ty := .int) (C := RX2) (T := TX2) (N := 10) hx hb hts inX2 tyX2 tyX2_ok nmX2 hown hK.1 hP hD hS 0 qW_0 rfl 9 (by decide) (hts _ w_284) (fun _ h9 => h9) rfl (by decide +kernel) rfl rfl rF_l9 dX2_readLoop_75 (fun H locs hP hD hS => ?_)
          rw [qW_f9] at hP hD
          refine lv_iload_n hx hb dX2_readLoop_78 rfl (lv_at hl 0 rfl) ?_
          refine lv_bipush (v := 123) hx hb dX2_readLoop_79 (by decide) ?_
          refine lv_icmp_ne (tgt := 88) hx hb dX2_readLoop_81 (by decide) (fun h55 => ?_) (fun h55 => ?_)
          ·
            rw [if_neg h55] at hE
            refine lv_aload_n hx hb dX2_readLoop_88 rfl (lv_at hl 1 rfl) ?_
            refine va_get (D := G.1) (ci := 2) (C := RX2) (T := TX2) (N := 10) hx hb hts inX2 hown hK.1 hP 0 qW_0 rfl 9 (by decide) (hts _ w_284) (fun _ h9 => h9) rF_9 dX2_readLoop_89 ?_
            refine tp_i 1 rfl ?_
            refine lv_iconst (v := (-1)) hx hb dX2_readLoop_92 (by decide) ?_
            refine lv_icmp_ne (tgt := 106) hx hb dX2_readLoop_93 (by decide) (fun _ => ?_) (fun h => absurd h (by decide))
            refine lv_aload_n hx hb dX2_readLoop_106 rfl (lv_at hl 1 rfl) ?_
            refine va_get (D := G.1) (ci := 2) (C := RX2) (T := TX2) (N := 10) hx hb hts inX2 hown hK.1 hP 0 qW_0 rfl 9 (by decide) (hts _ w_284) (fun _ h9 => h9) rF_9 dX2_readLoop_107 ?_
            refine tp_i 1 rfl ?_
            refine lv_aload_n hx hb dX2_readLoop_110 rfl (lv_at hl 1 rfl) ?_
            refine va_get (D := G.1) (ci := 2) (C := RX2) (T := TX2) (N := 10) hx hb hts inX2 hown hK.1 hP 0 qW_0 rfl 8 (by decide) (hts _ w_283) (fun _ h9 => h9) rF_8 dX2_readLoop_111 ?_
            refine tp_i 1 rfl ?_
            refine lv_icmp_ge (tgt := 122) hx hb dX2_readLoop_114 (by decide) (fun _ => ?_) (fun h => absurd (by decide) h)
            refine lv_iconst (v := 1) hx hb dX2_readLoop_122 (by decide) ?_
            obtain ⟨rfl, rfl⟩ := hE
            exact en_i F hS _ () (by rfl) rfl hP hD (Nat.le_refl _) (Nat.le_refl _) dX2_readLoop_123
          ·
            rw [if_pos h55] at hE
            refine lv_aload_n hx hb dX2_readLoop_84 rfl (lv_at hl 1 rfl) ?_
            obtain ⟨Q56, hg, hE⟩ := hE
            refine kA_v (va_runV (As := []) (rest := []) F.1 (e_r_readCounts l G h q ad J g hO (rf (rf (rf Q 2 ((Q.1 2) + 1)) 8 1) 9 1) Q56 0 hg _) (cwV 0 hts (aw_V w_522 w_524 ws_X2_readCounts w_7 w_525) rfl rfl rfl (by decide +kernel) ⟨by decide, by decide⟩) ⟨cS_blind, va_recv (q := (RX2, TX2, 10)) (ci := 2) (q0 := 0) hK.1 hP rfl qW_0, cS_pre hP hD hK⟩ rfl rfl hl.1 rfl (lv_room (Nat.le_of_ble_eq_true rfl)) dX2_readLoop_85 ⟨Nat.le_refl _, Nat.le_refl _⟩) hD hS hA (fun u0 H locs hp hP hD hS => ?_)
            refine lv_aload_n hx hb dX2_readLoop_88 rfl (lv_at hl 1 rfl) ?_
            refine va_get (D := G.1) (ci := 2) (C := RX2) (T := TX2) (N := 10) hx hb hts inX2 hown hK.1 hP 0 qW_0 rfl 9 (by decide) (hts _ w_284) (fun _ h9 => h9) rF_9 dX2_readLoop_89 ?_
            refine lv_iconst (v := (-1)) hx hb dX2_readLoop_92 (by decide) ?_
            refine lv_icmp_ne (tgt := 106) hx hb dX2_readLoop_93 (by decide) (fun h58 => ?_) (fun h58 => ?_)
            ·
              rw [if_neg h58] at hE
              refine lv_aload_n hx hb dX2_readLoop_106 rfl (lv_at hl 1 rfl) ?_
              refine va_get (D := G.1) (ci := 2) (C := RX2) (T := TX2) (N := 10) hx hb hts inX2 hown hK.1 hP 0 qW_0 rfl 9 (by decide) (hts _ w_284) (fun _ h9 => h9) rF_9 dX2_readLoop_107 ?_
              refine lv_aload_n hx hb dX2_readLoop_110 rfl (lv_at hl 1 rfl) ?_
              refine va_get (D := G.1) (ci := 2) (C := RX2) (T := TX2) (N := 10) hx hb hts inX2 hown hK.1 hP 0 qW_0 rfl 8 (by decide) (hts _ w_283) (fun _ h9 => h9) rF_8 dX2_readLoop_111 ?_
              refine lv_icmp_ge (tgt := 122) hx hb dX2_readLoop_114 (by decide) (fun h59 => ?_) (fun h59 => ?_)
              ·
                rw [if_pos h59] at hE
                refine lv_iconst (v := 1) hx hb dX2_readLoop_122 (by decide) ?_
                obtain ⟨rfl, rfl⟩ := hE
                exact en_i F hS _ () (by rfl) rfl hP hD (Nat.le_refl _) (Nat.le_refl _) dX2_readLoop_123
              ·
                rw [if_neg h59] at hE
                refine lv_aload_n hx hb dX2_readLoop_117 rfl (lv_at hl 1 rfl) ?_
                refine lv_iconst (v := 1) hx hb dX2_readLoop_118 (by decide) ?_
                refine va_put (D := G.1) (ci := 2) (v := .int 1) (ty := .boolean) (C := RX2) (T := TX2) (N := 10) hx hb hts inX2 tyX2 tyX2_ok nmX2 hown hK.1 hP hD hS 0 qW_0 rfl 3 (by decide) (hts _ w_278) (fun _ h9 => h9) rfl (by decide +kernel) rfl rfl rF_l3 dX2_readLoop_119 (fun H locs hP hD hS => ?_)
                rw [qW_f3] at hP hD
                refine lv_iconst (v := 1) hx hb dX2_readLoop_122 (by decide) ?_
                obtain ⟨rfl, rfl⟩ := hE
                exact en_i F hS _ () (by rfl) rfl hP hD (Nat.le_refl _) (Nat.le_refl _) dX2_readLoop_123
            ·
              rw [if_pos h58] at hE
              refine lv_aload_n hx hb dX2_readLoop_96 rfl (lv_at hl 1 rfl) ?_
              refine va_get (D := G.1) (ci := 2) (C := RX2) (T := TX2) (N := 10) hx hb hts inX2 hown hK.1 hP 0 qW_0 rfl 4 (by decide) (hts _ w_279) (fun _ h9 => h9) rF_4 dX2_readLoop_97 ?_
              refine lv_if_le (tgt := 122) hx hb dX2_readLoop_100 (by decide) (fun h60 => ?_) (fun h60 => ?_)
              ·
                rw [if_pos h60] at hE
                refine lv_iconst (v := 1) hx hb dX2_readLoop_122 (by decide) ?_
                obtain ⟨rfl, rfl⟩ := hE
                exact en_i F hS _ () (by rfl) rfl hP hD (Nat.le_refl _) (Nat.le_refl _) dX2_readLoop_123
              ·
                rw [if_neg h60] at hE
                refine lv_goto (tgt := 117) hx hb dX2_readLoop_103 (by decide) ?_
                refine lv_aload_n hx hb dX2_readLoop_117 rfl (lv_at hl 1 rfl) ?_
                refine lv_iconst (v := 1) hx hb dX2_readLoop_118 (by decide) ?_
                refine va_put (D := G.1) (ci := 2) (v := .int 1) (ty := .boolean) (C := RX2) (T := TX2) (N := 10) hx hb hts inX2 tyX2 tyX2_ok nmX2 hown hK.1 hP hD hS 0 qW_0 rfl 3 (by decide) (hts _ w_278) (fun _ h9 => h9) rfl (by decide +kernel) rfl rfl rF_l3 dX2_readLoop_119 (fun H locs hP hD hS => ?_)
                rw [qW_f3] at hP hD
                refine lv_iconst (v := 1) hx hb dX2_readLoop_122 (by decide) ?_
                obtain ⟨rfl, rfl⟩ := hE
                exact en_i F hS _ () (by rfl) rfl hP hD (Nat.le_refl _) (Nat.le_refl _) dX2_readLoop_123
    ·
      rw [if_neg h31] at hE
      refine lv_iload_n hx hb dX2_readLoop_24 rfl (lv_at hl 0 rfl) ?_
      refine lv_bipush (v := 43) hx hb dX2_readLoop_25 (by decide) ?_
      refine lv_icmp_eq (tgt := 38) hx hb dX2_readLoop_27 (by decide) (fun h61 => ?_) (fun h61 => ?_)
      ·
        rw [if_pos h61] at hE
        refine lv_aload_n hx hb dX2_readLoop_38 rfl (lv_at hl 1 rfl) ?_
        refine lv_dup hx hb dX2_readLoop_39 rfl ?_
        refine va_get (D := G.1) (ci := 2) (C := RX2) (T := TX2) (N := 10) hx hb hts inX2 hown hK.1 hP 0 qW_0 rfl 2 (by decide) (hts _ w_277) (fun _ h9 => h9) rF_2 dX2_readLoop_40 ?_
        refine lv_iconst (v := 1) hx hb dX2_readLoop_43 (by decide) ?_
        refine lv_iadd hx hb dX2_readLoop_44 ?_
        refine va_put (D := G.1) (ci := 2) (v := .int ((Q.1 2) + 1)) (ty := .int) (C := RX2) (T := TX2) (N := 10) hx hb hts inX2 tyX2 tyX2_ok nmX2 hown hK.1 hP hD hS 0 qW_0 rfl 2 (by decide) (hts _ w_277) (fun _ h9 => h9) rfl (by decide +kernel) rfl rfl rF_l2 dX2_readLoop_45 (fun H locs hP hD hS => ?_)
        rw [qW_f2] at hP hD
        refine lv_aload_n hx hb dX2_readLoop_48 rfl (lv_at hl 1 rfl) ?_
        refine lv_iload_n hx hb dX2_readLoop_49 rfl (lv_at hl 0 rfl) ?_
        refine lv_bipush (v := 43) hx hb dX2_readLoop_50 (by decide) ?_
        refine lv_icmp_ne (tgt := 59) hx hb dX2_readLoop_52 (by decide) (fun h62 => ?_) (fun h62 => ?_)
        ·
          rw [if_neg h62] at hE
          refine lv_iconst (v := 0) hx hb dX2_readLoop_59 (by decide) ?_
          refine va_put (D := G.1) (ci := 2) (v := .int 0) (ty := .int) (C := RX2) (T := TX2) (N := 10) hx hb hts inX2 tyX2 tyX2_ok nmX2 hown hK.1 hP hD hS 0 qW_0 rfl 8 (by decide) (hts _ w_283) (fun _ h9 => h9) rfl (by decide +kernel) rfl rfl rF_l8 dX2_readLoop_60 (fun H locs hP hD hS => ?_)
          rw [qW_f8] at hP hD
          refine lv_aload_n hx hb dX2_readLoop_63 rfl (lv_at hl 1 rfl) ?_
          refine lv_iload_n hx hb dX2_readLoop_64 rfl (lv_at hl 0 rfl) ?_
          refine lv_bipush (v := 63) hx hb dX2_readLoop_65 (by decide) ?_
          refine lv_icmp_ne (tgt := 74) hx hb dX2_readLoop_67 (by decide) (fun h63 => ?_) (fun h63 => ?_)
          ·
            rw [if_neg h63] at hE
            refine lv_iconst (v := (-1)) hx hb dX2_readLoop_74 (by decide) ?_
            refine va_put (D := G.1) (ci := 2) (v := .int (-1)) (ty := .int) (C := RX2) (T := TX2) (N := 10) hx hb hts inX2 tyX2 tyX2_ok nmX2 hown hK.1 hP hD hS 0 qW_0 rfl 9 (by decide) (hts _ w_284) (fun _ h9 => h9) rfl (by decide +kernel) rfl rfl rF_l9 dX2_readLoop_75 (fun H locs hP hD hS => ?_)
            rw [qW_f9] at hP hD
            refine lv_iload_n hx hb dX2_readLoop_78 rfl (lv_at hl 0 rfl) ?_
            refine lv_bipush (v := 123) hx hb dX2_readLoop_79 (by decide) ?_
            refine lv_icmp_ne (tgt := 88) hx hb dX2_readLoop_81 (by decide) (fun h64 => ?_) (fun h64 => ?_)
            ·
              rw [if_neg h64] at hE
              refine lv_aload_n hx hb dX2_readLoop_88 rfl (lv_at hl 1 rfl) ?_
              refine va_get (D := G.1) (ci := 2) (C := RX2) (T := TX2) (N := 10) hx hb hts inX2 hown hK.1 hP 0 qW_0 rfl 9 (by decide) (hts _ w_284) (fun _ h9 => h9) rF_9 dX2_readLoop_89 ?_
              refine tp_i (-1) rfl ?_
              refine lv_iconst (v := (-1)) hx hb dX2_readLoop_92 (by decide) ?_
              refine lv_icmp_ne (tgt := 106) hx hb dX2_readLoop_93 (by decide) (fun h => absurd (by decide) h) (fun _ => ?_)
              refine lv_aload_n hx hb dX2_readLoop_96 rfl (lv_at hl 1 rfl) ?_
              refine va_get (D := G.1) (ci := 2) (C := RX2) (T := TX2) (N := 10) hx hb hts inX2 hown hK.1 hP 0 qW_0 rfl 4 (by decide) (hts _ w_279) (fun _ h9 => h9) rF_4 dX2_readLoop_97 ?_
              refine tp_i (Q.1 4) rfl ?_
              refine lv_if_le (tgt := 122) hx hb dX2_readLoop_100 (by decide) (fun h65 => ?_) (fun h65 => ?_)
              ·
                rw [if_pos h65] at hE
                refine lv_iconst (v := 1) hx hb dX2_readLoop_122 (by decide) ?_
                obtain ⟨rfl, rfl⟩ := hE
                exact en_i F hS _ () (by rfl) rfl hP hD (Nat.le_refl _) (Nat.le_refl _) dX2_readLoop_123
              ·
                rw [if_neg h65] at hE
                refine lv_goto (tgt := 117) hx hb dX2_readLoop_103 (by decide) ?_
                refine lv_aload_n hx hb dX2_readLoop_117 rfl (lv_at hl 1 rfl) ?_
                refine lv_iconst (v := 1) hx hb dX2_readLoop_118 (by decide) ?_
                refine va_put (D := G.1) (ci := 2) (v := .int 1) (ty := .boolean) (C := RX2) (T := TX2) (N := 10) hx hb hts inX2 tyX2 tyX2_ok nmX2 hown hK.1 hP hD hS 0 qW_0 rfl 3 (by decide) (hts _ w_278) (fun _ h9 => h9) rfl (by decide +kernel) rfl rfl rF_l3 dX2_readLoop_119 (fun H locs hP hD hS => ?_)
                rw [qW_f3] at hP hD
                refine lv_iconst (v := 1) hx hb dX2_readLoop_122 (by decide) ?_
                obtain ⟨rfl, rfl⟩ := hE
                exact en_i F hS _ () (by rfl) rfl hP hD (Nat.le_refl _) (Nat.le_refl _) dX2_readLoop_123
            ·
              rw [if_pos h64] at hE
              refine lv_aload_n hx hb dX2_readLoop_84 rfl (lv_at hl 1 rfl) ?_
              obtain ⟨Q66, hg, hE⟩ := hE
              refine kA_v (va_runV (As := []) (rest := []) F.1 (e_r_readCounts l G h q ad J g hO (rf (rf (rf Q 2 ((Q.1 2) + 1)) 8 0) 9 (-1)) Q66 0 hg _) (cwV 0 hts (aw_V w_522 w_524 ws_X2_readCounts w_7 w_525) rfl rfl rfl (by decide +kernel) ⟨by decide, by decide⟩) ⟨cS_blind, va_recv (q := (RX2, TX2, 10)) (ci := 2) (q0 := 0) hK.1 hP rfl qW_0, cS_pre hP hD hK⟩ rfl rfl hl.1 rfl (lv_room (Nat.le_of_ble_eq_true rfl)) dX2_readLoop_85 ⟨Nat.le_refl _, Nat.le_refl _⟩) hD hS hA (fun u0 H locs hp hP hD hS => ?_)
              refine lv_aload_n hx hb dX2_readLoop_88 rfl (lv_at hl 1 rfl) ?_
              refine va_get (D := G.1) (ci := 2) (C := RX2) (T := TX2) (N := 10) hx hb hts inX2 hown hK.1 hP 0 qW_0 rfl 9 (by decide) (hts _ w_284) (fun _ h9 => h9) rF_9 dX2_readLoop_89 ?_
              refine lv_iconst (v := (-1)) hx hb dX2_readLoop_92 (by decide) ?_
              refine lv_icmp_ne (tgt := 106) hx hb dX2_readLoop_93 (by decide) (fun h68 => ?_) (fun h68 => ?_)
              ·
                rw [if_neg h68] at hE
                refine lv_aload_n hx hb dX2_readLoop_106 rfl (lv_at hl 1 rfl) ?_
                refine va_get (D := G.1) (ci := 2) (C := RX2) (T := TX2) (N := 10) hx hb hts inX2 hown hK.1 hP 0 qW_0 rfl 9 (by decide) (hts _ w_284) (fun _ h9 => h9) rF_9 dX2_readLoop_107 ?_
                refine lv_aload_n hx hb dX2_readLoop_110 rfl (lv_at hl 1 rfl) ?_
                refine va_get (D := G.1) (ci := 2) (C := RX2) (T := TX2) (N := 10) hx hb hts inX2 hown hK.1 hP 0 qW_0 rfl 8 (by decide) (hts _ w_283) (fun _ h9 => h9) rF_8 dX2_readLoop_111 ?_
                refine lv_icmp_ge (tgt := 122) hx hb dX2_readLoop_114 (by decide) (fun h69 => ?_) (fun h69 => ?_)
                ·
                  rw [if_pos h69] at hE
                  refine lv_iconst (v := 1) hx hb dX2_readLoop_122 (by decide) ?_
                  obtain ⟨rfl, rfl⟩ := hE
                  exact en_i F hS _ () (by rfl) rfl hP hD (Nat.le_refl _) (Nat.le_refl _) dX2_readLoop_123
                ·
                  rw [if_neg h69] at hE
                  refine lv_aload_n hx hb dX2_readLoop_117 rfl (lv_at hl 1 rfl) ?_
                  refine lv_iconst (v := 1) hx hb dX2_readLoop_118 (by decide) ?_
                  refine va_put (D := G.1) (ci := 2) (v := .int 1) (ty := .boolean) (C := RX2) (T := TX2) (N := 10) hx hb hts inX2 tyX2 tyX2_ok nmX2 hown hK.1 hP hD hS 0 qW_0 rfl 3 (by decide) (hts _ w_278) (fun _ h9 => h9) rfl (by decide +kernel) rfl rfl rF_l3 dX2_readLoop_119 (fun H locs hP hD hS => ?_)
                  rw [qW_f3] at hP hD
                  refine lv_iconst (v := 1) hx hb dX2_readLoop_122 (by decide) ?_
                  obtain ⟨rfl, rfl⟩ := hE
                  exact en_i F hS _ () (by rfl) rfl hP hD (Nat.le_refl _) (Nat.le_refl _) dX2_readLoop_123
              ·
                rw [if_pos h68] at hE
                refine lv_aload_n hx hb dX2_readLoop_96 rfl (lv_at hl 1 rfl) ?_
                refine va_get (D := G.1) (ci := 2) (C := RX2) (T := TX2) (N := 10) hx hb hts inX2 hown hK.1 hP 0 qW_0 rfl 4 (by decide) (hts _ w_279) (fun _ h9 => h9) rF_4 dX2_readLoop_97 ?_
                refine lv_if_le (tgt := 122) hx hb dX2_readLoop_100 (by decide) (fun h70 => ?_) (fun h70 => ?_)
                ·
                  rw [if_pos h70] at hE
                  refine lv_iconst (v := 1) hx hb dX2_readLoop_122 (by decide) ?_
                  obtain ⟨rfl, rfl⟩ := hE
                  exact en_i F hS _ () (by rfl) rfl hP hD (Nat.le_refl _) (Nat.le_refl _) dX2_readLoop_123
                ·
                  rw [if_neg h70] at hE
                  refine lv_goto (tgt := 117) hx hb dX2_readLoop_103 (by decide) ?_
                  refine lv_aload_n hx hb dX2_readLoop_117 rfl (lv_at hl 1 rfl) ?_
                  refine lv_iconst (v := 1) hx hb dX2_readLoop_118 (by decide) ?_
                  refine va_put (D := G.1) (ci := 2) (v := .int 1) (ty := .boolean) (C := RX2) (T := TX2) (N := 10) hx hb hts inX2 tyX2 tyX2_ok nmX2 hown hK.1 hP hD hS 0 qW_0 rfl 3 (by decide) (hts _ w_278) (fun _ h9 => h9) rfl (by decide +kernel) rfl rfl rF_l3 dX2_readLoop_119 (fun H locs hP hD hS => ?_)
                  rw [qW_f3] at hP hD
                  refine lv_iconst (v := 1) hx hb dX2_readLoop_122 (by decide) ?_
                  obtain ⟨rfl, rfl⟩ := hE
                  exact en_i F hS _ () (by rfl) rfl hP hD (Nat.le_refl _) (Nat.le_refl _) dX2_readLoop_123
          ·
            rw [if_pos h63] at hE
            refine lv_iconst (v := 1) hx hb dX2_readLoop_70 (by decide) ?_
            refine lv_goto (tgt := 75) hx hb dX2_readLoop_71 (by decide) ?_
            refine va_put (D := G.1) (ci := 2) (v := .int 1) (ty := .int) (C := RX2) (T := TX2) (N := 10) hx hb hts inX2 tyX2 tyX2_ok nmX2 hown hK.1 hP hD hS 0 qW_0 rfl 9 (by decide) (hts _ w_284) (fun _ h9 => h9) rfl (by decide +kernel) rfl rfl rF_l9 dX2_readLoop_75 (fun H locs hP hD hS => ?_)
            rw [qW_f9] at hP hD
            refine lv_iload_n hx hb dX2_readLoop_78 rfl (lv_at hl 0 rfl) ?_
            refine lv_bipush (v := 123) hx hb dX2_readLoop_79 (by decide) ?_
            refine lv_icmp_ne (tgt := 88) hx hb dX2_readLoop_81 (by decide) (fun h71 => ?_) (fun h71 => ?_)
            ·
              rw [if_neg h71] at hE
              refine lv_aload_n hx hb dX2_readLoop_88 rfl (lv_at hl 1 rfl) ?_
              refine va_get (D := G.1) (ci := 2) (C := RX2) (T := TX2) (N := 10) hx hb hts inX2 hown hK.1 hP 0 qW_0 rfl 9 (by decide) (hts _ w_284) (fun _ h9 => h9) rF_9 dX2_readLoop_89 ?_
              refine tp_i 1 rfl ?_
              refine lv_iconst (v := (-1)) hx hb dX2_readLoop_92 (by decide) ?_
              refine lv_icmp_ne (tgt := 106) hx hb dX2_readLoop_93 (by decide) (fun _ => ?_) (fun h => absurd h (by decide))
              refine lv_aload_n hx hb dX2_readLoop_106 rfl (lv_at hl 1 rfl) ?_
              refine va_get (D := G.1) (ci := 2) (C := RX2) (T := TX2) (N := 10) hx hb hts inX2 hown hK.1 hP 0 qW_0 rfl 9 (by decide) (hts _ w_284) (fun _ h9 => h9) rF_9 dX2_readLoop_107 ?_
              refine tp_i 1 rfl ?_
              refine lv_aload_n hx hb dX2_readLoop_110 rfl (lv_at hl 1 rfl) ?_
              refine va_get (D := G.1) (ci := 2) (C := RX2) (T := TX2) (N := 10) hx hb hts inX2 hown hK.1 hP 0 qW_0 rfl 8 (by decide) (hts _ w_283) (fun _ h9 => h9) rF_8 dX2_readLoop_111 ?_
              refine tp_i 0 rfl ?_
              refine lv_icmp_ge (tgt := 122) hx hb dX2_readLoop_114 (by decide) (fun _ => ?_) (fun h => absurd (by decide) h)
              refine lv_iconst (v := 1) hx hb dX2_readLoop_122 (by decide) ?_
              obtain ⟨rfl, rfl⟩ := hE
              exact en_i F hS _ () (by rfl) rfl hP hD (Nat.le_refl _) (Nat.le_refl _) dX2_readLoop_123
            ·
              rw [if_pos h71] at hE
              refine lv_aload_n hx hb dX2_readLoop_84 rfl (lv_at hl 1 rfl) ?_
              obtain ⟨Q72, hg, hE⟩ := hE
              refine kA_v (va_runV (As := []) (rest := []) F.1 (e_r_readCounts l G h q ad J g hO (rf (rf (rf Q 2 ((Q.1 2) + 1)) 8 0) 9 1) Q72 0 hg _) (cwV 0 hts (aw_V w_522 w_524 ws_X2_readCounts w_7 w_525) rfl rfl rfl (by decide +kernel) ⟨by decide, by decide⟩) ⟨cS_blind, va_recv (q := (RX2, TX2, 10)) (ci := 2) (q0 := 0) hK.1 hP rfl qW_0, cS_pre hP hD hK⟩ rfl rfl hl.1 rfl (lv_room (Nat.le_of_ble_eq_true rfl)) dX2_readLoop_85 ⟨Nat.le_refl _, Nat.le_refl _⟩) hD hS hA (fun u0 H locs hp hP hD hS => ?_)
              refine lv_aload_n hx hb dX2_readLoop_88 rfl (lv_at hl 1 rfl) ?_
              refine va_get (D := G.1) (ci := 2) (C := RX2) (T := TX2) (N := 10) hx hb hts inX2 hown hK.1 hP 0 qW_0 rfl 9 (by decide) (hts _ w_284) (fun _ h9 => h9) rF_9 dX2_readLoop_89 ?_
              refine lv_iconst (v := (-1)) hx hb dX2_readLoop_92 (by decide) ?_
              refine lv_icmp_ne (tgt := 106) hx hb dX2_readLoop_93 (by decide) (fun h74 => ?_) (fun h74 => ?_)
              ·
                rw [if_neg h74] at hE
                refine lv_aload_n hx hb dX2_readLoop_106 rfl (lv_at hl 1 rfl) ?_
                refine va_get (D := G.1) (ci := 2) (C := RX2) (T := TX2) (N := 10) hx hb hts inX2 hown hK.1 hP 0 qW_0 rfl 9 (by decide) (hts _ w_284) (fun _ h9 => h9) rF_9 dX2_readLoop_107 ?_
                refine lv_aload_n hx hb dX2_readLoop_110 rfl (lv_at hl 1 rfl) ?_
                refine va_get (D := G.1) (ci := 2) (C := RX2) (T := TX2) (N := 10) hx hb hts inX2 hown hK.1 hP 0 qW_0 rfl 8 (by decide) (hts _ w_283) (fun _ h9 => h9) rF_8 dX2_readLoop_111 ?_
                refine lv_icmp_ge (tgt := 122) hx hb dX2_readLoop_114 (by decide) (fun h75 => ?_) (fun h75 => ?_)
                ·
                  rw [if_pos h75] at hE
                  refine lv_iconst (v := 1) hx hb dX2_readLoop_122 (by decide) ?_
                  obtain ⟨rfl, rfl⟩ := hE
                  exact en_i F hS _ () (by rfl) rfl hP hD (Nat.le_refl _) (Nat.le_refl _) dX2_readLoop_123
                ·
                  rw [if_neg h75] at hE
                  refine lv_aload_n hx hb dX2_readLoop_117 rfl (lv_at hl 1 rfl) ?_
                  refine lv_iconst (v := 1) hx hb dX2_readLoop_118 (by decide) ?_
                  refine va_put (D := G.1) (ci := 2) (v := .int 1) (ty := .boolean) (C := RX2) (T := TX2) (N := 10) hx hb hts inX2 tyX2 tyX2_ok nmX2 hown hK.1 hP hD hS 0 qW_0 rfl 3 (by decide) (hts _ w_278) (fun _ h9 => h9) rfl (by decide +kernel) rfl rfl rF_l3 dX2_readLoop_119 (fun H locs hP hD hS => ?_)
                  rw [qW_f3] at hP hD
                  refine lv_iconst (v := 1) hx hb dX2_readLoop_122 (by decide) ?_
                  obtain ⟨rfl, rfl⟩ := hE
                  exact en_i F hS _ () (by rfl) rfl hP hD (Nat.le_refl _) (Nat.le_refl _) dX2_readLoop_123
              ·
                rw [if_pos h74] at hE
                refine lv_aload_n hx hb dX2_readLoop_96 rfl (lv_at hl 1 rfl) ?_
                refine va_get (D := G.1) (ci := 2) (C := RX2) (T := TX2) (N := 10) hx hb hts inX2 hown hK.1 hP 0 qW_0 rfl 4 (by decide) (hts _ w_279) (fun _ h9 => h9) rF_4 dX2_readLoop_97 ?_
                refine lv_if_le (tgt := 122) hx hb dX2_readLoop_100 (by decide) (fun h76 => ?_) (fun h76 => ?_)
                ·
                  rw [if_pos h76] at hE
                  refine lv_iconst (v := 1) hx hb dX2_readLoop_122 (by decide) ?_
                  obtain ⟨rfl, rfl⟩ := hE
                  exact en_i F hS _ () (by rfl) rfl hP hD (Nat.le_refl _) (Nat.le_refl _) dX2_readLoop_123
                ·
                  rw [if_neg h76] at hE
                  refine lv_goto (tgt := 117) hx hb dX2_readLoop_103 (by decide) ?_
                  refine lv_aload_n hx hb dX2_readLoop_117 rfl (lv_at hl 1 rfl) ?_
                  refine lv_iconst (v := 1) hx hb dX2_readLoop_118 (by decide) ?_
                  refine va_put (D := G.1) (ci := 2) (v := .int 1) (ty := .boolean) (C := RX2) (T := TX2) (N := 10) hx hb hts inX2 tyX2 tyX2_ok nmX2 hown hK.1 hP hD hS 0 qW_0 rfl 3 (by decide) (hts _ w_278) (fun _ h9 => h9) rfl (by decide +kernel) rfl rfl rF_l3 dX2_readLoop_119 (fun H locs hP hD hS => ?_)
                  rw [qW_f3] at hP hD
                  refine lv_iconst (v := 1) hx hb dX2_readLoop_122 (by decide) ?_
                  obtain ⟨rfl, rfl⟩ := hE
                  exact en_i F hS _ () (by rfl) rfl hP hD (Nat.le_refl _) (Nat.le_refl _) dX2_readLoop_123
        ·
          rw [if_pos h62] at hE
          refine lv_iconst (v := 1) hx hb dX2_readLoop_55 (by decide) ?_
          refine lv_goto (tgt := 60) hx hb dX2_readLoop_56 (by decide) ?_
          refine va_put (D := G.1) (ci := 2) (v := .int 1) (ty := .int) (C := RX2) (T := TX2) (N := 10) hx hb hts inX2 tyX2 tyX2_ok nmX2 hown hK.1 hP hD hS 0 qW_0 rfl 8 (by decide) (hts _ w_283) (fun _ h9 => h9) rfl (by decide +kernel) rfl rfl rF_l8 dX2_readLoop_60 (fun H locs hP hD hS => ?_)
          rw [qW_f8] at hP hD
          refine lv_aload_n hx hb dX2_readLoop_63 rfl (lv_at hl 1 rfl) ?_
          refine lv_iload_n hx hb dX2_readLoop_64 rfl (lv_at hl 0 rfl) ?_
          refine lv_bipush (v := 63) hx hb dX2_readLoop_65 (by decide) ?_
          refine lv_icmp_ne (tgt := 74) hx hb dX2_readLoop_67 (by decide) (fun h77 => ?_) (fun h77 => ?_)
          ·
            rw [if_neg h77] at hE
            refine lv_iconst (v := (-1)) hx hb dX2_readLoop_74 (by decide) ?_
            refine va_put (D := G.1) (ci := 2) (v := .int (-1)) (ty := .int) (C := RX2) (T := TX2) (N := 10) hx hb hts inX2 tyX2 tyX2_ok nmX2 hown hK.1 hP hD hS 0 qW_0 rfl 9 (by decide) (hts _ w_284) (fun _ h9 => h9) rfl (by decide +kernel) rfl rfl rF_l9 dX2_readLoop_75 (fun H locs hP hD hS => ?_)
            rw [qW_f9] at hP hD
            refine lv_iload_n hx hb dX2_readLoop_78 rfl (lv_at hl 0 rfl) ?_
            refine lv_bipush (v := 123) hx hb dX2_readLoop_79 (by decide) ?_
            refine lv_icmp_ne (tgt := 88) hx hb dX2_readLoop_81 (by decide) (fun h78 => ?_) (fun h78 => ?_)
            ·
              rw [if_neg h78] at hE
              refine lv_aload_n hx hb dX2_readLoop_88 rfl (lv_at hl 1 rfl) ?_
              refine va_get (D := G.1) (ci := 2) (C := RX2) (T := TX2) (N := 10) hx hb hts inX2 hown hK.1 hP 0 qW_0 rfl 9 (by decide) (hts _ w_284) (fun _ h9 => h9) rF_9 dX2_readLoop_89 ?_
              refine tp_i (-1) rfl ?_
              refine lv_iconst (v := (-1)) hx hb dX2_readLoop_92 (by decide) ?_
              refine lv_icmp_ne (tgt := 106) hx hb dX2_readLoop_93 (by decide) (fun h => absurd (by decide) h) (fun _ => ?_)
              refine lv_aload_n hx hb dX2_readLoop_96 rfl (lv_at hl 1 rfl) ?_
              refine va_get (D := G.1) (ci := 2) (C := RX2) (T := TX2) (N := 10) hx hb hts inX2 hown hK.1 hP 0 qW_0 rfl 4 (by decide) (hts _ w_279) (fun _ h9 => h9) rF_4 dX2_readLoop_97 ?_
              refine tp_i (Q.1 4) rfl ?_
              refine lv_if_le (tgt := 122) hx hb dX2_readLoop_100 (by decide) (fun h79 => ?_) (fun h79 => ?_)
              ·
                rw [if_pos h79] at hE
                refine lv_iconst (v := 1) hx hb dX2_readLoop_122 (by decide) ?_
                obtain ⟨rfl, rfl⟩ := hE
                exact en_i F hS _ () (by rfl) rfl hP hD (Nat.le_refl _) (Nat.le_refl _) dX2_readLoop_123
              ·
                rw [if_neg h79] at hE
                refine lv_goto (tgt := 117) hx hb dX2_readLoop_103 (by decide) ?_
                refine lv_aload_n hx hb dX2_readLoop_117 rfl (lv_at hl 1 rfl) ?_
                refine lv_iconst (v := 1) hx hb dX2_readLoop_118 (by decide) ?_
                refine va_put (D := G.1) (ci := 2) (v := .int 1) (ty := .boolean) (C := RX2) (T := TX2) (N := 10) hx hb hts inX2 tyX2 tyX2_ok nmX2 hown hK.1 hP hD hS 0 qW_0 rfl 3 (by decide) (hts _ w_278) (fun _ h9 => h9) rfl (by decide +kernel) rfl rfl rF_l3 dX2_readLoop_119 (fun H locs hP hD hS => ?_)
                rw [qW_f3] at hP hD
                refine lv_iconst (v := 1) hx hb dX2_readLoop_122 (by decide) ?_
                obtain ⟨rfl, rfl⟩ := hE
                exact en_i F hS _ () (by rfl) rfl hP hD (Nat.le_refl _) (Nat.le_refl _) dX2_readLoop_123
            ·
              rw [if_pos h78] at hE
              refine lv_aload_n hx hb dX2_readLoop_84 rfl (lv_at hl 1 rfl) ?_
              obtain ⟨Q80, hg, hE⟩ := hE
              refine kA_v (va_runV (As := []) (rest := []) F.1 (e_r_readCounts l G h q ad J g hO (rf (rf (rf Q 2 ((Q.1 2) + 1)) 8 1) 9 (-1)) Q80 0 hg _) (cwV 0 hts (aw_V w_522 w_524 ws_X2_readCounts w_7 w_525) rfl rfl rfl (by decide +kernel) ⟨by decide, by decide⟩) ⟨cS_blind, va_recv (q := (RX2, TX2, 10)) (ci := 2) (q0 := 0) hK.1 hP rfl qW_0, cS_pre hP hD hK⟩ rfl rfl hl.1 rfl (lv_room (Nat.le_of_ble_eq_true rfl)) dX2_readLoop_85 ⟨Nat.le_refl _, Nat.le_refl _⟩) hD hS hA (fun u0 H locs hp hP hD hS => ?_)
              refine lv_aload_n hx hb dX2_readLoop_88 rfl (lv_at hl 1 rfl) ?_
              refine va_get (D := G.1) (ci := 2) (C := RX2) (T := TX2) (N := 10) hx hb hts inX2 hown hK.1 hP 0 qW_0 rfl 9 (by decide) (hts _ w_284) (fun _ h9 => h9) rF_9 dX2_readLoop_89 ?_
              refine lv_iconst (v := (-1)) hx hb dX2_readLoop_92 (by decide) ?_
              refine lv_icmp_ne (tgt := 106) hx hb dX2_readLoop_93 (by decide) (fun h82 => ?_) (fun h82 => ?_)
              ·
                rw [if_neg h82] at hE
                refine lv_aload_n hx hb dX2_readLoop_106 rfl (lv_at hl 1 rfl) ?_
                refine va_get (D := G.1) (ci := 2) (C := RX2) (T := TX2) (N := 10) hx hb hts inX2 hown hK.1 hP 0 qW_0 rfl 9 (by decide) (hts _ w_284) (fun _ h9 => h9) rF_9 dX2_readLoop_107 ?_
                refine lv_aload_n hx hb dX2_readLoop_110 rfl (lv_at hl 1 rfl) ?_
                refine va_get (D := G.1) (ci := 2) (C := RX2) (T := TX2) (N := 10) hx hb hts inX2 hown hK.1 hP 0 qW_0 rfl 8 (by decide) (hts _ w_283) (fun _ h9 => h9) rF_8 dX2_readLoop_111 ?_
                refine lv_icmp_ge (tgt := 122) hx hb dX2_readLoop_114 (by decide) (fun h83 => ?_) (fun h83 => ?_)
                ·
                  rw [if_pos h83] at hE
                  refine lv_iconst (v := 1) hx hb dX2_readLoop_122 (by decide) ?_
                  obtain ⟨rfl, rfl⟩ := hE
                  exact en_i F hS _ () (by rfl) rfl hP hD (Nat.le_refl _) (Nat.le_refl _) dX2_readLoop_123
                ·
                  rw [if_neg h83] at hE
                  refine lv_aload_n hx hb dX2_readLoop_117 rfl (lv_at hl 1 rfl) ?_
                  refine lv_iconst (v := 1) hx hb dX2_readLoop_118 (by decide) ?_
                  refine va_put (D := G.1) (ci := 2) (v := .int 1) (ty := .boolean) (C := RX2) (T := TX2) (N := 10) hx hb hts inX2 tyX2 tyX2_ok nmX2 hown hK.1 hP hD hS 0 qW_0 rfl 3 (by decide) (hts _ w_278) (fun _ h9 => h9) rfl (by decide +kernel) rfl rfl rF_l3 dX2_readLoop_119 (fun H locs hP hD hS => ?_)
                  rw [qW_f3] at hP hD
                  refine lv_iconst (v := 1) hx hb dX2_readLoop_122 (by decide) ?_
                  obtain ⟨rfl, rfl⟩ := hE
                  exact en_i F hS _ () (by rfl) rfl hP hD (Nat.le_refl _) (Nat.le_refl _) dX2_readLoop_123
              ·
                rw [if_pos h82] at hE
                refine lv_aload_n hx hb dX2_readLoop_96 rfl (lv_at hl 1 rfl) ?_
                refine va_get (D := G.1) (ci := 2) (C := RX2) (T := TX2) (N := 10) hx hb hts inX2 hown hK.1 hP 0 qW_0 rfl 4 (by decide) (hts _ w_279) (fun _ h9 => h9) rF_4 dX2_readLoop_97 ?_
                refine lv_if_le (tgt := 122) hx hb dX2_readLoop_100 (by decide) (fun h84 => ?_) (fun h84 => ?_)
                ·
                  rw [if_pos h84] at hE
                  refine lv_iconst (v := 1) hx hb dX2_readLoop_122 (by decide) ?_
                  obtain ⟨rfl, rfl⟩ := hE
                  exact en_i F hS _ () (by rfl) rfl hP hD (Nat.le_refl _) (Nat.le_refl _) dX2_readLoop_123
                ·
                  rw [if_neg h84] at hE
                  refine lv_goto (tgt := 117) hx hb dX2_readLoop_103 (by decide) ?_
                  refine lv_aload_n hx hb dX2_readLoop_117 rfl (lv_at hl 1 rfl) ?_
                  refine lv_iconst (v := 1) hx hb dX2_readLoop_118 (by decide) ?_
                  refine va_put (D := G.1) (ci := 2) (v := .int 1) (ty := .boolean) (C := RX2) (T := TX2) (N := 10) hx hb hts inX2 tyX2 tyX2_ok nmX2 hown hK.1 hP hD hS 0 qW_0 rfl 3 (by decide) (hts _ w_278) (fun _ h9 => h9) rfl (by decide +kernel) rfl rfl rF_l3 dX2_readLoop_119 (fun H locs hP hD hS => ?_)
                  rw [qW_f3] at hP hD
                  refine lv_iconst (v := 1) hx hb dX2_readLoop_122 (by decide) ?_
                  obtain ⟨rfl, rfl⟩ := hE
                  exact en_i F hS _ () (by rfl) rfl hP hD (Nat.le_refl _) (Nat.le_refl _) dX2_readLoop_123
          ·
            rw [if_pos h77] at hE
            refine lv_iconst (v := 1) hx hb dX2_readLoop_70 (by decide) ?_
            refine lv_goto (tgt := 75) hx hb dX2_readLoop_71 (by decide) ?_
            refine va_put (D := G.1) (ci := 2) (v := .int 1) (ty := .int) (C := RX2) (T := TX2) (N := 10) hx hb hts inX2 tyX2 tyX2_ok nmX2 hown hK.1 hP hD hS 0 qW_0 rfl 9 (by decide) (hts _ w_284) (fun _ h9 => h9) rfl (by decide +kernel) rfl rfl rF_l9 dX2_readLoop_75 (fun H locs hP hD hS => ?_)
            rw [qW_f9] at hP hD
            refine lv_iload_n hx hb dX2_readLoop_78 rfl (lv_at hl 0 rfl) ?_
            refine lv_bipush (v := 123) hx hb dX2_readLoop_79 (by decide) ?_
            refine lv_icmp_ne (tgt := 88) hx hb dX2_readLoop_81 (by decide) (fun h85 => ?_) (fun h85 => ?_)
            ·
              rw [if_neg h85] at hE
              refine lv_aload_n hx hb dX2_readLoop_88 rfl (lv_at hl 1 rfl) ?_
              refine va_get (D := G.1) (ci := 2) (C := RX2) (T := TX2) (N := 10) hx hb hts inX2 hown hK.1 hP 0 qW_0 rfl 9 (by decide) (hts _ w_284) (fun _ h9 => h9) rF_9 dX2_readLoop_89 ?_
              refine tp_i 1 rfl ?_
              refine lv_iconst (v := (-1)) hx hb dX2_readLoop_92 (by decide) ?_
              refine lv_icmp_ne (tgt := 106) hx hb dX2_readLoop_93 (by decide) (fun _ => ?_) (fun h => absurd h (by decide))
              refine lv_aload_n hx hb dX2_readLoop_106 rfl (lv_at hl 1 rfl) ?_
              refine va_get (D := G.1) (ci := 2) (C := RX2) (T := TX2) (N := 10) hx hb hts inX2 hown hK.1 hP 0 qW_0 rfl 9 (by decide) (hts _ w_284) (fun _ h9 => h9) rF_9 dX2_readLoop_107 ?_
              refine tp_i 1 rfl ?_
              refine lv_aload_n hx hb dX2_readLoop_110 rfl (lv_at hl 1 rfl) ?_
              refine va_get (D := G.1) (ci := 2) (C := RX2) (T := TX2) (N := 10) hx hb hts inX2 hown hK.1 hP 0 qW_0 rfl 8 (by decide) (hts _ w_283) (fun _ h9 => h9) rF_8 dX2_readLoop_111 ?_
              refine tp_i 1 rfl ?_
              refine lv_icmp_ge (tgt := 122) hx hb dX2_readLoop_114 (by decide) (fun _ => ?_) (fun h => absurd (by decide) h)
              refine lv_iconst (v := 1) hx hb dX2_readLoop_122 (by decide) ?_
              obtain ⟨rfl, rfl⟩ := hE
              exact en_i F hS _ () (by rfl) rfl hP hD (Nat.le_refl _) (Nat.le_refl _) dX2_readLoop_123
            ·
              rw [if_pos h85] at hE
              refine lv_aload_n hx hb dX2_readLoop_84 rfl (lv_at hl 1 rfl) ?_
              obtain ⟨Q86, hg, hE⟩ := hE
              refine kA_v (va_runV (As := []) (rest := []) F.1 (e_r_readCounts l G h q ad J g hO (rf (rf (rf Q 2 ((Q.1 2) + 1)) 8 1) 9 1) Q86 0 hg _) (cwV 0 hts (aw_V w_522 w_524 ws_X2_readCounts w_7 w_525) rfl rfl rfl (by decide +kernel) ⟨by decide, by decide⟩) ⟨cS_blind, va_recv (q := (RX2, TX2, 10)) (ci := 2) (q0 := 0) hK.1 hP rfl qW_0, cS_pre hP hD hK⟩ rfl rfl hl.1 rfl (lv_room (Nat.le_of_ble_eq_true rfl)) dX2_readLoop_85 ⟨Nat.le_refl _, Nat.le_refl _⟩) hD hS hA (fun u0 H locs hp hP hD hS => ?_)
              refine lv_aload_n hx hb dX2_readLoop_88 rfl (lv_at hl 1 rfl) ?_
              refine va_get (D := G.1) (ci := 2) (C := RX2) (T := TX2) (N := 10) hx hb hts inX2 hown hK.1 hP 0 qW_0 rfl 9 (by decide) (hts _ w_284) (fun _ h9 => h9) rF_9 dX2_readLoop_89 ?_
              refine lv_iconst (v := (-1)) hx hb dX2_readLoop_92 (by decide) ?_
              refine lv_icmp_ne (tgt := 106) hx hb dX2_readLoop_93 (by decide) (fun h88 => ?_) (fun h88 => ?_)
              ·
                rw [if_neg h88] at hE
                refine lv_aload_n hx hb dX2_readLoop_106 rfl (lv_at hl 1 rfl) ?_
                refine va_get (D := G.1) (ci := 2) (C := RX2) (T := TX2) (N := 10) hx hb hts inX2 hown hK.1 hP 0 qW_0 rfl 9 (by decide) (hts _ w_284) (fun _ h9 => h9) rF_9 dX2_readLoop_107 ?_
                refine lv_aload_n hx hb dX2_readLoop_110 rfl (lv_at hl 1 rfl) ?_
                refine va_get (D := G.1) (ci := 2) (C := RX2) (T := TX2) (N := 10) hx hb hts inX2 hown hK.1 hP 0 qW_0 rfl 8 (by decide) (hts _ w_283) (fun _ h9 => h9) rF_8 dX2_readLoop_111 ?_
                refine lv_icmp_ge (tgt := 122) hx hb dX2_readLoop_114 (by decide) (fun h89 => ?_) (fun h89 => ?_)
                ·
                  rw [if_pos h89] at hE
                  refine lv_iconst (v := 1) hx hb dX2_readLoop_122 (by decide) ?_
                  obtain ⟨rfl, rfl⟩ := hE
                  exact en_i F hS _ () (by rfl) rfl hP hD (Nat.le_refl _) (Nat.le_refl _) dX2_readLoop_123
                ·
                  rw [if_neg h89] at hE
                  refine lv_aload_n hx hb dX2_readLoop_117 rfl (lv_at hl 1 rfl) ?_
                  refine lv_iconst (v := 1) hx hb dX2_readLoop_118 (by decide) ?_
                  refine va_put (D := G.1) (ci := 2) (v := .int 1) (ty := .boolean) (C := RX2) (T := TX2) (N := 10) hx hb hts inX2 tyX2 tyX2_ok nmX2 hown hK.1 hP hD hS 0 qW_0 rfl 3 (by decide) (hts _ w_278) (fun _ h9 => h9) rfl (by decide +kernel) rfl rfl rF_l3 dX2_readLoop_119 (fun H locs hP hD hS => ?_)
                  rw [qW_f3] at hP hD
                  refine lv_iconst (v := 1) hx hb dX2_readLoop_122 (by decide) ?_
                  obtain ⟨rfl, rfl⟩ := hE
                  exact en_i F hS _ () (by rfl) rfl hP hD (Nat.le_refl _) (Nat.le_refl _) dX2_readLoop_123
              ·
                rw [if_pos h88] at hE
                refine lv_aload_n hx hb dX2_readLoop_96 rfl (lv_at hl 1 rfl) ?_
                refine va_get (D := G.1) (ci := 2) (C := RX2) (T := TX2) (N := 10) hx hb hts inX2 hown hK.1 hP 0 qW_0 rfl 4 (by decide) (hts _ w_279) (fun _ h9 => h9) rF_4 dX2_readLoop_97 ?_
                refine lv_if_le (tgt := 122) hx hb dX2_readLoop_100 (by decide) (fun h90 => ?_) (fun h90 => ?_)
                ·
                  rw [if_pos h90] at hE
                  refine lv_iconst (v := 1) hx hb dX2_readLoop_122 (by decide) ?_
                  obtain ⟨rfl, rfl⟩ := hE
                  exact en_i F hS _ () (by rfl) rfl hP hD (Nat.le_refl _) (Nat.le_refl _) dX2_readLoop_123
                ·
                  rw [if_neg h90] at hE
                  refine lv_goto (tgt := 117) hx hb dX2_readLoop_103 (by decide) ?_
                  refine lv_aload_n hx hb dX2_readLoop_117 rfl (lv_at hl 1 rfl) ?_
                  refine lv_iconst (v := 1) hx hb dX2_readLoop_118 (by decide) ?_
                  refine va_put (D := G.1) (ci := 2) (v := .int 1) (ty := .boolean) (C := RX2) (T := TX2) (N := 10) hx hb hts inX2 tyX2 tyX2_ok nmX2 hown hK.1 hP hD hS 0 qW_0 rfl 3 (by decide) (hts _ w_278) (fun _ h9 => h9) rfl (by decide +kernel) rfl rfl rF_l3 dX2_readLoop_119 (fun H locs hP hD hS => ?_)
                  rw [qW_f3] at hP hD
                  refine lv_iconst (v := 1) hx hb dX2_readLoop_122 (by decide) ?_
                  obtain ⟨rfl, rfl⟩ := hE
                  exact en_i F hS _ () (by rfl) rfl hP hD (Nat.le_refl _) (Nat.le_refl _) dX2_readLoop_123
      ·
        rw [if_neg h61] at hE
        refine lv_iload_n hx hb dX2_readLoop_30 rfl (lv_at hl 0 rfl) ?_
        refine lv_bipush (v := 123) hx hb dX2_readLoop_31 (by decide) ?_
        refine lv_icmp_eq (tgt := 38) hx hb dX2_readLoop_33 (by decide) (fun h91 => ?_) (fun h91 => ?_)
        ·
          rw [if_pos h91] at hE
          refine lv_aload_n hx hb dX2_readLoop_38 rfl (lv_at hl 1 rfl) ?_
          refine lv_dup hx hb dX2_readLoop_39 rfl ?_
          refine va_get (D := G.1) (ci := 2) (C := RX2) (T := TX2) (N := 10) hx hb hts inX2 hown hK.1 hP 0 qW_0 rfl 2 (by decide) (hts _ w_277) (fun _ h9 => h9) rF_2 dX2_readLoop_40 ?_
          refine lv_iconst (v := 1) hx hb dX2_readLoop_43 (by decide) ?_
          refine lv_iadd hx hb dX2_readLoop_44 ?_
          refine va_put (D := G.1) (ci := 2) (v := .int ((Q.1 2) + 1)) (ty := .int) (C := RX2) (T := TX2) (N := 10) hx hb hts inX2 tyX2 tyX2_ok nmX2 hown hK.1 hP hD hS 0 qW_0 rfl 2 (by decide) (hts _ w_277) (fun _ h9 => h9) rfl (by decide +kernel) rfl rfl rF_l2 dX2_readLoop_45 (fun H locs hP hD hS => ?_)
          rw [qW_f2] at hP hD
          refine lv_aload_n hx hb dX2_readLoop_48 rfl (lv_at hl 1 rfl) ?_
          refine lv_iload_n hx hb dX2_readLoop_49 rfl (lv_at hl 0 rfl) ?_
          refine lv_bipush (v := 43) hx hb dX2_readLoop_50 (by decide) ?_
          refine lv_icmp_ne (tgt := 59) hx hb dX2_readLoop_52 (by decide) (fun h92 => ?_) (fun h92 => ?_)
          ·
            rw [if_neg h92] at hE
            refine lv_iconst (v := 0) hx hb dX2_readLoop_59 (by decide) ?_
            refine va_put (D := G.1) (ci := 2) (v := .int 0) (ty := .int) (C := RX2) (T := TX2) (N := 10) hx hb hts inX2 tyX2 tyX2_ok nmX2 hown hK.1 hP hD hS 0 qW_0 rfl 8 (by decide) (hts _ w_283) (fun _ h9 => h9) rfl (by decide +kernel) rfl rfl rF_l8 dX2_readLoop_60 (fun H locs hP hD hS => ?_)
            rw [qW_f8] at hP hD
            refine lv_aload_n hx hb dX2_readLoop_63 rfl (lv_at hl 1 rfl) ?_
            refine lv_iload_n hx hb dX2_readLoop_64 rfl (lv_at hl 0 rfl) ?_
            refine lv_bipush (v := 63) hx hb dX2_readLoop_65 (by decide) ?_
            refine lv_icmp_ne (tgt := 74) hx hb dX2_readLoop_67 (by decide) (fun h93 => ?_) (fun h93 => ?_)
            ·
              rw [if_neg h93] at hE
              refine lv_iconst (v := (-1)) hx hb dX2_readLoop_74 (by decide) ?_
              refine va_put (D := G.1) (ci := 2) (v := .int (-1)) (ty := .int) (C := RX2) (T := TX2) (N := 10) hx hb hts inX2 tyX2 tyX2_ok nmX2 hown hK.1 hP hD hS 0 qW_0 rfl 9 (by decide) (hts _ w_284) (fun _ h9 => h9) rfl (by decide +kernel) rfl rfl rF_l9 dX2_readLoop_75 (fun H locs hP hD hS => ?_)
              rw [qW_f9] at hP hD
              refine lv_iload_n hx hb dX2_readLoop_78 rfl (lv_at hl 0 rfl) ?_
              refine lv_bipush (v := 123) hx hb dX2_readLoop_79 (by decide) ?_
              refine lv_icmp_ne (tgt := 88) hx hb dX2_readLoop_81 (by decide) (fun h94 => ?_) (fun h94 => ?_)
              ·
                rw [if_neg h94] at hE
                refine lv_aload_n hx hb dX2_readLoop_88 rfl (lv_at hl 1 rfl) ?_
                refine va_get (D := G.1) (ci := 2) (C := RX2) (T := TX2) (N := 10) hx hb hts inX2 hown hK.1 hP 0 qW_0 rfl 9 (by decide) (hts _ w_284) (fun _ h9 => h9) rF_9 dX2_readLoop_89 ?_
                refine tp_i (-1) rfl ?_
                refine lv_iconst (v := (-1)) hx hb dX2_readLoop_92 (by decide) ?_
                refine lv_icmp_ne (tgt := 106) hx hb dX2_readLoop_93 (by decide) (fun h => absurd (by decide) h) (fun _ => ?_)
                refine lv_aload_n hx hb dX2_readLoop_96 rfl (lv_at hl 1 rfl) ?_
                refine va_get (D := G.1) (ci := 2) (C := RX2) (T := TX2) (N := 10) hx hb hts inX2 hown hK.1 hP 0 qW_0 rfl 4 (by decide) (hts _ w_279) (fun _ h9 => h9) rF_4 dX2_readLoop_97 ?_
                refine tp_i (Q.1 4) rfl ?_
                refine lv_if_le (tgt := 122) hx hb dX2_readLoop_100 (by decide) (fun h95 => ?_) (fun h95 => ?_)
                ·
                  rw [if_pos h95] at hE
                  refine lv_iconst (v := 1) hx hb dX2_readLoop_122 (by decide) ?_
                  obtain ⟨rfl, rfl⟩ := hE
                  exact en_i F hS _ () (by rfl) rfl hP hD (Nat.le_refl _) (Nat.le_refl _) dX2_readLoop_123
                ·
                  rw [if_neg h95] at hE
                  refine lv_goto (tgt := 117) hx hb dX2_readLoop_103 (by decide) ?_
                  refine lv_aload_n hx hb dX2_readLoop_117 rfl (lv_at hl 1 rfl) ?_
                  refine lv_iconst (v := 1) hx hb dX2_readLoop_118 (by decide) ?_
                  refine va_put (D := G.1) (ci := 2) (v := .int 1) (ty := .boolean) (C := RX2) (T := TX2) (N := 10) hx hb hts inX2 tyX2 tyX2_ok nmX2 hown hK.1 hP hD hS 0 qW_0 rfl 3 (by decide) (hts _ w_278) (fun _ h9 => h9) rfl (by decide +kernel) rfl rfl rF_l3 dX2_readLoop_119 (fun H locs hP hD hS => ?_)
                  rw [qW_f3] at hP hD
                  refine lv_iconst (v := 1) hx hb dX2_readLoop_122 (by decide) ?_
                  obtain ⟨rfl, rfl⟩ := hE
                  exact en_i F hS _ () (by rfl) rfl hP hD (Nat.le_refl _) (Nat.le_refl _) dX2_readLoop_123
              ·
                rw [if_pos h94] at hE
                refine lv_aload_n hx hb dX2_readLoop_84 rfl (lv_at hl 1 rfl) ?_
                obtain ⟨Q96, hg, hE⟩ := hE
                refine kA_v (va_runV (As := []) (rest := []) F.1 (e_r_readCounts l G h q ad J g hO (rf (rf (rf Q 2 ((Q.1 2) + 1)) 8 0) 9 (-1)) Q96 0 hg _) (cwV 0 hts (aw_V w_522 w_524 ws_X2_readCounts w_7 w_525) rfl rfl rfl (by decide +kernel) ⟨by decide, by decide⟩) ⟨cS_blind, va_recv (q := (RX2, TX2, 10)) (ci := 2) (q0 := 0) hK.1 hP rfl qW_0, cS_pre hP hD hK⟩ rfl rfl hl.1 rfl (lv_room (Nat.le_of_ble_eq_true rfl)) dX2_readLoop_85 ⟨Nat.le_refl _, Nat.le_refl _⟩) hD hS hA (fun u0 H locs hp hP hD hS => ?_)
                refine lv_aload_n hx hb dX2_readLoop_88 rfl (lv_at hl 1 rfl) ?_
                refine va_get (D := G.1) (ci := 2) (C := RX2) (T := TX2) (N := 10) hx hb hts inX2 hown hK.1 hP 0 qW_0 rfl 9 (by decide) (hts _ w_284) (fun _ h9 => h9) rF_9 dX2_readLoop_89 ?_
                refine lv_iconst (v := (-1)) hx hb dX2_readLoop_92 (by decide) ?_
                refine lv_icmp_ne (tgt := 106) hx hb dX2_readLoop_93 (by decide) (fun h98 => ?_) (fun h98 => ?_)
                ·
                  rw [if_neg h98] at hE
                  refine lv_aload_n hx hb dX2_readLoop_106 rfl (lv_at hl 1 rfl) ?_
                  refine va_get (D := G.1) (ci := 2) (C := RX2) (T := TX2) (N := 10) hx hb hts inX2 hown hK.1 hP 0 qW_0 rfl 9 (by decide) (hts _ w_284) (fun _ h9 => h9) rF_9 dX2_readLoop_107 ?_
                  refine lv_aload_n hx hb dX2_readLoop_110 rfl (lv_at hl 1 rfl) ?_
                  refine va_get (D := G.1) (ci := 2) (C := RX2) (T := TX2) (N := 10) hx hb hts inX2 hown hK.1 hP 0 qW_0 rfl 8 (by decide) (hts _ w_283) (fun _ h9 => h9) rF_8 dX2_readLoop_111 ?_
                  refine lv_icmp_ge (tgt := 122) hx hb dX2_readLoop_114 (by decide) (fun h99 => ?_) (fun h99 => ?_)
                  ·
                    rw [if_pos h99] at hE
                    refine lv_iconst (v := 1) hx hb dX2_readLoop_122 (by decide) ?_
                    obtain ⟨rfl, rfl⟩ := hE
                    exact en_i F hS _ () (by rfl) rfl hP hD (Nat.le_refl _) (Nat.le_refl _) dX2_readLoop_123
                  ·
                    rw [if_neg h99] at hE
                    refine lv_aload_n hx hb dX2_readLoop_117 rfl (lv_at hl 1 rfl) ?_
                    refine lv_iconst (v := 1) hx hb dX2_readLoop_118 (by decide) ?_
                    refine va_put (D := G.1) (ci := 2) (v := .int 1) (ty := .boolean) (C := RX2) (T := TX2) (N := 10) hx hb hts inX2 tyX2 tyX2_ok nmX2 hown hK.1 hP hD hS 0 qW_0 rfl 3 (by decide) (hts _ w_278) (fun _ h9 => h9) rfl (by decide +kernel) rfl rfl rF_l3 dX2_readLoop_119 (fun H locs hP hD hS => ?_)
                    rw [qW_f3] at hP hD
                    refine lv_iconst (v := 1) hx hb dX2_readLoop_122 (by decide) ?_
                    obtain ⟨rfl, rfl⟩ := hE
                    exact en_i F hS _ () (by rfl) rfl hP hD (Nat.le_refl _) (Nat.le_refl _) dX2_readLoop_123
                ·
                  rw [if_pos h98] at hE
                  refine lv_aload_n hx hb dX2_readLoop_96 rfl (lv_at hl 1 rfl) ?_
                  refine va_get (D := G.1) (ci := 2) (C := RX2) (T := TX2) (N := 10) hx hb hts inX2 hown hK.1 hP 0 qW_0 rfl 4 (by decide) (hts _ w_279) (fun _ h9 => h9) rF_4 dX2_readLoop_97 ?_
                  refine lv_if_le (tgt := 122) hx hb dX2_readLoop_100 (by decide) (fun h100 => ?_) (fun h100 => ?_)
                  ·
                    rw [if_pos h100] at hE
                    refine lv_iconst (v := 1) hx hb dX2_readLoop_122 (by decide) ?_
                    obtain ⟨rfl, rfl⟩ := hE
                    exact en_i F hS _ () (by rfl) rfl hP hD (Nat.le_refl _) (Nat.le_refl _) dX2_readLoop_123
                  ·
                    rw [if_neg h100] at hE
                    refine lv_goto (tgt := 117) hx hb dX2_readLoop_103 (by decide) ?_
                    refine lv_aload_n hx hb dX2_readLoop_117 rfl (lv_at hl 1 rfl) ?_
                    refine lv_iconst (v := 1) hx hb dX2_readLoop_118 (by decide) ?_
                    refine va_put (D := G.1) (ci := 2) (v := .int 1) (ty := .boolean) (C := RX2) (T := TX2) (N := 10) hx hb hts inX2 tyX2 tyX2_ok nmX2 hown hK.1 hP hD hS 0 qW_0 rfl 3 (by decide) (hts _ w_278) (fun _ h9 => h9) rfl (by decide +kernel) rfl rfl rF_l3 dX2_readLoop_119 (fun H locs hP hD hS => ?_)
                    rw [qW_f3] at hP hD
                    refine lv_iconst (v := 1) hx hb dX2_readLoop_122 (by decide) ?_
                    obtain ⟨rfl, rfl⟩ := hE
                    exact en_i F hS _ () (by rfl) rfl hP hD (Nat.le_refl _) (Nat.le_refl _) dX2_readLoop_123
            ·
              rw [if_pos h93] at hE
              refine lv_iconst (v := 1) hx hb dX2_readLoop_70 (by decide) ?_
              refine lv_goto (tgt := 75) hx hb dX2_readLoop_71 (by decide) ?_
              refine va_put (D := G.1) (ci := 2) (v := .int 1) (ty := .int) (C := RX2) (T := TX2) (N := 10) hx hb hts inX2 tyX2 tyX2_ok nmX2 hown hK.1 hP hD hS 0 qW_0 rfl 9 (by decide) (hts _ w_284) (fun _ h9 => h9) rfl (by decide +kernel) rfl rfl rF_l9 dX2_readLoop_75 (fun H locs hP hD hS => ?_)
              rw [qW_f9] at hP hD
              refine lv_iload_n hx hb dX2_readLoop_78 rfl (lv_at hl 0 rfl) ?_
              refine lv_bipush (v := 123) hx hb dX2_readLoop_79 (by decide) ?_
              refine lv_icmp_ne (tgt := 88) hx hb dX2_readLoop_81 (by decide) (fun h101 => ?_) (fun h101 => ?_)
              ·
                rw [if_neg h101] at hE
                refine lv_aload_n hx hb dX2_readLoop_88 rfl (lv_at hl 1 rfl) ?_
                refine va_get (D := G.1) (ci := 2) (C := RX2) (T := TX2) (N := 10) hx hb hts inX2 hown hK.1 hP 0 qW_0 rfl 9 (by decide) (hts _ w_284) (fun _ h9 => h9) rF_9 dX2_readLoop_89 ?_
                refine tp_i 1 rfl ?_
                refine lv_iconst (v := (-1)) hx hb dX2_readLoop_92 (by decide) ?_
                refine lv_icmp_ne (tgt := 106) hx hb dX2_readLoop_93 (by decide) (fun _ => ?_) (fun h => absurd h (by decide))
                refine lv_aload_n hx hb dX2_readLoop_106 rfl (lv_at hl 1 rfl) ?_
                refine va_get (D := G.1) (ci := 2) (C := RX2) (T := TX2) (N := 10) hx hb hts inX2 hown hK.1 hP 0 qW_0 rfl 9 (by decide) (hts _ w_284) (fun _ h9 => h9) rF_9 dX2_readLoop_107 ?_
                refine tp_i 1 rfl ?_
                refine lv_aload_n hx hb dX2_readLoop_110 rfl (lv_at hl 1 rfl) ?_
                refine va_get (D := G.1) (ci := 2) (C := RX2) (T := TX2) (N := 10) hx hb hts inX2 hown hK.1 hP 0 qW_0 rfl 8 (by decide) (hts _ w_283) (fun _ h9 => h9) rF_8 dX2_readLoop_111 ?_
                refine tp_i 0 rfl ?_
                refine lv_icmp_ge (tgt := 122) hx hb dX2_readLoop_114 (by decide) (fun _ => ?_) (fun h => absurd (by decide) h)
                refine lv_iconst (v := 1) hx hb dX2_readLoop_122 (by decide) ?_
                obtain ⟨rfl, rfl⟩ := hE
                exact en_i F hS _ () (by rfl) rfl hP hD (Nat.le_refl _) (Nat.le_refl _) dX2_readLoop_123
              ·
                rw [if_pos h101] at hE
                refine lv_aload_n hx hb dX2_readLoop_84 rfl (lv_at hl 1 rfl) ?_
                obtain ⟨Q102, hg, hE⟩ := hE
                refine kA_v (va_runV (As := []) (rest := []) F.1 (e_r_readCounts l G h q ad J g hO (rf (rf (rf Q 2 ((Q.1 2) + 1)) 8 0) 9 1) Q102 0 hg _) (cwV 0 hts (aw_V w_522 w_524 ws_X2_readCounts w_7 w_525) rfl rfl rfl (by decide +kernel) ⟨by decide, by decide⟩) ⟨cS_blind, va_recv (q := (RX2, TX2, 10)) (ci := 2) (q0 := 0) hK.1 hP rfl qW_0, cS_pre hP hD hK⟩ rfl rfl hl.1 rfl (lv_room (Nat.le_of_ble_eq_true rfl)) dX2_readLoop_85 ⟨Nat.le_refl _, Nat.le_refl _⟩) hD hS hA (fun u0 H locs hp hP hD hS => ?_)
                refine lv_aload_n hx hb dX2_readLoop_88 rfl (lv_at hl 1 rfl) ?_
                refine va_get (D := G.1) (ci := 2) (C := RX2) (T := TX2) (N := 10) hx hb hts inX2 hown hK.1 hP 0 qW_0 rfl 9 (by decide) (hts _ w_284) (fun _ h9 => h9) rF_9 dX2_readLoop_89 ?_
                refine lv_iconst (v := (-1)) hx hb dX2_readLoop_92 (by decide) ?_
                refine lv_icmp_ne (tgt := 106) hx hb dX2_readLoop_93 (by decide) (fun h104 => ?_) (fun h104 => ?_)
                ·
                  rw [if_neg h104] at hE
                  refine lv_aload_n hx hb dX2_readLoop_106 rfl (lv_at hl 1 rfl) ?_
                  refine va_get (D := G.1) (ci := 2) (C := RX2) (T := TX2) (N := 10) hx hb hts inX2 hown hK.1 hP 0 qW_0 rfl 9 (by decide) (hts _ w_284) (fun _ h9 => h9) rF_9 dX2_readLoop_107 ?_
                  refine lv_aload_n hx hb dX2_readLoop_110 rfl (lv_at hl 1 rfl) ?_
                  refine va_get (D := G.1) (ci := 2) (C := RX2) (T := TX2) (N := 10) hx hb hts inX2 hown hK.1 hP 0 qW_0 rfl 8 (by decide) (hts _ w_283) (fun _ h9 => h9) rF_8 dX2_readLoop_111 ?_
                  refine lv_icmp_ge (tgt := 122) hx hb dX2_readLoop_114 (by decide) (fun h105 => ?_) (fun h105 => ?_)
                  ·
                    rw [if_pos h105] at hE
                    refine lv_iconst (v := 1) hx hb dX2_readLoop_122 (by decide) ?_
                    obtain ⟨rfl, rfl⟩ := hE
                    exact en_i F hS _ () (by rfl) rfl hP hD (Nat.le_refl _) (Nat.le_refl _) dX2_readLoop_123
                  ·
                    rw [if_neg h105] at hE
                    refine lv_aload_n hx hb dX2_readLoop_117 rfl (lv_at hl 1 rfl) ?_
                    refine lv_iconst (v := 1) hx hb dX2_readLoop_118 (by decide) ?_
                    refine va_put (D := G.1) (ci := 2) (v := .int 1) (ty := .boolean) (C := RX2) (T := TX2) (N := 10) hx hb hts inX2 tyX2 tyX2_ok nmX2 hown hK.1 hP hD hS 0 qW_0 rfl 3 (by decide) (hts _ w_278) (fun _ h9 => h9) rfl (by decide +kernel) rfl rfl rF_l3 dX2_readLoop_119 (fun H locs hP hD hS => ?_)
                    rw [qW_f3] at hP hD
                    refine lv_iconst (v := 1) hx hb dX2_readLoop_122 (by decide) ?_
                    obtain ⟨rfl, rfl⟩ := hE
                    exact en_i F hS _ () (by rfl) rfl hP hD (Nat.le_refl _) (Nat.le_refl _) dX2_readLoop_123
                ·
                  rw [if_pos h104] at hE
                  refine lv_aload_n hx hb dX2_readLoop_96 rfl (lv_at hl 1 rfl) ?_
                  refine va_get (D := G.1) (ci := 2) (C := RX2) (T := TX2) (N := 10) hx hb hts inX2 hown hK.1 hP 0 qW_0 rfl 4 (by decide) (hts _ w_279) (fun _ h9 => h9) rF_4 dX2_readLoop_97 ?_
                  refine lv_if_le (tgt := 122) hx hb dX2_readLoop_100 (by decide) (fun h106 => ?_) (fun h106 => ?_)
                  ·
                    rw [if_pos h106] at hE
                    refine lv_iconst (v := 1) hx hb dX2_readLoop_122 (by decide) ?_
                    obtain ⟨rfl, rfl⟩ := hE
                    exact en_i F hS _ () (by rfl) rfl hP hD (Nat.le_refl _) (Nat.le_refl _) dX2_readLoop_123
                  ·
                    rw [if_neg h106] at hE
                    refine lv_goto (tgt := 117) hx hb dX2_readLoop_103 (by decide) ?_
                    refine lv_aload_n hx hb dX2_readLoop_117 rfl (lv_at hl 1 rfl) ?_
                    refine lv_iconst (v := 1) hx hb dX2_readLoop_118 (by decide) ?_
                    refine va_put (D := G.1) (ci := 2) (v := .int 1) (ty := .boolean) (C := RX2) (T := TX2) (N := 10) hx hb hts inX2 tyX2 tyX2_ok nmX2 hown hK.1 hP hD hS 0 qW_0 rfl 3 (by decide) (hts _ w_278) (fun _ h9 => h9) rfl (by decide +kernel) rfl rfl rF_l3 dX2_readLoop_119 (fun H locs hP hD hS => ?_)
                    rw [qW_f3] at hP hD
                    refine lv_iconst (v := 1) hx hb dX2_readLoop_122 (by decide) ?_
                    obtain ⟨rfl, rfl⟩ := hE
                    exact en_i F hS _ () (by rfl) rfl hP hD (Nat.le_refl _) (Nat.le_refl _) dX2_readLoop_123
          ·
            rw [if_pos h92] at hE
            refine lv_iconst (v := 1) hx hb dX2_readLoop_55 (by decide) ?_
            refine lv_goto (tgt := 60) hx hb dX2_readLoop_56 (by decide) ?_
            refine va_put (D := G.1) (ci := 2) (v := .int 1) (ty := .int) (C := RX2) (T := TX2) (N := 10) hx hb hts inX2 tyX2 tyX2_ok nmX2 hown hK.1 hP hD hS 0 qW_0 rfl 8 (by decide) (hts _ w_283) (fun _ h9 => h9) rfl (by decide +kernel) rfl rfl rF_l8 dX2_readLoop_60 (fun H locs hP hD hS => ?_)
            rw [qW_f8] at hP hD
            refine lv_aload_n hx hb dX2_readLoop_63 rfl (lv_at hl 1 rfl) ?_
            refine lv_iload_n hx hb dX2_readLoop_64 rfl (lv_at hl 0 rfl) ?_
            refine lv_bipush (v := 63) hx hb dX2_readLoop_65 (by decide) ?_
            refine lv_icmp_ne (tgt := 74) hx hb dX2_readLoop_67 (by decide) (fun h107 => ?_) (fun h107 => ?_)
            ·
              rw [if_neg h107] at hE
              refine lv_iconst (v := (-1)) hx hb dX2_readLoop_74 (by decide) ?_
              refine va_put (D := G.1) (ci := 2) (v := .int (-1)) (ty := .int) (C := RX2) (T := TX2) (N := 10) hx hb hts inX2 tyX2 tyX2_ok nmX2 hown hK.1 hP hD hS 0 qW_0 rfl 9 (by decide) (hts _ w_284) (fun _ h9 => h9) rfl (by decide +kernel) rfl rfl rF_l9 dX2_readLoop_75 (fun H locs hP hD hS => ?_)
              rw [qW_f9] at hP hD
              refine lv_iload_n hx hb dX2_readLoop_78 rfl (lv_at hl 0 rfl) ?_
              refine lv_bipush (v := 123) hx hb dX2_readLoop_79 (by decide) ?_
              refine lv_icmp_ne (tgt := 88) hx hb dX2_readLoop_81 (by decide) (fun h108 => ?_) (fun h108 => ?_)
              ·
                rw [if_neg h108] at hE
                refine lv_aload_n hx hb dX2_readLoop_88 rfl (lv_at hl 1 rfl) ?_
                refine va_get (D := G.1) (ci := 2) (C := RX2) (T := TX2) (N := 10) hx hb hts inX2 hown hK.1 hP 0 qW_0 rfl 9 (by decide) (hts _ w_284) (fun _ h9 => h9) rF_9 dX2_readLoop_89 ?_
                refine tp_i (-1) rfl ?_
                refine lv_iconst (v := (-1)) hx hb dX2_readLoop_92 (by decide) ?_
                refine lv_icmp_ne (tgt := 106) hx hb dX2_readLoop_93 (by decide) (fun h => absurd (by decide) h) (fun _ => ?_)
                refine lv_aload_n hx hb dX2_readLoop_96 rfl (lv_at hl 1 rfl) ?_
                refine va_get (D := G.1) (ci := 2) (C := RX2) (T := TX2) (N := 10) hx hb hts inX2 hown hK.1 hP 0 qW_0 rfl 4 (by decide) (hts _ w_279) (fun _ h9 => h9) rF_4 dX2_readLoop_97 ?_
                refine tp_i (Q.1 4) rfl ?_
                refine lv_if_le (tgt := 122) hx hb dX2_readLoop_100 (by decide) (fun h109 => ?_) (fun h109 => ?_)
                ·
                  rw [if_pos h109] at hE
                  refine lv_iconst (v := 1) hx hb dX2_readLoop_122 (by decide) ?_
                  obtain ⟨rfl, rfl⟩ := hE
                  exact en_i F hS _ () (by rfl) rfl hP hD (Nat.le_refl _) (Nat.le_refl _) dX2_readLoop_123
                ·
                  rw [if_neg h109] at hE
                  refine lv_goto (tgt := 117) hx hb dX2_readLoop_103 (by decide) ?_
                  refine lv_aload_n hx hb dX2_readLoop_117 rfl (lv_at hl 1 rfl) ?_
                  refine lv_iconst (v := 1) hx hb dX2_readLoop_118 (by decide) ?_
                  refine va_put (D := G.1) (ci := 2) (v := .int 1) (ty := .boolean) (C := RX2) (T := TX2) (N := 10) hx hb hts inX2 tyX2 tyX2_ok nmX2 hown hK.1 hP hD hS 0 qW_0 rfl 3 (by decide) (hts _ w_278) (fun _ h9 => h9) rfl (by decide +kernel) rfl rfl rF_l3 dX2_readLoop_119 (fun H locs hP hD hS => ?_)
                  rw [qW_f3] at hP hD
                  refine lv_iconst (v := 1) hx hb dX2_readLoop_122 (by decide) ?_
                  obtain ⟨rfl, rfl⟩ := hE
                  exact en_i F hS _ () (by rfl) rfl hP hD (Nat.le_refl _) (Nat.le_refl _) dX2_readLoop_123
              ·
                rw [if_pos h108] at hE
                refine lv_aload_n hx hb dX2_readLoop_84 rfl (lv_at hl 1 rfl) ?_
                obtain ⟨Q110, hg, hE⟩ := hE
                refine kA_v (va_runV (As := []) (rest := []) F.1 (e_r_readCounts l G h q ad J g hO (rf (rf (rf Q 2 ((Q.1 2) + 1)) 8 1) 9 (-1)) Q110 0 hg _) (cwV 0 hts (aw_V w_522 w_524 ws_X2_readCounts w_7 w_525) rfl rfl rfl (by decide +kernel) ⟨by decide, by decide⟩) ⟨cS_blind, va_recv (q := (RX2, TX2, 10)) (ci := 2) (q0 := 0) hK.1 hP rfl qW_0, cS_pre hP hD hK⟩ rfl rfl hl.1 rfl (lv_room (Nat.le_of_ble_eq_true rfl)) dX2_readLoop_85 ⟨Nat.le_refl _, Nat.le_refl _⟩) hD hS hA (fun u0 H locs hp hP hD hS => ?_)
                refine lv_aload_n hx hb dX2_readLoop_88 rfl (lv_at hl 1 rfl) ?_
                refine va_get (D := G.1) (ci := 2) (C := RX2) (T := TX2) (N := 10) hx hb hts inX2 hown hK.1 hP 0 qW_0 rfl 9 (by decide) (hts _ w_284) (fun _ h9 => h9) rF_9 dX2_readLoop_89 ?_
                refine lv_iconst (v := (-1)) hx hb dX2_readLoop_92 (by decide) ?_
                refine lv_icmp_ne (tgt := 106) hx hb dX2_readLoop_93 (by decide) (fun h112 => ?_) (fun h112 => ?_)
                ·
                  rw [if_neg h112] at hE
                  refine lv_aload_n hx hb dX2_readLoop_106 rfl (lv_at hl 1 rfl) ?_
                  refine va_get (D := G.1) (ci := 2) (C := RX2) (T := TX2) (N := 10) hx hb hts inX2 hown hK.1 hP 0 qW_0 rfl 9 (by decide) (hts _ w_284) (fun _ h9 => h9) rF_9 dX2_readLoop_107 ?_
                  refine lv_aload_n hx hb dX2_readLoop_110 rfl (lv_at hl 1 rfl) ?_
                  refine va_get (D := G.1) (ci := 2) (C := RX2) (T := TX2) (N := 10) hx hb hts inX2 hown hK.1 hP 0 qW_0 rfl 8 (by decide) (hts _ w_283) (fun _ h9 => h9) rF_8 dX2_readLoop_111 ?_
                  refine lv_icmp_ge (tgt := 122) hx hb dX2_readLoop_114 (by decide) (fun h113 => ?_) (fun h113 => ?_)
                  ·
                    rw [if_pos h113] at hE
                    refine lv_iconst (v := 1) hx hb dX2_readLoop_122 (by decide) ?_
                    obtain ⟨rfl, rfl⟩ := hE
                    exact en_i F hS _ () (by rfl) rfl hP hD (Nat.le_refl _) (Nat.le_refl _) dX2_readLoop_123
                  ·
                    rw [if_neg h113] at hE
                    refine lv_aload_n hx hb dX2_readLoop_117 rfl (lv_at hl 1 rfl) ?_
                    refine lv_iconst (v := 1) hx hb dX2_readLoop_118 (by decide) ?_
                    refine va_put (D := G.1) (ci := 2) (v := .int 1) (ty := .boolean) (C := RX2) (T := TX2) (N := 10) hx hb hts inX2 tyX2 tyX2_ok nmX2 hown hK.1 hP hD hS 0 qW_0 rfl 3 (by decide) (hts _ w_278) (fun _ h9 => h9) rfl (by decide +kernel) rfl rfl rF_l3 dX2_readLoop_119 (fun H locs hP hD hS => ?_)
                    rw [qW_f3] at hP hD
                    refine lv_iconst (v := 1) hx hb dX2_readLoop_122 (by decide) ?_
                    obtain ⟨rfl, rfl⟩ := hE
                    exact en_i F hS _ () (by rfl) rfl hP hD (Nat.le_refl _) (Nat.le_refl _) dX2_readLoop_123
                ·
                  rw [if_pos h112] at hE
                  refine lv_aload_n hx hb dX2_readLoop_96 rfl (lv_at hl 1 rfl) ?_
                  refine va_get (D := G.1) (ci := 2) (C := RX2) (T := TX2) (N := 10) hx hb hts inX2 hown hK.1 hP 0 qW_0 rfl 4 (by decide) (hts _ w_279) (fun _ h9 => h9) rF_4 dX2_readLoop_97 ?_
                  refine lv_if_le (tgt := 122) hx hb dX2_readLoop_100 (by decide) (fun h114 => ?_) (fun h114 => ?_)
                  ·
                    rw [if_pos h114] at hE
                    refine lv_iconst (v := 1) hx hb dX2_readLoop_122 (by decide) ?_
                    obtain ⟨rfl, rfl⟩ := hE
                    exact en_i F hS _ () (by rfl) rfl hP hD (Nat.le_refl _) (Nat.le_refl _) dX2_readLoop_123
                  ·
                    rw [if_neg h114] at hE
                    refine lv_goto (tgt := 117) hx hb dX2_readLoop_103 (by decide) ?_
                    refine lv_aload_n hx hb dX2_readLoop_117 rfl (lv_at hl 1 rfl) ?_
                    refine lv_iconst (v := 1) hx hb dX2_readLoop_118 (by decide) ?_
                    refine va_put (D := G.1) (ci := 2) (v := .int 1) (ty := .boolean) (C := RX2) (T := TX2) (N := 10) hx hb hts inX2 tyX2 tyX2_ok nmX2 hown hK.1 hP hD hS 0 qW_0 rfl 3 (by decide) (hts _ w_278) (fun _ h9 => h9) rfl (by decide +kernel) rfl rfl rF_l3 dX2_readLoop_119 (fun H locs hP hD hS => ?_)
                    rw [qW_f3] at hP hD
                    refine lv_iconst (v := 1) hx hb dX2_readLoop_122 (by decide) ?_
                    obtain ⟨rfl, rfl⟩ := hE
                    exact en_i F hS _ () (by rfl) rfl hP hD (Nat.le_refl _) (Nat.le_refl _) dX2_readLoop_123
            ·
              rw [if_pos h107] at hE
              refine lv_iconst (v := 1) hx hb dX2_readLoop_70 (by decide) ?_
              refine lv_goto (tgt := 75) hx hb dX2_readLoop_71 (by decide) ?_
              refine va_put (D := G.1) (ci := 2) (v := .int 1) (ty := .int) (C := RX2) (T := TX2) (N := 10) hx hb hts inX2 tyX2 tyX2_ok nmX2 hown hK.1 hP hD hS 0 qW_0 rfl 9 (by decide) (hts _ w_284) (fun _ h9 => h9) rfl (by decide +kernel) rfl rfl rF_l9 dX2_readLoop_75 (fun H locs hP hD hS => ?_)
              rw [qW_f9] at hP hD
              refine lv_iload_n hx hb dX2_readLoop_78 rfl (lv_at hl 0 rfl) ?_
              refine lv_bipush (v := 123) hx hb dX2_readLoop_79 (by decide) ?_
              refine lv_icmp_ne (tgt := 88) hx hb dX2_readLoop_81 (by decide) (fun h115 => ?_) (fun h115 => ?_)
              ·
                rw [if_neg h115] at hE
                refine lv_aload_n hx hb dX2_readLoop_88 rfl (lv_at hl 1 rfl) ?_
                refine va_get (D := G.1) (ci := 2) (C := RX2) (T := TX2) (N := 10) hx hb hts inX2 hown hK.1 hP 0 qW_0 rfl 9 (by decide) (hts _ w_284) (fun _ h9 => h9) rF_9 dX2_readLoop_89 ?_
                refine tp_i 1 rfl ?_
                refine lv_iconst (v := (-1)) hx hb dX2_readLoop_92 (by decide) ?_
                refine lv_icmp_ne (tgt := 106) hx hb dX2_readLoop_93 (by decide) (fun _ => ?_) (fun h => absurd h (by decide))
                refine lv_aload_n hx hb dX2_readLoop_106 rfl (lv_at hl 1 rfl) ?_
                refine va_get (D := G.1) (ci := 2) (C := RX2) (T := TX2) (N := 10) hx hb hts inX2 hown hK.1 hP 0 qW_0 rfl 9 (by decide) (hts _ w_284) (fun _ h9 => h9) rF_9 dX2_readLoop_107 ?_
                refine tp_i 1 rfl ?_
                refine lv_aload_n hx hb dX2_readLoop_110 rfl (lv_at hl 1 rfl) ?_
                refine va_get (D := G.1) (ci := 2) (C := RX2) (T := TX2) (N := 10) hx hb hts inX2 hown hK.1 hP 0 qW_0 rfl 8 (by decide) (hts _ w_283) (fun _ h9 => h9) rF_8 dX2_readLoop_111 ?_
                refine tp_i 1 rfl ?_
                refine lv_icmp_ge (tgt := 122) hx hb dX2_readLoop_114 (by decide) (fun _ => ?_) (fun h => absurd (by decide) h)
                refine lv_iconst (v := 1) hx hb dX2_readLoop_122 (by decide) ?_
                obtain ⟨rfl, rfl⟩ := hE
                exact en_i F hS _ () (by rfl) rfl hP hD (Nat.le_refl _) (Nat.le_refl _) dX2_readLoop_123
              ·
                rw [if_pos h115] at hE
                refine lv_aload_n hx hb dX2_readLoop_84 rfl (lv_at hl 1 rfl) ?_
                obtain ⟨Q116, hg, hE⟩ := hE
                refine kA_v (va_runV (As := []) (rest := []) F.1 (e_r_readCounts l G h q ad J g hO (rf (rf (rf Q 2 ((Q.1 2) + 1)) 8 1) 9 1) Q116 0 hg _) (cwV 0 hts (aw_V w_522 w_524 ws_X2_readCounts w_7 w_525) rfl rfl rfl (by decide +kernel) ⟨by decide, by decide⟩) ⟨cS_blind, va_recv (q := (RX2, TX2, 10)) (ci := 2) (q0 := 0) hK.1 hP rfl qW_0, cS_pre hP hD hK⟩ rfl rfl hl.1 rfl (lv_room (Nat.le_of_ble_eq_true rfl)) dX2_readLoop_85 ⟨Nat.le_refl _, Nat.le_refl _⟩) hD hS hA (fun u0 H locs hp hP hD hS => ?_)
                refine lv_aload_n hx hb dX2_readLoop_88 rfl (lv_at hl 1 rfl) ?_
                refine va_get (D := G.1) (ci := 2) (C := RX2) (T := TX2) (N := 10) hx hb hts inX2 hown hK.1 hP 0 qW_0 rfl 9 (by decide) (hts _ w_284) (fun _ h9 => h9) rF_9 dX2_readLoop_89 ?_
                refine lv_iconst (v := (-1)) hx hb dX2_readLoop_92 (by decide) ?_
                refine lv_icmp_ne (tgt := 106) hx hb dX2_readLoop_93 (by decide) (fun h118 => ?_) (fun h118 => ?_)
                ·
                  rw [if_neg h118] at hE
                  refine lv_aload_n hx hb dX2_readLoop_106 rfl (lv_at hl 1 rfl) ?_
                  refine va_get (D := G.1) (ci := 2) (C := RX2) (T := TX2) (N := 10) hx hb hts inX2 hown hK.1 hP 0 qW_0 rfl 9 (by decide) (hts _ w_284) (fun _ h9 => h9) rF_9 dX2_readLoop_107 ?_
                  refine lv_aload_n hx hb dX2_readLoop_110 rfl (lv_at hl 1 rfl) ?_
                  refine va_get (D := G.1) (ci := 2) (C := RX2) (T := TX2) (N := 10) hx hb hts inX2 hown hK.1 hP 0 qW_0 rfl 8 (by decide) (hts _ w_283) (fun _ h9 => h9) rF_8 dX2_readLoop_111 ?_
                  refine lv_icmp_ge (tgt := 122) hx hb dX2_readLoop_114 (by decide) (fun h119 => ?_) (fun h119 => ?_)
                  ·
                    rw [if_pos h119] at hE
                    refine lv_iconst (v := 1) hx hb dX2_readLoop_122 (by decide) ?_
                    obtain ⟨rfl, rfl⟩ := hE
                    exact en_i F hS _ () (by rfl) rfl hP hD (Nat.le_refl _) (Nat.le_refl _) dX2_readLoop_123
                  ·
                    rw [if_neg h119] at hE
                    refine lv_aload_n hx hb dX2_readLoop_117 rfl (lv_at hl 1 rfl) ?_
                    refine lv_iconst (v := 1) hx hb dX2_readLoop_118 (by decide) ?_
                    refine va_put (D := G.1) (ci := 2) (v := .int 1) (ty := .boolean) (C := RX2) (T := TX2) (N := 10) hx hb hts inX2 tyX2 tyX2_ok nmX2 hown hK.1 hP hD hS 0 qW_0 rfl 3 (by decide) (hts _ w_278) (fun _ h9 => h9) rfl (by decide +kernel) rfl rfl rF_l3 dX2_readLoop_119 (fun H locs hP hD hS => ?_)
                    rw [qW_f3] at hP hD
                    refine lv_iconst (v := 1) hx hb dX2_readLoop_122 (by decide) ?_
                    obtain ⟨rfl, rfl⟩ := hE
                    exact en_i F hS _ () (by rfl) rfl hP hD (Nat.le_refl _) (Nat.le_refl _) dX2_readLoop_123
                ·
                  rw [if_pos h118] at hE
                  refine lv_aload_n hx hb dX2_readLoop_96 rfl (lv_at hl 1 rfl) ?_
                  refine va_get (D := G.1) (ci := 2) (C := RX2) (T := TX2) (N := 10) hx hb hts inX2 hown hK.1 hP 0 qW_0 rfl 4 (by decide) (hts _ w_279) (fun _ h9 => h9) rF_4 dX2_readLoop_97 ?_
                  refine lv_if_le (tgt := 122) hx hb dX2_readLoop_100 (by decide) (fun h120 => ?_) (fun h120 => ?_)
                  ·
                    rw [if_pos h120] at hE
                    refine lv_iconst (v := 1) hx hb dX2_readLoop_122 (by decide) ?_
                    obtain ⟨rfl, rfl⟩ := hE
                    exact en_i F hS _ () (by rfl) rfl hP hD (Nat.le_refl _) (Nat.le_refl _) dX2_readLoop_123
                  ·
                    rw [if_neg h120] at hE
                    refine lv_goto (tgt := 117) hx hb dX2_readLoop_103 (by decide) ?_
                    refine lv_aload_n hx hb dX2_readLoop_117 rfl (lv_at hl 1 rfl) ?_
                    refine lv_iconst (v := 1) hx hb dX2_readLoop_118 (by decide) ?_
                    refine va_put (D := G.1) (ci := 2) (v := .int 1) (ty := .boolean) (C := RX2) (T := TX2) (N := 10) hx hb hts inX2 tyX2 tyX2_ok nmX2 hown hK.1 hP hD hS 0 qW_0 rfl 3 (by decide) (hts _ w_278) (fun _ h9 => h9) rfl (by decide +kernel) rfl rfl rF_l3 dX2_readLoop_119 (fun H locs hP hD hS => ?_)
                    rw [qW_f3] at hP hD
                    refine lv_iconst (v := 1) hx hb dX2_readLoop_122 (by decide) ?_
                    obtain ⟨rfl, rfl⟩ := hE
                    exact en_i F hS _ () (by rfl) rfl hP hD (Nat.le_refl _) (Nat.le_refl _) dX2_readLoop_123
        ·
          rw [if_neg h91] at hE
          refine lv_iconst (v := 0) hx hb dX2_readLoop_36 (by decide) ?_
          obtain ⟨rfl, rfl⟩ := hE
          exact en_i F hS _ () (by rfl) rfl hP hD (Nat.le_refl _) (Nat.le_refl _) dX2_readLoop_37

theorem dX2_backReference_0 : decode cX2_backReference 0 = .ok (.iload_n 1, 1) := by decide +kernel
theorem dX2_backReference_1 : decode cX2_backReference 1 = .ok (.aload_n 0, 1) := by decide +kernel
theorem dX2_backReference_2 : decode cX2_backReference 2 = .ok (.getfield 15, 3) := by decide +kernel
theorem dX2_backReference_5 : decode cX2_backReference 5 = .ok (.getfield 156, 3) := by decide +kernel
theorem dX2_backReference_8 : decode cX2_backReference 8 = .ok (.if_icmp .gt 10, 3) := by decide +kernel
theorem dX2_backReference_11 : decode cX2_backReference 11 = .ok (.aload_n 0, 1) := by decide +kernel
theorem dX2_backReference_12 : decode cX2_backReference 12 = .ok (.getfield 107, 3) := by decide +kernel
theorem dX2_backReference_15 : decode cX2_backReference 15 = .ok (.ifCond .le 8, 3) := by decide +kernel
theorem dX2_backReference_18 : decode cX2_backReference 18 = .ok (.aload_n 0, 1) := by decide +kernel
theorem dX2_backReference_19 : decode cX2_backReference 19 = .ok (.invokevirtual 142, 3) := by decide +kernel
theorem dX2_backReference_22 : decode cX2_backReference 22 = .ok (.ireturn, 1) := by decide +kernel
theorem dX2_backReference_23 : decode cX2_backReference 23 = .ok (.aload_n 0, 1) := by decide +kernel
theorem dX2_backReference_24 : decode cX2_backReference 24 = .ok (.getfield 15, 3) := by decide +kernel
theorem dX2_backReference_27 : decode cX2_backReference 27 = .ok (.dup, 1) := by decide +kernel
theorem dX2_backReference_28 : decode cX2_backReference 28 = .ok (.getfield 159, 3) := by decide +kernel
theorem dX2_backReference_31 : decode cX2_backReference 31 = .ok (.ldc2_w 163, 3) := by decide +kernel
theorem dX2_backReference_34 : decode cX2_backReference 34 = .ok (.iload_n 1, 1) := by decide +kernel
theorem dX2_backReference_35 : decode cX2_backReference 35 = .ok (.iconst 1, 1) := by decide +kernel
theorem dX2_backReference_36 : decode cX2_backReference 36 = .ok (.isub, 1) := by decide +kernel
theorem dX2_backReference_37 : decode cX2_backReference 37 = .ok (.bipush 12, 2) := by decide +kernel
theorem dX2_backReference_39 : decode cX2_backReference 39 = .ok (.imul, 1) := by decide +kernel
theorem dX2_backReference_40 : decode cX2_backReference 40 = .ok (.lshl, 1) := by decide +kernel
theorem dX2_backReference_41 : decode cX2_backReference 41 = .ok (.lor, 1) := by decide +kernel
theorem dX2_backReference_42 : decode cX2_backReference 42 = .ok (.putfield 159, 3) := by decide +kernel
theorem dX2_backReference_45 : decode cX2_backReference 45 = .ok (.aload_n 0, 1) := by decide +kernel
theorem dX2_backReference_46 : decode cX2_backReference 46 = .ok (.bipush 7, 2) := by decide +kernel
theorem dX2_backReference_48 : decode cX2_backReference 48 = .ok (.invokevirtual 132, 3) := by decide +kernel
theorem dX2_backReference_51 : decode cX2_backReference 51 = .ok (.istore_n 2, 1) := by decide +kernel
theorem dX2_backReference_52 : decode cX2_backReference 52 = .ok (.aload_n 0, 1) := by decide +kernel
theorem dX2_backReference_53 : decode cX2_backReference 53 = .ok (.getfield 15, 3) := by decide +kernel
theorem dX2_backReference_56 : decode cX2_backReference 56 = .ok (.iload_n 2, 1) := by decide +kernel
theorem dX2_backReference_57 : decode cX2_backReference 57 = .ok (.invokevirtual 55, 3) := by decide +kernel
theorem dX2_backReference_60 : decode cX2_backReference 60 = .ok (.iload_n 1, 1) := by decide +kernel
theorem dX2_backReference_61 : decode cX2_backReference 61 = .ok (.putfield 165, 3) := by decide +kernel
theorem dX2_backReference_64 : decode cX2_backReference 64 = .ok (.iload_n 2, 1) := by decide +kernel
theorem dX2_backReference_65 : decode cX2_backReference 65 = .ok (.ireturn, 1) := by decide +kernel
def E_r_backReference (J : Nat) (g : Nat → Int32) (Q : QS) (a1 : Int32) (Q' : QS) (r : Int32) : Prop := if (Q.1 13) < a1 then (∃ (Q2 : QS) (r3 : Int32), E_r_refuse J g Q Q2 r3 ∧ (Q' = Q2 ∧ r = r3)) else (if (Q.1 4) ≤ 0 then (∃ (Q5 : QS) (r6 : Int32), E_r_single J g (rl Q 14 ((Q.2.1 14) ||| ((4095 : Int64) <<< (((a1 - 1) * 12).toInt64 &&& 63)))) 7 Q5 r6 ∧ ((0 < Q5.2.2.1 ∧ Q5.2.2.1 ≤ 32) ∧ (Q' = (rn Q5 (pn_ix Q5.2.2.1 r6) 4 a1) ∧ r = r6))) else (∃ (Q8 : QS) (r9 : Int32), E_r_refuse J g Q Q8 r9 ∧ (Q' = Q8 ∧ r = r9)))
set_option maxHeartbeats 4000000 in
set_option maxRecDepth 100000 in
theorem e_r_backReference (l : Launch) (G : PG) (h : Nat) (q ad : Nat → Nat) (J : Nat) (g : Nat → Int32) (hO : gOK J g) (Q : QS) (a1 : Int32) (Q' : QS) (r : Int32) (hE : E_r_backReference J g Q a1 Q' r) : Ci l yX2_backReference (Cond.code yX2_backReference cX2_backReference 3 (some .int) :: aW) { frames := 3, cells := 0, slots := 0, locals := 65 } G (qW G h q ad J g Q) [.ref h, .int a1] (fun (r9 : Int32) (_ : Unit) => r9 = r) (fun (_ : Unit) => qW G h q ad J g Q') 0 0 := by
  refine ofB (y := yX2_backReference) (G := G) (cc := cX2_backReference) (maxL := 3) (ret := (some .int)) (Qc := fun A => va_Qi (fun (r9 : Int32) (_ : Unit) => r9 = r) (oB G A (fun (_ : Unit) => qW G h q ad J g Q')) A) (by decide) rfl ?_
  intro p e s m below meth c A F hK hA hP hD
  have hS : va_S A s.heap s.heap [] := va_S.rf
  have hx := F.1.1; have hb := F.1.2.1; have hml := F.1.2.2.1; have hts := F.1.2.2.2.2
  have hown : s.vm.findClass RX2 = some m.cls := F.1.2.2.2.1
  have hl := lv_entry ([.ref h, .int a1]) (n := 3) (Nat.le_of_ble_eq_true rfl)
  rw [lg_entry_eq]
  generalize (lg_sl ([.ref h, .int a1]) ++ List.replicate (3 - (lg_sl ([.ref h, .int a1])).length) Slot.unset).toArray = ls at hl ⊢
  have hl : lv_has ls 3 [(0, .ref h), (1, .int a1)] := hl
  unfold E_r_backReference at hE
  refine lv_iload_n hx hb dX2_backReference_0 rfl (lv_at hl 1 rfl) ?_
  refine lv_aload_n hx hb dX2_backReference_1 rfl (lv_at hl 0 rfl) ?_
  refine va_get (D := G.1) (ci := 2) (C := RX2) (T := TX2) (N := 10) hx hb hts inX2 hown hK.1 hP 0 qW_0 rfl 1 (by decide) (hts _ w_276) (fun _ h9 => h9) rF_1 dX2_backReference_2 ?_
  refine va_getN (D := G.1) (ci := 1) (C := RX1) (T := TX1) (N := 5) hx hb hts inX1 hown hK.1 hP 3 qW_3 rfl 3 (by decide) (hK.2.1.use w_124) (fun _ h9 => h9) pF_3 dX2_backReference_5 ?_
  refine lv_icmp_gt (tgt := 18) hx hb dX2_backReference_8 (by decide) (fun h1 => ?_) (fun h1 => ?_)
  ·
    rw [if_pos h1] at hE
    refine lv_aload_n hx hb dX2_backReference_18 rfl (lv_at hl 0 rfl) ?_
    obtain ⟨Q2, r3, hg, hE⟩ := hE
    refine kA_i (va_runV (As := []) (rest := []) F.1 (e_r_refuse l G h q ad J g hO Q Q2 r3 hg _) (cwV 0 hts (aw_V w_355 w_357 ws_X2_refuse w_7 w_358) rfl rfl rfl (by decide +kernel) ⟨by decide, by decide⟩) ⟨cS_blind, va_recv (q := (RX2, TX2, 10)) (ci := 2) (q0 := 0) hK.1 hP rfl qW_0, cS_pre hP hD hK⟩ rfl rfl hl.1 rfl (lv_room (Nat.le_of_ble_eq_true rfl)) dX2_backReference_19 ⟨Nat.le_refl _, Nat.le_refl _⟩) hD hS hA (fun r9 u0 H locs hp hP hD hS => ?_)
    have hp := hp.symm; subst hp
    obtain ⟨rfl, rfl⟩ := hE
    exact en_i F hS _ () (by rfl) rfl hP hD (Nat.le_refl _) (Nat.le_refl _) dX2_backReference_22
  ·
    rw [if_neg h1] at hE
    refine lv_aload_n hx hb dX2_backReference_11 rfl (lv_at hl 0 rfl) ?_
    refine va_get (D := G.1) (ci := 2) (C := RX2) (T := TX2) (N := 10) hx hb hts inX2 hown hK.1 hP 0 qW_0 rfl 4 (by decide) (hts _ w_279) (fun _ h9 => h9) rF_4 dX2_backReference_12 ?_
    refine lv_if_le (tgt := 23) hx hb dX2_backReference_15 (by decide) (fun h4 => ?_) (fun h4 => ?_)
    ·
      rw [if_pos h4] at hE
      refine lv_aload_n hx hb dX2_backReference_23 rfl (lv_at hl 0 rfl) ?_
      refine va_get (D := G.1) (ci := 2) (C := RX2) (T := TX2) (N := 10) hx hb hts inX2 hown hK.1 hP 0 qW_0 rfl 1 (by decide) (hts _ w_276) (fun _ h9 => h9) rF_1 dX2_backReference_24 ?_
      refine lv_dup hx hb dX2_backReference_27 rfl ?_
      refine va_getN (D := G.1) (ci := 1) (C := RX1) (T := TX1) (N := 5) hx hb hts inX1 hown hK.1 hP 3 qW_3 rfl 4 (by decide) (hK.2.1.use w_126) (fun _ h9 => h9) pF_4 dX2_backReference_28 ?_
      refine lv_ldc2 (v := 4095) hx hb hown (hts _ w_512) dX2_backReference_31 ?_
      refine lv_iload_n hx hb dX2_backReference_34 rfl (lv_at hl 1 rfl) ?_
      refine lv_iconst (v := 1) hx hb dX2_backReference_35 (by decide) ?_
      refine lv_isub hx hb dX2_backReference_36 ?_
      refine lv_bipush (v := 12) hx hb dX2_backReference_37 (by decide) ?_
      refine lv_imul hx hb dX2_backReference_39 ?_
      refine lv_lshl (v := ((4095 : Int64) <<< (((a1 - 1) * 12).toInt64 &&& 63))) hx hb dX2_backReference_40 rfl ?_
      refine lv_lor hx hb dX2_backReference_41 ?_
      refine va_putN (D := G.1) (ci := 1) (v := .long ((Q.2.1 14) ||| ((4095 : Int64) <<< (((a1 - 1) * 12).toInt64 &&& 63)))) (ty := .long) (C := RX1) (T := TX1) (N := 5) hx hb hts inX1 tyX1 tyX1_ok nmX1 hown hK.1 hP hD hS 3 qW_3 rfl 4 (by decide) (hK.2.1.use w_126) (fun _ h9 => h9) rfl (by decide +kernel) rfl rfl pF_l4 dX2_backReference_42 (fun H locs hP hD hS => ?_)
      rw [qW_p4] at hP hD
      refine lv_aload_n hx hb dX2_backReference_45 rfl (lv_at hl 0 rfl) ?_
      refine lv_bipush (v := 7) hx hb dX2_backReference_46 (by decide) ?_
      obtain ⟨Q5, r6, hg, hE⟩ := hE
      refine kA_i (va_runV (As := [.int 7]) (rest := []) F.1 (e_r_single l G h q ad J g hO (rl Q 14 ((Q.2.1 14) ||| ((4095 : Int64) <<< (((a1 - 1) * 12).toInt64 &&& 63)))) 7 Q5 r6 hg _) (cwV 1 hts (aw_V w_383 w_385 ws_X2_single w_7 w_386) rfl rfl rfl (by decide +kernel) ⟨by decide, by decide⟩) ⟨cS_blind, va_recv (q := (RX2, TX2, 10)) (ci := 2) (q0 := 0) hK.1 hP rfl qW_0, cS_pre hP hD hK⟩ rfl rfl hl.1 rfl (lv_room (Nat.le_of_ble_eq_true rfl)) dX2_backReference_48 ⟨Nat.le_refl _, Nat.le_refl _⟩) hD hS hA (fun r9 u0 H locs hp hP hD hS => ?_)
      have hp := hp.symm; subst hp
      refine lv_istore_n hx hb dX2_backReference_51 rfl hl (by decide) rfl (fun ls hl => ?_)
      have hl : lv_has ls 3 [(2, .int r6), (0, .ref h), (1, .int a1)] := hl
      refine lv_aload_n hx hb dX2_backReference_52 rfl (lv_at hl 1 rfl) ?_
      refine va_get (D := G.1) (ci := 2) (C := RX2) (T := TX2) (N := 10) hx hb hts inX2 hown hK.1 hP 0 qW_0 rfl 1 (by decide) (hts _ w_276) (fun _ h9 => h9) rF_1 dX2_backReference_53 ?_
      refine lv_iload_n hx hb dX2_backReference_56 rfl (lv_at hl 0 rfl) ?_
      obtain ⟨hc7, hE⟩ := hE
      refine kp_V (va_runV (As := [.int r6]) (rest := []) F.1 (v_prog_node l G _ _ Q5.2.2.1 _ _ _ ad _ _ _ r6 hc7.1 hc7.2 _) (cwV 1 hts (aw_V w_339 w_340 w_341 w_4 w_342) rfl rfl rfl (by decide +kernel) ⟨by decide, by decide⟩) ⟨cS_blind, va_recv (q := (RX1, TX1, 5)) (ci := 1) (q0 := 0) hK.1 (qP_prog (Q := Q5) hP) rfl rfl, cS_pre (qP_prog (Q := Q5) hP) (qD_prog (Q := Q5) hD) hK⟩ rfl rfl hl.1 rfl (lv_room (Nat.le_of_ble_eq_true rfl)) dX2_backReference_57 ⟨Nat.le_refl _, Nat.le_refl _⟩) (fun v9 hp => ?_)
      subst hp
      refine lv_iload_n hx hb dX2_backReference_60 rfl (lv_at hl 2 rfl) ?_
      refine va_putN (D := G.1) (ci := 0) (v := .int a1) (ty := .int) (C := RX0) (T := TX0) (N := 13) hx hb hts inX0 tyX0 tyX0_ok nmX0 hown hK.1 hP hD hS (5 + (pn_ix Q5.2.2.1 r6)) (qW_nd (pn_lt hc7.1 hc7.2)) rfl 4 (by decide) (hK.2.1.use w_73) (fun _ h9 => h9) rfl (by decide +kernel) rfl rfl (Nat.le_of_ble_eq_true rfl) dX2_backReference_61 (fun H locs hP hD hS => ?_)
      rw [qW_n4 (pn_lt hc7.1 hc7.2)] at hP hD
      refine lv_iload_n hx hb dX2_backReference_64 rfl (lv_at hl 0 rfl) ?_
      obtain ⟨rfl, rfl⟩ := hE
      exact en_i F hS _ () (by rfl) rfl hP hD (Nat.le_refl _) (Nat.le_refl _) dX2_backReference_65
    ·
      rw [if_neg h4] at hE
      refine lv_aload_n hx hb dX2_backReference_18 rfl (lv_at hl 0 rfl) ?_
      obtain ⟨Q8, r9, hg, hE⟩ := hE
      refine kA_i (va_runV (As := []) (rest := []) F.1 (e_r_refuse l G h q ad J g hO Q Q8 r9 hg _) (cwV 0 hts (aw_V w_355 w_357 ws_X2_refuse w_7 w_358) rfl rfl rfl (by decide +kernel) ⟨by decide, by decide⟩) ⟨cS_blind, va_recv (q := (RX2, TX2, 10)) (ci := 2) (q0 := 0) hK.1 hP rfl qW_0, cS_pre hP hD hK⟩ rfl rfl hl.1 rfl (lv_room (Nat.le_of_ble_eq_true rfl)) dX2_backReference_19 ⟨Nat.le_refl _, Nat.le_refl _⟩) hD hS hA (fun r9 u0 H locs hp hP hD hS => ?_)
      have hp := hp.symm; subst hp
      obtain ⟨rfl, rfl⟩ := hE
      exact en_i F hS _ () (by rfl) rfl hP hD (Nat.le_refl _) (Nat.le_refl _) dX2_backReference_22

theorem dX2_isItem_0 : decode cX2_isItem 0 = .ok (.iload_n 0, 1) := by decide +kernel
theorem dX2_isItem_1 : decode cX2_isItem 1 = .ok (.ifCond .eq 16, 3) := by decide +kernel
theorem dX2_isItem_4 : decode cX2_isItem 4 = .ok (.ldc 187, 2) := by decide +kernel
theorem dX2_isItem_6 : decode cX2_isItem 6 = .ok (.iload_n 0, 1) := by decide +kernel
theorem dX2_isItem_7 : decode cX2_isItem 7 = .ok (.invokevirtual 137, 3) := by decide +kernel
theorem dX2_isItem_10 : decode cX2_isItem 10 = .ok (.ifCond .ge 7, 3) := by decide +kernel
theorem dX2_isItem_13 : decode cX2_isItem 13 = .ok (.iconst 1, 1) := by decide +kernel
theorem dX2_isItem_14 : decode cX2_isItem 14 = .ok (.goto 4, 3) := by decide +kernel
theorem dX2_isItem_17 : decode cX2_isItem 17 = .ok (.iconst 0, 1) := by decide +kernel
theorem dX2_isItem_18 : decode cX2_isItem 18 = .ok (.ireturn, 1) := by decide +kernel
def E_r_isItem (J : Nat) (g : Nat → Int32) (Q : QS) (a1 : Int32) (Q' : QS) (r : Int32) : Prop := if a1 = 0 then (Q' = Q ∧ r = 0) else (if 0 ≤ (zix 1 a1) then (Q' = Q ∧ r = 0) else (Q' = Q ∧ r = 1))
set_option maxHeartbeats 4000000 in
set_option maxRecDepth 100000 in
theorem e_r_isItem (l : Launch) (G : PG) (Z : ZZ) (h : Nat) (q ad : Nat → Nat) (J : Nat) (g : Nat → Int32) (hO : gOK J g) (Q : QS) (a1 : Int32) (Q' : QS) (r : Int32) (hE : E_r_isItem J g Q a1 Q' r) : CiZ l yX2_isItem (Cond.code yX2_isItem cX2_isItem 1 (some .boolean) :: aW) { frames := 4, cells := 0, slots := 0, locals := 96 } Z G (qW G h q ad J g Q) [.int a1] (fun (r9 : Int32) (_ : Unit) => r9 = r) (fun (_ : Unit) => qW G h q ad J g Q') 0 0 := by
  refine ofBZ (y := yX2_isItem) (G := G) (cc := cX2_isItem) (maxL := 1) (ret := (some .boolean)) (Qc := fun A => va_Qi (fun (r9 : Int32) (_ : Unit) => r9 = r) (oB G A (fun (_ : Unit) => qW G h q ad J g Q')) A) (by decide) rfl ?_
  intro p e s m below meth c A F hK hZ hA hP hD
  have hS : va_S A s.heap s.heap [] := va_S.rf
  have hx := F.1.1; have hb := F.1.2.1; have hml := F.1.2.2.1; have hts := F.1.2.2.2.2
  have hown : s.vm.findClass RX2 = some m.cls := F.1.2.2.2.1
  have hl := lv_entry ([.int a1]) (n := 1) (Nat.le_of_ble_eq_true rfl)
  rw [lg_entry_eq]
  generalize (lg_sl ([.int a1]) ++ List.replicate (1 - (lg_sl ([.int a1])).length) Slot.unset).toArray = ls at hl ⊢
  have hl : lv_has ls 1 [(0, .int a1)] := hl
  unfold E_r_isItem at hE
  refine lv_iload_n hx hb dX2_isItem_0 rfl (lv_at hl 0 rfl) ?_
  refine lv_if_eq (tgt := 17) hx hb dX2_isItem_1 (by decide) (fun h1 => ?_) (fun h1 => ?_)
  ·
    rw [if_pos h1] at hE
    refine lv_iconst (v := 0) hx hb dX2_isItem_17 (by decide) ?_
    obtain ⟨rfl, rfl⟩ := hE
    exact en_i F hS _ () (by rfl) rfl hP hD (Nat.le_refl _) (Nat.le_refl _) dX2_isItem_18
  ·
    rw [if_neg h1] at hE
    refine va_ldcS hx hb hown hZ.2.2.2 dX2_isItem_4 ?_
    refine lv_iload_n hx hb dX2_isItem_6 rfl (lv_at hl 0 rfl) ?_
    refine kp_V (va_runV (As := [.int a1]) (rest := []) F.1 (e_ix l G Z 1 (by decide) a1 _) (cwV 1 hts (aw_V w_406 w_407 w_408 w_8 w_409) rfl rfl rfl (by decide +kernel) ⟨by decide, by decide⟩) ⟨zS_blind, vk_recv (i := 1) hZ.1 (by decide) hS, zS_pre va_P0 (va_D0 (A := A)) hK hZ hS (kA_F va_D0 hS hA)⟩ rfl rfl hl.1 rfl (lv_room (Nat.le_of_ble_eq_true rfl)) dX2_isItem_7 ⟨Nat.le_refl _, Nat.le_refl _⟩) (fun v9 hp => ?_)
    subst hp
    refine lv_if_ge (tgt := 17) hx hb dX2_isItem_10 (by decide) (fun h2 => ?_) (fun h2 => ?_)
    ·
      rw [if_pos h2] at hE
      refine lv_iconst (v := 0) hx hb dX2_isItem_17 (by decide) ?_
      obtain ⟨rfl, rfl⟩ := hE
      exact en_i F hS _ () (by rfl) rfl hP hD (Nat.le_refl _) (Nat.le_refl _) dX2_isItem_18
    ·
      rw [if_neg h2] at hE
      refine lv_iconst (v := 1) hx hb dX2_isItem_13 (by decide) ?_
      refine lv_goto (tgt := 18) hx hb dX2_isItem_14 (by decide) ?_
      obtain ⟨rfl, rfl⟩ := hE
      exact en_i F hS _ () (by rfl) rfl hP hD (Nat.le_refl _) (Nat.le_refl _) dX2_isItem_18

theorem dX2_escapedItem_0 : decode cX2_escapedItem 0 = .ok (.aload_n 0, 1) := by decide +kernel
theorem dX2_escapedItem_1 : decode cX2_escapedItem 1 = .ok (.getfield 9, 3) := by decide +kernel
theorem dX2_escapedItem_4 : decode cX2_escapedItem 4 = .ok (.aload_n 0, 1) := by decide +kernel
theorem dX2_escapedItem_5 : decode cX2_escapedItem 5 = .ok (.getfield 40, 3) := by decide +kernel
theorem dX2_escapedItem_8 : decode cX2_escapedItem 8 = .ok (.invokevirtual 52, 3) := by decide +kernel
theorem dX2_escapedItem_11 : decode cX2_escapedItem 11 = .ok (.istore_n 1, 1) := by decide +kernel
theorem dX2_escapedItem_12 : decode cX2_escapedItem 12 = .ok (.aload_n 0, 1) := by decide +kernel
theorem dX2_escapedItem_13 : decode cX2_escapedItem 13 = .ok (.dup, 1) := by decide +kernel
theorem dX2_escapedItem_14 : decode cX2_escapedItem 14 = .ok (.getfield 40, 3) := by decide +kernel
theorem dX2_escapedItem_17 : decode cX2_escapedItem 17 = .ok (.iconst 1, 1) := by decide +kernel
theorem dX2_escapedItem_18 : decode cX2_escapedItem 18 = .ok (.iadd, 1) := by decide +kernel
theorem dX2_escapedItem_19 : decode cX2_escapedItem 19 = .ok (.putfield 40, 3) := by decide +kernel
theorem dX2_escapedItem_22 : decode cX2_escapedItem 22 = .ok (.iload_n 1, 1) := by decide +kernel
theorem dX2_escapedItem_23 : decode cX2_escapedItem 23 = .ok (.bipush 100, 2) := by decide +kernel
theorem dX2_escapedItem_25 : decode cX2_escapedItem 25 = .ok (.if_icmp .eq 9, 3) := by decide +kernel
theorem dX2_escapedItem_28 : decode cX2_escapedItem 28 = .ok (.iload_n 1, 1) := by decide +kernel
theorem dX2_escapedItem_29 : decode cX2_escapedItem 29 = .ok (.bipush 119, 2) := by decide +kernel
theorem dX2_escapedItem_31 : decode cX2_escapedItem 31 = .ok (.if_icmp .ne 40, 3) := by decide +kernel
theorem dX2_escapedItem_34 : decode cX2_escapedItem 34 = .ok (.aload_n 0, 1) := by decide +kernel
theorem dX2_escapedItem_35 : decode cX2_escapedItem 35 = .ok (.dup, 1) := by decide +kernel
theorem dX2_escapedItem_36 : decode cX2_escapedItem 36 = .ok (.getfield 168, 3) := by decide +kernel
theorem dX2_escapedItem_39 : decode cX2_escapedItem 39 = .ok (.ldc2_w 149, 3) := by decide +kernel
theorem dX2_escapedItem_42 : decode cX2_escapedItem 42 = .ok (.lor, 1) := by decide +kernel
theorem dX2_escapedItem_43 : decode cX2_escapedItem 43 = .ok (.putfield 168, 3) := by decide +kernel
theorem dX2_escapedItem_46 : decode cX2_escapedItem 46 = .ok (.aload_n 0, 1) := by decide +kernel
theorem dX2_escapedItem_47 : decode cX2_escapedItem 47 = .ok (.dup, 1) := by decide +kernel
theorem dX2_escapedItem_48 : decode cX2_escapedItem 48 = .ok (.getfield 171, 3) := by decide +kernel
theorem dX2_escapedItem_51 : decode cX2_escapedItem 51 = .ok (.iload_n 1, 1) := by decide +kernel
theorem dX2_escapedItem_52 : decode cX2_escapedItem 52 = .ok (.bipush 119, 2) := by decide +kernel
theorem dX2_escapedItem_54 : decode cX2_escapedItem 54 = .ok (.if_icmp .ne 9, 3) := by decide +kernel
theorem dX2_escapedItem_57 : decode cX2_escapedItem 57 = .ok (.ldc2_w 151, 3) := by decide +kernel
theorem dX2_escapedItem_60 : decode cX2_escapedItem 60 = .ok (.goto 4, 3) := by decide +kernel
theorem dX2_escapedItem_63 : decode cX2_escapedItem 63 = .ok (.lconst 0, 1) := by decide +kernel
theorem dX2_escapedItem_64 : decode cX2_escapedItem 64 = .ok (.lor, 1) := by decide +kernel
theorem dX2_escapedItem_65 : decode cX2_escapedItem 65 = .ok (.putfield 171, 3) := by decide +kernel
theorem dX2_escapedItem_68 : decode cX2_escapedItem 68 = .ok (.goto 25, 3) := by decide +kernel
theorem dX2_escapedItem_71 : decode cX2_escapedItem 71 = .ok (.ldc 187, 2) := by decide +kernel
theorem dX2_escapedItem_73 : decode cX2_escapedItem 73 = .ok (.iload_n 1, 1) := by decide +kernel
theorem dX2_escapedItem_74 : decode cX2_escapedItem 74 = .ok (.invokevirtual 137, 3) := by decide +kernel
theorem dX2_escapedItem_77 : decode cX2_escapedItem 77 = .ok (.ifCond .lt 11, 3) := by decide +kernel
theorem dX2_escapedItem_80 : decode cX2_escapedItem 80 = .ok (.aload_n 0, 1) := by decide +kernel
theorem dX2_escapedItem_81 : decode cX2_escapedItem 81 = .ok (.iload_n 1, 1) := by decide +kernel
theorem dX2_escapedItem_82 : decode cX2_escapedItem 82 = .ok (.invokevirtual 183, 3) := by decide +kernel
theorem dX2_escapedItem_85 : decode cX2_escapedItem 85 = .ok (.goto 8, 3) := by decide +kernel
theorem dX2_escapedItem_88 : decode cX2_escapedItem 88 = .ok (.aload_n 0, 1) := by decide +kernel
theorem dX2_escapedItem_89 : decode cX2_escapedItem 89 = .ok (.iconst 1, 1) := by decide +kernel
theorem dX2_escapedItem_90 : decode cX2_escapedItem 90 = .ok (.putfield 36, 3) := by decide +kernel
theorem dX2_escapedItem_93 : decode cX2_escapedItem 93 = .ok (.return_, 1) := by decide +kernel
def E_r_escapedItem (J : Nat) (g : Nat → Int32) (Q : QS)  (Q' : QS) (r : Int32) : Prop := if (rw_at J g (Q.1 2)) = 100 then (if (rw_at J g (Q.1 2)) = 119 then (Q' = (rl (rl (rf Q 2 ((Q.1 2) + 1)) 6 ((Q.2.1 6) ||| 287948901175001088)) 7 ((Q.2.1 7) ||| 576460745995190270)) ∧ r = 0) else (Q' = (rl (rl (rf Q 2 ((Q.1 2) + 1)) 6 ((Q.2.1 6) ||| 287948901175001088)) 7 ((Q.2.1 7) ||| 0)) ∧ r = 0)) else (if (rw_at J g (Q.1 2)) = 119 then (if (rw_at J g (Q.1 2)) = 119 then (Q' = (rl (rl (rf Q 2 ((Q.1 2) + 1)) 6 ((Q.2.1 6) ||| 287948901175001088)) 7 ((Q.2.1 7) ||| 576460745995190270)) ∧ r = 0) else (Q' = (rl (rl (rf Q 2 ((Q.1 2) + 1)) 6 ((Q.2.1 6) ||| 287948901175001088)) 7 ((Q.2.1 7) ||| 0)) ∧ r = 0)) else (if (zix 1 (rw_at J g (Q.1 2))) < 0 then (Q' = (rf (rf Q 2 ((Q.1 2) + 1)) 3 1) ∧ r = 0) else (∃ Q5 : QS, E_r_addItem J g (rf Q 2 ((Q.1 2) + 1)) (rw_at J g (Q.1 2)) Q5 0 ∧ (Q' = Q5 ∧ r = 0))))
set_option maxHeartbeats 4000000 in
set_option maxRecDepth 100000 in
theorem e_r_escapedItem (l : Launch) (G : PG) (Z : ZZ) (h : Nat) (q ad : Nat → Nat) (J : Nat) (g : Nat → Int32) (hO : gOK J g) (Q : QS)  (Q' : QS) (r : Int32) (hE : E_r_escapedItem J g Q Q' r) : CvZ l yX2_escapedItem (Cond.code yX2_escapedItem cX2_escapedItem 2 none :: aW) { frames := 4, cells := 0, slots := 0, locals := 96 } Z G (qW G h q ad J g Q) [.ref h] (fun (_ : Unit) => True) (fun (_ : Unit) => qW G h q ad J g Q') 0 0 := by
  refine ofBZ (y := yX2_escapedItem) (G := G) (cc := cX2_escapedItem) (maxL := 2) (ret := none) (Qc := fun A => va_Qv (fun (_ : Unit) => True) (oB G A (fun (_ : Unit) => qW G h q ad J g Q')) A) (by decide) rfl ?_
  intro p e s m below meth c A F hK hZ hA hP hD
  have hS : va_S A s.heap s.heap [] := va_S.rf
  have hx := F.1.1; have hb := F.1.2.1; have hml := F.1.2.2.1; have hts := F.1.2.2.2.2
  have hown : s.vm.findClass RX2 = some m.cls := F.1.2.2.2.1
  have hl := lv_entry ([.ref h]) (n := 2) (Nat.le_of_ble_eq_true rfl)
  rw [lg_entry_eq]
  generalize (lg_sl ([.ref h]) ++ List.replicate (2 - (lg_sl ([.ref h])).length) Slot.unset).toArray = ls at hl ⊢
  have hl : lv_has ls 2 [(0, .ref h)] := hl
  unfold E_r_escapedItem at hE
  refine lv_aload_n hx hb dX2_escapedItem_0 rfl (lv_at hl 0 rfl) ?_
  refine va_get (D := G.1) (ci := 2) (C := RX2) (T := TX2) (N := 10) hx hb hts inX2 hown hK.1 hP 0 qW_0 rfl 0 (by decide) (hts _ w_275) (fun _ h9 => h9) rF_0 dX2_escapedItem_1 ?_
  refine lv_aload_n hx hb dX2_escapedItem_4 rfl (lv_at hl 0 rfl) ?_
  refine va_get (D := G.1) (ci := 2) (C := RX2) (T := TX2) (N := 10) hx hb hts inX2 hown hK.1 hP 0 qW_0 rfl 2 (by decide) (hts _ w_277) (fun _ h9 => h9) rF_2 dX2_escapedItem_5 ?_
  refine kp_V (va_runV (As := [.int (Q.1 2)]) (rest := []) F.1 (v_row_at l G _ _ _ J g (Q.1 2) hO.1 (by decide) hO.2 _) (cwV 1 hts (aw_V w_335 w_336 w_337 w_3 w_338) rfl rfl rfl (by decide +kernel) ⟨by decide, by decide⟩) ⟨cS_blind, va_recv (q := (RX3, TX3, 2)) (ci := 3) (q0 := 0) hK.1 (qP_row hP) rfl rfl, cS_pre (qP_row hP) (qD_row hD) hK⟩ rfl rfl hl.1 rfl (lv_room (Nat.le_of_ble_eq_true rfl)) dX2_escapedItem_8 ⟨Nat.le_refl _, Nat.le_refl _⟩) (fun v9 hp => ?_)
  subst hp
  refine lv_istore_n hx hb dX2_escapedItem_11 rfl hl (by decide) rfl (fun ls hl => ?_)
  have hl : lv_has ls 2 [(1, .int (rw_at J g (Q.1 2))), (0, .ref h)] := hl
  refine lv_aload_n hx hb dX2_escapedItem_12 rfl (lv_at hl 1 rfl) ?_
  refine lv_dup hx hb dX2_escapedItem_13 rfl ?_
  refine va_get (D := G.1) (ci := 2) (C := RX2) (T := TX2) (N := 10) hx hb hts inX2 hown hK.1 hP 0 qW_0 rfl 2 (by decide) (hts _ w_277) (fun _ h9 => h9) rF_2 dX2_escapedItem_14 ?_
  refine lv_iconst (v := 1) hx hb dX2_escapedItem_17 (by decide) ?_
  refine lv_iadd hx hb dX2_escapedItem_18 ?_
  refine va_put (D := G.1) (ci := 2) (v := .int ((Q.1 2) + 1)) (ty := .int) (C := RX2) (T := TX2) (N := 10) hx hb hts inX2 tyX2 tyX2_ok nmX2 hown hK.1 hP hD hS 0 qW_0 rfl 2 (by decide) (hts _ w_277) (fun _ h9 => h9) rfl (by decide +kernel) rfl rfl rF_l2 dX2_escapedItem_19 (fun H locs hP hD hS => ?_)
  rw [qW_f2] at hP hD
  refine lv_iload_n hx hb dX2_escapedItem_22 rfl (lv_at hl 0 rfl) ?_
  refine lv_bipush (v := 100) hx hb dX2_escapedItem_23 (by decide) ?_
  refine lv_icmp_eq (tgt := 34) hx hb dX2_escapedItem_25 (by decide) (fun h1 => ?_) (fun h1 => ?_)
  ·
    rw [if_pos h1] at hE
    refine lv_aload_n hx hb dX2_escapedItem_34 rfl (lv_at hl 1 rfl) ?_
    refine lv_dup hx hb dX2_escapedItem_35 rfl ?_
    refine va_get (D := G.1) (ci := 2) (C := RX2) (T := TX2) (N := 10) hx hb hts inX2 hown hK.1 hP 0 qW_0 rfl 6 (by decide) (hts _ w_281) (fun _ h9 => h9) rF_6 dX2_escapedItem_36 ?_
    refine tp_l (Q.2.1 6) rfl ?_
    refine lv_ldc2 (v := 287948901175001088) hx hb hown (hts _ w_403) dX2_escapedItem_39 ?_
    refine lv_lor hx hb dX2_escapedItem_42 ?_
    refine va_put (D := G.1) (ci := 2) (v := .long ((Q.2.1 6) ||| 287948901175001088)) (ty := .long) (C := RX2) (T := TX2) (N := 10) hx hb hts inX2 tyX2 tyX2_ok nmX2 hown hK.1 hP hD hS 0 qW_0 rfl 6 (by decide) (hts _ w_281) (fun _ h9 => h9) rfl (by decide +kernel) rfl rfl rF_l6 dX2_escapedItem_43 (fun H locs hP hD hS => ?_)
    rw [qW_f6] at hP hD
    refine lv_aload_n hx hb dX2_escapedItem_46 rfl (lv_at hl 1 rfl) ?_
    refine lv_dup hx hb dX2_escapedItem_47 rfl ?_
    refine va_get (D := G.1) (ci := 2) (C := RX2) (T := TX2) (N := 10) hx hb hts inX2 hown hK.1 hP 0 qW_0 rfl 7 (by decide) (hts _ w_282) (fun _ h9 => h9) rF_7 dX2_escapedItem_48 ?_
    refine tp_l (Q.2.1 7) rfl ?_
    refine lv_iload_n hx hb dX2_escapedItem_51 rfl (lv_at hl 0 rfl) ?_
    refine lv_bipush (v := 119) hx hb dX2_escapedItem_52 (by decide) ?_
    refine lv_icmp_ne (tgt := 63) hx hb dX2_escapedItem_54 (by decide) (fun h2 => ?_) (fun h2 => ?_)
    ·
      rw [if_neg h2] at hE
      refine lv_lconst (v := 0) hx hb dX2_escapedItem_63 (by decide) ?_
      refine lv_lor hx hb dX2_escapedItem_64 ?_
      refine va_put (D := G.1) (ci := 2) (v := .long ((Q.2.1 7) ||| 0)) (ty := .long) (C := RX2) (T := TX2) (N := 10) hx hb hts inX2 tyX2 tyX2_ok nmX2 hown hK.1 hP hD hS 0 qW_0 rfl 7 (by decide) (hts _ w_282) (fun _ h9 => h9) rfl (by decide +kernel) rfl rfl rF_l7 dX2_escapedItem_65 (fun H locs hP hD hS => ?_)
      rw [qW_f7] at hP hD
      refine lv_goto (tgt := 93) hx hb dX2_escapedItem_68 (by decide) ?_
      obtain ⟨rfl, rfl⟩ := hE
      exact en_v F hS () trivial hP hD (Nat.le_refl _) (Nat.le_refl _) dX2_escapedItem_93
    ·
      rw [if_pos h2] at hE
      refine lv_ldc2 (v := 576460745995190270) hx hb hown (hts _ w_404) dX2_escapedItem_57 ?_
      refine lv_goto (tgt := 64) hx hb dX2_escapedItem_60 (by decide) ?_
      refine lv_lor hx hb dX2_escapedItem_64 ?_
      refine va_put (D := G.1) (ci := 2) (v := .long ((Q.2.1 7) ||| 576460745995190270)) (ty := .long) (C := RX2) (T := TX2) (N := 10) hx hb hts inX2 tyX2 tyX2_ok nmX2 hown hK.1 hP hD hS 0 qW_0 rfl 7 (by decide) (hts _ w_282) (fun _ h9 => h9) rfl (by decide +kernel) rfl rfl rF_l7 dX2_escapedItem_65 (fun H locs hP hD hS => ?_)
      rw [qW_f7] at hP hD
      refine lv_goto (tgt := 93) hx hb dX2_escapedItem_68 (by decide) ?_
      obtain ⟨rfl, rfl⟩ := hE
      exact en_v F hS () trivial hP hD (Nat.le_refl _) (Nat.le_refl _) dX2_escapedItem_93
  ·
    rw [if_neg h1] at hE
    refine lv_iload_n hx hb dX2_escapedItem_28 rfl (lv_at hl 0 rfl) ?_
    refine lv_bipush (v := 119) hx hb dX2_escapedItem_29 (by decide) ?_
    refine lv_icmp_ne (tgt := 71) hx hb dX2_escapedItem_31 (by decide) (fun h3 => ?_) (fun h3 => ?_)
    ·
      rw [if_neg h3] at hE
      refine va_ldcS hx hb hown hZ.2.2.2 dX2_escapedItem_71 ?_
      refine lv_iload_n hx hb dX2_escapedItem_73 rfl (lv_at hl 0 rfl) ?_
      refine kp_V (va_runV (As := [.int (rw_at J g (Q.1 2))]) (rest := []) F.1 (e_ix l G Z 1 (by decide) (rw_at J g (Q.1 2)) _) (cwV 1 hts (aw_V w_406 w_407 w_408 w_8 w_409) rfl rfl rfl (by decide +kernel) ⟨by decide, by decide⟩) ⟨zS_blind, vk_recv (i := 1) hZ.1 (by decide) hS, zS_pre va_P0 (va_D0 (A := A)) hK hZ hS (kA_F va_D0 hS hA)⟩ rfl rfl hl.1 rfl (lv_room (Nat.le_of_ble_eq_true rfl)) dX2_escapedItem_74 ⟨Nat.le_refl _, Nat.le_refl _⟩) (fun v9 hp => ?_)
      subst hp
      refine lv_if_lt (tgt := 88) hx hb dX2_escapedItem_77 (by decide) (fun h4 => ?_) (fun h4 => ?_)
      ·
        rw [if_pos h4] at hE
        refine lv_aload_n hx hb dX2_escapedItem_88 rfl (lv_at hl 1 rfl) ?_
        refine lv_iconst (v := 1) hx hb dX2_escapedItem_89 (by decide) ?_
        refine va_put (D := G.1) (ci := 2) (v := .int 1) (ty := .boolean) (C := RX2) (T := TX2) (N := 10) hx hb hts inX2 tyX2 tyX2_ok nmX2 hown hK.1 hP hD hS 0 qW_0 rfl 3 (by decide) (hts _ w_278) (fun _ h9 => h9) rfl (by decide +kernel) rfl rfl rF_l3 dX2_escapedItem_90 (fun H locs hP hD hS => ?_)
        rw [qW_f3] at hP hD
        obtain ⟨rfl, rfl⟩ := hE
        exact en_v F hS () trivial hP hD (Nat.le_refl _) (Nat.le_refl _) dX2_escapedItem_93
      ·
        rw [if_neg h4] at hE
        refine lv_aload_n hx hb dX2_escapedItem_80 rfl (lv_at hl 1 rfl) ?_
        refine lv_iload_n hx hb dX2_escapedItem_81 rfl (lv_at hl 0 rfl) ?_
        obtain ⟨Q5, hg, hE⟩ := hE
        refine kA_v (va_runV (As := [.int (rw_at J g (Q.1 2))]) (rest := []) F.1 (e_r_addItem l G h q ad J g hO (rf Q 2 ((Q.1 2) + 1)) (rw_at J g (Q.1 2)) Q5 0 hg _) (cwV 1 hts (aw_V w_492 w_494 ws_X2_addItem w_7 w_495) rfl rfl rfl (by decide +kernel) ⟨by decide, by decide⟩) ⟨cS_blind, va_recv (q := (RX2, TX2, 10)) (ci := 2) (q0 := 0) hK.1 hP rfl qW_0, cS_pre hP hD hK⟩ rfl rfl hl.1 rfl (lv_room (Nat.le_of_ble_eq_true rfl)) dX2_escapedItem_82 ⟨Nat.le_refl _, Nat.le_refl _⟩) hD hS hA (fun u0 H locs hp hP hD hS => ?_)
        refine lv_goto (tgt := 93) hx hb dX2_escapedItem_85 (by decide) ?_
        obtain ⟨rfl, rfl⟩ := hE
        exact en_v F hS () trivial hP hD (Nat.le_refl _) (Nat.le_refl _) dX2_escapedItem_93
    ·
      rw [if_pos h3] at hE
      refine lv_aload_n hx hb dX2_escapedItem_34 rfl (lv_at hl 1 rfl) ?_
      refine lv_dup hx hb dX2_escapedItem_35 rfl ?_
      refine va_get (D := G.1) (ci := 2) (C := RX2) (T := TX2) (N := 10) hx hb hts inX2 hown hK.1 hP 0 qW_0 rfl 6 (by decide) (hts _ w_281) (fun _ h9 => h9) rF_6 dX2_escapedItem_36 ?_
      refine tp_l (Q.2.1 6) rfl ?_
      refine lv_ldc2 (v := 287948901175001088) hx hb hown (hts _ w_403) dX2_escapedItem_39 ?_
      refine lv_lor hx hb dX2_escapedItem_42 ?_
      refine va_put (D := G.1) (ci := 2) (v := .long ((Q.2.1 6) ||| 287948901175001088)) (ty := .long) (C := RX2) (T := TX2) (N := 10) hx hb hts inX2 tyX2 tyX2_ok nmX2 hown hK.1 hP hD hS 0 qW_0 rfl 6 (by decide) (hts _ w_281) (fun _ h9 => h9) rfl (by decide +kernel) rfl rfl rF_l6 dX2_escapedItem_43 (fun H locs hP hD hS => ?_)
      rw [qW_f6] at hP hD
      refine lv_aload_n hx hb dX2_escapedItem_46 rfl (lv_at hl 1 rfl) ?_
      refine lv_dup hx hb dX2_escapedItem_47 rfl ?_
      refine va_get (D := G.1) (ci := 2) (C := RX2) (T := TX2) (N := 10) hx hb hts inX2 hown hK.1 hP 0 qW_0 rfl 7 (by decide) (hts _ w_282) (fun _ h9 => h9) rF_7 dX2_escapedItem_48 ?_
      refine tp_l (Q.2.1 7) rfl ?_
      refine lv_iload_n hx hb dX2_escapedItem_51 rfl (lv_at hl 0 rfl) ?_
      refine lv_bipush (v := 119) hx hb dX2_escapedItem_52 (by decide) ?_
      refine lv_icmp_ne (tgt := 63) hx hb dX2_escapedItem_54 (by decide) (fun h7 => ?_) (fun h7 => ?_)
      ·
        rw [if_neg h7] at hE
        refine lv_lconst (v := 0) hx hb dX2_escapedItem_63 (by decide) ?_
        refine lv_lor hx hb dX2_escapedItem_64 ?_
        refine va_put (D := G.1) (ci := 2) (v := .long ((Q.2.1 7) ||| 0)) (ty := .long) (C := RX2) (T := TX2) (N := 10) hx hb hts inX2 tyX2 tyX2_ok nmX2 hown hK.1 hP hD hS 0 qW_0 rfl 7 (by decide) (hts _ w_282) (fun _ h9 => h9) rfl (by decide +kernel) rfl rfl rF_l7 dX2_escapedItem_65 (fun H locs hP hD hS => ?_)
        rw [qW_f7] at hP hD
        refine lv_goto (tgt := 93) hx hb dX2_escapedItem_68 (by decide) ?_
        obtain ⟨rfl, rfl⟩ := hE
        exact en_v F hS () trivial hP hD (Nat.le_refl _) (Nat.le_refl _) dX2_escapedItem_93
      ·
        rw [if_pos h7] at hE
        refine lv_ldc2 (v := 576460745995190270) hx hb hown (hts _ w_404) dX2_escapedItem_57 ?_
        refine lv_goto (tgt := 64) hx hb dX2_escapedItem_60 (by decide) ?_
        refine lv_lor hx hb dX2_escapedItem_64 ?_
        refine va_put (D := G.1) (ci := 2) (v := .long ((Q.2.1 7) ||| 576460745995190270)) (ty := .long) (C := RX2) (T := TX2) (N := 10) hx hb hts inX2 tyX2 tyX2_ok nmX2 hown hK.1 hP hD hS 0 qW_0 rfl 7 (by decide) (hts _ w_282) (fun _ h9 => h9) rfl (by decide +kernel) rfl rfl rF_l7 dX2_escapedItem_65 (fun H locs hP hD hS => ?_)
        rw [qW_f7] at hP hD
        refine lv_goto (tgt := 93) hx hb dX2_escapedItem_68 (by decide) ?_
        obtain ⟨rfl, rfl⟩ := hE
        exact en_v F hS () trivial hP hD (Nat.le_refl _) (Nat.le_refl _) dX2_escapedItem_93

theorem dX2_item_0 : decode cX2_item 0 = .ok (.aload_n 0, 1) := by decide +kernel
theorem dX2_item_1 : decode cX2_item 1 = .ok (.getfield 9, 3) := by decide +kernel
theorem dX2_item_4 : decode cX2_item 4 = .ok (.aload_n 0, 1) := by decide +kernel
theorem dX2_item_5 : decode cX2_item 5 = .ok (.getfield 40, 3) := by decide +kernel
theorem dX2_item_8 : decode cX2_item 8 = .ok (.invokevirtual 52, 3) := by decide +kernel
theorem dX2_item_11 : decode cX2_item 11 = .ok (.istore_n 1, 1) := by decide +kernel
theorem dX2_item_12 : decode cX2_item 12 = .ok (.aload_n 0, 1) := by decide +kernel
theorem dX2_item_13 : decode cX2_item 13 = .ok (.dup, 1) := by decide +kernel
theorem dX2_item_14 : decode cX2_item 14 = .ok (.getfield 40, 3) := by decide +kernel
theorem dX2_item_17 : decode cX2_item 17 = .ok (.iconst 1, 1) := by decide +kernel
theorem dX2_item_18 : decode cX2_item 18 = .ok (.iadd, 1) := by decide +kernel
theorem dX2_item_19 : decode cX2_item 19 = .ok (.putfield 40, 3) := by decide +kernel
theorem dX2_item_22 : decode cX2_item 22 = .ok (.iload_n 1, 1) := by decide +kernel
theorem dX2_item_23 : decode cX2_item 23 = .ok (.bipush 92, 2) := by decide +kernel
theorem dX2_item_25 : decode cX2_item 25 = .ok (.if_icmp .ne 8, 3) := by decide +kernel
theorem dX2_item_28 : decode cX2_item 28 = .ok (.aload_n 0, 1) := by decide +kernel
theorem dX2_item_29 : decode cX2_item 29 = .ok (.invokevirtual 177, 3) := by decide +kernel
theorem dX2_item_32 : decode cX2_item 32 = .ok (.return_, 1) := by decide +kernel
theorem dX2_item_33 : decode cX2_item 33 = .ok (.iload_n 1, 1) := by decide +kernel
theorem dX2_item_34 : decode cX2_item 34 = .ok (.istore_n 2, 1) := by decide +kernel
theorem dX2_item_35 : decode cX2_item 35 = .ok (.aload_n 0, 1) := by decide +kernel
theorem dX2_item_36 : decode cX2_item 36 = .ok (.bipush 45, 2) := by decide +kernel
theorem dX2_item_38 : decode cX2_item 38 = .ok (.invokevirtual 94, 3) := by decide +kernel
theorem dX2_item_41 : decode cX2_item 41 = .ok (.ifCond .eq 25, 3) := by decide +kernel
theorem dX2_item_44 : decode cX2_item 44 = .ok (.aload_n 0, 1) := by decide +kernel
theorem dX2_item_45 : decode cX2_item 45 = .ok (.getfield 9, 3) := by decide +kernel
theorem dX2_item_48 : decode cX2_item 48 = .ok (.aload_n 0, 1) := by decide +kernel
theorem dX2_item_49 : decode cX2_item 49 = .ok (.getfield 40, 3) := by decide +kernel
theorem dX2_item_52 : decode cX2_item 52 = .ok (.invokevirtual 52, 3) := by decide +kernel
theorem dX2_item_55 : decode cX2_item 55 = .ok (.istore_n 2, 1) := by decide +kernel
theorem dX2_item_56 : decode cX2_item 56 = .ok (.aload_n 0, 1) := by decide +kernel
theorem dX2_item_57 : decode cX2_item 57 = .ok (.dup, 1) := by decide +kernel
theorem dX2_item_58 : decode cX2_item 58 = .ok (.getfield 40, 3) := by decide +kernel
theorem dX2_item_61 : decode cX2_item 61 = .ok (.iconst 1, 1) := by decide +kernel
theorem dX2_item_62 : decode cX2_item 62 = .ok (.iadd, 1) := by decide +kernel
theorem dX2_item_63 : decode cX2_item 63 = .ok (.putfield 40, 3) := by decide +kernel
theorem dX2_item_66 : decode cX2_item 66 = .ok (.iload_n 1, 1) := by decide +kernel
theorem dX2_item_67 : decode cX2_item 67 = .ok (.invokestatic 180, 3) := by decide +kernel
theorem dX2_item_70 : decode cX2_item 70 = .ok (.ifCond .eq 15, 3) := by decide +kernel
theorem dX2_item_73 : decode cX2_item 73 = .ok (.iload_n 2, 1) := by decide +kernel
theorem dX2_item_74 : decode cX2_item 74 = .ok (.invokestatic 180, 3) := by decide +kernel
theorem dX2_item_77 : decode cX2_item 77 = .ok (.ifCond .eq 8, 3) := by decide +kernel
theorem dX2_item_80 : decode cX2_item 80 = .ok (.iload_n 2, 1) := by decide +kernel
theorem dX2_item_81 : decode cX2_item 81 = .ok (.iload_n 1, 1) := by decide +kernel
theorem dX2_item_82 : decode cX2_item 82 = .ok (.if_icmp .ge 9, 3) := by decide +kernel
theorem dX2_item_85 : decode cX2_item 85 = .ok (.aload_n 0, 1) := by decide +kernel
theorem dX2_item_86 : decode cX2_item 86 = .ok (.iconst 1, 1) := by decide +kernel
theorem dX2_item_87 : decode cX2_item 87 = .ok (.putfield 36, 3) := by decide +kernel
theorem dX2_item_90 : decode cX2_item 90 = .ok (.return_, 1) := by decide +kernel
theorem dX2_item_91 : decode cX2_item 91 = .ok (.iload_n 1, 1) := by decide +kernel
theorem dX2_item_92 : decode cX2_item 92 = .ok (.istore_n 3, 1) := by decide +kernel
theorem dX2_item_93 : decode cX2_item 93 = .ok (.iload_n 3, 1) := by decide +kernel
theorem dX2_item_94 : decode cX2_item 94 = .ok (.iload_n 2, 1) := by decide +kernel
theorem dX2_item_95 : decode cX2_item 95 = .ok (.if_icmp .gt 14, 3) := by decide +kernel
theorem dX2_item_98 : decode cX2_item 98 = .ok (.aload_n 0, 1) := by decide +kernel
theorem dX2_item_99 : decode cX2_item 99 = .ok (.iload_n 3, 1) := by decide +kernel
theorem dX2_item_100 : decode cX2_item 100 = .ok (.invokevirtual 183, 3) := by decide +kernel
theorem dX2_item_103 : decode cX2_item 103 = .ok (.iinc 3 1, 3) := by decide +kernel
theorem dX2_item_106 : decode cX2_item 106 = .ok (.goto (-13), 3) := by decide +kernel
theorem dX2_item_109 : decode cX2_item 109 = .ok (.return_, 1) := by decide +kernel
def L_r_item_93 (J : Nat) (g : Nat → Int32) : Nat → QS → Int32 → Int32 → Int32 → QS → Int32 → Prop
  | 0, _, _, _, _, _, _ => False
  | nf + 1, Q, x1, x2, x3, Q', r => if x2 < x3 then (Q' = Q ∧ r = 0) else (∃ Q22 : QS, E_r_addItem J g Q x3 Q22 0 ∧ (L_r_item_93 J g nf Q22 x1 x2 (x3 + 1) Q' r))
set_option maxHeartbeats 4000000 in
set_option maxRecDepth 100000 in
theorem L_r_item_93_ok {l : Launch} {G : PG} {Z : ZZ} {h : Nat} {q ad : Nat → Nat} {J : Nat} {g : Nat → Int32} (hO : gOK J g) {Q' : QS} {r : Int32} {p : Program} {e : Env} {s : State} {m : MethodId} {below : List Frame} {meth : Method} {c : Code} {A : Nat → Prop} (F : bF p s m meth c cX2_item 4 none ([.ref h] : List Value).toArray yX2_item) (hK : pg_K G s) (hA : ∀ q, s.heap.size ≤ q → A q) (hZ : zF Z A s s.heap) : ∀ (nf : Nat) (Q : QS) (x1 : Int32) (x2 : Int32) (x3 : Int32) (H : Heap) (locs : List Loc) (ls : Array Slot), lv_has ls 4 [(3, .int x3), (2, .int x2), (1, .int x1), (0, .ref h)] → L_r_item_93 J g nf Q x1 x2 x3 Q' r → va_P G.1 vwCl (qW G h q ad J g Q) H → va_D A (qW G h q ad J g Q) → va_S A s.heap H locs → W p l e { frames := 5, cells := 0, slots := 0, locals := 117 } s m ([.ref h] : List Value).toArray below meth c H locs 0 0 (MQ below (va_Qv (fun (_ : Unit) => True) (oB G A (fun (_ : Unit) => qW G h q ad J g Q')) A) ([.ref h] : List Value).toArray s 0 0 A) (F0 m 93 ls []) := by
  have hx := F.1.1; have hb := F.1.2.1; have hml := F.1.2.2.1; have hts := F.1.2.2.2.2
  have hown : s.vm.findClass RX2 = some m.cls := F.1.2.2.2.1
  intro nf
  induction nf with
  | zero => intro Q x1 x2 x3 H locs ls hl hE; exact hE.elim
  | succ nf ih =>
    intro Q x1 x2 x3 H locs ls hl hE hP hD hS
    unfold L_r_item_93 at hE
    refine lv_iload_n hx hb dX2_item_93 rfl (lv_at hl 0 rfl) ?_
    refine lv_iload_n hx hb dX2_item_94 rfl (lv_at hl 1 rfl) ?_
    refine lv_icmp_gt (tgt := 109) hx hb dX2_item_95 (by decide) (fun h21 => ?_) (fun h21 => ?_)
    ·
      rw [if_pos h21] at hE
      obtain ⟨rfl, rfl⟩ := hE
      exact en_v F hS () trivial hP hD (Nat.le_refl _) (Nat.le_refl _) dX2_item_109
    ·
      rw [if_neg h21] at hE
      refine lv_aload_n hx hb dX2_item_98 rfl (lv_at hl 3 rfl) ?_
      refine lv_iload_n hx hb dX2_item_99 rfl (lv_at hl 0 rfl) ?_
      obtain ⟨Q22, hg, hE⟩ := hE
      refine kA_v (va_runV (As := [.int x3]) (rest := []) F.1 (e_r_addItem l G h q ad J g hO Q x3 Q22 0 hg _) (cwV 1 hts (aw_V w_492 w_494 ws_X2_addItem w_7 w_495) rfl rfl rfl (by decide +kernel) ⟨by decide, by decide⟩) ⟨cS_blind, va_recv (q := (RX2, TX2, 10)) (ci := 2) (q0 := 0) hK.1 hP rfl qW_0, cS_pre hP hD hK⟩ rfl rfl hl.1 rfl (lv_room (Nat.le_of_ble_eq_true rfl)) dX2_item_100 ⟨Nat.le_refl _, Nat.le_refl _⟩) hD hS hA (fun u0 H locs hp hP hD hS => ?_)
      refine lv_iinc (v := (x3 + 1)) (k := 0) hx hb dX2_item_103 hl rfl rfl (by decide) rfl (fun ls hl => ?_)
      have hl : lv_has ls 4 [(3, .int (x3 + 1)), (2, .int x2), (1, .int x1), (0, .ref h)] := hl
      refine lv_goto (tgt := 93) hx hb dX2_item_106 (by decide) ?_
      exact ih Q22 x1 x2 (x3 + 1) _ _ ls (lv_sub hl [0, 1, 2, 3] rfl) hE hP hD hS
def E_r_item (J : Nat) (g : Nat → Int32) (Q : QS)  (Q' : QS) (r : Int32) : Prop := if (rw_at J g (Q.1 2)) = 92 then (∃ Q19 : QS, E_r_escapedItem J g (rf Q 2 ((Q.1 2) + 1)) Q19 0 ∧ (Q' = Q19 ∧ r = 0)) else (∃ (Q2 : QS) (r3 : Int32), E_r_take J g (rf Q 2 ((Q.1 2) + 1)) 45 Q2 r3 ∧ (if r3 = 0 then (∃ (Q5 : QS) (r6 : Int32), E_r_isItem J g Q2 (rw_at J g (Q.1 2)) Q5 r6 ∧ (if r6 = 0 then (Q' = (rf Q5 3 1) ∧ r = 0) else (∃ (Q8 : QS) (r9 : Int32), E_r_isItem J g Q5 (rw_at J g (Q.1 2)) Q8 r9 ∧ (if r9 = 0 then (Q' = (rf Q8 3 1) ∧ r = 0) else (if (rw_at J g (Q.1 2)) ≤ (rw_at J g (Q.1 2)) then (∃ nf : Nat, L_r_item_93 J g nf Q8 (rw_at J g (Q.1 2)) (rw_at J g (Q.1 2)) (rw_at J g (Q.1 2)) Q' r) else (Q' = (rf Q8 3 1) ∧ r = 0)))))) else (∃ (Q12 : QS) (r13 : Int32), E_r_isItem J g (rf Q2 2 ((Q2.1 2) + 1)) (rw_at J g (Q.1 2)) Q12 r13 ∧ (if r13 = 0 then (Q' = (rf Q12 3 1) ∧ r = 0) else (∃ (Q15 : QS) (r16 : Int32), E_r_isItem J g Q12 (rw_at J g (Q2.1 2)) Q15 r16 ∧ (if r16 = 0 then (Q' = (rf Q15 3 1) ∧ r = 0) else (if (rw_at J g (Q.1 2)) ≤ (rw_at J g (Q2.1 2)) then (∃ nf : Nat, L_r_item_93 J g nf Q15 (rw_at J g (Q.1 2)) (rw_at J g (Q2.1 2)) (rw_at J g (Q.1 2)) Q' r) else (Q' = (rf Q15 3 1) ∧ r = 0))))))))
set_option maxHeartbeats 4000000 in
set_option maxRecDepth 100000 in
theorem e_r_item (l : Launch) (G : PG) (Z : ZZ) (h : Nat) (q ad : Nat → Nat) (J : Nat) (g : Nat → Int32) (hO : gOK J g) (Q : QS)  (Q' : QS) (r : Int32) (hE : E_r_item J g Q Q' r) : CvZ l yX2_item (Cond.code yX2_item cX2_item 4 none :: aW) { frames := 5, cells := 0, slots := 0, locals := 117 } Z G (qW G h q ad J g Q) [.ref h] (fun (_ : Unit) => True) (fun (_ : Unit) => qW G h q ad J g Q') 0 0 := by
  refine ofBZ (y := yX2_item) (G := G) (cc := cX2_item) (maxL := 4) (ret := none) (Qc := fun A => va_Qv (fun (_ : Unit) => True) (oB G A (fun (_ : Unit) => qW G h q ad J g Q')) A) (by decide) rfl ?_
  intro p e s m below meth c A F hK hZ hA hP hD
  have hS : va_S A s.heap s.heap [] := va_S.rf
  have hx := F.1.1; have hb := F.1.2.1; have hml := F.1.2.2.1; have hts := F.1.2.2.2.2
  have hown : s.vm.findClass RX2 = some m.cls := F.1.2.2.2.1
  have hl := lv_entry ([.ref h]) (n := 4) (Nat.le_of_ble_eq_true rfl)
  rw [lg_entry_eq]
  generalize (lg_sl ([.ref h]) ++ List.replicate (4 - (lg_sl ([.ref h])).length) Slot.unset).toArray = ls at hl ⊢
  have hl : lv_has ls 4 [(0, .ref h)] := hl
  unfold E_r_item at hE
  refine lv_aload_n hx hb dX2_item_0 rfl (lv_at hl 0 rfl) ?_
  refine va_get (D := G.1) (ci := 2) (C := RX2) (T := TX2) (N := 10) hx hb hts inX2 hown hK.1 hP 0 qW_0 rfl 0 (by decide) (hts _ w_275) (fun _ h9 => h9) rF_0 dX2_item_1 ?_
  refine lv_aload_n hx hb dX2_item_4 rfl (lv_at hl 0 rfl) ?_
  refine va_get (D := G.1) (ci := 2) (C := RX2) (T := TX2) (N := 10) hx hb hts inX2 hown hK.1 hP 0 qW_0 rfl 2 (by decide) (hts _ w_277) (fun _ h9 => h9) rF_2 dX2_item_5 ?_
  refine kp_V (va_runV (As := [.int (Q.1 2)]) (rest := []) F.1 (v_row_at l G _ _ _ J g (Q.1 2) hO.1 (by decide) hO.2 _) (cwV 1 hts (aw_V w_335 w_336 w_337 w_3 w_338) rfl rfl rfl (by decide +kernel) ⟨by decide, by decide⟩) ⟨cS_blind, va_recv (q := (RX3, TX3, 2)) (ci := 3) (q0 := 0) hK.1 (qP_row hP) rfl rfl, cS_pre (qP_row hP) (qD_row hD) hK⟩ rfl rfl hl.1 rfl (lv_room (Nat.le_of_ble_eq_true rfl)) dX2_item_8 ⟨Nat.le_refl _, Nat.le_refl _⟩) (fun v9 hp => ?_)
  subst hp
  refine lv_istore_n hx hb dX2_item_11 rfl hl (by decide) rfl (fun ls hl => ?_)
  have hl : lv_has ls 4 [(1, .int (rw_at J g (Q.1 2))), (0, .ref h)] := hl
  refine lv_aload_n hx hb dX2_item_12 rfl (lv_at hl 1 rfl) ?_
  refine lv_dup hx hb dX2_item_13 rfl ?_
  refine va_get (D := G.1) (ci := 2) (C := RX2) (T := TX2) (N := 10) hx hb hts inX2 hown hK.1 hP 0 qW_0 rfl 2 (by decide) (hts _ w_277) (fun _ h9 => h9) rF_2 dX2_item_14 ?_
  refine lv_iconst (v := 1) hx hb dX2_item_17 (by decide) ?_
  refine lv_iadd hx hb dX2_item_18 ?_
  refine va_put (D := G.1) (ci := 2) (v := .int ((Q.1 2) + 1)) (ty := .int) (C := RX2) (T := TX2) (N := 10) hx hb hts inX2 tyX2 tyX2_ok nmX2 hown hK.1 hP hD hS 0 qW_0 rfl 2 (by decide) (hts _ w_277) (fun _ h9 => h9) rfl (by decide +kernel) rfl rfl rF_l2 dX2_item_19 (fun H locs hP hD hS => ?_)
  rw [qW_f2] at hP hD
  refine lv_iload_n hx hb dX2_item_22 rfl (lv_at hl 0 rfl) ?_
  refine lv_bipush (v := 92) hx hb dX2_item_23 (by decide) ?_
  refine lv_icmp_ne (tgt := 33) hx hb dX2_item_25 (by decide) (fun h1 => ?_) (fun h1 => ?_)
  ·
    rw [if_neg h1] at hE
    refine lv_iload_n hx hb dX2_item_33 rfl (lv_at hl 0 rfl) ?_
    refine lv_istore_n hx hb dX2_item_34 rfl hl (by decide) rfl (fun ls hl => ?_)
    have hl : lv_has ls 4 [(2, .int (rw_at J g (Q.1 2))), (1, .int (rw_at J g (Q.1 2))), (0, .ref h)] := hl
    refine lv_aload_n hx hb dX2_item_35 rfl (lv_at hl 2 rfl) ?_
    refine lv_bipush (v := 45) hx hb dX2_item_36 (by decide) ?_
    obtain ⟨Q2, r3, hg, hE⟩ := hE
    refine kA_i (va_runV (As := [.int 45]) (rest := []) F.1 (e_r_take l G h q ad J g hO (rf Q 2 ((Q.1 2) + 1)) 45 Q2 r3 hg _) (cwV 1 hts (aw_V w_359 w_361 ws_X2_take w_7 w_362) rfl rfl rfl (by decide +kernel) ⟨by decide, by decide⟩) ⟨cS_blind, va_recv (q := (RX2, TX2, 10)) (ci := 2) (q0 := 0) hK.1 hP rfl qW_0, cS_pre hP hD hK⟩ rfl rfl hl.1 rfl (lv_room (Nat.le_of_ble_eq_true rfl)) dX2_item_38 ⟨Nat.le_refl _, Nat.le_refl _⟩) hD hS hA (fun r9 u0 H locs hp hP hD hS => ?_)
    have hp := hp.symm; subst hp
    refine lv_if_eq (tgt := 66) hx hb dX2_item_41 (by decide) (fun h4 => ?_) (fun h4 => ?_)
    ·
      rw [if_pos h4] at hE
      refine lv_iload_n hx hb dX2_item_66 rfl (lv_at hl 1 rfl) ?_
      obtain ⟨Q5, r6, hg, hE⟩ := hE
      refine kA_i (va_runS (As := [.int (rw_at J g (Q.1 2))]) (rest := []) F.1 (e_r_isItem l G Z h q ad J g hO Q2 (rw_at J g (Q.1 2)) Q5 r6 hg _) (va_cwS 1 hts (aw_S w_496 w_497 w_7 w_498) rfl rfl rfl (by decide +kernel) ⟨by decide, by decide⟩) ⟨zS_blind, zS_pre hP hD hK hZ hS (kA_F hD hS hA)⟩ rfl rfl hl.1 rfl (lv_room (Nat.le_of_ble_eq_true rfl)) dX2_item_67 ⟨Nat.le_refl _, Nat.le_refl _⟩) hD hS hA (fun r9 u0 H locs hp hP hD hS => ?_)
      have hp := hp.symm; subst hp
      refine lv_if_eq (tgt := 85) hx hb dX2_item_70 (by decide) (fun h7 => ?_) (fun h7 => ?_)
      ·
        rw [if_pos h7] at hE
        refine lv_aload_n hx hb dX2_item_85 rfl (lv_at hl 2 rfl) ?_
        refine lv_iconst (v := 1) hx hb dX2_item_86 (by decide) ?_
        refine va_put (D := G.1) (ci := 2) (v := .int 1) (ty := .boolean) (C := RX2) (T := TX2) (N := 10) hx hb hts inX2 tyX2 tyX2_ok nmX2 hown hK.1 hP hD hS 0 qW_0 rfl 3 (by decide) (hts _ w_278) (fun _ h9 => h9) rfl (by decide +kernel) rfl rfl rF_l3 dX2_item_87 (fun H locs hP hD hS => ?_)
        rw [qW_f3] at hP hD
        obtain ⟨rfl, rfl⟩ := hE
        exact en_v F hS () trivial hP hD (Nat.le_refl _) (Nat.le_refl _) dX2_item_90
      ·
        rw [if_neg h7] at hE
        refine lv_iload_n hx hb dX2_item_73 rfl (lv_at hl 0 rfl) ?_
        obtain ⟨Q8, r9, hg, hE⟩ := hE
        refine kA_i (va_runS (As := [.int (rw_at J g (Q.1 2))]) (rest := []) F.1 (e_r_isItem l G Z h q ad J g hO Q5 (rw_at J g (Q.1 2)) Q8 r9 hg _) (va_cwS 1 hts (aw_S w_496 w_497 w_7 w_498) rfl rfl rfl (by decide +kernel) ⟨by decide, by decide⟩) ⟨zS_blind, zS_pre hP hD hK hZ hS (kA_F hD hS hA)⟩ rfl rfl hl.1 rfl (lv_room (Nat.le_of_ble_eq_true rfl)) dX2_item_74 ⟨Nat.le_refl _, Nat.le_refl _⟩) hD hS hA (fun r9 u0 H locs hp hP hD hS => ?_)
        have hp := hp.symm; subst hp
        refine lv_if_eq (tgt := 85) hx hb dX2_item_77 (by decide) (fun h10 => ?_) (fun h10 => ?_)
        ·
          rw [if_pos h10] at hE
          refine lv_aload_n hx hb dX2_item_85 rfl (lv_at hl 2 rfl) ?_
          refine lv_iconst (v := 1) hx hb dX2_item_86 (by decide) ?_
          refine va_put (D := G.1) (ci := 2) (v := .int 1) (ty := .boolean) (C := RX2) (T := TX2) (N := 10) hx hb hts inX2 tyX2 tyX2_ok nmX2 hown hK.1 hP hD hS 0 qW_0 rfl 3 (by decide) (hts _ w_278) (fun _ h9 => h9) rfl (by decide +kernel) rfl rfl rF_l3 dX2_item_87 (fun H locs hP hD hS => ?_)
          rw [qW_f3] at hP hD
          obtain ⟨rfl, rfl⟩ := hE
          exact en_v F hS () trivial hP hD (Nat.le_refl _) (Nat.le_refl _) dX2_item_90
        ·
          rw [if_neg h10] at hE
          refine lv_iload_n hx hb dX2_item_80 rfl (lv_at hl 0 rfl) ?_
          refine lv_iload_n hx hb dX2_item_81 rfl (lv_at hl 1 rfl) ?_
          refine lv_icmp_ge (tgt := 91) hx hb dX2_item_82 (by decide) (fun h11 => ?_) (fun h11 => ?_)
          ·
            rw [if_pos h11] at hE
            refine lv_iload_n hx hb dX2_item_91 rfl (lv_at hl 1 rfl) ?_
            refine lv_istore_n hx hb dX2_item_92 rfl hl (by decide) rfl (fun ls hl => ?_)
            have hl : lv_has ls 4 [(3, .int (rw_at J g (Q.1 2))), (2, .int (rw_at J g (Q.1 2))), (1, .int (rw_at J g (Q.1 2))), (0, .ref h)] := hl
            obtain ⟨nf, hE⟩ := hE
            exact L_r_item_93_ok hO F hK hA hZ nf Q8 (rw_at J g (Q.1 2)) (rw_at J g (Q.1 2)) (rw_at J g (Q.1 2)) _ _ ls (lv_sub hl [0, 1, 2, 3] rfl) hE hP hD hS
          ·
            rw [if_neg h11] at hE
            refine lv_aload_n hx hb dX2_item_85 rfl (lv_at hl 2 rfl) ?_
            refine lv_iconst (v := 1) hx hb dX2_item_86 (by decide) ?_
            refine va_put (D := G.1) (ci := 2) (v := .int 1) (ty := .boolean) (C := RX2) (T := TX2) (N := 10) hx hb hts inX2 tyX2 tyX2_ok nmX2 hown hK.1 hP hD hS 0 qW_0 rfl 3 (by decide) (hts _ w_278) (fun _ h9 => h9) rfl (by decide +kernel) rfl rfl rF_l3 dX2_item_87 (fun H locs hP hD hS => ?_)
            rw [qW_f3] at hP hD
            obtain ⟨rfl, rfl⟩ := hE
            exact en_v F hS () trivial hP hD (Nat.le_refl _) (Nat.le_refl _) dX2_item_90
    ·
      rw [if_neg h4] at hE
      refine lv_aload_n hx hb dX2_item_44 rfl (lv_at hl 2 rfl) ?_
      refine va_get (D := G.1) (ci := 2) (C := RX2) (T := TX2) (N := 10) hx hb hts inX2 hown hK.1 hP 0 qW_0 rfl 0 (by decide) (hts _ w_275) (fun _ h9 => h9) rF_0 dX2_item_45 ?_
      refine lv_aload_n hx hb dX2_item_48 rfl (lv_at hl 2 rfl) ?_
      refine va_get (D := G.1) (ci := 2) (C := RX2) (T := TX2) (N := 10) hx hb hts inX2 hown hK.1 hP 0 qW_0 rfl 2 (by decide) (hts _ w_277) (fun _ h9 => h9) rF_2 dX2_item_49 ?_
      refine kp_V (va_runV (As := [.int (Q2.1 2)]) (rest := []) F.1 (v_row_at l G _ _ _ J g (Q2.1 2) hO.1 (by decide) hO.2 _) (cwV 1 hts (aw_V w_335 w_336 w_337 w_3 w_338) rfl rfl rfl (by decide +kernel) ⟨by decide, by decide⟩) ⟨cS_blind, va_recv (q := (RX3, TX3, 2)) (ci := 3) (q0 := 0) hK.1 (qP_row hP) rfl rfl, cS_pre (qP_row hP) (qD_row hD) hK⟩ rfl rfl hl.1 rfl (lv_room (Nat.le_of_ble_eq_true rfl)) dX2_item_52 ⟨Nat.le_refl _, Nat.le_refl _⟩) (fun v9 hp => ?_)
      subst hp
      refine lv_istore_n hx hb dX2_item_55 rfl hl (by decide) rfl (fun ls hl => ?_)
      have hl : lv_has ls 4 [(2, .int (rw_at J g (Q2.1 2))), (1, .int (rw_at J g (Q.1 2))), (0, .ref h)] := hl
      refine lv_aload_n hx hb dX2_item_56 rfl (lv_at hl 2 rfl) ?_
      refine lv_dup hx hb dX2_item_57 rfl ?_
      refine va_get (D := G.1) (ci := 2) (C := RX2) (T := TX2) (N := 10) hx hb hts inX2 hown hK.1 hP 0 qW_0 rfl 2 (by decide) (hts _ w_277) (fun _ h9 => h9) rF_2 dX2_item_58 ?_
      refine lv_iconst (v := 1) hx hb dX2_item_61 (by decide) ?_
      refine lv_iadd hx hb dX2_item_62 ?_
      refine va_put (D := G.1) (ci := 2) (v := .int ((Q2.1 2) + 1)) (ty := .int) (C := RX2) (T := TX2) (N := 10) hx hb hts inX2 tyX2 tyX2_ok nmX2 hown hK.1 hP hD hS 0 qW_0 rfl 2 (by decide) (hts _ w_277) (fun _ h9 => h9) rfl (by decide +kernel) rfl rfl rF_l2 dX2_item_63 (fun H locs hP hD hS => ?_)
      rw [qW_f2] at hP hD
      refine lv_iload_n hx hb dX2_item_66 rfl (lv_at hl 1 rfl) ?_
      obtain ⟨Q12, r13, hg, hE⟩ := hE
      refine kA_i (va_runS (As := [.int (rw_at J g (Q.1 2))]) (rest := []) F.1 (e_r_isItem l G Z h q ad J g hO (rf Q2 2 ((Q2.1 2) + 1)) (rw_at J g (Q.1 2)) Q12 r13 hg _) (va_cwS 1 hts (aw_S w_496 w_497 w_7 w_498) rfl rfl rfl (by decide +kernel) ⟨by decide, by decide⟩) ⟨zS_blind, zS_pre hP hD hK hZ hS (kA_F hD hS hA)⟩ rfl rfl hl.1 rfl (lv_room (Nat.le_of_ble_eq_true rfl)) dX2_item_67 ⟨Nat.le_refl _, Nat.le_refl _⟩) hD hS hA (fun r9 u0 H locs hp hP hD hS => ?_)
      have hp := hp.symm; subst hp
      refine lv_if_eq (tgt := 85) hx hb dX2_item_70 (by decide) (fun h14 => ?_) (fun h14 => ?_)
      ·
        rw [if_pos h14] at hE
        refine lv_aload_n hx hb dX2_item_85 rfl (lv_at hl 2 rfl) ?_
        refine lv_iconst (v := 1) hx hb dX2_item_86 (by decide) ?_
        refine va_put (D := G.1) (ci := 2) (v := .int 1) (ty := .boolean) (C := RX2) (T := TX2) (N := 10) hx hb hts inX2 tyX2 tyX2_ok nmX2 hown hK.1 hP hD hS 0 qW_0 rfl 3 (by decide) (hts _ w_278) (fun _ h9 => h9) rfl (by decide +kernel) rfl rfl rF_l3 dX2_item_87 (fun H locs hP hD hS => ?_)
        rw [qW_f3] at hP hD
        obtain ⟨rfl, rfl⟩ := hE
        exact en_v F hS () trivial hP hD (Nat.le_refl _) (Nat.le_refl _) dX2_item_90
      ·
        rw [if_neg h14] at hE
        refine lv_iload_n hx hb dX2_item_73 rfl (lv_at hl 0 rfl) ?_
        obtain ⟨Q15, r16, hg, hE⟩ := hE
        refine kA_i (va_runS (As := [.int (rw_at J g (Q2.1 2))]) (rest := []) F.1 (e_r_isItem l G Z h q ad J g hO Q12 (rw_at J g (Q2.1 2)) Q15 r16 hg _) (va_cwS 1 hts (aw_S w_496 w_497 w_7 w_498) rfl rfl rfl (by decide +kernel) ⟨by decide, by decide⟩) ⟨zS_blind, zS_pre hP hD hK hZ hS (kA_F hD hS hA)⟩ rfl rfl hl.1 rfl (lv_room (Nat.le_of_ble_eq_true rfl)) dX2_item_74 ⟨Nat.le_refl _, Nat.le_refl _⟩) hD hS hA (fun r9 u0 H locs hp hP hD hS => ?_)
        have hp := hp.symm; subst hp
        refine lv_if_eq (tgt := 85) hx hb dX2_item_77 (by decide) (fun h17 => ?_) (fun h17 => ?_)
        ·
          rw [if_pos h17] at hE
          refine lv_aload_n hx hb dX2_item_85 rfl (lv_at hl 2 rfl) ?_
          refine lv_iconst (v := 1) hx hb dX2_item_86 (by decide) ?_
          refine va_put (D := G.1) (ci := 2) (v := .int 1) (ty := .boolean) (C := RX2) (T := TX2) (N := 10) hx hb hts inX2 tyX2 tyX2_ok nmX2 hown hK.1 hP hD hS 0 qW_0 rfl 3 (by decide) (hts _ w_278) (fun _ h9 => h9) rfl (by decide +kernel) rfl rfl rF_l3 dX2_item_87 (fun H locs hP hD hS => ?_)
          rw [qW_f3] at hP hD
          obtain ⟨rfl, rfl⟩ := hE
          exact en_v F hS () trivial hP hD (Nat.le_refl _) (Nat.le_refl _) dX2_item_90
        ·
          rw [if_neg h17] at hE
          refine lv_iload_n hx hb dX2_item_80 rfl (lv_at hl 0 rfl) ?_
          refine lv_iload_n hx hb dX2_item_81 rfl (lv_at hl 1 rfl) ?_
          refine lv_icmp_ge (tgt := 91) hx hb dX2_item_82 (by decide) (fun h18 => ?_) (fun h18 => ?_)
          ·
            rw [if_pos h18] at hE
            refine lv_iload_n hx hb dX2_item_91 rfl (lv_at hl 1 rfl) ?_
            refine lv_istore_n hx hb dX2_item_92 rfl hl (by decide) rfl (fun ls hl => ?_)
            have hl : lv_has ls 4 [(3, .int (rw_at J g (Q.1 2))), (2, .int (rw_at J g (Q2.1 2))), (1, .int (rw_at J g (Q.1 2))), (0, .ref h)] := hl
            obtain ⟨nf, hE⟩ := hE
            exact L_r_item_93_ok hO F hK hA hZ nf Q15 (rw_at J g (Q.1 2)) (rw_at J g (Q2.1 2)) (rw_at J g (Q.1 2)) _ _ ls (lv_sub hl [0, 1, 2, 3] rfl) hE hP hD hS
          ·
            rw [if_neg h18] at hE
            refine lv_aload_n hx hb dX2_item_85 rfl (lv_at hl 2 rfl) ?_
            refine lv_iconst (v := 1) hx hb dX2_item_86 (by decide) ?_
            refine va_put (D := G.1) (ci := 2) (v := .int 1) (ty := .boolean) (C := RX2) (T := TX2) (N := 10) hx hb hts inX2 tyX2 tyX2_ok nmX2 hown hK.1 hP hD hS 0 qW_0 rfl 3 (by decide) (hts _ w_278) (fun _ h9 => h9) rfl (by decide +kernel) rfl rfl rF_l3 dX2_item_87 (fun H locs hP hD hS => ?_)
            rw [qW_f3] at hP hD
            obtain ⟨rfl, rfl⟩ := hE
            exact en_v F hS () trivial hP hD (Nat.le_refl _) (Nat.le_refl _) dX2_item_90
  ·
    rw [if_pos h1] at hE
    refine lv_aload_n hx hb dX2_item_28 rfl (lv_at hl 1 rfl) ?_
    obtain ⟨Q19, hg, hE⟩ := hE
    refine kA_v (va_runV (As := []) (rest := []) F.1 (e_r_escapedItem l G Z h q ad J g hO (rf Q 2 ((Q.1 2) + 1)) Q19 0 hg _) (cwV 0 hts (aw_V w_399 w_401 ws_X2_escapedItem w_7 w_402) rfl rfl rfl (by decide +kernel) ⟨by decide, by decide⟩) ⟨zS_blind, va_recv (q := (RX2, TX2, 10)) (ci := 2) (q0 := 0) hK.1 hP rfl qW_0, zS_pre hP hD hK hZ hS (kA_F hD hS hA)⟩ rfl rfl hl.1 rfl (lv_room (Nat.le_of_ble_eq_true rfl)) dX2_item_29 ⟨Nat.le_refl _, Nat.le_refl _⟩) hD hS hA (fun u0 H locs hp hP hD hS => ?_)
    obtain ⟨rfl, rfl⟩ := hE
    exact en_v F hS () trivial hP hD (Nat.le_refl _) (Nat.le_refl _) dX2_item_32

theorem dX2_items_0 : decode cX2_items 0 = .ok (.aload_n 0, 1) := by decide +kernel
theorem dX2_items_1 : decode cX2_items 1 = .ok (.bipush 94, 2) := by decide +kernel
theorem dX2_items_3 : decode cX2_items 3 = .ok (.invokevirtual 94, 3) := by decide +kernel
theorem dX2_items_6 : decode cX2_items 6 = .ok (.istore_n 1, 1) := by decide +kernel
theorem dX2_items_7 : decode cX2_items 7 = .ok (.aload_n 0, 1) := by decide +kernel
theorem dX2_items_8 : decode cX2_items 8 = .ok (.lconst 0, 1) := by decide +kernel
theorem dX2_items_9 : decode cX2_items 9 = .ok (.putfield 168, 3) := by decide +kernel
theorem dX2_items_12 : decode cX2_items 12 = .ok (.aload_n 0, 1) := by decide +kernel
theorem dX2_items_13 : decode cX2_items 13 = .ok (.lconst 0, 1) := by decide +kernel
theorem dX2_items_14 : decode cX2_items 14 = .ok (.putfield 171, 3) := by decide +kernel
theorem dX2_items_17 : decode cX2_items 17 = .ok (.aload_n 0, 1) := by decide +kernel
theorem dX2_items_18 : decode cX2_items 18 = .ok (.invokevirtual 174, 3) := by decide +kernel
theorem dX2_items_21 : decode cX2_items 21 = .ok (.iconst 0, 1) := by decide +kernel
theorem dX2_items_22 : decode cX2_items 22 = .ok (.istore_n 2, 1) := by decide +kernel
theorem dX2_items_23 : decode cX2_items 23 = .ok (.iload_n 2, 1) := by decide +kernel
theorem dX2_items_24 : decode cX2_items 24 = .ok (.bipush 14, 2) := by decide +kernel
theorem dX2_items_26 : decode cX2_items 26 = .ok (.if_icmp .ge 36, 3) := by decide +kernel
theorem dX2_items_29 : decode cX2_items 29 = .ok (.aload_n 0, 1) := by decide +kernel
theorem dX2_items_30 : decode cX2_items 30 = .ok (.getfield 36, 3) := by decide +kernel
theorem dX2_items_33 : decode cX2_items 33 = .ok (.ifCond .ne 29, 3) := by decide +kernel
theorem dX2_items_36 : decode cX2_items 36 = .ok (.aload_n 0, 1) := by decide +kernel
theorem dX2_items_37 : decode cX2_items 37 = .ok (.getfield 9, 3) := by decide +kernel
theorem dX2_items_40 : decode cX2_items 40 = .ok (.aload_n 0, 1) := by decide +kernel
theorem dX2_items_41 : decode cX2_items 41 = .ok (.getfield 40, 3) := by decide +kernel
theorem dX2_items_44 : decode cX2_items 44 = .ok (.invokevirtual 52, 3) := by decide +kernel
theorem dX2_items_47 : decode cX2_items 47 = .ok (.bipush 93, 2) := by decide +kernel
theorem dX2_items_49 : decode cX2_items 49 = .ok (.if_icmp .eq 13, 3) := by decide +kernel
theorem dX2_items_52 : decode cX2_items 52 = .ok (.aload_n 0, 1) := by decide +kernel
theorem dX2_items_53 : decode cX2_items 53 = .ok (.invokevirtual 174, 3) := by decide +kernel
theorem dX2_items_56 : decode cX2_items 56 = .ok (.iinc 2 1, 3) := by decide +kernel
theorem dX2_items_59 : decode cX2_items 59 = .ok (.goto (-36), 3) := by decide +kernel
theorem dX2_items_62 : decode cX2_items 62 = .ok (.aload_n 0, 1) := by decide +kernel
theorem dX2_items_63 : decode cX2_items 63 = .ok (.bipush 93, 2) := by decide +kernel
theorem dX2_items_65 : decode cX2_items 65 = .ok (.invokevirtual 113, 3) := by decide +kernel
theorem dX2_items_68 : decode cX2_items 68 = .ok (.iload_n 1, 1) := by decide +kernel
theorem dX2_items_69 : decode cX2_items 69 = .ok (.ifCond .eq 26, 3) := by decide +kernel
theorem dX2_items_72 : decode cX2_items 72 = .ok (.aload_n 0, 1) := by decide +kernel
theorem dX2_items_73 : decode cX2_items 73 = .ok (.aload_n 0, 1) := by decide +kernel
theorem dX2_items_74 : decode cX2_items 74 = .ok (.getfield 168, 3) := by decide +kernel
theorem dX2_items_77 : decode cX2_items 77 = .ok (.ldc2_w 126, 3) := by decide +kernel
theorem dX2_items_80 : decode cX2_items 80 = .ok (.lxor, 1) := by decide +kernel
theorem dX2_items_81 : decode cX2_items 81 = .ok (.aload_n 0, 1) := by decide +kernel
theorem dX2_items_82 : decode cX2_items 82 = .ok (.getfield 171, 3) := by decide +kernel
theorem dX2_items_85 : decode cX2_items 85 = .ok (.ldc2_w 126, 3) := by decide +kernel
theorem dX2_items_88 : decode cX2_items 88 = .ok (.lxor, 1) := by decide +kernel
theorem dX2_items_89 : decode cX2_items 89 = .ok (.invokevirtual 128, 3) := by decide +kernel
theorem dX2_items_92 : decode cX2_items 92 = .ok (.goto 15, 3) := by decide +kernel
theorem dX2_items_95 : decode cX2_items 95 = .ok (.aload_n 0, 1) := by decide +kernel
theorem dX2_items_96 : decode cX2_items 96 = .ok (.aload_n 0, 1) := by decide +kernel
theorem dX2_items_97 : decode cX2_items 97 = .ok (.getfield 168, 3) := by decide +kernel
theorem dX2_items_100 : decode cX2_items 100 = .ok (.aload_n 0, 1) := by decide +kernel
theorem dX2_items_101 : decode cX2_items 101 = .ok (.getfield 171, 3) := by decide +kernel
theorem dX2_items_104 : decode cX2_items 104 = .ok (.invokevirtual 128, 3) := by decide +kernel
theorem dX2_items_107 : decode cX2_items 107 = .ok (.ireturn, 1) := by decide +kernel
def L_r_items_23 (J : Nat) (g : Nat → Int32) : Nat → QS → Int32 → Int32 → QS → Int32 → Prop
  | 0, _, _, _, _, _ => False
  | nf + 1, Q, x1, x2, Q', r => if 14 ≤ x2 then (∃ Q6 : QS, E_r_expect J g Q 93 Q6 0 ∧ (if x1 = 0 then (∃ (Q9 : QS) (r10 : Int32), E_r_set J g Q6 (Q6.2.1 6) (Q6.2.1 7) Q9 r10 ∧ (Q' = Q9 ∧ r = r10)) else (∃ (Q11 : QS) (r12 : Int32), E_r_set J g Q6 ((Q6.2.1 6) ^^^ (-1)) ((Q6.2.1 7) ^^^ (-1)) Q11 r12 ∧ (Q' = Q11 ∧ r = r12)))) else (if (Q.1 3) = 0 then (if (rw_at J g (Q.1 2)) = 93 then (∃ Q22 : QS, E_r_expect J g Q 93 Q22 0 ∧ (if x1 = 0 then (∃ (Q25 : QS) (r26 : Int32), E_r_set J g Q22 (Q22.2.1 6) (Q22.2.1 7) Q25 r26 ∧ (Q' = Q25 ∧ r = r26)) else (∃ (Q27 : QS) (r28 : Int32), E_r_set J g Q22 ((Q22.2.1 6) ^^^ (-1)) ((Q22.2.1 7) ^^^ (-1)) Q27 r28 ∧ (Q' = Q27 ∧ r = r28)))) else (∃ Q29 : QS, E_r_item J g Q Q29 0 ∧ (L_r_items_23 J g nf Q29 x1 (x2 + 1) Q' r))) else (∃ Q14 : QS, E_r_expect J g Q 93 Q14 0 ∧ (if x1 = 0 then (∃ (Q17 : QS) (r18 : Int32), E_r_set J g Q14 (Q14.2.1 6) (Q14.2.1 7) Q17 r18 ∧ (Q' = Q17 ∧ r = r18)) else (∃ (Q19 : QS) (r20 : Int32), E_r_set J g Q14 ((Q14.2.1 6) ^^^ (-1)) ((Q14.2.1 7) ^^^ (-1)) Q19 r20 ∧ (Q' = Q19 ∧ r = r20)))))
set_option maxHeartbeats 4000000 in
set_option maxRecDepth 100000 in
theorem L_r_items_23_ok {l : Launch} {G : PG} {Z : ZZ} {h : Nat} {q ad : Nat → Nat} {J : Nat} {g : Nat → Int32} (hO : gOK J g) {Q' : QS} {r : Int32} {p : Program} {e : Env} {s : State} {m : MethodId} {below : List Frame} {meth : Method} {c : Code} {A : Nat → Prop} (F : bF p s m meth c cX2_items 3 (some .int) ([.ref h] : List Value).toArray yX2_items) (hK : pg_K G s) (hA : ∀ q, s.heap.size ≤ q → A q) (hZ : zF Z A s s.heap) : ∀ (nf : Nat) (Q : QS) (x1 : Int32) (x2 : Int32) (H : Heap) (locs : List Loc) (ls : Array Slot), lv_has ls 3 [(2, .int x2), (1, .int x1), (0, .ref h)] → L_r_items_23 J g nf Q x1 x2 Q' r → va_P G.1 vwCl (qW G h q ad J g Q) H → va_D A (qW G h q ad J g Q) → va_S A s.heap H locs → W p l e { frames := 6, cells := 0, slots := 0, locals := 140 } s m ([.ref h] : List Value).toArray below meth c H locs 0 0 (MQ below (va_Qi (fun (r9 : Int32) (_ : Unit) => r9 = r) (oB G A (fun (_ : Unit) => qW G h q ad J g Q')) A) ([.ref h] : List Value).toArray s 0 0 A) (F0 m 23 ls []) := by
  have hx := F.1.1; have hb := F.1.2.1; have hml := F.1.2.2.1; have hts := F.1.2.2.2.2
  have hown : s.vm.findClass RX2 = some m.cls := F.1.2.2.2.1
  intro nf
  induction nf with
  | zero => intro Q x1 x2 H locs ls hl hE; exact hE.elim
  | succ nf ih =>
    intro Q x1 x2 H locs ls hl hE hP hD hS
    unfold L_r_items_23 at hE
    refine lv_iload_n hx hb dX2_items_23 rfl (lv_at hl 0 rfl) ?_
    refine lv_bipush (v := 14) hx hb dX2_items_24 (by decide) ?_
    refine lv_icmp_ge (tgt := 62) hx hb dX2_items_26 (by decide) (fun h5 => ?_) (fun h5 => ?_)
    ·
      rw [if_pos h5] at hE
      refine lv_aload_n hx hb dX2_items_62 rfl (lv_at hl 2 rfl) ?_
      refine lv_bipush (v := 93) hx hb dX2_items_63 (by decide) ?_
      obtain ⟨Q6, hg, hE⟩ := hE
      refine kA_v (va_runV (As := [.int 93]) (rest := []) F.1 (e_r_expect l G h q ad J g hO Q 93 Q6 0 hg _) (cwV 1 hts (aw_V w_371 w_373 ws_X2_expect w_7 w_374) rfl rfl rfl (by decide +kernel) ⟨by decide, by decide⟩) ⟨cS_blind, va_recv (q := (RX2, TX2, 10)) (ci := 2) (q0 := 0) hK.1 hP rfl qW_0, cS_pre hP hD hK⟩ rfl rfl hl.1 rfl (lv_room (Nat.le_of_ble_eq_true rfl)) dX2_items_65 ⟨Nat.le_refl _, Nat.le_refl _⟩) hD hS hA (fun u0 H locs hp hP hD hS => ?_)
      refine lv_iload_n hx hb dX2_items_68 rfl (lv_at hl 1 rfl) ?_
      refine lv_if_eq (tgt := 95) hx hb dX2_items_69 (by decide) (fun h8 => ?_) (fun h8 => ?_)
      ·
        rw [if_pos h8] at hE
        refine lv_aload_n hx hb dX2_items_95 rfl (lv_at hl 2 rfl) ?_
        refine lv_aload_n hx hb dX2_items_96 rfl (lv_at hl 2 rfl) ?_
        refine va_get (D := G.1) (ci := 2) (C := RX2) (T := TX2) (N := 10) hx hb hts inX2 hown hK.1 hP 0 qW_0 rfl 6 (by decide) (hts _ w_281) (fun _ h9 => h9) rF_6 dX2_items_97 ?_
        refine lv_aload_n hx hb dX2_items_100 rfl (lv_at hl 2 rfl) ?_
        refine va_get (D := G.1) (ci := 2) (C := RX2) (T := TX2) (N := 10) hx hb hts inX2 hown hK.1 hP 0 qW_0 rfl 7 (by decide) (hts _ w_282) (fun _ h9 => h9) rF_7 dX2_items_101 ?_
        obtain ⟨Q9, r10, hg, hE⟩ := hE
        refine kA_i (va_runV (As := [.long (Q6.2.1 6), .long (Q6.2.1 7)]) (rest := []) F.1 (e_r_set l G h q ad J g hO Q6 (Q6.2.1 6) (Q6.2.1 7) Q9 r10 hg _) (cwV 2 hts (aw_V w_500 w_502 ws_X2_set w_7 w_503) rfl rfl rfl (by decide +kernel) ⟨by decide, by decide⟩) ⟨cS_blind, va_recv (q := (RX2, TX2, 10)) (ci := 2) (q0 := 0) hK.1 hP rfl qW_0, cS_pre hP hD hK⟩ rfl rfl hl.1 rfl (lv_room (Nat.le_of_ble_eq_true rfl)) dX2_items_104 ⟨Nat.le_refl _, Nat.le_refl _⟩) hD hS hA (fun r9 u0 H locs hp hP hD hS => ?_)
        have hp := hp.symm; subst hp
        obtain ⟨rfl, rfl⟩ := hE
        exact en_i F hS _ () (by rfl) rfl hP hD (Nat.le_refl _) (Nat.le_refl _) dX2_items_107
      ·
        rw [if_neg h8] at hE
        refine lv_aload_n hx hb dX2_items_72 rfl (lv_at hl 2 rfl) ?_
        refine lv_aload_n hx hb dX2_items_73 rfl (lv_at hl 2 rfl) ?_
        refine va_get (D := G.1) (ci := 2) (C := RX2) (T := TX2) (N := 10) hx hb hts inX2 hown hK.1 hP 0 qW_0 rfl 6 (by decide) (hts _ w_281) (fun _ h9 => h9) rF_6 dX2_items_74 ?_
        refine lv_ldc2 (v := (-1)) hx hb hown (hts _ w_499) dX2_items_77 ?_
        refine lv_lxor hx hb dX2_items_80 ?_
        refine lv_aload_n hx hb dX2_items_81 rfl (lv_at hl 2 rfl) ?_
        refine va_get (D := G.1) (ci := 2) (C := RX2) (T := TX2) (N := 10) hx hb hts inX2 hown hK.1 hP 0 qW_0 rfl 7 (by decide) (hts _ w_282) (fun _ h9 => h9) rF_7 dX2_items_82 ?_
        refine lv_ldc2 (v := (-1)) hx hb hown (hts _ w_499) dX2_items_85 ?_
        refine lv_lxor hx hb dX2_items_88 ?_
        obtain ⟨Q11, r12, hg, hE⟩ := hE
        refine kA_i (va_runV (As := [.long ((Q6.2.1 6) ^^^ (-1)), .long ((Q6.2.1 7) ^^^ (-1))]) (rest := []) F.1 (e_r_set l G h q ad J g hO Q6 ((Q6.2.1 6) ^^^ (-1)) ((Q6.2.1 7) ^^^ (-1)) Q11 r12 hg _) (cwV 2 hts (aw_V w_500 w_502 ws_X2_set w_7 w_503) rfl rfl rfl (by decide +kernel) ⟨by decide, by decide⟩) ⟨cS_blind, va_recv (q := (RX2, TX2, 10)) (ci := 2) (q0 := 0) hK.1 hP rfl qW_0, cS_pre hP hD hK⟩ rfl rfl hl.1 rfl (lv_room (Nat.le_of_ble_eq_true rfl)) dX2_items_89 ⟨Nat.le_refl _, Nat.le_refl _⟩) hD hS hA (fun r9 u0 H locs hp hP hD hS => ?_)
        have hp := hp.symm; subst hp
        refine lv_goto (tgt := 107) hx hb dX2_items_92 (by decide) ?_
        obtain ⟨rfl, rfl⟩ := hE
        exact en_i F hS _ () (by rfl) rfl hP hD (Nat.le_refl _) (Nat.le_refl _) dX2_items_107
    ·
      rw [if_neg h5] at hE
      refine lv_aload_n hx hb dX2_items_29 rfl (lv_at hl 2 rfl) ?_
      refine va_get (D := G.1) (ci := 2) (C := RX2) (T := TX2) (N := 10) hx hb hts inX2 hown hK.1 hP 0 qW_0 rfl 3 (by decide) (hts _ w_278) (fun _ h9 => h9) rF_3 dX2_items_30 ?_
      refine lv_if_ne (tgt := 62) hx hb dX2_items_33 (by decide) (fun h13 => ?_) (fun h13 => ?_)
      ·
        rw [if_neg h13] at hE
        refine lv_aload_n hx hb dX2_items_62 rfl (lv_at hl 2 rfl) ?_
        refine lv_bipush (v := 93) hx hb dX2_items_63 (by decide) ?_
        obtain ⟨Q14, hg, hE⟩ := hE
        refine kA_v (va_runV (As := [.int 93]) (rest := []) F.1 (e_r_expect l G h q ad J g hO Q 93 Q14 0 hg _) (cwV 1 hts (aw_V w_371 w_373 ws_X2_expect w_7 w_374) rfl rfl rfl (by decide +kernel) ⟨by decide, by decide⟩) ⟨cS_blind, va_recv (q := (RX2, TX2, 10)) (ci := 2) (q0 := 0) hK.1 hP rfl qW_0, cS_pre hP hD hK⟩ rfl rfl hl.1 rfl (lv_room (Nat.le_of_ble_eq_true rfl)) dX2_items_65 ⟨Nat.le_refl _, Nat.le_refl _⟩) hD hS hA (fun u0 H locs hp hP hD hS => ?_)
        refine lv_iload_n hx hb dX2_items_68 rfl (lv_at hl 1 rfl) ?_
        refine lv_if_eq (tgt := 95) hx hb dX2_items_69 (by decide) (fun h16 => ?_) (fun h16 => ?_)
        ·
          rw [if_pos h16] at hE
          refine lv_aload_n hx hb dX2_items_95 rfl (lv_at hl 2 rfl) ?_
          refine lv_aload_n hx hb dX2_items_96 rfl (lv_at hl 2 rfl) ?_
          refine va_get (D := G.1) (ci := 2) (C := RX2) (T := TX2) (N := 10) hx hb hts inX2 hown hK.1 hP 0 qW_0 rfl 6 (by decide) (hts _ w_281) (fun _ h9 => h9) rF_6 dX2_items_97 ?_
          refine lv_aload_n hx hb dX2_items_100 rfl (lv_at hl 2 rfl) ?_
          refine va_get (D := G.1) (ci := 2) (C := RX2) (T := TX2) (N := 10) hx hb hts inX2 hown hK.1 hP 0 qW_0 rfl 7 (by decide) (hts _ w_282) (fun _ h9 => h9) rF_7 dX2_items_101 ?_
          obtain ⟨Q17, r18, hg, hE⟩ := hE
          refine kA_i (va_runV (As := [.long (Q14.2.1 6), .long (Q14.2.1 7)]) (rest := []) F.1 (e_r_set l G h q ad J g hO Q14 (Q14.2.1 6) (Q14.2.1 7) Q17 r18 hg _) (cwV 2 hts (aw_V w_500 w_502 ws_X2_set w_7 w_503) rfl rfl rfl (by decide +kernel) ⟨by decide, by decide⟩) ⟨cS_blind, va_recv (q := (RX2, TX2, 10)) (ci := 2) (q0 := 0) hK.1 hP rfl qW_0, cS_pre hP hD hK⟩ rfl rfl hl.1 rfl (lv_room (Nat.le_of_ble_eq_true rfl)) dX2_items_104 ⟨Nat.le_refl _, Nat.le_refl _⟩) hD hS hA (fun r9 u0 H locs hp hP hD hS => ?_)
          have hp := hp.symm; subst hp
          obtain ⟨rfl, rfl⟩ := hE
          exact en_i F hS _ () (by rfl) rfl hP hD (Nat.le_refl _) (Nat.le_refl _) dX2_items_107
        ·
          rw [if_neg h16] at hE
          refine lv_aload_n hx hb dX2_items_72 rfl (lv_at hl 2 rfl) ?_
          refine lv_aload_n hx hb dX2_items_73 rfl (lv_at hl 2 rfl) ?_
          refine va_get (D := G.1) (ci := 2) (C := RX2) (T := TX2) (N := 10) hx hb hts inX2 hown hK.1 hP 0 qW_0 rfl 6 (by decide) (hts _ w_281) (fun _ h9 => h9) rF_6 dX2_items_74 ?_
          refine lv_ldc2 (v := (-1)) hx hb hown (hts _ w_499) dX2_items_77 ?_
          refine lv_lxor hx hb dX2_items_80 ?_
          refine lv_aload_n hx hb dX2_items_81 rfl (lv_at hl 2 rfl) ?_
          refine va_get (D := G.1) (ci := 2) (C := RX2) (T := TX2) (N := 10) hx hb hts inX2 hown hK.1 hP 0 qW_0 rfl 7 (by decide) (hts _ w_282) (fun _ h9 => h9) rF_7 dX2_items_82 ?_
          refine lv_ldc2 (v := (-1)) hx hb hown (hts _ w_499) dX2_items_85 ?_
          refine lv_lxor hx hb dX2_items_88 ?_
          obtain ⟨Q19, r20, hg, hE⟩ := hE
          refine kA_i (va_runV (As := [.long ((Q14.2.1 6) ^^^ (-1)), .long ((Q14.2.1 7) ^^^ (-1))]) (rest := []) F.1 (e_r_set l G h q ad J g hO Q14 ((Q14.2.1 6) ^^^ (-1)) ((Q14.2.1 7) ^^^ (-1)) Q19 r20 hg _) (cwV 2 hts (aw_V w_500 w_502 ws_X2_set w_7 w_503) rfl rfl rfl (by decide +kernel) ⟨by decide, by decide⟩) ⟨cS_blind, va_recv (q := (RX2, TX2, 10)) (ci := 2) (q0 := 0) hK.1 hP rfl qW_0, cS_pre hP hD hK⟩ rfl rfl hl.1 rfl (lv_room (Nat.le_of_ble_eq_true rfl)) dX2_items_89 ⟨Nat.le_refl _, Nat.le_refl _⟩) hD hS hA (fun r9 u0 H locs hp hP hD hS => ?_)
          have hp := hp.symm; subst hp
          refine lv_goto (tgt := 107) hx hb dX2_items_92 (by decide) ?_
          obtain ⟨rfl, rfl⟩ := hE
          exact en_i F hS _ () (by rfl) rfl hP hD (Nat.le_refl _) (Nat.le_refl _) dX2_items_107
      ·
        rw [if_pos h13] at hE
        refine lv_aload_n hx hb dX2_items_36 rfl (lv_at hl 2 rfl) ?_
        refine va_get (D := G.1) (ci := 2) (C := RX2) (T := TX2) (N := 10) hx hb hts inX2 hown hK.1 hP 0 qW_0 rfl 0 (by decide) (hts _ w_275) (fun _ h9 => h9) rF_0 dX2_items_37 ?_
        refine lv_aload_n hx hb dX2_items_40 rfl (lv_at hl 2 rfl) ?_
        refine va_get (D := G.1) (ci := 2) (C := RX2) (T := TX2) (N := 10) hx hb hts inX2 hown hK.1 hP 0 qW_0 rfl 2 (by decide) (hts _ w_277) (fun _ h9 => h9) rF_2 dX2_items_41 ?_
        refine kp_V (va_runV (As := [.int (Q.1 2)]) (rest := []) F.1 (v_row_at l G _ _ _ J g (Q.1 2) hO.1 (by decide) hO.2 _) (cwV 1 hts (aw_V w_335 w_336 w_337 w_3 w_338) rfl rfl rfl (by decide +kernel) ⟨by decide, by decide⟩) ⟨cS_blind, va_recv (q := (RX3, TX3, 2)) (ci := 3) (q0 := 0) hK.1 (qP_row hP) rfl rfl, cS_pre (qP_row hP) (qD_row hD) hK⟩ rfl rfl hl.1 rfl (lv_room (Nat.le_of_ble_eq_true rfl)) dX2_items_44 ⟨Nat.le_refl _, Nat.le_refl _⟩) (fun v9 hp => ?_)
        subst hp
        refine lv_bipush (v := 93) hx hb dX2_items_47 (by decide) ?_
        refine lv_icmp_eq (tgt := 62) hx hb dX2_items_49 (by decide) (fun h21 => ?_) (fun h21 => ?_)
        ·
          rw [if_pos h21] at hE
          refine lv_aload_n hx hb dX2_items_62 rfl (lv_at hl 2 rfl) ?_
          refine lv_bipush (v := 93) hx hb dX2_items_63 (by decide) ?_
          obtain ⟨Q22, hg, hE⟩ := hE
          refine kA_v (va_runV (As := [.int 93]) (rest := []) F.1 (e_r_expect l G h q ad J g hO Q 93 Q22 0 hg _) (cwV 1 hts (aw_V w_371 w_373 ws_X2_expect w_7 w_374) rfl rfl rfl (by decide +kernel) ⟨by decide, by decide⟩) ⟨cS_blind, va_recv (q := (RX2, TX2, 10)) (ci := 2) (q0 := 0) hK.1 hP rfl qW_0, cS_pre hP hD hK⟩ rfl rfl hl.1 rfl (lv_room (Nat.le_of_ble_eq_true rfl)) dX2_items_65 ⟨Nat.le_refl _, Nat.le_refl _⟩) hD hS hA (fun u0 H locs hp hP hD hS => ?_)
          refine lv_iload_n hx hb dX2_items_68 rfl (lv_at hl 1 rfl) ?_
          refine lv_if_eq (tgt := 95) hx hb dX2_items_69 (by decide) (fun h24 => ?_) (fun h24 => ?_)
          ·
            rw [if_pos h24] at hE
            refine lv_aload_n hx hb dX2_items_95 rfl (lv_at hl 2 rfl) ?_
            refine lv_aload_n hx hb dX2_items_96 rfl (lv_at hl 2 rfl) ?_
            refine va_get (D := G.1) (ci := 2) (C := RX2) (T := TX2) (N := 10) hx hb hts inX2 hown hK.1 hP 0 qW_0 rfl 6 (by decide) (hts _ w_281) (fun _ h9 => h9) rF_6 dX2_items_97 ?_
            refine lv_aload_n hx hb dX2_items_100 rfl (lv_at hl 2 rfl) ?_
            refine va_get (D := G.1) (ci := 2) (C := RX2) (T := TX2) (N := 10) hx hb hts inX2 hown hK.1 hP 0 qW_0 rfl 7 (by decide) (hts _ w_282) (fun _ h9 => h9) rF_7 dX2_items_101 ?_
            obtain ⟨Q25, r26, hg, hE⟩ := hE
            refine kA_i (va_runV (As := [.long (Q22.2.1 6), .long (Q22.2.1 7)]) (rest := []) F.1 (e_r_set l G h q ad J g hO Q22 (Q22.2.1 6) (Q22.2.1 7) Q25 r26 hg _) (cwV 2 hts (aw_V w_500 w_502 ws_X2_set w_7 w_503) rfl rfl rfl (by decide +kernel) ⟨by decide, by decide⟩) ⟨cS_blind, va_recv (q := (RX2, TX2, 10)) (ci := 2) (q0 := 0) hK.1 hP rfl qW_0, cS_pre hP hD hK⟩ rfl rfl hl.1 rfl (lv_room (Nat.le_of_ble_eq_true rfl)) dX2_items_104 ⟨Nat.le_refl _, Nat.le_refl _⟩) hD hS hA (fun r9 u0 H locs hp hP hD hS => ?_)
            have hp := hp.symm; subst hp
            obtain ⟨rfl, rfl⟩ := hE
            exact en_i F hS _ () (by rfl) rfl hP hD (Nat.le_refl _) (Nat.le_refl _) dX2_items_107
          ·
            rw [if_neg h24] at hE
            refine lv_aload_n hx hb dX2_items_72 rfl (lv_at hl 2 rfl) ?_
            refine lv_aload_n hx hb dX2_items_73 rfl (lv_at hl 2 rfl) ?_
            refine va_get (D := G.1) (ci := 2) (C := RX2) (T := TX2) (N := 10) hx hb hts inX2 hown hK.1 hP 0 qW_0 rfl 6 (by decide) (hts _ w_281) (fun _ h9 => h9) rF_6 dX2_items_74 ?_
            refine lv_ldc2 (v := (-1)) hx hb hown (hts _ w_499) dX2_items_77 ?_
            refine lv_lxor hx hb dX2_items_80 ?_
            refine lv_aload_n hx hb dX2_items_81 rfl (lv_at hl 2 rfl) ?_
            refine va_get (D := G.1) (ci := 2) (C := RX2) (T := TX2) (N := 10) hx hb hts inX2 hown hK.1 hP 0 qW_0 rfl 7 (by decide) (hts _ w_282) (fun _ h9 => h9) rF_7 dX2_items_82 ?_
            refine lv_ldc2 (v := (-1)) hx hb hown (hts _ w_499) dX2_items_85 ?_
            refine lv_lxor hx hb dX2_items_88 ?_
            obtain ⟨Q27, r28, hg, hE⟩ := hE
            refine kA_i (va_runV (As := [.long ((Q22.2.1 6) ^^^ (-1)), .long ((Q22.2.1 7) ^^^ (-1))]) (rest := []) F.1 (e_r_set l G h q ad J g hO Q22 ((Q22.2.1 6) ^^^ (-1)) ((Q22.2.1 7) ^^^ (-1)) Q27 r28 hg _) (cwV 2 hts (aw_V w_500 w_502 ws_X2_set w_7 w_503) rfl rfl rfl (by decide +kernel) ⟨by decide, by decide⟩) ⟨cS_blind, va_recv (q := (RX2, TX2, 10)) (ci := 2) (q0 := 0) hK.1 hP rfl qW_0, cS_pre hP hD hK⟩ rfl rfl hl.1 rfl (lv_room (Nat.le_of_ble_eq_true rfl)) dX2_items_89 ⟨Nat.le_refl _, Nat.le_refl _⟩) hD hS hA (fun r9 u0 H locs hp hP hD hS => ?_)
            have hp := hp.symm; subst hp
            refine lv_goto (tgt := 107) hx hb dX2_items_92 (by decide) ?_
            obtain ⟨rfl, rfl⟩ := hE
            exact en_i F hS _ () (by rfl) rfl hP hD (Nat.le_refl _) (Nat.le_refl _) dX2_items_107
        ·
          rw [if_neg h21] at hE
          refine lv_aload_n hx hb dX2_items_52 rfl (lv_at hl 2 rfl) ?_
          obtain ⟨Q29, hg, hE⟩ := hE
          refine kA_v (va_runV (As := []) (rest := []) F.1 (e_r_item l G Z h q ad J g hO Q Q29 0 hg _) (cwV 0 hts (aw_V w_395 w_397 ws_X2_item w_7 w_398) rfl rfl rfl (by decide +kernel) ⟨by decide, by decide⟩) ⟨zS_blind, va_recv (q := (RX2, TX2, 10)) (ci := 2) (q0 := 0) hK.1 hP rfl qW_0, zS_pre hP hD hK hZ hS (kA_F hD hS hA)⟩ rfl rfl hl.1 rfl (lv_room (Nat.le_of_ble_eq_true rfl)) dX2_items_53 ⟨Nat.le_refl _, Nat.le_refl _⟩) hD hS hA (fun u0 H locs hp hP hD hS => ?_)
          refine lv_iinc (v := (x2 + 1)) (k := 0) hx hb dX2_items_56 hl rfl rfl (by decide) rfl (fun ls hl => ?_)
          have hl : lv_has ls 3 [(2, .int (x2 + 1)), (1, .int x1), (0, .ref h)] := hl
          refine lv_goto (tgt := 23) hx hb dX2_items_59 (by decide) ?_
          exact ih Q29 x1 (x2 + 1) _ _ ls (lv_sub hl [0, 1, 2] rfl) hE hP hD hS
def E_r_items (J : Nat) (g : Nat → Int32) (Q : QS)  (Q' : QS) (r : Int32) : Prop := ∃ (Q1 : QS) (r2 : Int32), E_r_take J g Q 94 Q1 r2 ∧ (∃ Q3 : QS, E_r_item J g (rl (rl Q1 6 0) 7 0) Q3 0 ∧ (∃ nf : Nat, L_r_items_23 J g nf Q3 r2 0 Q' r))
set_option maxHeartbeats 4000000 in
set_option maxRecDepth 100000 in
theorem e_r_items (l : Launch) (G : PG) (Z : ZZ) (h : Nat) (q ad : Nat → Nat) (J : Nat) (g : Nat → Int32) (hO : gOK J g) (Q : QS)  (Q' : QS) (r : Int32) (hE : E_r_items J g Q Q' r) : CiZ l yX2_items (Cond.code yX2_items cX2_items 3 (some .int) :: aW) { frames := 6, cells := 0, slots := 0, locals := 140 } Z G (qW G h q ad J g Q) [.ref h] (fun (r9 : Int32) (_ : Unit) => r9 = r) (fun (_ : Unit) => qW G h q ad J g Q') 0 0 := by
  refine ofBZ (y := yX2_items) (G := G) (cc := cX2_items) (maxL := 3) (ret := (some .int)) (Qc := fun A => va_Qi (fun (r9 : Int32) (_ : Unit) => r9 = r) (oB G A (fun (_ : Unit) => qW G h q ad J g Q')) A) (by decide) rfl ?_
  intro p e s m below meth c A F hK hZ hA hP hD
  have hS : va_S A s.heap s.heap [] := va_S.rf
  have hx := F.1.1; have hb := F.1.2.1; have hml := F.1.2.2.1; have hts := F.1.2.2.2.2
  have hown : s.vm.findClass RX2 = some m.cls := F.1.2.2.2.1
  have hl := lv_entry ([.ref h]) (n := 3) (Nat.le_of_ble_eq_true rfl)
  rw [lg_entry_eq]
  generalize (lg_sl ([.ref h]) ++ List.replicate (3 - (lg_sl ([.ref h])).length) Slot.unset).toArray = ls at hl ⊢
  have hl : lv_has ls 3 [(0, .ref h)] := hl
  unfold E_r_items at hE
  refine lv_aload_n hx hb dX2_items_0 rfl (lv_at hl 0 rfl) ?_
  refine lv_bipush (v := 94) hx hb dX2_items_1 (by decide) ?_
  obtain ⟨Q1, r2, hg, hE⟩ := hE
  refine kA_i (va_runV (As := [.int 94]) (rest := []) F.1 (e_r_take l G h q ad J g hO Q 94 Q1 r2 hg _) (cwV 1 hts (aw_V w_359 w_361 ws_X2_take w_7 w_362) rfl rfl rfl (by decide +kernel) ⟨by decide, by decide⟩) ⟨cS_blind, va_recv (q := (RX2, TX2, 10)) (ci := 2) (q0 := 0) hK.1 hP rfl qW_0, cS_pre hP hD hK⟩ rfl rfl hl.1 rfl (lv_room (Nat.le_of_ble_eq_true rfl)) dX2_items_3 ⟨Nat.le_refl _, Nat.le_refl _⟩) hD hS hA (fun r9 u0 H locs hp hP hD hS => ?_)
  have hp := hp.symm; subst hp
  refine lv_istore_n hx hb dX2_items_6 rfl hl (by decide) rfl (fun ls hl => ?_)
  have hl : lv_has ls 3 [(1, .int r2), (0, .ref h)] := hl
  refine lv_aload_n hx hb dX2_items_7 rfl (lv_at hl 1 rfl) ?_
  refine lv_lconst (v := 0) hx hb dX2_items_8 (by decide) ?_
  refine va_put (D := G.1) (ci := 2) (v := .long 0) (ty := .long) (C := RX2) (T := TX2) (N := 10) hx hb hts inX2 tyX2 tyX2_ok nmX2 hown hK.1 hP hD hS 0 qW_0 rfl 6 (by decide) (hts _ w_281) (fun _ h9 => h9) rfl (by decide +kernel) rfl rfl rF_l6 dX2_items_9 (fun H locs hP hD hS => ?_)
  rw [qW_f6] at hP hD
  refine lv_aload_n hx hb dX2_items_12 rfl (lv_at hl 1 rfl) ?_
  refine lv_lconst (v := 0) hx hb dX2_items_13 (by decide) ?_
  refine va_put (D := G.1) (ci := 2) (v := .long 0) (ty := .long) (C := RX2) (T := TX2) (N := 10) hx hb hts inX2 tyX2 tyX2_ok nmX2 hown hK.1 hP hD hS 0 qW_0 rfl 7 (by decide) (hts _ w_282) (fun _ h9 => h9) rfl (by decide +kernel) rfl rfl rF_l7 dX2_items_14 (fun H locs hP hD hS => ?_)
  rw [qW_f7] at hP hD
  refine lv_aload_n hx hb dX2_items_17 rfl (lv_at hl 1 rfl) ?_
  obtain ⟨Q3, hg, hE⟩ := hE
  refine kA_v (va_runV (As := []) (rest := []) F.1 (e_r_item l G Z h q ad J g hO (rl (rl Q1 6 0) 7 0) Q3 0 hg _) (cwV 0 hts (aw_V w_395 w_397 ws_X2_item w_7 w_398) rfl rfl rfl (by decide +kernel) ⟨by decide, by decide⟩) ⟨zS_blind, va_recv (q := (RX2, TX2, 10)) (ci := 2) (q0 := 0) hK.1 hP rfl qW_0, zS_pre hP hD hK hZ hS (kA_F hD hS hA)⟩ rfl rfl hl.1 rfl (lv_room (Nat.le_of_ble_eq_true rfl)) dX2_items_18 ⟨Nat.le_refl _, Nat.le_refl _⟩) hD hS hA (fun u0 H locs hp hP hD hS => ?_)
  refine lv_iconst (v := 0) hx hb dX2_items_21 (by decide) ?_
  refine lv_istore_n hx hb dX2_items_22 rfl hl (by decide) rfl (fun ls hl => ?_)
  have hl : lv_has ls 3 [(2, .int 0), (1, .int r2), (0, .ref h)] := hl
  obtain ⟨nf, hE⟩ := hE
  exact L_r_items_23_ok hO F hK hA hZ nf Q3 r2 0 _ _ ls (lv_sub hl [0, 1, 2] rfl) hE hP hD hS

theorem dX2_escaped_0 : decode cX2_escaped 0 = .ok (.aload_n 0, 1) := by decide +kernel
theorem dX2_escaped_1 : decode cX2_escaped 1 = .ok (.getfield 9, 3) := by decide +kernel
theorem dX2_escaped_4 : decode cX2_escaped 4 = .ok (.aload_n 0, 1) := by decide +kernel
theorem dX2_escaped_5 : decode cX2_escaped 5 = .ok (.getfield 40, 3) := by decide +kernel
theorem dX2_escaped_8 : decode cX2_escaped 8 = .ok (.invokevirtual 52, 3) := by decide +kernel
theorem dX2_escaped_11 : decode cX2_escaped 11 = .ok (.istore_n 1, 1) := by decide +kernel
theorem dX2_escaped_12 : decode cX2_escaped 12 = .ok (.aload_n 0, 1) := by decide +kernel
theorem dX2_escaped_13 : decode cX2_escaped 13 = .ok (.dup, 1) := by decide +kernel
theorem dX2_escaped_14 : decode cX2_escaped 14 = .ok (.getfield 40, 3) := by decide +kernel
theorem dX2_escaped_17 : decode cX2_escaped 17 = .ok (.iconst 1, 1) := by decide +kernel
theorem dX2_escaped_18 : decode cX2_escaped 18 = .ok (.iadd, 1) := by decide +kernel
theorem dX2_escaped_19 : decode cX2_escaped 19 = .ok (.putfield 40, 3) := by decide +kernel
theorem dX2_escaped_22 : decode cX2_escaped 22 = .ok (.iload_n 1, 1) := by decide +kernel
theorem dX2_escaped_23 : decode cX2_escaped 23 = .ok (.lookupswitch 115 #[(49, 106), (50, 106), (51, 106), (52, 106), (66, 99), (98, 93), (100, 73), (119, 82)], 73) := by decide +kernel
theorem dX2_escaped_96 : decode cX2_escaped 96 = .ok (.aload_n 0, 1) := by decide +kernel
theorem dX2_escaped_97 : decode cX2_escaped 97 = .ok (.ldc2_w 149, 3) := by decide +kernel
theorem dX2_escaped_100 : decode cX2_escaped 100 = .ok (.lconst 0, 1) := by decide +kernel
theorem dX2_escaped_101 : decode cX2_escaped 101 = .ok (.invokevirtual 128, 3) := by decide +kernel
theorem dX2_escaped_104 : decode cX2_escaped 104 = .ok (.ireturn, 1) := by decide +kernel
theorem dX2_escaped_105 : decode cX2_escaped 105 = .ok (.aload_n 0, 1) := by decide +kernel
theorem dX2_escaped_106 : decode cX2_escaped 106 = .ok (.ldc2_w 149, 3) := by decide +kernel
theorem dX2_escaped_109 : decode cX2_escaped 109 = .ok (.ldc2_w 151, 3) := by decide +kernel
theorem dX2_escaped_112 : decode cX2_escaped 112 = .ok (.invokevirtual 128, 3) := by decide +kernel
theorem dX2_escaped_115 : decode cX2_escaped 115 = .ok (.ireturn, 1) := by decide +kernel
theorem dX2_escaped_116 : decode cX2_escaped 116 = .ok (.aload_n 0, 1) := by decide +kernel
theorem dX2_escaped_117 : decode cX2_escaped 117 = .ok (.iconst 5, 1) := by decide +kernel
theorem dX2_escaped_118 : decode cX2_escaped 118 = .ok (.invokevirtual 132, 3) := by decide +kernel
theorem dX2_escaped_121 : decode cX2_escaped 121 = .ok (.ireturn, 1) := by decide +kernel
theorem dX2_escaped_122 : decode cX2_escaped 122 = .ok (.aload_n 0, 1) := by decide +kernel
theorem dX2_escaped_123 : decode cX2_escaped 123 = .ok (.bipush 6, 2) := by decide +kernel
theorem dX2_escaped_125 : decode cX2_escaped 125 = .ok (.invokevirtual 132, 3) := by decide +kernel
theorem dX2_escaped_128 : decode cX2_escaped 128 = .ok (.ireturn, 1) := by decide +kernel
theorem dX2_escaped_129 : decode cX2_escaped 129 = .ok (.aload_n 0, 1) := by decide +kernel
theorem dX2_escaped_130 : decode cX2_escaped 130 = .ok (.iload_n 1, 1) := by decide +kernel
theorem dX2_escaped_131 : decode cX2_escaped 131 = .ok (.bipush 48, 2) := by decide +kernel
theorem dX2_escaped_133 : decode cX2_escaped 133 = .ok (.isub, 1) := by decide +kernel
theorem dX2_escaped_134 : decode cX2_escaped 134 = .ok (.invokevirtual 153, 3) := by decide +kernel
theorem dX2_escaped_137 : decode cX2_escaped 137 = .ok (.ireturn, 1) := by decide +kernel
theorem dX2_escaped_138 : decode cX2_escaped 138 = .ok (.iload_n 1, 1) := by decide +kernel
theorem dX2_escaped_139 : decode cX2_escaped 139 = .ok (.bipush 45, 2) := by decide +kernel
theorem dX2_escaped_141 : decode cX2_escaped 141 = .ok (.if_icmp .eq 12, 3) := by decide +kernel
theorem dX2_escaped_144 : decode cX2_escaped 144 = .ok (.ldc 135, 2) := by decide +kernel
theorem dX2_escaped_146 : decode cX2_escaped 146 = .ok (.iload_n 1, 1) := by decide +kernel
theorem dX2_escaped_147 : decode cX2_escaped 147 = .ok (.invokevirtual 137, 3) := by decide +kernel
theorem dX2_escaped_150 : decode cX2_escaped 150 = .ok (.ifCond .lt 11, 3) := by decide +kernel
theorem dX2_escaped_153 : decode cX2_escaped 153 = .ok (.aload_n 0, 1) := by decide +kernel
theorem dX2_escaped_154 : decode cX2_escaped 154 = .ok (.iload_n 1, 1) := by decide +kernel
theorem dX2_escaped_155 : decode cX2_escaped 155 = .ok (.invokevirtual 145, 3) := by decide +kernel
theorem dX2_escaped_158 : decode cX2_escaped 158 = .ok (.goto 7, 3) := by decide +kernel
theorem dX2_escaped_161 : decode cX2_escaped 161 = .ok (.aload_n 0, 1) := by decide +kernel
theorem dX2_escaped_162 : decode cX2_escaped 162 = .ok (.invokevirtual 142, 3) := by decide +kernel
theorem dX2_escaped_165 : decode cX2_escaped 165 = .ok (.ireturn, 1) := by decide +kernel
def E_r_escaped (J : Nat) (g : Nat → Int32) (Q : QS)  (Q' : QS) (r : Int32) : Prop := if (rw_at J g (Q.1 2)) = 49 then (∃ (Q2 : QS) (r3 : Int32), E_r_backReference J g (rf Q 2 ((Q.1 2) + 1)) ((rw_at J g (Q.1 2)) - 48) Q2 r3 ∧ (Q' = Q2 ∧ r = r3)) else (if (rw_at J g (Q.1 2)) = 50 then (∃ (Q5 : QS) (r6 : Int32), E_r_backReference J g (rf Q 2 ((Q.1 2) + 1)) ((rw_at J g (Q.1 2)) - 48) Q5 r6 ∧ (Q' = Q5 ∧ r = r6)) else (if (rw_at J g (Q.1 2)) = 51 then (∃ (Q8 : QS) (r9 : Int32), E_r_backReference J g (rf Q 2 ((Q.1 2) + 1)) ((rw_at J g (Q.1 2)) - 48) Q8 r9 ∧ (Q' = Q8 ∧ r = r9)) else (if (rw_at J g (Q.1 2)) = 52 then (∃ (Q11 : QS) (r12 : Int32), E_r_backReference J g (rf Q 2 ((Q.1 2) + 1)) ((rw_at J g (Q.1 2)) - 48) Q11 r12 ∧ (Q' = Q11 ∧ r = r12)) else (if (rw_at J g (Q.1 2)) = 66 then (∃ (Q14 : QS) (r15 : Int32), E_r_single J g (rf Q 2 ((Q.1 2) + 1)) 6 Q14 r15 ∧ (Q' = Q14 ∧ r = r15)) else (if (rw_at J g (Q.1 2)) = 98 then (∃ (Q17 : QS) (r18 : Int32), E_r_single J g (rf Q 2 ((Q.1 2) + 1)) 5 Q17 r18 ∧ (Q' = Q17 ∧ r = r18)) else (if (rw_at J g (Q.1 2)) = 100 then (∃ (Q20 : QS) (r21 : Int32), E_r_set J g (rf Q 2 ((Q.1 2) + 1)) 287948901175001088 0 Q20 r21 ∧ (Q' = Q20 ∧ r = r21)) else (if (rw_at J g (Q.1 2)) = 119 then (∃ (Q23 : QS) (r24 : Int32), E_r_set J g (rf Q 2 ((Q.1 2) + 1)) 287948901175001088 576460745995190270 Q23 r24 ∧ (Q' = Q23 ∧ r = r24)) else (if (rw_at J g (Q.1 2)) = 45 then (∃ (Q26 : QS) (r27 : Int32), E_r_character J g (rf Q 2 ((Q.1 2) + 1)) (rw_at J g (Q.1 2)) Q26 r27 ∧ (Q' = Q26 ∧ r = r27)) else (if (zix 0 (rw_at J g (Q.1 2))) < 0 then (∃ (Q29 : QS) (r30 : Int32), E_r_refuse J g (rf Q 2 ((Q.1 2) + 1)) Q29 r30 ∧ (Q' = Q29 ∧ r = r30)) else (∃ (Q31 : QS) (r32 : Int32), E_r_character J g (rf Q 2 ((Q.1 2) + 1)) (rw_at J g (Q.1 2)) Q31 r32 ∧ (Q' = Q31 ∧ r = r32)))))))))))
set_option maxHeartbeats 4000000 in
set_option maxRecDepth 100000 in
theorem e_r_escaped (l : Launch) (G : PG) (Z : ZZ) (h : Nat) (q ad : Nat → Nat) (J : Nat) (g : Nat → Int32) (hO : gOK J g) (Q : QS)  (Q' : QS) (r : Int32) (hE : E_r_escaped J g Q Q' r) : CiZ l yX2_escaped (Cond.code yX2_escaped cX2_escaped 2 (some .int) :: aW) { frames := 4, cells := 0, slots := 0, locals := 96 } Z G (qW G h q ad J g Q) [.ref h] (fun (r9 : Int32) (_ : Unit) => r9 = r) (fun (_ : Unit) => qW G h q ad J g Q') 0 0 := by
  refine ofBZ (y := yX2_escaped) (G := G) (cc := cX2_escaped) (maxL := 2) (ret := (some .int)) (Qc := fun A => va_Qi (fun (r9 : Int32) (_ : Unit) => r9 = r) (oB G A (fun (_ : Unit) => qW G h q ad J g Q')) A) (by decide) rfl ?_
  intro p e s m below meth c A F hK hZ hA hP hD
  have hS : va_S A s.heap s.heap [] := va_S.rf
  have hx := F.1.1; have hb := F.1.2.1; have hml := F.1.2.2.1; have hts := F.1.2.2.2.2
  have hown : s.vm.findClass RX2 = some m.cls := F.1.2.2.2.1
  have hl := lv_entry ([.ref h]) (n := 2) (Nat.le_of_ble_eq_true rfl)
  rw [lg_entry_eq]
  generalize (lg_sl ([.ref h]) ++ List.replicate (2 - (lg_sl ([.ref h])).length) Slot.unset).toArray = ls at hl ⊢
  have hl : lv_has ls 2 [(0, .ref h)] := hl
  unfold E_r_escaped at hE
  refine lv_aload_n hx hb dX2_escaped_0 rfl (lv_at hl 0 rfl) ?_
  refine va_get (D := G.1) (ci := 2) (C := RX2) (T := TX2) (N := 10) hx hb hts inX2 hown hK.1 hP 0 qW_0 rfl 0 (by decide) (hts _ w_275) (fun _ h9 => h9) rF_0 dX2_escaped_1 ?_
  refine lv_aload_n hx hb dX2_escaped_4 rfl (lv_at hl 0 rfl) ?_
  refine va_get (D := G.1) (ci := 2) (C := RX2) (T := TX2) (N := 10) hx hb hts inX2 hown hK.1 hP 0 qW_0 rfl 2 (by decide) (hts _ w_277) (fun _ h9 => h9) rF_2 dX2_escaped_5 ?_
  refine kp_V (va_runV (As := [.int (Q.1 2)]) (rest := []) F.1 (v_row_at l G _ _ _ J g (Q.1 2) hO.1 (by decide) hO.2 _) (cwV 1 hts (aw_V w_335 w_336 w_337 w_3 w_338) rfl rfl rfl (by decide +kernel) ⟨by decide, by decide⟩) ⟨cS_blind, va_recv (q := (RX3, TX3, 2)) (ci := 3) (q0 := 0) hK.1 (qP_row hP) rfl rfl, cS_pre (qP_row hP) (qD_row hD) hK⟩ rfl rfl hl.1 rfl (lv_room (Nat.le_of_ble_eq_true rfl)) dX2_escaped_8 ⟨Nat.le_refl _, Nat.le_refl _⟩) (fun v9 hp => ?_)
  subst hp
  refine lv_istore_n hx hb dX2_escaped_11 rfl hl (by decide) rfl (fun ls hl => ?_)
  have hl : lv_has ls 2 [(1, .int (rw_at J g (Q.1 2))), (0, .ref h)] := hl
  refine lv_aload_n hx hb dX2_escaped_12 rfl (lv_at hl 1 rfl) ?_
  refine lv_dup hx hb dX2_escaped_13 rfl ?_
  refine va_get (D := G.1) (ci := 2) (C := RX2) (T := TX2) (N := 10) hx hb hts inX2 hown hK.1 hP 0 qW_0 rfl 2 (by decide) (hts _ w_277) (fun _ h9 => h9) rF_2 dX2_escaped_14 ?_
  refine lv_iconst (v := 1) hx hb dX2_escaped_17 (by decide) ?_
  refine lv_iadd hx hb dX2_escaped_18 ?_
  refine va_put (D := G.1) (ci := 2) (v := .int ((Q.1 2) + 1)) (ty := .int) (C := RX2) (T := TX2) (N := 10) hx hb hts inX2 tyX2 tyX2_ok nmX2 hown hK.1 hP hD hS 0 qW_0 rfl 2 (by decide) (hts _ w_277) (fun _ h9 => h9) rfl (by decide +kernel) rfl rfl rF_l2 dX2_escaped_19 (fun H locs hP hD hS => ?_)
  rw [qW_f2] at hP hD
  refine lv_iload_n hx hb dX2_escaped_22 rfl (lv_at hl 0 rfl) ?_
  by_cases h1 : (rw_at J g (Q.1 2)) = 49
  ·
    rw [if_pos h1] at hE
    refine tp_i 49 h1 ?_
    refine lv_lookup (tgt := 129) hx hb dX2_escaped_23 (by decide) rfl (by decide) ?_
    refine lv_aload_n hx hb dX2_escaped_129 rfl (lv_at hl 1 rfl) ?_
    refine lv_iload_n hx hb dX2_escaped_130 rfl (lv_at hl 0 rfl) ?_
    refine lv_bipush (v := 48) hx hb dX2_escaped_131 (by decide) ?_
    refine lv_isub hx hb dX2_escaped_133 ?_
    obtain ⟨Q2, r3, hg, hE⟩ := hE
    refine kA_i (va_runV (As := [.int ((rw_at J g (Q.1 2)) - 48)]) (rest := []) F.1 (e_r_backReference l G h q ad J g hO (rf Q 2 ((Q.1 2) + 1)) ((rw_at J g (Q.1 2)) - 48) Q2 r3 hg _) (cwV 1 hts (aw_V w_508 w_510 ws_X2_backReference w_7 w_511) rfl rfl rfl (by decide +kernel) ⟨by decide, by decide⟩) ⟨cS_blind, va_recv (q := (RX2, TX2, 10)) (ci := 2) (q0 := 0) hK.1 hP rfl qW_0, cS_pre hP hD hK⟩ rfl rfl hl.1 rfl (lv_room (Nat.le_of_ble_eq_true rfl)) dX2_escaped_134 ⟨Nat.le_refl _, Nat.le_refl _⟩) hD hS hA (fun r9 u0 H locs hp hP hD hS => ?_)
    have hp := hp.symm; subst hp
    obtain ⟨rfl, rfl⟩ := hE
    exact en_i F hS _ () (by rfl) rfl hP hD (Nat.le_refl _) (Nat.le_refl _) dX2_escaped_137
  rw [if_neg h1] at hE
  by_cases h4 : (rw_at J g (Q.1 2)) = 50
  ·
    rw [if_pos h4] at hE
    refine tp_i 50 h4 ?_
    refine lv_lookup (tgt := 129) hx hb dX2_escaped_23 (by decide) rfl (by decide) ?_
    refine lv_aload_n hx hb dX2_escaped_129 rfl (lv_at hl 1 rfl) ?_
    refine lv_iload_n hx hb dX2_escaped_130 rfl (lv_at hl 0 rfl) ?_
    refine lv_bipush (v := 48) hx hb dX2_escaped_131 (by decide) ?_
    refine lv_isub hx hb dX2_escaped_133 ?_
    obtain ⟨Q5, r6, hg, hE⟩ := hE
    refine kA_i (va_runV (As := [.int ((rw_at J g (Q.1 2)) - 48)]) (rest := []) F.1 (e_r_backReference l G h q ad J g hO (rf Q 2 ((Q.1 2) + 1)) ((rw_at J g (Q.1 2)) - 48) Q5 r6 hg _) (cwV 1 hts (aw_V w_508 w_510 ws_X2_backReference w_7 w_511) rfl rfl rfl (by decide +kernel) ⟨by decide, by decide⟩) ⟨cS_blind, va_recv (q := (RX2, TX2, 10)) (ci := 2) (q0 := 0) hK.1 hP rfl qW_0, cS_pre hP hD hK⟩ rfl rfl hl.1 rfl (lv_room (Nat.le_of_ble_eq_true rfl)) dX2_escaped_134 ⟨Nat.le_refl _, Nat.le_refl _⟩) hD hS hA (fun r9 u0 H locs hp hP hD hS => ?_)
    have hp := hp.symm; subst hp
    obtain ⟨rfl, rfl⟩ := hE
    exact en_i F hS _ () (by rfl) rfl hP hD (Nat.le_refl _) (Nat.le_refl _) dX2_escaped_137
  rw [if_neg h4] at hE
  by_cases h7 : (rw_at J g (Q.1 2)) = 51
  ·
    rw [if_pos h7] at hE
    refine tp_i 51 h7 ?_
    refine lv_lookup (tgt := 129) hx hb dX2_escaped_23 (by decide) rfl (by decide) ?_
    refine lv_aload_n hx hb dX2_escaped_129 rfl (lv_at hl 1 rfl) ?_
    refine lv_iload_n hx hb dX2_escaped_130 rfl (lv_at hl 0 rfl) ?_
    refine lv_bipush (v := 48) hx hb dX2_escaped_131 (by decide) ?_
    refine lv_isub hx hb dX2_escaped_133 ?_
    obtain ⟨Q8, r9, hg, hE⟩ := hE
    refine kA_i (va_runV (As := [.int ((rw_at J g (Q.1 2)) - 48)]) (rest := []) F.1 (e_r_backReference l G h q ad J g hO (rf Q 2 ((Q.1 2) + 1)) ((rw_at J g (Q.1 2)) - 48) Q8 r9 hg _) (cwV 1 hts (aw_V w_508 w_510 ws_X2_backReference w_7 w_511) rfl rfl rfl (by decide +kernel) ⟨by decide, by decide⟩) ⟨cS_blind, va_recv (q := (RX2, TX2, 10)) (ci := 2) (q0 := 0) hK.1 hP rfl qW_0, cS_pre hP hD hK⟩ rfl rfl hl.1 rfl (lv_room (Nat.le_of_ble_eq_true rfl)) dX2_escaped_134 ⟨Nat.le_refl _, Nat.le_refl _⟩) hD hS hA (fun r9 u0 H locs hp hP hD hS => ?_)
    have hp := hp.symm; subst hp
    obtain ⟨rfl, rfl⟩ := hE
    exact en_i F hS _ () (by rfl) rfl hP hD (Nat.le_refl _) (Nat.le_refl _) dX2_escaped_137
  rw [if_neg h7] at hE
  by_cases h10 : (rw_at J g (Q.1 2)) = 52
  ·
    rw [if_pos h10] at hE
    refine tp_i 52 h10 ?_
    refine lv_lookup (tgt := 129) hx hb dX2_escaped_23 (by decide) rfl (by decide) ?_
    refine lv_aload_n hx hb dX2_escaped_129 rfl (lv_at hl 1 rfl) ?_
    refine lv_iload_n hx hb dX2_escaped_130 rfl (lv_at hl 0 rfl) ?_
    refine lv_bipush (v := 48) hx hb dX2_escaped_131 (by decide) ?_
    refine lv_isub hx hb dX2_escaped_133 ?_
    obtain ⟨Q11, r12, hg, hE⟩ := hE
    refine kA_i (va_runV (As := [.int ((rw_at J g (Q.1 2)) - 48)]) (rest := []) F.1 (e_r_backReference l G h q ad J g hO (rf Q 2 ((Q.1 2) + 1)) ((rw_at J g (Q.1 2)) - 48) Q11 r12 hg _) (cwV 1 hts (aw_V w_508 w_510 ws_X2_backReference w_7 w_511) rfl rfl rfl (by decide +kernel) ⟨by decide, by decide⟩) ⟨cS_blind, va_recv (q := (RX2, TX2, 10)) (ci := 2) (q0 := 0) hK.1 hP rfl qW_0, cS_pre hP hD hK⟩ rfl rfl hl.1 rfl (lv_room (Nat.le_of_ble_eq_true rfl)) dX2_escaped_134 ⟨Nat.le_refl _, Nat.le_refl _⟩) hD hS hA (fun r9 u0 H locs hp hP hD hS => ?_)
    have hp := hp.symm; subst hp
    obtain ⟨rfl, rfl⟩ := hE
    exact en_i F hS _ () (by rfl) rfl hP hD (Nat.le_refl _) (Nat.le_refl _) dX2_escaped_137
  rw [if_neg h10] at hE
  by_cases h13 : (rw_at J g (Q.1 2)) = 66
  ·
    rw [if_pos h13] at hE
    refine tp_i 66 h13 ?_
    refine lv_lookup (tgt := 122) hx hb dX2_escaped_23 (by decide) rfl (by decide) ?_
    refine lv_aload_n hx hb dX2_escaped_122 rfl (lv_at hl 1 rfl) ?_
    refine lv_bipush (v := 6) hx hb dX2_escaped_123 (by decide) ?_
    obtain ⟨Q14, r15, hg, hE⟩ := hE
    refine kA_i (va_runV (As := [.int 6]) (rest := []) F.1 (e_r_single l G h q ad J g hO (rf Q 2 ((Q.1 2) + 1)) 6 Q14 r15 hg _) (cwV 1 hts (aw_V w_383 w_385 ws_X2_single w_7 w_386) rfl rfl rfl (by decide +kernel) ⟨by decide, by decide⟩) ⟨cS_blind, va_recv (q := (RX2, TX2, 10)) (ci := 2) (q0 := 0) hK.1 hP rfl qW_0, cS_pre hP hD hK⟩ rfl rfl hl.1 rfl (lv_room (Nat.le_of_ble_eq_true rfl)) dX2_escaped_125 ⟨Nat.le_refl _, Nat.le_refl _⟩) hD hS hA (fun r9 u0 H locs hp hP hD hS => ?_)
    have hp := hp.symm; subst hp
    obtain ⟨rfl, rfl⟩ := hE
    exact en_i F hS _ () (by rfl) rfl hP hD (Nat.le_refl _) (Nat.le_refl _) dX2_escaped_128
  rw [if_neg h13] at hE
  by_cases h16 : (rw_at J g (Q.1 2)) = 98
  ·
    rw [if_pos h16] at hE
    refine tp_i 98 h16 ?_
    refine lv_lookup (tgt := 116) hx hb dX2_escaped_23 (by decide) rfl (by decide) ?_
    refine lv_aload_n hx hb dX2_escaped_116 rfl (lv_at hl 1 rfl) ?_
    refine lv_iconst (v := 5) hx hb dX2_escaped_117 (by decide) ?_
    obtain ⟨Q17, r18, hg, hE⟩ := hE
    refine kA_i (va_runV (As := [.int 5]) (rest := []) F.1 (e_r_single l G h q ad J g hO (rf Q 2 ((Q.1 2) + 1)) 5 Q17 r18 hg _) (cwV 1 hts (aw_V w_383 w_385 ws_X2_single w_7 w_386) rfl rfl rfl (by decide +kernel) ⟨by decide, by decide⟩) ⟨cS_blind, va_recv (q := (RX2, TX2, 10)) (ci := 2) (q0 := 0) hK.1 hP rfl qW_0, cS_pre hP hD hK⟩ rfl rfl hl.1 rfl (lv_room (Nat.le_of_ble_eq_true rfl)) dX2_escaped_118 ⟨Nat.le_refl _, Nat.le_refl _⟩) hD hS hA (fun r9 u0 H locs hp hP hD hS => ?_)
    have hp := hp.symm; subst hp
    obtain ⟨rfl, rfl⟩ := hE
    exact en_i F hS _ () (by rfl) rfl hP hD (Nat.le_refl _) (Nat.le_refl _) dX2_escaped_121
  rw [if_neg h16] at hE
  by_cases h19 : (rw_at J g (Q.1 2)) = 100
  ·
    rw [if_pos h19] at hE
    refine tp_i 100 h19 ?_
    refine lv_lookup (tgt := 96) hx hb dX2_escaped_23 (by decide) rfl (by decide) ?_
    refine lv_aload_n hx hb dX2_escaped_96 rfl (lv_at hl 1 rfl) ?_
    refine lv_ldc2 (v := 287948901175001088) hx hb hown (hts _ w_403) dX2_escaped_97 ?_
    refine lv_lconst (v := 0) hx hb dX2_escaped_100 (by decide) ?_
    obtain ⟨Q20, r21, hg, hE⟩ := hE
    refine kA_i (va_runV (As := [.long 287948901175001088, .long 0]) (rest := []) F.1 (e_r_set l G h q ad J g hO (rf Q 2 ((Q.1 2) + 1)) 287948901175001088 0 Q20 r21 hg _) (cwV 2 hts (aw_V w_500 w_502 ws_X2_set w_7 w_503) rfl rfl rfl (by decide +kernel) ⟨by decide, by decide⟩) ⟨cS_blind, va_recv (q := (RX2, TX2, 10)) (ci := 2) (q0 := 0) hK.1 hP rfl qW_0, cS_pre hP hD hK⟩ rfl rfl hl.1 rfl (lv_room (Nat.le_of_ble_eq_true rfl)) dX2_escaped_101 ⟨Nat.le_refl _, Nat.le_refl _⟩) hD hS hA (fun r9 u0 H locs hp hP hD hS => ?_)
    have hp := hp.symm; subst hp
    obtain ⟨rfl, rfl⟩ := hE
    exact en_i F hS _ () (by rfl) rfl hP hD (Nat.le_refl _) (Nat.le_refl _) dX2_escaped_104
  rw [if_neg h19] at hE
  by_cases h22 : (rw_at J g (Q.1 2)) = 119
  ·
    rw [if_pos h22] at hE
    refine tp_i 119 h22 ?_
    refine lv_lookup (tgt := 105) hx hb dX2_escaped_23 (by decide) rfl (by decide) ?_
    refine lv_aload_n hx hb dX2_escaped_105 rfl (lv_at hl 1 rfl) ?_
    refine lv_ldc2 (v := 287948901175001088) hx hb hown (hts _ w_403) dX2_escaped_106 ?_
    refine lv_ldc2 (v := 576460745995190270) hx hb hown (hts _ w_404) dX2_escaped_109 ?_
    obtain ⟨Q23, r24, hg, hE⟩ := hE
    refine kA_i (va_runV (As := [.long 287948901175001088, .long 576460745995190270]) (rest := []) F.1 (e_r_set l G h q ad J g hO (rf Q 2 ((Q.1 2) + 1)) 287948901175001088 576460745995190270 Q23 r24 hg _) (cwV 2 hts (aw_V w_500 w_502 ws_X2_set w_7 w_503) rfl rfl rfl (by decide +kernel) ⟨by decide, by decide⟩) ⟨cS_blind, va_recv (q := (RX2, TX2, 10)) (ci := 2) (q0 := 0) hK.1 hP rfl qW_0, cS_pre hP hD hK⟩ rfl rfl hl.1 rfl (lv_room (Nat.le_of_ble_eq_true rfl)) dX2_escaped_112 ⟨Nat.le_refl _, Nat.le_refl _⟩) hD hS hA (fun r9 u0 H locs hp hP hD hS => ?_)
    have hp := hp.symm; subst hp
    obtain ⟨rfl, rfl⟩ := hE
    exact en_i F hS _ () (by rfl) rfl hP hD (Nat.le_refl _) (Nat.le_refl _) dX2_escaped_115
  rw [if_neg h22] at hE
  refine lv_lookup (tgt := 138) (off := 115) hx hb dX2_escaped_23 (by decide) (by simp only [Op.lookupswitch.offset_cons, Op.lookupswitch.offset_nil, if_neg (lk_n (k := 49) (z := 49) rfl h1), if_neg (lk_n (k := 50) (z := 50) rfl h4), if_neg (lk_n (k := 51) (z := 51) rfl h7), if_neg (lk_n (k := 52) (z := 52) rfl h10), if_neg (lk_n (k := 66) (z := 66) rfl h13), if_neg (lk_n (k := 98) (z := 98) rfl h16), if_neg (lk_n (k := 100) (z := 100) rfl h19), if_neg (lk_n (k := 119) (z := 119) rfl h22)]) (by decide) ?_
  refine lv_iload_n hx hb dX2_escaped_138 rfl (lv_at hl 0 rfl) ?_
  refine lv_bipush (v := 45) hx hb dX2_escaped_139 (by decide) ?_
  refine lv_icmp_eq (tgt := 153) hx hb dX2_escaped_141 (by decide) (fun h25 => ?_) (fun h25 => ?_)
  ·
    rw [if_pos h25] at hE
    refine lv_aload_n hx hb dX2_escaped_153 rfl (lv_at hl 1 rfl) ?_
    refine lv_iload_n hx hb dX2_escaped_154 rfl (lv_at hl 0 rfl) ?_
    obtain ⟨Q26, r27, hg, hE⟩ := hE
    refine kA_i (va_runV (As := [.int (rw_at J g (Q.1 2))]) (rest := []) F.1 (e_r_character l G h q ad J g hO (rf Q 2 ((Q.1 2) + 1)) (rw_at J g (Q.1 2)) Q26 r27 hg _) (cwV 1 hts (aw_V w_514 w_516 ws_X2_character w_7 w_517) rfl rfl rfl (by decide +kernel) ⟨by decide, by decide⟩) ⟨cS_blind, va_recv (q := (RX2, TX2, 10)) (ci := 2) (q0 := 0) hK.1 hP rfl qW_0, cS_pre hP hD hK⟩ rfl rfl hl.1 rfl (lv_room (Nat.le_of_ble_eq_true rfl)) dX2_escaped_155 ⟨Nat.le_refl _, Nat.le_refl _⟩) hD hS hA (fun r9 u0 H locs hp hP hD hS => ?_)
    have hp := hp.symm; subst hp
    refine lv_goto (tgt := 165) hx hb dX2_escaped_158 (by decide) ?_
    obtain ⟨rfl, rfl⟩ := hE
    exact en_i F hS _ () (by rfl) rfl hP hD (Nat.le_refl _) (Nat.le_refl _) dX2_escaped_165
  ·
    rw [if_neg h25] at hE
    refine va_ldcS hx hb hown hZ.2.2.1 dX2_escaped_144 ?_
    refine lv_iload_n hx hb dX2_escaped_146 rfl (lv_at hl 0 rfl) ?_
    refine kp_V (va_runV (As := [.int (rw_at J g (Q.1 2))]) (rest := []) F.1 (e_ix l G Z 0 (by decide) (rw_at J g (Q.1 2)) _) (cwV 1 hts (aw_V w_406 w_407 w_408 w_8 w_409) rfl rfl rfl (by decide +kernel) ⟨by decide, by decide⟩) ⟨zS_blind, vk_recv (i := 0) hZ.1 (by decide) hS, zS_pre va_P0 (va_D0 (A := A)) hK hZ hS (kA_F va_D0 hS hA)⟩ rfl rfl hl.1 rfl (lv_room (Nat.le_of_ble_eq_true rfl)) dX2_escaped_147 ⟨Nat.le_refl _, Nat.le_refl _⟩) (fun v9 hp => ?_)
    subst hp
    refine lv_if_lt (tgt := 161) hx hb dX2_escaped_150 (by decide) (fun h28 => ?_) (fun h28 => ?_)
    ·
      rw [if_pos h28] at hE
      refine lv_aload_n hx hb dX2_escaped_161 rfl (lv_at hl 1 rfl) ?_
      obtain ⟨Q29, r30, hg, hE⟩ := hE
      refine kA_i (va_runV (As := []) (rest := []) F.1 (e_r_refuse l G h q ad J g hO (rf Q 2 ((Q.1 2) + 1)) Q29 r30 hg _) (cwV 0 hts (aw_V w_355 w_357 ws_X2_refuse w_7 w_358) rfl rfl rfl (by decide +kernel) ⟨by decide, by decide⟩) ⟨cS_blind, va_recv (q := (RX2, TX2, 10)) (ci := 2) (q0 := 0) hK.1 hP rfl qW_0, cS_pre hP hD hK⟩ rfl rfl hl.1 rfl (lv_room (Nat.le_of_ble_eq_true rfl)) dX2_escaped_162 ⟨Nat.le_refl _, Nat.le_refl _⟩) hD hS hA (fun r9 u0 H locs hp hP hD hS => ?_)
      have hp := hp.symm; subst hp
      obtain ⟨rfl, rfl⟩ := hE
      exact en_i F hS _ () (by rfl) rfl hP hD (Nat.le_refl _) (Nat.le_refl _) dX2_escaped_165
    ·
      rw [if_neg h28] at hE
      refine lv_aload_n hx hb dX2_escaped_153 rfl (lv_at hl 1 rfl) ?_
      refine lv_iload_n hx hb dX2_escaped_154 rfl (lv_at hl 0 rfl) ?_
      obtain ⟨Q31, r32, hg, hE⟩ := hE
      refine kA_i (va_runV (As := [.int (rw_at J g (Q.1 2))]) (rest := []) F.1 (e_r_character l G h q ad J g hO (rf Q 2 ((Q.1 2) + 1)) (rw_at J g (Q.1 2)) Q31 r32 hg _) (cwV 1 hts (aw_V w_514 w_516 ws_X2_character w_7 w_517) rfl rfl rfl (by decide +kernel) ⟨by decide, by decide⟩) ⟨cS_blind, va_recv (q := (RX2, TX2, 10)) (ci := 2) (q0 := 0) hK.1 hP rfl qW_0, cS_pre hP hD hK⟩ rfl rfl hl.1 rfl (lv_room (Nat.le_of_ble_eq_true rfl)) dX2_escaped_155 ⟨Nat.le_refl _, Nat.le_refl _⟩) hD hS hA (fun r9 u0 H locs hp hP hD hS => ?_)
      have hp := hp.symm; subst hp
      refine lv_goto (tgt := 165) hx hb dX2_escaped_158 (by decide) ?_
      obtain ⟨rfl, rfl⟩ := hE
      exact en_i F hS _ () (by rfl) rfl hP hD (Nat.le_refl _) (Nat.le_refl _) dX2_escaped_165

