/-! the reference, further methods -/
theorem dX6_search_0 : decode cX6_search 0 = .ok (.iload_n 1, 1) := by decide +kernel
theorem dX6_search_1 : decode cX6_search 1 = .ok (.istore_n 2, 1) := by decide +kernel
theorem dX6_search_2 : decode cX6_search 2 = .ok (.iload_n 2, 1) := by decide +kernel
theorem dX6_search_3 : decode cX6_search 3 = .ok (.aload_n 0, 1) := by decide +kernel
theorem dX6_search_4 : decode cX6_search 4 = .ok (.getfield 13, 3) := by decide +kernel
theorem dX6_search_7 : decode cX6_search 7 = .ok (.iconst 1, 1) := by decide +kernel
theorem dX6_search_8 : decode cX6_search 8 = .ok (.iaload, 1) := by decide +kernel
theorem dX6_search_9 : decode cX6_search 9 = .ok (.if_icmp .gt 20, 3) := by decide +kernel
theorem dX6_search_12 : decode cX6_search 12 = .ok (.aload_n 0, 1) := by decide +kernel
theorem dX6_search_13 : decode cX6_search 13 = .ok (.iload_n 2, 1) := by decide +kernel
theorem dX6_search_14 : decode cX6_search 14 = .ok (.iconst 0, 1) := by decide +kernel
theorem dX6_search_15 : decode cX6_search 15 = .ok (.invokevirtual 293, 3) := by decide +kernel
theorem dX6_search_18 : decode cX6_search 18 = .ok (.ifCond .eq 5, 3) := by decide +kernel
theorem dX6_search_21 : decode cX6_search 21 = .ok (.iconst 1, 1) := by decide +kernel
theorem dX6_search_22 : decode cX6_search 22 = .ok (.ireturn, 1) := by decide +kernel
theorem dX6_search_23 : decode cX6_search 23 = .ok (.iinc 2 1, 3) := by decide +kernel
theorem dX6_search_26 : decode cX6_search 26 = .ok (.goto (-24), 3) := by decide +kernel
theorem dX6_search_29 : decode cX6_search 29 = .ok (.iconst 0, 1) := by decide +kernel
theorem dX6_search_30 : decode cX6_search 30 = .ok (.ireturn, 1) := by decide +kernel
def L_search_2 : Nat → RS → Int32 → Int32 → RS → Int32 → Prop
  | 0, _, _, _, _, _ => False
  | nf + 1, R, x1, x2, R', r => vp_in 1 3 ∧ (if (R.2.1 2 (1 : Int32).toNatClampNeg) < x2 then (R' = R ∧ r = 0) else (∃ (R2 : RS) (r3 : Int32), E_run R x2 0 R2 r3 ∧ (if r3 = 0 then (L_search_2 nf R2 x1 (x2 + 1) R' r) else (R' = R2 ∧ r = 1))))
set_option maxHeartbeats 4000000 in
set_option maxRecDepth 100000 in
theorem L_search_2_ok {l : Launch} {G : PG} {h : Nat} {q : Nat → Nat} {a1 : Int32} {R' : RS} {r : Int32} {p : Program} {e : Env} {s : State} {m : MethodId} {below : List Frame} {meth : Method} {c : Code} {A : Nat → Prop} (F : bF p s m meth c cX6_search 3 (some .boolean) ([.ref h, .int a1] : List Value).toArray yX6_search) (hK : pg_K G s) (hA : ∀ q, s.heap.size ≤ q → A q) : ∀ (nf : Nat) (R : RS) (x1 : Int32) (x2 : Int32) (H : Heap) (locs : List Loc) (ls : Array Slot), lv_has ls 3 [(2, .int x2), (0, .ref h), (1, .int x1)] → L_search_2 nf R x1 x2 R' r → va_P G.1 vwCl (mW G h q R) H → va_D A (mW G h q R) → va_S A s.heap H locs → W p l e { frames := 6, cells := 0, slots := 0, locals := 135 } s m ([.ref h, .int a1] : List Value).toArray below meth c H locs 0 0 (MQ below (va_Qi (fun (r9 : Int32) (_ : Unit) => r9 = r) (oB G A (fun (_ : Unit) => mW G h q R')) A) ([.ref h, .int a1] : List Value).toArray s 0 0 A) (F0 m 2 ls []) := by
  have hx := F.1.1; have hb := F.1.2.1; have hml := F.1.2.2.1; have hts := F.1.2.2.2.2
  have hown : s.vm.findClass RX6 = some m.cls := F.1.2.2.2.1
  intro nf
  induction nf with
  | zero => intro R x1 x2 H locs ls hl hE; exact hE.elim
  | succ nf ih =>
    intro R x1 x2 H locs ls hl hE hP hD hS
    unfold L_search_2 at hE
    refine lv_iload_n hx hb dX6_search_2 rfl (lv_at hl 0 rfl) ?_
    refine lv_aload_n hx hb dX6_search_3 rfl (lv_at hl 1 rfl) ?_
    refine va_get (D := G.1) (ci := 6) (C := RX6) (T := TX6) (N := 48) hx hb hts inX6 hown hK.1 hP 0 mW_0 rfl 2 (by decide) (hts _ w_848) (fun _ h9 => h9) mF_2 dX6_search_4 ?_
    refine lv_iconst (v := 1) hx hb dX6_search_7 (by decide) ?_
    obtain ⟨hin, hE⟩ := hE
    refine va_iald (D := G.1) hx hb hK.1 hP 2 0 mW_g2 rfl hin dX6_search_8 ?_
    refine lv_icmp_gt (tgt := 29) hx hb dX6_search_9 (by decide) (fun h1 => ?_) (fun h1 => ?_)
    ·
      rw [if_pos h1] at hE
      refine lv_iconst (v := 0) hx hb dX6_search_29 (by decide) ?_
      obtain ⟨rfl, rfl⟩ := hE
      exact en_i F hS _ () (by rfl) rfl hP hD (Nat.le_refl _) (Nat.le_refl _) dX6_search_30
    ·
      rw [if_neg h1] at hE
      refine lv_aload_n hx hb dX6_search_12 rfl (lv_at hl 1 rfl) ?_
      refine lv_iload_n hx hb dX6_search_13 rfl (lv_at hl 0 rfl) ?_
      refine lv_iconst (v := 0) hx hb dX6_search_14 (by decide) ?_
      obtain ⟨R2, r3, hg, hE⟩ := hE
      refine kA_i (va_runV (As := [.int x2, .int 0]) (rest := []) F.1 (e_run l G h q R x2 0 R2 r3 hg _) (cwV 2 hts (aw_V w_1104 w_1106 ws_X6_run w_6 w_1107) rfl rfl rfl (by decide +kernel) ⟨by decide, by decide⟩) ⟨cS_blind, va_recv (q := (RX6, TX6, 48)) (ci := 6) (q0 := 0) hK.1 hP rfl mW_0, cS_pre hP hD hK⟩ rfl rfl hl.1 rfl (lv_room (Nat.le_of_ble_eq_true rfl)) dX6_search_15 ⟨Nat.le_refl _, Nat.le_refl _⟩) hD hS hA (fun r9 u0 H locs hp hP hD hS => ?_)
      have hp := hp.symm; subst hp
      refine lv_if_eq (tgt := 23) hx hb dX6_search_18 (by decide) (fun h4 => ?_) (fun h4 => ?_)
      ·
        rw [if_pos h4] at hE
        refine lv_iinc (v := (x2 + 1)) (k := 0) hx hb dX6_search_23 hl rfl rfl (by decide) rfl (fun ls hl => ?_)
        have hl : lv_has ls 3 [(2, .int (x2 + 1)), (0, .ref h), (1, .int x1)] := hl
        refine lv_goto (tgt := 2) hx hb dX6_search_26 (by decide) ?_
        exact ih R2 x1 (x2 + 1) _ _ ls (lv_sub hl [0, 1, 2] rfl) hE hP hD hS
      ·
        rw [if_neg h4] at hE
        refine lv_iconst (v := 1) hx hb dX6_search_21 (by decide) ?_
        obtain ⟨rfl, rfl⟩ := hE
        exact en_i F hS _ () (by rfl) rfl hP hD (Nat.le_refl _) (Nat.le_refl _) dX6_search_22
def E_search (R : RS) (a1 : Int32) (R' : RS) (r : Int32) : Prop := ∃ nf : Nat, L_search_2 nf R a1 a1 R' r
set_option maxHeartbeats 4000000 in
set_option maxRecDepth 100000 in
theorem e_search (l : Launch) (G : PG) (h : Nat) (q : Nat → Nat) (R : RS) (a1 : Int32) (R' : RS) (r : Int32) (hE : E_search R a1 R' r) : Ci l yX6_search (Cond.code yX6_search cX6_search 3 (some .boolean) :: aW) { frames := 6, cells := 0, slots := 0, locals := 135 } G (mW G h q R) [.ref h, .int a1] (fun (r9 : Int32) (_ : Unit) => r9 = r) (fun (_ : Unit) => mW G h q R') 0 0 := by
  refine ofB (y := yX6_search) (G := G) (cc := cX6_search) (maxL := 3) (ret := (some .boolean)) (Qc := fun A => va_Qi (fun (r9 : Int32) (_ : Unit) => r9 = r) (oB G A (fun (_ : Unit) => mW G h q R')) A) (by decide) rfl ?_
  intro p e s m below meth c A F hK hA hP hD
  have hS : va_S A s.heap s.heap [] := va_S.rf
  have hx := F.1.1; have hb := F.1.2.1; have hml := F.1.2.2.1; have hts := F.1.2.2.2.2
  have hown : s.vm.findClass RX6 = some m.cls := F.1.2.2.2.1
  have hl := lv_entry ([.ref h, .int a1]) (n := 3) (Nat.le_of_ble_eq_true rfl)
  rw [lg_entry_eq]
  generalize (lg_sl ([.ref h, .int a1]) ++ List.replicate (3 - (lg_sl ([.ref h, .int a1])).length) Slot.unset).toArray = ls at hl ⊢
  have hl : lv_has ls 3 [(0, .ref h), (1, .int a1)] := hl
  unfold E_search at hE
  refine lv_iload_n hx hb dX6_search_0 rfl (lv_at hl 1 rfl) ?_
  refine lv_istore_n hx hb dX6_search_1 rfl hl (by decide) rfl (fun ls hl => ?_)
  have hl : lv_has ls 3 [(2, .int a1), (0, .ref h), (1, .int a1)] := hl
  obtain ⟨nf, hE⟩ := hE
  exact L_search_2_ok F hK hA nf R a1 a1 _ _ ls (lv_sub hl [0, 1, 2] rfl) hE hP hD hS

theorem dX6_note_0 : decode cX6_note 0 = .ok (.aload_n 0, 1) := by decide +kernel
theorem dX6_note_1 : decode cX6_note 1 = .ok (.iload_n 1, 1) := by decide +kernel
theorem dX6_note_2 : decode cX6_note 2 = .ok (.putfield 110, 3) := by decide +kernel
theorem dX6_note_5 : decode cX6_note 5 = .ok (.iconst 0, 1) := by decide +kernel
theorem dX6_note_6 : decode cX6_note 6 = .ok (.istore_n 2, 1) := by decide +kernel
theorem dX6_note_7 : decode cX6_note 7 = .ok (.iload_n 2, 1) := by decide +kernel
theorem dX6_note_8 : decode cX6_note 8 = .ok (.bipush 10, 2) := by decide +kernel
theorem dX6_note_10 : decode cX6_note 10 = .ok (.if_icmp .ge 21, 3) := by decide +kernel
theorem dX6_note_13 : decode cX6_note 13 = .ok (.aload_n 0, 1) := by decide +kernel
theorem dX6_note_14 : decode cX6_note 14 = .ok (.getfield 90, 3) := by decide +kernel
theorem dX6_note_17 : decode cX6_note 17 = .ok (.iload_n 2, 1) := by decide +kernel
theorem dX6_note_18 : decode cX6_note 18 = .ok (.aload_n 0, 1) := by decide +kernel
theorem dX6_note_19 : decode cX6_note 19 = .ok (.getfield 57, 3) := by decide +kernel
theorem dX6_note_22 : decode cX6_note 22 = .ok (.iload_n 2, 1) := by decide +kernel
theorem dX6_note_23 : decode cX6_note 23 = .ok (.iaload, 1) := by decide +kernel
theorem dX6_note_24 : decode cX6_note 24 = .ok (.iastore, 1) := by decide +kernel
theorem dX6_note_25 : decode cX6_note 25 = .ok (.iinc 2 1, 3) := by decide +kernel
theorem dX6_note_28 : decode cX6_note 28 = .ok (.goto (-21), 3) := by decide +kernel
theorem dX6_note_31 : decode cX6_note 31 = .ok (.return_, 1) := by decide +kernel
def L_note_7 : Nat → RS → Int32 → Int32 → RS → Int32 → Prop
  | 0, _, _, _, _, _ => False
  | nf + 1, R, x1, x2, R', r => if 10 ≤ x2 then (R' = R ∧ r = 0) else (vp_in x2 10 ∧ (vp_in x2 10 ∧ (L_note_7 nf (ma R 42 x2.toNatClampNeg (R.2.1 30 x2.toNatClampNeg)) x1 (x2 + 1) R' r)))
set_option maxHeartbeats 4000000 in
set_option maxRecDepth 100000 in
theorem L_note_7_ok {l : Launch} {G : PG} {h : Nat} {q : Nat → Nat} {a1 : Int32} {R' : RS} {r : Int32} {p : Program} {e : Env} {s : State} {m : MethodId} {below : List Frame} {meth : Method} {c : Code} {A : Nat → Prop} (F : bF p s m meth c cX6_note 3 none ([.ref h, .int a1] : List Value).toArray yX6_note) (hK : pg_K G s) (hA : ∀ q, s.heap.size ≤ q → A q) : ∀ (nf : Nat) (R : RS) (x1 : Int32) (x2 : Int32) (H : Heap) (locs : List Loc) (ls : Array Slot), lv_has ls 3 [(2, .int x2), (0, .ref h), (1, .int x1)] → L_note_7 nf R x1 x2 R' r → va_P G.1 vwCl (mW G h q R) H → va_D A (mW G h q R) → va_S A s.heap H locs → W p l e { frames := 0, cells := 0, slots := 0, locals := 0 } s m ([.ref h, .int a1] : List Value).toArray below meth c H locs 0 0 (MQ below (va_Qv (fun (_ : Unit) => True) (oB G A (fun (_ : Unit) => mW G h q R')) A) ([.ref h, .int a1] : List Value).toArray s 0 0 A) (F0 m 7 ls []) := by
  have hx := F.1.1; have hb := F.1.2.1; have hml := F.1.2.2.1; have hts := F.1.2.2.2.2
  have hown : s.vm.findClass RX6 = some m.cls := F.1.2.2.2.1
  intro nf
  induction nf with
  | zero => intro R x1 x2 H locs ls hl hE; exact hE.elim
  | succ nf ih =>
    intro R x1 x2 H locs ls hl hE hP hD hS
    unfold L_note_7 at hE
    refine lv_iload_n hx hb dX6_note_7 rfl (lv_at hl 0 rfl) ?_
    refine lv_bipush (v := 10) hx hb dX6_note_8 (by decide) ?_
    refine lv_icmp_ge (tgt := 31) hx hb dX6_note_10 (by decide) (fun h1 => ?_) (fun h1 => ?_)
    ·
      rw [if_pos h1] at hE
      obtain ⟨rfl, rfl⟩ := hE
      exact en_v F hS () trivial hP hD (Nat.le_refl _) (Nat.le_refl _) dX6_note_31
    ·
      rw [if_neg h1] at hE
      refine lv_aload_n hx hb dX6_note_13 rfl (lv_at hl 1 rfl) ?_
      refine va_get (D := G.1) (ci := 6) (C := RX6) (T := TX6) (N := 48) hx hb hts inX6 hown hK.1 hP 0 mW_0 rfl 42 (by decide) (hts _ w_888) (fun _ h9 => h9) mF_42 dX6_note_14 ?_
      refine lv_iload_n hx hb dX6_note_17 rfl (lv_at hl 0 rfl) ?_
      refine lv_aload_n hx hb dX6_note_18 rfl (lv_at hl 1 rfl) ?_
      refine va_get (D := G.1) (ci := 6) (C := RX6) (T := TX6) (N := 48) hx hb hts inX6 hown hK.1 hP 0 mW_0 rfl 30 (by decide) (hts _ w_876) (fun _ h9 => h9) mF_30 dX6_note_19 ?_
      refine lv_iload_n hx hb dX6_note_22 rfl (lv_at hl 0 rfl) ?_
      obtain ⟨hin, hE⟩ := hE
      refine va_iald (D := G.1) hx hb hK.1 hP 16 0 mW_g30 rfl hin dX6_note_23 ?_
      obtain ⟨hin, hE⟩ := hE
      refine va_iast (D := G.1) hx hb hK.1 hP hD hS 27 0 mW_g42 rfl hin dX6_note_24 (fun H locs hP hD hS => ?_)
      rw [mW_a42] at hP hD
      refine lv_iinc (v := (x2 + 1)) (k := 0) hx hb dX6_note_25 hl rfl rfl (by decide) rfl (fun ls hl => ?_)
      have hl : lv_has ls 3 [(2, .int (x2 + 1)), (0, .ref h), (1, .int x1)] := hl
      refine lv_goto (tgt := 7) hx hb dX6_note_28 (by decide) ?_
      exact ih (ma R 42 x2.toNatClampNeg (R.2.1 30 x2.toNatClampNeg)) x1 (x2 + 1) _ _ ls (lv_sub hl [0, 1, 2] rfl) hE hP hD hS
def E_note (R : RS) (a1 : Int32) (R' : RS) (r : Int32) : Prop := narrow .boolean (.int a1) = .int a1 ∧ fits .boolean (.int a1) = true ∧ (∃ nf : Nat, L_note_7 nf (mf R 41 a1) a1 0 R' r)
set_option maxHeartbeats 4000000 in
set_option maxRecDepth 100000 in
theorem e_note (l : Launch) (G : PG) (h : Nat) (q : Nat → Nat) (R : RS) (a1 : Int32) (R' : RS) (r : Int32) (hE : E_note R a1 R' r) : Cv l yX6_note (Cond.code yX6_note cX6_note 3 none :: aW) { frames := 0, cells := 0, slots := 0, locals := 0 } G (mW G h q R) [.ref h, .int a1] (fun (_ : Unit) => True) (fun (_ : Unit) => mW G h q R') 0 0 := by
  refine ofB (y := yX6_note) (G := G) (cc := cX6_note) (maxL := 3) (ret := none) (Qc := fun A => va_Qv (fun (_ : Unit) => True) (oB G A (fun (_ : Unit) => mW G h q R')) A) (by decide) rfl ?_
  intro p e s m below meth c A F hK hA hP hD
  have hS : va_S A s.heap s.heap [] := va_S.rf
  have hx := F.1.1; have hb := F.1.2.1; have hml := F.1.2.2.1; have hts := F.1.2.2.2.2
  have hown : s.vm.findClass RX6 = some m.cls := F.1.2.2.2.1
  have hl := lv_entry ([.ref h, .int a1]) (n := 3) (Nat.le_of_ble_eq_true rfl)
  rw [lg_entry_eq]
  generalize (lg_sl ([.ref h, .int a1]) ++ List.replicate (3 - (lg_sl ([.ref h, .int a1])).length) Slot.unset).toArray = ls at hl ⊢
  have hl : lv_has ls 3 [(0, .ref h), (1, .int a1)] := hl
  unfold E_note at hE
  refine lv_aload_n hx hb dX6_note_0 rfl (lv_at hl 0 rfl) ?_
  refine lv_iload_n hx hb dX6_note_1 rfl (lv_at hl 1 rfl) ?_
  obtain ⟨hn, hfit, hE⟩ := hE
  refine va_put (D := G.1) (ci := 6) (v := .int a1) (ty := .boolean) (C := RX6) (T := TX6) (N := 48) hx hb hts inX6 tyX6 tyX6_ok nmX6 hown hK.1 hP hD hS 0 mW_0 rfl 41 (by decide) (hts _ w_887) (fun _ h9 => h9) rfl (by decide +kernel) hn hfit mF_l41 dX6_note_2 (fun H locs hP hD hS => ?_)
  rw [mW_f41] at hP hD
  refine lv_iconst (v := 0) hx hb dX6_note_5 (by decide) ?_
  refine lv_istore_n hx hb dX6_note_6 rfl hl (by decide) rfl (fun ls hl => ?_)
  have hl : lv_has ls 3 [(2, .int 0), (0, .ref h), (1, .int a1)] := hl
  obtain ⟨nf, hE⟩ := hE
  exact L_note_7_ok F hK hA nf (mf R 41 a1) a1 0 _ _ ls (lv_sub hl [0, 1, 2] rfl) hE hP hD hS

theorem dX6_matches_8 : decode cX6_matches 8 = .ok (.iconst 0, 1) := by decide +kernel
theorem dX6_matches_9 : decode cX6_matches 9 = .ok (.goto 4, 3) := by decide +kernel
theorem dX6_matches_25 : decode cX6_matches 25 = .ok (.aload_n 0, 1) := by decide +kernel
theorem dX6_matches_26 : decode cX6_matches 26 = .ok (.aload_n 0, 1) := by decide +kernel
theorem dX6_matches_27 : decode cX6_matches 27 = .ok (.iconst 0, 1) := by decide +kernel
theorem dX6_matches_28 : decode cX6_matches 28 = .ok (.iconst 1, 1) := by decide +kernel
theorem dX6_matches_29 : decode cX6_matches 29 = .ok (.invokevirtual 293, 3) := by decide +kernel
theorem dX6_matches_32 : decode cX6_matches 32 = .ok (.invokevirtual 297, 3) := by decide +kernel
theorem dX6_matches_35 : decode cX6_matches 35 = .ok (.aload_n 0, 1) := by decide +kernel
theorem dX6_matches_36 : decode cX6_matches 36 = .ok (.getfield 110, 3) := by decide +kernel
theorem dX6_matches_39 : decode cX6_matches 39 = .ok (.ireturn, 1) := by decide +kernel
def E_matches (R : RS)  (R' : RS) (r : Int32) : Prop := if (if (R.1 7) = 0 then 1 else 0 : Int32) ≤ 0 then (∃ (R4 : RS) (r5 : Int32), E_run (mf R 0 (if (R.1 7) = 0 then 1 else 0 : Int32)) 0 1 R4 r5 ∧ (∃ R6 : RS, E_note R4 r5 R6 0 ∧ (narrow .boolean (.int (R6.1 41)) = .int (R6.1 41) ∧ R' = R6 ∧ r = (R6.1 41)))) else (R' = (mf R 0 (if (R.1 7) = 0 then 1 else 0 : Int32)) ∧ r = 0)
set_option maxHeartbeats 4000000 in
set_option maxRecDepth 100000 in
theorem e_matches (l : Launch) (G : PG) (h : Nat) (q : Nat → Nat) (R : RS)  (R' : RS) (r : Int32) (hE : E_matches R R' r) : Ci l yX6_matches (Cond.code yX6_matches cX6_matches 1 (some .boolean) :: aW) { frames := 6, cells := 0, slots := 0, locals := 135 } G (mW G h q R) [.ref h] (fun (r9 : Int32) (_ : Unit) => r9 = r) (fun (_ : Unit) => mW G h q R') 0 0 := by
  refine ofB (y := yX6_matches) (G := G) (cc := cX6_matches) (maxL := 1) (ret := (some .boolean)) (Qc := fun A => va_Qi (fun (r9 : Int32) (_ : Unit) => r9 = r) (oB G A (fun (_ : Unit) => mW G h q R')) A) (by decide) rfl ?_
  intro p e s m below meth c A F hK hA hP hD
  have hS : va_S A s.heap s.heap [] := va_S.rf
  have hx := F.1.1; have hb := F.1.2.1; have hml := F.1.2.2.1; have hts := F.1.2.2.2.2
  have hown : s.vm.findClass RX6 = some m.cls := F.1.2.2.2.1
  have hl := lv_entry ([.ref h]) (n := 1) (Nat.le_of_ble_eq_true rfl)
  rw [lg_entry_eq]
  generalize (lg_sl ([.ref h]) ++ List.replicate (1 - (lg_sl ([.ref h])).length) Slot.unset).toArray = ls at hl ⊢
  have hl : lv_has ls 1 [(0, .ref h)] := hl
  unfold E_matches at hE
  refine lv_aload_n hx hb dX6_matches_0 rfl (lv_at hl 0 rfl) ?_
  refine lv_aload_n hx hb dX6_matches_1 rfl (lv_at hl 0 rfl) ?_
  refine va_get (D := G.1) (ci := 6) (C := RX6) (T := TX6) (N := 48) hx hb hts inX6 hown hK.1 hP 0 mW_0 rfl 7 (by decide) (hts _ w_853) (fun _ h9 => h9) mF_7 dX6_matches_2 ?_
  refine jn_v (v := (if (R.1 7) = 0 then 1 else 0 : Int32)) (pcM := 13) (rest := [.ref h]) (fun kM => ?_) ?_
  ·
    refine lv_if_eq (tgt := 12) hx hb dX6_matches_5 (by decide) (fun h2 => ?_) (fun h2 => ?_)
    ·
      refine lv_iconst (v := 1) hx hb dX6_matches_12 (by decide) ?_
      exact kM _ (by try rw [if_pos h2])
    ·
      refine lv_iconst (v := 0) hx hb dX6_matches_8 (by decide) ?_
      refine lv_goto (tgt := 13) hx hb dX6_matches_9 (by decide) ?_
      exact kM _ (by try rw [if_neg h2])
  refine va_put (D := G.1) (ci := 6) (v := .int (if (R.1 7) = 0 then 1 else 0 : Int32)) (ty := .int) (C := RX6) (T := TX6) (N := 48) hx hb hts inX6 tyX6 tyX6_ok nmX6 hown hK.1 hP hD hS 0 mW_0 rfl 0 (by decide) (hts _ w_846) (fun _ h9 => h9) rfl (by decide +kernel) rfl rfl mF_l0 dX6_matches_13 (fun H locs hP hD hS => ?_)
  rw [mW_f0] at hP hD
  refine lv_aload_n hx hb dX6_matches_16 rfl (lv_at hl 0 rfl) ?_
  refine va_get (D := G.1) (ci := 6) (C := RX6) (T := TX6) (N := 48) hx hb hts inX6 hown hK.1 hP 0 mW_0 rfl 0 (by decide) (hts _ w_846) (fun _ h9 => h9) mF_0 dX6_matches_17 ?_
  refine tp_i (if (R.1 7) = 0 then 1 else 0 : Int32) rfl ?_
  refine lv_if_le (tgt := 25) hx hb dX6_matches_20 (by decide) (fun h3 => ?_) (fun h3 => ?_)
  ·
    rw [if_pos h3] at hE
    refine lv_aload_n hx hb dX6_matches_25 rfl (lv_at hl 0 rfl) ?_
    refine lv_aload_n hx hb dX6_matches_26 rfl (lv_at hl 0 rfl) ?_
    refine lv_iconst (v := 0) hx hb dX6_matches_27 (by decide) ?_
    refine lv_iconst (v := 1) hx hb dX6_matches_28 (by decide) ?_
    obtain ⟨R4, r5, hg, hE⟩ := hE
    refine kA_i (va_runV (As := [.int 0, .int 1]) (rest := [.ref h]) F.1 (e_run l G h q (mf R 0 (if (R.1 7) = 0 then 1 else 0 : Int32)) 0 1 R4 r5 hg _) (cwV 2 hts (aw_V w_1104 w_1106 ws_X6_run w_6 w_1107) rfl rfl rfl (by decide +kernel) ⟨by decide, by decide⟩) ⟨cS_blind, va_recv (q := (RX6, TX6, 48)) (ci := 6) (q0 := 0) hK.1 hP rfl mW_0, cS_pre hP hD hK⟩ rfl rfl hl.1 rfl (lv_room (Nat.le_of_ble_eq_true rfl)) dX6_matches_29 ⟨Nat.le_refl _, Nat.le_refl _⟩) hD hS hA (fun r9 u0 H locs hp hP hD hS => ?_)
    have hp := hp.symm; subst hp
    obtain ⟨R6, hg, hE⟩ := hE
    refine kA_v (va_runV (As := [.int r5]) (rest := []) F.1 (e_note l G h q R4 r5 R6 0 hg _) (cwV 1 hts (aw_V w_1188 w_1190 ws_X6_note w_6 w_1191) rfl rfl rfl (by decide +kernel) ⟨by decide, by decide⟩) ⟨cS_blind, va_recv (q := (RX6, TX6, 48)) (ci := 6) (q0 := 0) hK.1 hP rfl mW_0, cS_pre hP hD hK⟩ rfl rfl hl.1 rfl (lv_room (Nat.le_of_ble_eq_true rfl)) dX6_matches_32 ⟨Nat.le_refl _, Nat.le_refl _⟩) hD hS hA (fun u0 H locs hp hP hD hS => ?_)
    refine lv_aload_n hx hb dX6_matches_35 rfl (lv_at hl 0 rfl) ?_
    refine va_get (D := G.1) (ci := 6) (C := RX6) (T := TX6) (N := 48) hx hb hts inX6 hown hK.1 hP 0 mW_0 rfl 41 (by decide) (hts _ w_887) (fun _ h9 => h9) mF_41 dX6_matches_36 ?_
    obtain ⟨hn, rfl, rfl⟩ := hE
    exact en_i F hS _ () hn rfl hP hD (Nat.le_refl _) (Nat.le_refl _) dX6_matches_39
  ·
    rw [if_neg h3] at hE
    refine lv_iconst (v := 0) hx hb dX6_matches_23 (by decide) ?_
    obtain ⟨rfl, rfl⟩ := hE
    exact en_i F hS _ () (by rfl) rfl hP hD (Nat.le_refl _) (Nat.le_refl _) dX6_matches_24

theorem dX6_looking_8 : decode cX6_looking 8 = .ok (.iconst 0, 1) := by decide +kernel
theorem dX6_looking_9 : decode cX6_looking 9 = .ok (.goto 4, 3) := by decide +kernel
theorem dX6_looking_25 : decode cX6_looking 25 = .ok (.aload_n 0, 1) := by decide +kernel
theorem dX6_looking_26 : decode cX6_looking 26 = .ok (.aload_n 0, 1) := by decide +kernel
theorem dX6_looking_27 : decode cX6_looking 27 = .ok (.iconst 0, 1) := by decide +kernel
theorem dX6_looking_28 : decode cX6_looking 28 = .ok (.iconst 0, 1) := by decide +kernel
theorem dX6_looking_29 : decode cX6_looking 29 = .ok (.invokevirtual 293, 3) := by decide +kernel
theorem dX6_looking_32 : decode cX6_looking 32 = .ok (.invokevirtual 297, 3) := by decide +kernel
theorem dX6_looking_35 : decode cX6_looking 35 = .ok (.aload_n 0, 1) := by decide +kernel
theorem dX6_looking_36 : decode cX6_looking 36 = .ok (.getfield 110, 3) := by decide +kernel
theorem dX6_looking_39 : decode cX6_looking 39 = .ok (.ireturn, 1) := by decide +kernel
def E_looking (R : RS)  (R' : RS) (r : Int32) : Prop := if (if (R.1 7) = 0 then 1 else 0 : Int32) ≤ 0 then (∃ (R4 : RS) (r5 : Int32), E_run (mf R 0 (if (R.1 7) = 0 then 1 else 0 : Int32)) 0 0 R4 r5 ∧ (∃ R6 : RS, E_note R4 r5 R6 0 ∧ (narrow .boolean (.int (R6.1 41)) = .int (R6.1 41) ∧ R' = R6 ∧ r = (R6.1 41)))) else (R' = (mf R 0 (if (R.1 7) = 0 then 1 else 0 : Int32)) ∧ r = 0)
set_option maxHeartbeats 4000000 in
set_option maxRecDepth 100000 in
theorem e_looking (l : Launch) (G : PG) (h : Nat) (q : Nat → Nat) (R : RS)  (R' : RS) (r : Int32) (hE : E_looking R R' r) : Ci l yX6_looking (Cond.code yX6_looking cX6_looking 1 (some .boolean) :: aW) { frames := 6, cells := 0, slots := 0, locals := 135 } G (mW G h q R) [.ref h] (fun (r9 : Int32) (_ : Unit) => r9 = r) (fun (_ : Unit) => mW G h q R') 0 0 := by
  refine ofB (y := yX6_looking) (G := G) (cc := cX6_looking) (maxL := 1) (ret := (some .boolean)) (Qc := fun A => va_Qi (fun (r9 : Int32) (_ : Unit) => r9 = r) (oB G A (fun (_ : Unit) => mW G h q R')) A) (by decide) rfl ?_
  intro p e s m below meth c A F hK hA hP hD
  have hS : va_S A s.heap s.heap [] := va_S.rf
  have hx := F.1.1; have hb := F.1.2.1; have hml := F.1.2.2.1; have hts := F.1.2.2.2.2
  have hown : s.vm.findClass RX6 = some m.cls := F.1.2.2.2.1
  have hl := lv_entry ([.ref h]) (n := 1) (Nat.le_of_ble_eq_true rfl)
  rw [lg_entry_eq]
  generalize (lg_sl ([.ref h]) ++ List.replicate (1 - (lg_sl ([.ref h])).length) Slot.unset).toArray = ls at hl ⊢
  have hl : lv_has ls 1 [(0, .ref h)] := hl
  unfold E_looking at hE
  refine lv_aload_n hx hb dX6_looking_0 rfl (lv_at hl 0 rfl) ?_
  refine lv_aload_n hx hb dX6_looking_1 rfl (lv_at hl 0 rfl) ?_
  refine va_get (D := G.1) (ci := 6) (C := RX6) (T := TX6) (N := 48) hx hb hts inX6 hown hK.1 hP 0 mW_0 rfl 7 (by decide) (hts _ w_853) (fun _ h9 => h9) mF_7 dX6_looking_2 ?_
  refine jn_v (v := (if (R.1 7) = 0 then 1 else 0 : Int32)) (pcM := 13) (rest := [.ref h]) (fun kM => ?_) ?_
  ·
    refine lv_if_eq (tgt := 12) hx hb dX6_looking_5 (by decide) (fun h2 => ?_) (fun h2 => ?_)
    ·
      refine lv_iconst (v := 1) hx hb dX6_looking_12 (by decide) ?_
      exact kM _ (by try rw [if_pos h2])
    ·
      refine lv_iconst (v := 0) hx hb dX6_looking_8 (by decide) ?_
      refine lv_goto (tgt := 13) hx hb dX6_looking_9 (by decide) ?_
      exact kM _ (by try rw [if_neg h2])
  refine va_put (D := G.1) (ci := 6) (v := .int (if (R.1 7) = 0 then 1 else 0 : Int32)) (ty := .int) (C := RX6) (T := TX6) (N := 48) hx hb hts inX6 tyX6 tyX6_ok nmX6 hown hK.1 hP hD hS 0 mW_0 rfl 0 (by decide) (hts _ w_846) (fun _ h9 => h9) rfl (by decide +kernel) rfl rfl mF_l0 dX6_looking_13 (fun H locs hP hD hS => ?_)
  rw [mW_f0] at hP hD
  refine lv_aload_n hx hb dX6_looking_16 rfl (lv_at hl 0 rfl) ?_
  refine va_get (D := G.1) (ci := 6) (C := RX6) (T := TX6) (N := 48) hx hb hts inX6 hown hK.1 hP 0 mW_0 rfl 0 (by decide) (hts _ w_846) (fun _ h9 => h9) mF_0 dX6_looking_17 ?_
  refine tp_i (if (R.1 7) = 0 then 1 else 0 : Int32) rfl ?_
  refine lv_if_le (tgt := 25) hx hb dX6_looking_20 (by decide) (fun h3 => ?_) (fun h3 => ?_)
  ·
    rw [if_pos h3] at hE
    refine lv_aload_n hx hb dX6_looking_25 rfl (lv_at hl 0 rfl) ?_
    refine lv_aload_n hx hb dX6_looking_26 rfl (lv_at hl 0 rfl) ?_
    refine lv_iconst (v := 0) hx hb dX6_looking_27 (by decide) ?_
    refine lv_iconst (v := 0) hx hb dX6_looking_28 (by decide) ?_
    obtain ⟨R4, r5, hg, hE⟩ := hE
    refine kA_i (va_runV (As := [.int 0, .int 0]) (rest := [.ref h]) F.1 (e_run l G h q (mf R 0 (if (R.1 7) = 0 then 1 else 0 : Int32)) 0 0 R4 r5 hg _) (cwV 2 hts (aw_V w_1104 w_1106 ws_X6_run w_6 w_1107) rfl rfl rfl (by decide +kernel) ⟨by decide, by decide⟩) ⟨cS_blind, va_recv (q := (RX6, TX6, 48)) (ci := 6) (q0 := 0) hK.1 hP rfl mW_0, cS_pre hP hD hK⟩ rfl rfl hl.1 rfl (lv_room (Nat.le_of_ble_eq_true rfl)) dX6_looking_29 ⟨Nat.le_refl _, Nat.le_refl _⟩) hD hS hA (fun r9 u0 H locs hp hP hD hS => ?_)
    have hp := hp.symm; subst hp
    obtain ⟨R6, hg, hE⟩ := hE
    refine kA_v (va_runV (As := [.int r5]) (rest := []) F.1 (e_note l G h q R4 r5 R6 0 hg _) (cwV 1 hts (aw_V w_1188 w_1190 ws_X6_note w_6 w_1191) rfl rfl rfl (by decide +kernel) ⟨by decide, by decide⟩) ⟨cS_blind, va_recv (q := (RX6, TX6, 48)) (ci := 6) (q0 := 0) hK.1 hP rfl mW_0, cS_pre hP hD hK⟩ rfl rfl hl.1 rfl (lv_room (Nat.le_of_ble_eq_true rfl)) dX6_looking_32 ⟨Nat.le_refl _, Nat.le_refl _⟩) hD hS hA (fun u0 H locs hp hP hD hS => ?_)
    refine lv_aload_n hx hb dX6_looking_35 rfl (lv_at hl 0 rfl) ?_
    refine va_get (D := G.1) (ci := 6) (C := RX6) (T := TX6) (N := 48) hx hb hts inX6 hown hK.1 hP 0 mW_0 rfl 41 (by decide) (hts _ w_887) (fun _ h9 => h9) mF_41 dX6_looking_36 ?_
    obtain ⟨hn, rfl, rfl⟩ := hE
    exact en_i F hS _ () hn rfl hP hD (Nat.le_refl _) (Nat.le_refl _) dX6_looking_39
  ·
    rw [if_neg h3] at hE
    refine lv_iconst (v := 0) hx hb dX6_looking_23 (by decide) ?_
    obtain ⟨rfl, rfl⟩ := hE
    exact en_i F hS _ () (by rfl) rfl hP hD (Nat.le_refl _) (Nat.le_refl _) dX6_looking_24

theorem dX6_find_26 : decode cX6_find 26 = .ok (.iconst 0, 1) := by decide +kernel
theorem dX6_find_27 : decode cX6_find 27 = .ok (.goto 4, 3) := by decide +kernel
theorem dX6_find_43 : decode cX6_find 43 = .ok (.aload_n 0, 1) := by decide +kernel
theorem dX6_find_44 : decode cX6_find 44 = .ok (.aload_n 0, 1) := by decide +kernel
theorem dX6_find_45 : decode cX6_find 45 = .ok (.iload_n 1, 1) := by decide +kernel
theorem dX6_find_46 : decode cX6_find 46 = .ok (.invokevirtual 301, 3) := by decide +kernel
theorem dX6_find_49 : decode cX6_find 49 = .ok (.invokevirtual 297, 3) := by decide +kernel
theorem dX6_find_52 : decode cX6_find 52 = .ok (.aload_n 0, 1) := by decide +kernel
theorem dX6_find_53 : decode cX6_find 53 = .ok (.getfield 110, 3) := by decide +kernel
theorem dX6_find_56 : decode cX6_find 56 = .ok (.ifCond .eq 12, 3) := by decide +kernel
theorem dX6_find_59 : decode cX6_find 59 = .ok (.aload_n 0, 1) := by decide +kernel
theorem dX6_find_60 : decode cX6_find 60 = .ok (.getfield 90, 3) := by decide +kernel
theorem dX6_find_63 : decode cX6_find 63 = .ok (.iconst 0, 1) := by decide +kernel
theorem dX6_find_64 : decode cX6_find 64 = .ok (.iaload, 1) := by decide +kernel
theorem dX6_find_65 : decode cX6_find 65 = .ok (.goto 4, 3) := by decide +kernel
theorem dX6_find_68 : decode cX6_find 68 = .ok (.iconst (-1), 1) := by decide +kernel
theorem dX6_find_69 : decode cX6_find 69 = .ok (.ireturn, 1) := by decide +kernel
def E_find (R : RS) (a1 : Int32) (R' : RS) (r : Int32) : Prop := if a1 < 0 then (R' = (mf R 0 1) ∧ r = 0) else (vp_in 1 3 ∧ (if (if a1 ≤ (R.2.1 2 (1 : Int32).toNatClampNeg) then (if (R.1 7) = 0 then 2 else 0 : Int32) else 1 : Int32) ≤ 0 then (∃ (R7 : RS) (r8 : Int32), E_search (mf R 0 (if a1 ≤ (R.2.1 2 (1 : Int32).toNatClampNeg) then (if (R.1 7) = 0 then 2 else 0 : Int32) else 1 : Int32)) a1 R7 r8 ∧ (∃ R9 : RS, E_note R7 r8 R9 0 ∧ (if (R9.1 41) = 0 then (R' = R9 ∧ r = (-1)) else (vp_in 0 10 ∧ (R' = R9 ∧ r = (R9.2.1 42 (0 : Int32).toNatClampNeg)))))) else (R' = (mf R 0 (if a1 ≤ (R.2.1 2 (1 : Int32).toNatClampNeg) then (if (R.1 7) = 0 then 2 else 0 : Int32) else 1 : Int32)) ∧ r = 0)))
set_option maxHeartbeats 4000000 in
set_option maxRecDepth 100000 in
theorem e_find (l : Launch) (G : PG) (h : Nat) (q : Nat → Nat) (R : RS) (a1 : Int32) (R' : RS) (r : Int32) (hE : E_find R a1 R' r) : Ci l yX6_find (Cond.code yX6_find cX6_find 2 (some .int) :: aW) { frames := 7, cells := 0, slots := 0, locals := 157 } G (mW G h q R) [.ref h, .int a1] (fun (r9 : Int32) (_ : Unit) => r9 = r) (fun (_ : Unit) => mW G h q R') 0 0 := by
  refine ofB (y := yX6_find) (G := G) (cc := cX6_find) (maxL := 2) (ret := (some .int)) (Qc := fun A => va_Qi (fun (r9 : Int32) (_ : Unit) => r9 = r) (oB G A (fun (_ : Unit) => mW G h q R')) A) (by decide) rfl ?_
  intro p e s m below meth c A F hK hA hP hD
  have hS : va_S A s.heap s.heap [] := va_S.rf
  have hx := F.1.1; have hb := F.1.2.1; have hml := F.1.2.2.1; have hts := F.1.2.2.2.2
  have hown : s.vm.findClass RX6 = some m.cls := F.1.2.2.2.1
  have hl := lv_entry ([.ref h, .int a1]) (n := 2) (Nat.le_of_ble_eq_true rfl)
  rw [lg_entry_eq]
  generalize (lg_sl ([.ref h, .int a1]) ++ List.replicate (2 - (lg_sl ([.ref h, .int a1])).length) Slot.unset).toArray = ls at hl ⊢
  have hl : lv_has ls 2 [(0, .ref h), (1, .int a1)] := hl
  unfold E_find at hE
  refine lv_aload_n hx hb dX6_find_0 rfl (lv_at hl 0 rfl) ?_
  refine lv_iload_n hx hb dX6_find_1 rfl (lv_at hl 1 rfl) ?_
  refine lv_if_lt (tgt := 15) hx hb dX6_find_2 (by decide) (fun h1 => ?_) (fun h1 => ?_)
  ·
    rw [if_pos h1] at hE
    refine lv_iconst (v := 1) hx hb dX6_find_15 (by decide) ?_
    refine lv_goto (tgt := 31) hx hb dX6_find_16 (by decide) ?_
    refine va_put (D := G.1) (ci := 6) (v := .int 1) (ty := .int) (C := RX6) (T := TX6) (N := 48) hx hb hts inX6 tyX6 tyX6_ok nmX6 hown hK.1 hP hD hS 0 mW_0 rfl 0 (by decide) (hts _ w_846) (fun _ h9 => h9) rfl (by decide +kernel) rfl rfl mF_l0 dX6_find_31 (fun H locs hP hD hS => ?_)
    rw [mW_f0] at hP hD
    refine lv_aload_n hx hb dX6_find_34 rfl (lv_at hl 0 rfl) ?_
    refine va_get (D := G.1) (ci := 6) (C := RX6) (T := TX6) (N := 48) hx hb hts inX6 hown hK.1 hP 0 mW_0 rfl 0 (by decide) (hts _ w_846) (fun _ h9 => h9) mF_0 dX6_find_35 ?_
    refine tp_i 1 rfl ?_
    refine lv_if_le (tgt := 43) hx hb dX6_find_38 (by decide) (fun h => absurd h (by decide)) (fun _ => ?_)
    refine lv_iconst (v := 0) hx hb dX6_find_41 (by decide) ?_
    obtain ⟨rfl, rfl⟩ := hE
    exact en_i F hS _ () (by rfl) rfl hP hD (Nat.le_refl _) (Nat.le_refl _) dX6_find_42
  ·
    rw [if_neg h1] at hE
    refine lv_iload_n hx hb dX6_find_5 rfl (lv_at hl 1 rfl) ?_
    refine lv_aload_n hx hb dX6_find_6 rfl (lv_at hl 0 rfl) ?_
    refine va_get (D := G.1) (ci := 6) (C := RX6) (T := TX6) (N := 48) hx hb hts inX6 hown hK.1 hP 0 mW_0 rfl 2 (by decide) (hts _ w_848) (fun _ h9 => h9) mF_2 dX6_find_7 ?_
    refine lv_iconst (v := 1) hx hb dX6_find_10 (by decide) ?_
    obtain ⟨hin, hE⟩ := hE
    refine va_iald (D := G.1) hx hb hK.1 hP 2 0 mW_g2 rfl hin dX6_find_11 ?_
    refine jn_v (v := (if a1 ≤ (R.2.1 2 (1 : Int32).toNatClampNeg) then (if (R.1 7) = 0 then 2 else 0 : Int32) else 1 : Int32)) (pcM := 31) (rest := [.ref h]) (fun kM => ?_) ?_
    ·
      refine lv_icmp_le (tgt := 19) hx hb dX6_find_12 (by decide) (fun h4 => ?_) (fun h4 => ?_)
      ·
        refine lv_aload_n hx hb dX6_find_19 rfl (lv_at hl 0 rfl) ?_
        refine va_get (D := G.1) (ci := 6) (C := RX6) (T := TX6) (N := 48) hx hb hts inX6 hown hK.1 hP 0 mW_0 rfl 7 (by decide) (hts _ w_853) (fun _ h9 => h9) mF_7 dX6_find_20 ?_
        refine lv_if_eq (tgt := 30) hx hb dX6_find_23 (by decide) (fun h5 => ?_) (fun h5 => ?_)
        ·
          refine lv_iconst (v := 2) hx hb dX6_find_30 (by decide) ?_
          exact kM _ (by try rw [if_pos h4]; try rw [if_pos h5])
        ·
          refine lv_iconst (v := 0) hx hb dX6_find_26 (by decide) ?_
          refine lv_goto (tgt := 31) hx hb dX6_find_27 (by decide) ?_
          exact kM _ (by try rw [if_pos h4]; try rw [if_neg h5])
      ·
        refine lv_iconst (v := 1) hx hb dX6_find_15 (by decide) ?_
        refine lv_goto (tgt := 31) hx hb dX6_find_16 (by decide) ?_
        exact kM _ (by try rw [if_neg h4])
    refine va_put (D := G.1) (ci := 6) (v := .int (if a1 ≤ (R.2.1 2 (1 : Int32).toNatClampNeg) then (if (R.1 7) = 0 then 2 else 0 : Int32) else 1 : Int32)) (ty := .int) (C := RX6) (T := TX6) (N := 48) hx hb hts inX6 tyX6 tyX6_ok nmX6 hown hK.1 hP hD hS 0 mW_0 rfl 0 (by decide) (hts _ w_846) (fun _ h9 => h9) rfl (by decide +kernel) rfl rfl mF_l0 dX6_find_31 (fun H locs hP hD hS => ?_)
    rw [mW_f0] at hP hD
    refine lv_aload_n hx hb dX6_find_34 rfl (lv_at hl 0 rfl) ?_
    refine va_get (D := G.1) (ci := 6) (C := RX6) (T := TX6) (N := 48) hx hb hts inX6 hown hK.1 hP 0 mW_0 rfl 0 (by decide) (hts _ w_846) (fun _ h9 => h9) mF_0 dX6_find_35 ?_
    refine tp_i (if a1 ≤ (R.2.1 2 (1 : Int32).toNatClampNeg) then (if (R.1 7) = 0 then 2 else 0 : Int32) else 1 : Int32) rfl ?_
    refine lv_if_le (tgt := 43) hx hb dX6_find_38 (by decide) (fun h6 => ?_) (fun h6 => ?_)
    ·
      rw [if_pos h6] at hE
      refine lv_aload_n hx hb dX6_find_43 rfl (lv_at hl 0 rfl) ?_
      refine lv_aload_n hx hb dX6_find_44 rfl (lv_at hl 0 rfl) ?_
      refine lv_iload_n hx hb dX6_find_45 rfl (lv_at hl 1 rfl) ?_
      obtain ⟨R7, r8, hg, hE⟩ := hE
      refine kA_i (va_runV (As := [.int a1]) (rest := [.ref h]) F.1 (e_search l G h q (mf R 0 (if a1 ≤ (R.2.1 2 (1 : Int32).toNatClampNeg) then (if (R.1 7) = 0 then 2 else 0 : Int32) else 1 : Int32)) a1 R7 r8 hg _) (cwV 1 hts (aw_V w_1200 w_1202 ws_X6_search w_6 w_1203) rfl rfl rfl (by decide +kernel) ⟨by decide, by decide⟩) ⟨cS_blind, va_recv (q := (RX6, TX6, 48)) (ci := 6) (q0 := 0) hK.1 hP rfl mW_0, cS_pre hP hD hK⟩ rfl rfl hl.1 rfl (lv_room (Nat.le_of_ble_eq_true rfl)) dX6_find_46 ⟨Nat.le_refl _, Nat.le_refl _⟩) hD hS hA (fun r9 u0 H locs hp hP hD hS => ?_)
      have hp := hp.symm; subst hp
      obtain ⟨R9, hg, hE⟩ := hE
      refine kA_v (va_runV (As := [.int r8]) (rest := []) F.1 (e_note l G h q R7 r8 R9 0 hg _) (cwV 1 hts (aw_V w_1188 w_1190 ws_X6_note w_6 w_1191) rfl rfl rfl (by decide +kernel) ⟨by decide, by decide⟩) ⟨cS_blind, va_recv (q := (RX6, TX6, 48)) (ci := 6) (q0 := 0) hK.1 hP rfl mW_0, cS_pre hP hD hK⟩ rfl rfl hl.1 rfl (lv_room (Nat.le_of_ble_eq_true rfl)) dX6_find_49 ⟨Nat.le_refl _, Nat.le_refl _⟩) hD hS hA (fun u0 H locs hp hP hD hS => ?_)
      refine lv_aload_n hx hb dX6_find_52 rfl (lv_at hl 0 rfl) ?_
      refine va_get (D := G.1) (ci := 6) (C := RX6) (T := TX6) (N := 48) hx hb hts inX6 hown hK.1 hP 0 mW_0 rfl 41 (by decide) (hts _ w_887) (fun _ h9 => h9) mF_41 dX6_find_53 ?_
      refine lv_if_eq (tgt := 68) hx hb dX6_find_56 (by decide) (fun h11 => ?_) (fun h11 => ?_)
      ·
        rw [if_pos h11] at hE
        refine lv_iconst (v := (-1)) hx hb dX6_find_68 (by decide) ?_
        obtain ⟨rfl, rfl⟩ := hE
        exact en_i F hS _ () (by rfl) rfl hP hD (Nat.le_refl _) (Nat.le_refl _) dX6_find_69
      ·
        rw [if_neg h11] at hE
        refine lv_aload_n hx hb dX6_find_59 rfl (lv_at hl 0 rfl) ?_
        refine va_get (D := G.1) (ci := 6) (C := RX6) (T := TX6) (N := 48) hx hb hts inX6 hown hK.1 hP 0 mW_0 rfl 42 (by decide) (hts _ w_888) (fun _ h9 => h9) mF_42 dX6_find_60 ?_
        refine lv_iconst (v := 0) hx hb dX6_find_63 (by decide) ?_
        obtain ⟨hin, hE⟩ := hE
        refine va_iald (D := G.1) hx hb hK.1 hP 27 0 mW_g42 rfl hin dX6_find_64 ?_
        refine lv_goto (tgt := 69) hx hb dX6_find_65 (by decide) ?_
        obtain ⟨rfl, rfl⟩ := hE
        exact en_i F hS _ () (by rfl) rfl hP hD (Nat.le_refl _) (Nat.le_refl _) dX6_find_69
    ·
      rw [if_neg h6] at hE
      refine lv_iconst (v := 0) hx hb dX6_find_41 (by decide) ?_
      obtain ⟨rfl, rfl⟩ := hE
      exact en_i F hS _ () (by rfl) rfl hP hD (Nat.le_refl _) (Nat.le_refl _) dX6_find_42

theorem dX6_spanOf_12 : decode cX6_spanOf 12 = .ok (.iload_n 1, 1) := by decide +kernel
theorem dX6_spanOf_13 : decode cX6_spanOf 13 = .ok (.ifCond .lt 11, 3) := by decide +kernel
theorem dX6_spanOf_16 : decode cX6_spanOf 16 = .ok (.iload_n 1, 1) := by decide +kernel
theorem dX6_spanOf_17 : decode cX6_spanOf 17 = .ok (.aload_n 0, 1) := by decide +kernel
theorem dX6_spanOf_18 : decode cX6_spanOf 18 = .ok (.getfield 202, 3) := by decide +kernel
theorem dX6_spanOf_21 : decode cX6_spanOf 21 = .ok (.if_icmp .le 7, 3) := by decide +kernel
theorem dX6_spanOf_24 : decode cX6_spanOf 24 = .ok (.iconst 2, 1) := by decide +kernel
theorem dX6_spanOf_25 : decode cX6_spanOf 25 = .ok (.goto 4, 3) := by decide +kernel
theorem dX6_spanOf_28 : decode cX6_spanOf 28 = .ok (.iconst 0, 1) := by decide +kernel
theorem dX6_spanOf_43 : decode cX6_spanOf 43 = .ok (.aload_n 0, 1) := by decide +kernel
theorem dX6_spanOf_44 : decode cX6_spanOf 44 = .ok (.getfield 90, 3) := by decide +kernel
theorem dX6_spanOf_47 : decode cX6_spanOf 47 = .ok (.iconst 2, 1) := by decide +kernel
theorem dX6_spanOf_48 : decode cX6_spanOf 48 = .ok (.iload_n 1, 1) := by decide +kernel
theorem dX6_spanOf_49 : decode cX6_spanOf 49 = .ok (.imul, 1) := by decide +kernel
theorem dX6_spanOf_50 : decode cX6_spanOf 50 = .ok (.iload_n 2, 1) := by decide +kernel
theorem dX6_spanOf_51 : decode cX6_spanOf 51 = .ok (.iadd, 1) := by decide +kernel
theorem dX6_spanOf_52 : decode cX6_spanOf 52 = .ok (.iaload, 1) := by decide +kernel
def E_spanOf (R : RS) (a1 : Int32) (a2 : Int32) (R' : RS) (r : Int32) : Prop := if (if (R.1 41) = 0 then 1 else (if a1 < 0 then 2 else (if a1 ≤ (R.1 5) then 0 else 2 : Int32) : Int32) : Int32) ≤ 0 then (vp_in ((2 * a1) + a2) 10 ∧ (R' = (mf R 0 (if (R.1 41) = 0 then 1 else (if a1 < 0 then 2 else (if a1 ≤ (R.1 5) then 0 else 2 : Int32) : Int32) : Int32)) ∧ r = (R.2.1 42 ((2 * a1) + a2).toNatClampNeg))) else (R' = (mf R 0 (if (R.1 41) = 0 then 1 else (if a1 < 0 then 2 else (if a1 ≤ (R.1 5) then 0 else 2 : Int32) : Int32) : Int32)) ∧ r = 0)
set_option maxHeartbeats 4000000 in
set_option maxRecDepth 100000 in
theorem e_spanOf (l : Launch) (G : PG) (h : Nat) (q : Nat → Nat) (R : RS) (a1 : Int32) (a2 : Int32) (R' : RS) (r : Int32) (hE : E_spanOf R a1 a2 R' r) : Ci l yX6_spanOf (Cond.code yX6_spanOf cX6_spanOf 3 (some .int) :: aW) { frames := 0, cells := 0, slots := 0, locals := 0 } G (mW G h q R) [.ref h, .int a1, .int a2] (fun (r9 : Int32) (_ : Unit) => r9 = r) (fun (_ : Unit) => mW G h q R') 0 0 := by
  refine ofB (y := yX6_spanOf) (G := G) (cc := cX6_spanOf) (maxL := 3) (ret := (some .int)) (Qc := fun A => va_Qi (fun (r9 : Int32) (_ : Unit) => r9 = r) (oB G A (fun (_ : Unit) => mW G h q R')) A) (by decide) rfl ?_
  intro p e s m below meth c A F hK hA hP hD
  have hS : va_S A s.heap s.heap [] := va_S.rf
  have hx := F.1.1; have hb := F.1.2.1; have hml := F.1.2.2.1; have hts := F.1.2.2.2.2
  have hown : s.vm.findClass RX6 = some m.cls := F.1.2.2.2.1
  have hl := lv_entry ([.ref h, .int a1, .int a2]) (n := 3) (Nat.le_of_ble_eq_true rfl)
  rw [lg_entry_eq]
  generalize (lg_sl ([.ref h, .int a1, .int a2]) ++ List.replicate (3 - (lg_sl ([.ref h, .int a1, .int a2])).length) Slot.unset).toArray = ls at hl ⊢
  have hl : lv_has ls 3 [(0, .ref h), (1, .int a1), (2, .int a2)] := hl
  unfold E_spanOf at hE
  refine lv_aload_n hx hb dX6_spanOf_0 rfl (lv_at hl 0 rfl) ?_
  refine lv_aload_n hx hb dX6_spanOf_1 rfl (lv_at hl 0 rfl) ?_
  refine va_get (D := G.1) (ci := 6) (C := RX6) (T := TX6) (N := 48) hx hb hts inX6 hown hK.1 hP 0 mW_0 rfl 41 (by decide) (hts _ w_887) (fun _ h9 => h9) mF_41 dX6_spanOf_2 ?_
  refine jn_v (v := (if (R.1 41) = 0 then 1 else (if a1 < 0 then 2 else (if a1 ≤ (R.1 5) then 0 else 2 : Int32) : Int32) : Int32)) (pcM := 29) (rest := [.ref h]) (fun kM => ?_) ?_
  ·
    refine lv_if_ne (tgt := 12) hx hb dX6_spanOf_5 (by decide) (fun h2 => ?_) (fun h2 => ?_)
    ·
      refine lv_iload_n hx hb dX6_spanOf_12 rfl (lv_at hl 1 rfl) ?_
      refine lv_if_lt (tgt := 24) hx hb dX6_spanOf_13 (by decide) (fun h3 => ?_) (fun h3 => ?_)
      ·
        refine lv_iconst (v := 2) hx hb dX6_spanOf_24 (by decide) ?_
        refine lv_goto (tgt := 29) hx hb dX6_spanOf_25 (by decide) ?_
        exact kM _ (by try rw [if_neg h2]; try rw [if_pos h3])
      ·
        refine lv_iload_n hx hb dX6_spanOf_16 rfl (lv_at hl 1 rfl) ?_
        refine lv_aload_n hx hb dX6_spanOf_17 rfl (lv_at hl 0 rfl) ?_
        refine va_get (D := G.1) (ci := 6) (C := RX6) (T := TX6) (N := 48) hx hb hts inX6 hown hK.1 hP 0 mW_0 rfl 5 (by decide) (hts _ w_851) (fun _ h9 => h9) mF_5 dX6_spanOf_18 ?_
        refine lv_icmp_le (tgt := 28) hx hb dX6_spanOf_21 (by decide) (fun h4 => ?_) (fun h4 => ?_)
        ·
          refine lv_iconst (v := 0) hx hb dX6_spanOf_28 (by decide) ?_
          exact kM _ (by try rw [if_neg h2]; try rw [if_neg h3]; try rw [if_pos h4])
        ·
          refine lv_iconst (v := 2) hx hb dX6_spanOf_24 (by decide) ?_
          refine lv_goto (tgt := 29) hx hb dX6_spanOf_25 (by decide) ?_
          exact kM _ (by try rw [if_neg h2]; try rw [if_neg h3]; try rw [if_neg h4])
    ·
      refine lv_iconst (v := 1) hx hb dX6_spanOf_8 (by decide) ?_
      refine lv_goto (tgt := 29) hx hb dX6_spanOf_9 (by decide) ?_
      exact kM _ (by try rw [if_pos h2])
  refine va_put (D := G.1) (ci := 6) (v := .int (if (R.1 41) = 0 then 1 else (if a1 < 0 then 2 else (if a1 ≤ (R.1 5) then 0 else 2 : Int32) : Int32) : Int32)) (ty := .int) (C := RX6) (T := TX6) (N := 48) hx hb hts inX6 tyX6 tyX6_ok nmX6 hown hK.1 hP hD hS 0 mW_0 rfl 0 (by decide) (hts _ w_846) (fun _ h9 => h9) rfl (by decide +kernel) rfl rfl mF_l0 dX6_spanOf_29 (fun H locs hP hD hS => ?_)
  rw [mW_f0] at hP hD
  refine lv_aload_n hx hb dX6_spanOf_32 rfl (lv_at hl 0 rfl) ?_
  refine va_get (D := G.1) (ci := 6) (C := RX6) (T := TX6) (N := 48) hx hb hts inX6 hown hK.1 hP 0 mW_0 rfl 0 (by decide) (hts _ w_846) (fun _ h9 => h9) mF_0 dX6_spanOf_33 ?_
  refine tp_i (if (R.1 41) = 0 then 1 else (if a1 < 0 then 2 else (if a1 ≤ (R.1 5) then 0 else 2 : Int32) : Int32) : Int32) rfl ?_
  refine lv_if_le (tgt := 43) hx hb dX6_spanOf_36 (by decide) (fun h5 => ?_) (fun h5 => ?_)
  ·
    rw [if_pos h5] at hE
    refine lv_aload_n hx hb dX6_spanOf_43 rfl (lv_at hl 0 rfl) ?_
    refine va_get (D := G.1) (ci := 6) (C := RX6) (T := TX6) (N := 48) hx hb hts inX6 hown hK.1 hP 0 mW_0 rfl 42 (by decide) (hts _ w_888) (fun _ h9 => h9) mF_42 dX6_spanOf_44 ?_
    refine lv_iconst (v := 2) hx hb dX6_spanOf_47 (by decide) ?_
    refine lv_iload_n hx hb dX6_spanOf_48 rfl (lv_at hl 1 rfl) ?_
    refine lv_imul hx hb dX6_spanOf_49 ?_
    refine lv_iload_n hx hb dX6_spanOf_50 rfl (lv_at hl 2 rfl) ?_
    refine lv_iadd hx hb dX6_spanOf_51 ?_
    obtain ⟨hin, hE⟩ := hE
    refine va_iald (D := G.1) hx hb hK.1 hP 27 0 mW_g42 rfl hin dX6_spanOf_52 ?_
    refine tp_i (R.2.1 42 ((2 * a1) + a2).toNatClampNeg) rfl ?_
    obtain ⟨rfl, rfl⟩ := hE
    exact en_i F hS _ () (by rfl) rfl hP hD (Nat.le_refl _) (Nat.le_refl _) dX6_spanOf_53
  ·
    rw [if_neg h5] at hE
    refine lv_iconst (v := 0) hx hb dX6_spanOf_39 (by decide) ?_
    refine lv_goto (tgt := 53) hx hb dX6_spanOf_40 (by decide) ?_
    obtain ⟨rfl, rfl⟩ := hE
    exact en_i F hS _ () (by rfl) rfl hP hD (Nat.le_refl _) (Nat.le_refl _) dX6_spanOf_53


def E_start (R : RS) (a1 : Int32) (R' : RS) (r : Int32) : Prop := ∃ (R1 : RS) (r2 : Int32), E_spanOf R a1 0 R1 r2 ∧ (R' = R1 ∧ r = r2)
set_option maxHeartbeats 4000000 in
set_option maxRecDepth 100000 in
theorem e_start (l : Launch) (G : PG) (h : Nat) (q : Nat → Nat) (R : RS) (a1 : Int32) (R' : RS) (r : Int32) (hE : E_start R a1 R' r) : Ci l yX6_start (Cond.code yX6_start cX6_start 2 (some .int) :: aW) { frames := 1, cells := 0, slots := 0, locals := 22 } G (mW G h q R) [.ref h, .int a1] (fun (r9 : Int32) (_ : Unit) => r9 = r) (fun (_ : Unit) => mW G h q R') 0 0 := by
  refine ofB (y := yX6_start) (G := G) (cc := cX6_start) (maxL := 2) (ret := (some .int)) (Qc := fun A => va_Qi (fun (r9 : Int32) (_ : Unit) => r9 = r) (oB G A (fun (_ : Unit) => mW G h q R')) A) (by decide) rfl ?_
  intro p e s m below meth c A F hK hA hP hD
  have hS : va_S A s.heap s.heap [] := va_S.rf
  have hx := F.1.1; have hb := F.1.2.1; have hml := F.1.2.2.1; have hts := F.1.2.2.2.2
  have hown : s.vm.findClass RX6 = some m.cls := F.1.2.2.2.1
  have hl := lv_entry ([.ref h, .int a1]) (n := 2) (Nat.le_of_ble_eq_true rfl)
  rw [lg_entry_eq]
  generalize (lg_sl ([.ref h, .int a1]) ++ List.replicate (2 - (lg_sl ([.ref h, .int a1])).length) Slot.unset).toArray = ls at hl ⊢
  have hl : lv_has ls 2 [(0, .ref h), (1, .int a1)] := hl
  unfold E_start at hE
  refine lv_aload_n hx hb dX6_start_0 rfl (lv_at hl 0 rfl) ?_
  refine lv_iload_n hx hb dX6_start_1 rfl (lv_at hl 1 rfl) ?_
  refine lv_iconst (v := 0) hx hb dX6_start_2 (by decide) ?_
  obtain ⟨R1, r2, hg, hE⟩ := hE
  refine kA_i (va_runV (As := [.int a1, .int 0]) (rest := []) F.1 (e_spanOf l G h q R a1 0 R1 r2 hg _) (cwV 2 hts (aw_V w_1208 w_1210 ws_X6_spanOf w_6 w_1211) rfl rfl rfl (by decide +kernel) ⟨by decide, by decide⟩) ⟨cS_blind, va_recv (q := (RX6, TX6, 48)) (ci := 6) (q0 := 0) hK.1 hP rfl mW_0, cS_pre hP hD hK⟩ rfl rfl hl.1 rfl (lv_room (Nat.le_of_ble_eq_true rfl)) dX6_start_3 ⟨Nat.le_refl _, Nat.le_refl _⟩) hD hS hA (fun r9 u0 H locs hp hP hD hS => ?_)
  have hp := hp.symm; subst hp
  obtain ⟨rfl, rfl⟩ := hE
  exact en_i F hS _ () (by rfl) rfl hP hD (Nat.le_refl _) (Nat.le_refl _) dX6_start_6


def E_end (R : RS) (a1 : Int32) (R' : RS) (r : Int32) : Prop := ∃ (R1 : RS) (r2 : Int32), E_spanOf R a1 1 R1 r2 ∧ (R' = R1 ∧ r = r2)
set_option maxHeartbeats 4000000 in
set_option maxRecDepth 100000 in
theorem e_end (l : Launch) (G : PG) (h : Nat) (q : Nat → Nat) (R : RS) (a1 : Int32) (R' : RS) (r : Int32) (hE : E_end R a1 R' r) : Ci l yX6_end (Cond.code yX6_end cX6_end 2 (some .int) :: aW) { frames := 1, cells := 0, slots := 0, locals := 22 } G (mW G h q R) [.ref h, .int a1] (fun (r9 : Int32) (_ : Unit) => r9 = r) (fun (_ : Unit) => mW G h q R') 0 0 := by
  refine ofB (y := yX6_end) (G := G) (cc := cX6_end) (maxL := 2) (ret := (some .int)) (Qc := fun A => va_Qi (fun (r9 : Int32) (_ : Unit) => r9 = r) (oB G A (fun (_ : Unit) => mW G h q R')) A) (by decide) rfl ?_
  intro p e s m below meth c A F hK hA hP hD
  have hS : va_S A s.heap s.heap [] := va_S.rf
  have hx := F.1.1; have hb := F.1.2.1; have hml := F.1.2.2.1; have hts := F.1.2.2.2.2
  have hown : s.vm.findClass RX6 = some m.cls := F.1.2.2.2.1
  have hl := lv_entry ([.ref h, .int a1]) (n := 2) (Nat.le_of_ble_eq_true rfl)
  rw [lg_entry_eq]
  generalize (lg_sl ([.ref h, .int a1]) ++ List.replicate (2 - (lg_sl ([.ref h, .int a1])).length) Slot.unset).toArray = ls at hl ⊢
  have hl : lv_has ls 2 [(0, .ref h), (1, .int a1)] := hl
  unfold E_end at hE
  refine lv_aload_n hx hb dX6_end_0 rfl (lv_at hl 0 rfl) ?_
  refine lv_iload_n hx hb dX6_end_1 rfl (lv_at hl 1 rfl) ?_
  refine lv_iconst (v := 1) hx hb dX6_end_2 (by decide) ?_
  obtain ⟨R1, r2, hg, hE⟩ := hE
  refine kA_i (va_runV (As := [.int a1, .int 1]) (rest := []) F.1 (e_spanOf l G h q R a1 1 R1 r2 hg _) (cwV 2 hts (aw_V w_1208 w_1210 ws_X6_spanOf w_6 w_1211) rfl rfl rfl (by decide +kernel) ⟨by decide, by decide⟩) ⟨cS_blind, va_recv (q := (RX6, TX6, 48)) (ci := 6) (q0 := 0) hK.1 hP rfl mW_0, cS_pre hP hD hK⟩ rfl rfl hl.1 rfl (lv_room (Nat.le_of_ble_eq_true rfl)) dX6_end_3 ⟨Nat.le_refl _, Nat.le_refl _⟩) hD hS hA (fun r9 u0 H locs hp hP hD hS => ?_)
  have hp := hp.symm; subst hp
  obtain ⟨rfl, rfl⟩ := hE
  exact en_i F hS _ () (by rfl) rfl hP hD (Nat.le_refl _) (Nat.le_refl _) dX6_end_6

theorem dX6_behindMatch_0 : decode cX6_behindMatch 0 = .ok (.aload_n 0, 1) := by decide +kernel
theorem dX6_behindMatch_1 : decode cX6_behindMatch 1 = .ok (.getfield 57, 3) := by decide +kernel
theorem dX6_behindMatch_4 : decode cX6_behindMatch 4 = .ok (.iconst 1, 1) := by decide +kernel
theorem dX6_behindMatch_5 : decode cX6_behindMatch 5 = .ok (.iaload, 1) := by decide +kernel
theorem dX6_behindMatch_6 : decode cX6_behindMatch 6 = .ok (.aload_n 0, 1) := by decide +kernel
theorem dX6_behindMatch_7 : decode cX6_behindMatch 7 = .ok (.getfield 57, 3) := by decide +kernel
theorem dX6_behindMatch_10 : decode cX6_behindMatch 10 = .ok (.iconst 0, 1) := by decide +kernel
theorem dX6_behindMatch_11 : decode cX6_behindMatch 11 = .ok (.iaload, 1) := by decide +kernel
theorem dX6_behindMatch_12 : decode cX6_behindMatch 12 = .ok (.if_icmp .le 12, 3) := by decide +kernel
theorem dX6_behindMatch_15 : decode cX6_behindMatch 15 = .ok (.aload_n 0, 1) := by decide +kernel
theorem dX6_behindMatch_16 : decode cX6_behindMatch 16 = .ok (.getfield 57, 3) := by decide +kernel
theorem dX6_behindMatch_19 : decode cX6_behindMatch 19 = .ok (.iconst 1, 1) := by decide +kernel
theorem dX6_behindMatch_20 : decode cX6_behindMatch 20 = .ok (.iaload, 1) := by decide +kernel
theorem dX6_behindMatch_21 : decode cX6_behindMatch 21 = .ok (.goto 11, 3) := by decide +kernel
theorem dX6_behindMatch_24 : decode cX6_behindMatch 24 = .ok (.aload_n 0, 1) := by decide +kernel
theorem dX6_behindMatch_25 : decode cX6_behindMatch 25 = .ok (.getfield 57, 3) := by decide +kernel
theorem dX6_behindMatch_28 : decode cX6_behindMatch 28 = .ok (.iconst 1, 1) := by decide +kernel
theorem dX6_behindMatch_29 : decode cX6_behindMatch 29 = .ok (.iaload, 1) := by decide +kernel
theorem dX6_behindMatch_30 : decode cX6_behindMatch 30 = .ok (.iconst 1, 1) := by decide +kernel
theorem dX6_behindMatch_31 : decode cX6_behindMatch 31 = .ok (.iadd, 1) := by decide +kernel
theorem dX6_behindMatch_32 : decode cX6_behindMatch 32 = .ok (.ireturn, 1) := by decide +kernel
def E_behindMatch (R : RS)  (R' : RS) (r : Int32) : Prop := vp_in 1 10 ∧ (vp_in 0 10 ∧ (if (R.2.1 30 (1 : Int32).toNatClampNeg) ≤ (R.2.1 30 (0 : Int32).toNatClampNeg) then (vp_in 1 10 ∧ (R' = R ∧ r = ((R.2.1 30 (1 : Int32).toNatClampNeg) + 1))) else (vp_in 1 10 ∧ (R' = R ∧ r = (R.2.1 30 (1 : Int32).toNatClampNeg)))))
set_option maxHeartbeats 4000000 in
set_option maxRecDepth 100000 in
theorem e_behindMatch (l : Launch) (G : PG) (h : Nat) (q : Nat → Nat) (R : RS)  (R' : RS) (r : Int32) (hE : E_behindMatch R R' r) : Ci l yX6_behindMatch (Cond.code yX6_behindMatch cX6_behindMatch 1 (some .int) :: aW) { frames := 0, cells := 0, slots := 0, locals := 0 } G (mW G h q R) [.ref h] (fun (r9 : Int32) (_ : Unit) => r9 = r) (fun (_ : Unit) => mW G h q R') 0 0 := by
  refine ofB (y := yX6_behindMatch) (G := G) (cc := cX6_behindMatch) (maxL := 1) (ret := (some .int)) (Qc := fun A => va_Qi (fun (r9 : Int32) (_ : Unit) => r9 = r) (oB G A (fun (_ : Unit) => mW G h q R')) A) (by decide) rfl ?_
  intro p e s m below meth c A F hK hA hP hD
  have hS : va_S A s.heap s.heap [] := va_S.rf
  have hx := F.1.1; have hb := F.1.2.1; have hml := F.1.2.2.1; have hts := F.1.2.2.2.2
  have hown : s.vm.findClass RX6 = some m.cls := F.1.2.2.2.1
  have hl := lv_entry ([.ref h]) (n := 1) (Nat.le_of_ble_eq_true rfl)
  rw [lg_entry_eq]
  generalize (lg_sl ([.ref h]) ++ List.replicate (1 - (lg_sl ([.ref h])).length) Slot.unset).toArray = ls at hl ⊢
  have hl : lv_has ls 1 [(0, .ref h)] := hl
  unfold E_behindMatch at hE
  refine lv_aload_n hx hb dX6_behindMatch_0 rfl (lv_at hl 0 rfl) ?_
  refine va_get (D := G.1) (ci := 6) (C := RX6) (T := TX6) (N := 48) hx hb hts inX6 hown hK.1 hP 0 mW_0 rfl 30 (by decide) (hts _ w_876) (fun _ h9 => h9) mF_30 dX6_behindMatch_1 ?_
  refine lv_iconst (v := 1) hx hb dX6_behindMatch_4 (by decide) ?_
  obtain ⟨hin, hE⟩ := hE
  refine va_iald (D := G.1) hx hb hK.1 hP 16 0 mW_g30 rfl hin dX6_behindMatch_5 ?_
  refine lv_aload_n hx hb dX6_behindMatch_6 rfl (lv_at hl 0 rfl) ?_
  refine va_get (D := G.1) (ci := 6) (C := RX6) (T := TX6) (N := 48) hx hb hts inX6 hown hK.1 hP 0 mW_0 rfl 30 (by decide) (hts _ w_876) (fun _ h9 => h9) mF_30 dX6_behindMatch_7 ?_
  refine lv_iconst (v := 0) hx hb dX6_behindMatch_10 (by decide) ?_
  obtain ⟨hin, hE⟩ := hE
  refine va_iald (D := G.1) hx hb hK.1 hP 16 0 mW_g30 rfl hin dX6_behindMatch_11 ?_
  refine lv_icmp_le (tgt := 24) hx hb dX6_behindMatch_12 (by decide) (fun h1 => ?_) (fun h1 => ?_)
  ·
    rw [if_pos h1] at hE
    refine lv_aload_n hx hb dX6_behindMatch_24 rfl (lv_at hl 0 rfl) ?_
    refine va_get (D := G.1) (ci := 6) (C := RX6) (T := TX6) (N := 48) hx hb hts inX6 hown hK.1 hP 0 mW_0 rfl 30 (by decide) (hts _ w_876) (fun _ h9 => h9) mF_30 dX6_behindMatch_25 ?_
    refine lv_iconst (v := 1) hx hb dX6_behindMatch_28 (by decide) ?_
    obtain ⟨hin, hE⟩ := hE
    refine va_iald (D := G.1) hx hb hK.1 hP 16 0 mW_g30 rfl hin dX6_behindMatch_29 ?_
    refine lv_iconst (v := 1) hx hb dX6_behindMatch_30 (by decide) ?_
    refine lv_iadd hx hb dX6_behindMatch_31 ?_
    obtain ⟨rfl, rfl⟩ := hE
    exact en_i F hS _ () (by rfl) rfl hP hD (Nat.le_refl _) (Nat.le_refl _) dX6_behindMatch_32
  ·
    rw [if_neg h1] at hE
    refine lv_aload_n hx hb dX6_behindMatch_15 rfl (lv_at hl 0 rfl) ?_
    refine va_get (D := G.1) (ci := 6) (C := RX6) (T := TX6) (N := 48) hx hb hts inX6 hown hK.1 hP 0 mW_0 rfl 30 (by decide) (hts _ w_876) (fun _ h9 => h9) mF_30 dX6_behindMatch_16 ?_
    refine lv_iconst (v := 1) hx hb dX6_behindMatch_19 (by decide) ?_
    obtain ⟨hin, hE⟩ := hE
    refine va_iald (D := G.1) hx hb hK.1 hP 16 0 mW_g30 rfl hin dX6_behindMatch_20 ?_
    refine lv_goto (tgt := 32) hx hb dX6_behindMatch_21 (by decide) ?_
    obtain ⟨rfl, rfl⟩ := hE
    exact en_i F hS _ () (by rfl) rfl hP hD (Nat.le_refl _) (Nat.le_refl _) dX6_behindMatch_32

theorem dX6_put_0 : decode cX6_put 0 = .ok (.aload_n 0, 1) := by decide +kernel
theorem dX6_put_1 : decode cX6_put 1 = .ok (.getfield 93, 3) := by decide +kernel
theorem dX6_put_4 : decode cX6_put 4 = .ok (.aload_n 0, 1) := by decide +kernel
theorem dX6_put_5 : decode cX6_put 5 = .ok (.getfield 308, 3) := by decide +kernel
theorem dX6_put_8 : decode cX6_put 8 = .ok (.iload_n 1, 1) := by decide +kernel
theorem dX6_put_9 : decode cX6_put 9 = .ok (.iastore, 1) := by decide +kernel
theorem dX6_put_10 : decode cX6_put 10 = .ok (.aload_n 0, 1) := by decide +kernel
theorem dX6_put_11 : decode cX6_put 11 = .ok (.dup, 1) := by decide +kernel
theorem dX6_put_12 : decode cX6_put 12 = .ok (.getfield 308, 3) := by decide +kernel
theorem dX6_put_15 : decode cX6_put 15 = .ok (.iconst 1, 1) := by decide +kernel
theorem dX6_put_16 : decode cX6_put 16 = .ok (.iadd, 1) := by decide +kernel
theorem dX6_put_17 : decode cX6_put 17 = .ok (.putfield 308, 3) := by decide +kernel
theorem dX6_put_20 : decode cX6_put 20 = .ok (.return_, 1) := by decide +kernel
def E_put (R : RS) (a1 : Int32) (R' : RS) (r : Int32) : Prop := vp_in (R.1 43) 400 ∧ (R' = (mf (ma R 44 ((R.1 43).toNatClampNeg) a1) 43 ((R.1 43) + 1)) ∧ r = 0)
set_option maxHeartbeats 4000000 in
set_option maxRecDepth 100000 in
theorem e_put (l : Launch) (G : PG) (h : Nat) (q : Nat → Nat) (R : RS) (a1 : Int32) (R' : RS) (r : Int32) (hE : E_put R a1 R' r) : Cv l yX6_put (Cond.code yX6_put cX6_put 2 none :: aW) { frames := 0, cells := 0, slots := 0, locals := 0 } G (mW G h q R) [.ref h, .int a1] (fun (_ : Unit) => True) (fun (_ : Unit) => mW G h q R') 0 0 := by
  refine ofB (y := yX6_put) (G := G) (cc := cX6_put) (maxL := 2) (ret := none) (Qc := fun A => va_Qv (fun (_ : Unit) => True) (oB G A (fun (_ : Unit) => mW G h q R')) A) (by decide) rfl ?_
  intro p e s m below meth c A F hK hA hP hD
  have hS : va_S A s.heap s.heap [] := va_S.rf
  have hx := F.1.1; have hb := F.1.2.1; have hml := F.1.2.2.1; have hts := F.1.2.2.2.2
  have hown : s.vm.findClass RX6 = some m.cls := F.1.2.2.2.1
  have hl := lv_entry ([.ref h, .int a1]) (n := 2) (Nat.le_of_ble_eq_true rfl)
  rw [lg_entry_eq]
  generalize (lg_sl ([.ref h, .int a1]) ++ List.replicate (2 - (lg_sl ([.ref h, .int a1])).length) Slot.unset).toArray = ls at hl ⊢
  have hl : lv_has ls 2 [(0, .ref h), (1, .int a1)] := hl
  unfold E_put at hE
  refine lv_aload_n hx hb dX6_put_0 rfl (lv_at hl 0 rfl) ?_
  refine va_get (D := G.1) (ci := 6) (C := RX6) (T := TX6) (N := 48) hx hb hts inX6 hown hK.1 hP 0 mW_0 rfl 44 (by decide) (hts _ w_890) (fun _ h9 => h9) mF_44 dX6_put_1 ?_
  refine lv_aload_n hx hb dX6_put_4 rfl (lv_at hl 0 rfl) ?_
  refine va_get (D := G.1) (ci := 6) (C := RX6) (T := TX6) (N := 48) hx hb hts inX6 hown hK.1 hP 0 mW_0 rfl 43 (by decide) (hts _ w_889) (fun _ h9 => h9) mF_43 dX6_put_5 ?_
  refine lv_iload_n hx hb dX6_put_8 rfl (lv_at hl 1 rfl) ?_
  obtain ⟨hin, hE⟩ := hE
  refine va_iast (D := G.1) hx hb hK.1 hP hD hS 28 0 mW_g44 rfl hin dX6_put_9 (fun H locs hP hD hS => ?_)
  rw [mW_a44] at hP hD
  refine lv_aload_n hx hb dX6_put_10 rfl (lv_at hl 0 rfl) ?_
  refine lv_dup hx hb dX6_put_11 rfl ?_
  refine va_get (D := G.1) (ci := 6) (C := RX6) (T := TX6) (N := 48) hx hb hts inX6 hown hK.1 hP 0 mW_0 rfl 43 (by decide) (hts _ w_889) (fun _ h9 => h9) mF_43 dX6_put_12 ?_
  refine tp_i (R.1 43) rfl ?_
  refine lv_iconst (v := 1) hx hb dX6_put_15 (by decide) ?_
  refine lv_iadd hx hb dX6_put_16 ?_
  refine va_put (D := G.1) (ci := 6) (v := .int ((R.1 43) + 1)) (ty := .int) (C := RX6) (T := TX6) (N := 48) hx hb hts inX6 tyX6 tyX6_ok nmX6 hown hK.1 hP hD hS 0 mW_0 rfl 43 (by decide) (hts _ w_889) (fun _ h9 => h9) rfl (by decide +kernel) rfl rfl mF_l43 dX6_put_17 (fun H locs hP hD hS => ?_)
  rw [mW_f43] at hP hD
  obtain ⟨rfl, rfl⟩ := hE
  exact en_v F hS () trivial hP hD (Nat.le_refl _) (Nat.le_refl _) dX6_put_20

theorem dX6_putText_0 : decode cX6_putText 0 = .ok (.iload_n 1, 1) := by decide +kernel
theorem dX6_putText_1 : decode cX6_putText 1 = .ok (.istore_n 3, 1) := by decide +kernel
theorem dX6_putText_2 : decode cX6_putText 2 = .ok (.iload_n 3, 1) := by decide +kernel
theorem dX6_putText_3 : decode cX6_putText 3 = .ok (.iload_n 2, 1) := by decide +kernel
theorem dX6_putText_4 : decode cX6_putText 4 = .ok (.if_icmp .ge 22, 3) := by decide +kernel
theorem dX6_putText_7 : decode cX6_putText 7 = .ok (.aload_n 0, 1) := by decide +kernel
theorem dX6_putText_8 : decode cX6_putText 8 = .ok (.aload_n 0, 1) := by decide +kernel
theorem dX6_putText_9 : decode cX6_putText 9 = .ok (.getfield 7, 3) := by decide +kernel
theorem dX6_putText_12 : decode cX6_putText 12 = .ok (.bipush 14, 2) := by decide +kernel
theorem dX6_putText_14 : decode cX6_putText 14 = .ok (.iload_n 3, 1) := by decide +kernel
theorem dX6_putText_15 : decode cX6_putText 15 = .ok (.iadd, 1) := by decide +kernel
theorem dX6_putText_16 : decode cX6_putText 16 = .ok (.iaload, 1) := by decide +kernel
theorem dX6_putText_17 : decode cX6_putText 17 = .ok (.invokevirtual 311, 3) := by decide +kernel
theorem dX6_putText_20 : decode cX6_putText 20 = .ok (.iinc 3 1, 3) := by decide +kernel
theorem dX6_putText_23 : decode cX6_putText 23 = .ok (.goto (-21), 3) := by decide +kernel
theorem dX6_putText_26 : decode cX6_putText 26 = .ok (.return_, 1) := by decide +kernel
def L_putText_2 : Nat → RS → Int32 → Int32 → Int32 → RS → Int32 → Prop
  | 0, _, _, _, _, _, _ => False
  | nf + 1, R, x1, x2, x3, R', r => if x2 ≤ x3 then (R' = R ∧ r = 0) else (vp_in (14 + x3) 42 ∧ (∃ R2 : RS, E_put R (R.2.1 1 (14 + x3).toNatClampNeg) R2 0 ∧ (L_putText_2 nf R2 x1 x2 (x3 + 1) R' r)))
set_option maxHeartbeats 4000000 in
set_option maxRecDepth 100000 in
theorem L_putText_2_ok {l : Launch} {G : PG} {h : Nat} {q : Nat → Nat} {a1 : Int32} {a2 : Int32} {R' : RS} {r : Int32} {p : Program} {e : Env} {s : State} {m : MethodId} {below : List Frame} {meth : Method} {c : Code} {A : Nat → Prop} (F : bF p s m meth c cX6_putText 4 none ([.ref h, .int a1, .int a2] : List Value).toArray yX6_putText) (hK : pg_K G s) (hA : ∀ q, s.heap.size ≤ q → A q) : ∀ (nf : Nat) (R : RS) (x1 : Int32) (x2 : Int32) (x3 : Int32) (H : Heap) (locs : List Loc) (ls : Array Slot), lv_has ls 4 [(3, .int x3), (0, .ref h), (1, .int x1), (2, .int x2)] → L_putText_2 nf R x1 x2 x3 R' r → va_P G.1 vwCl (mW G h q R) H → va_D A (mW G h q R) → va_S A s.heap H locs → W p l e { frames := 1, cells := 0, slots := 0, locals := 21 } s m ([.ref h, .int a1, .int a2] : List Value).toArray below meth c H locs 0 0 (MQ below (va_Qv (fun (_ : Unit) => True) (oB G A (fun (_ : Unit) => mW G h q R')) A) ([.ref h, .int a1, .int a2] : List Value).toArray s 0 0 A) (F0 m 2 ls []) := by
  have hx := F.1.1; have hb := F.1.2.1; have hml := F.1.2.2.1; have hts := F.1.2.2.2.2
  have hown : s.vm.findClass RX6 = some m.cls := F.1.2.2.2.1
  intro nf
  induction nf with
  | zero => intro R x1 x2 x3 H locs ls hl hE; exact hE.elim
  | succ nf ih =>
    intro R x1 x2 x3 H locs ls hl hE hP hD hS
    unfold L_putText_2 at hE
    refine lv_iload_n hx hb dX6_putText_2 rfl (lv_at hl 0 rfl) ?_
    refine lv_iload_n hx hb dX6_putText_3 rfl (lv_at hl 3 rfl) ?_
    refine lv_icmp_ge (tgt := 26) hx hb dX6_putText_4 (by decide) (fun h1 => ?_) (fun h1 => ?_)
    ·
      rw [if_pos h1] at hE
      obtain ⟨rfl, rfl⟩ := hE
      exact en_v F hS () trivial hP hD (Nat.le_refl _) (Nat.le_refl _) dX6_putText_26
    ·
      rw [if_neg h1] at hE
      refine lv_aload_n hx hb dX6_putText_7 rfl (lv_at hl 1 rfl) ?_
      refine lv_aload_n hx hb dX6_putText_8 rfl (lv_at hl 1 rfl) ?_
      refine va_get (D := G.1) (ci := 6) (C := RX6) (T := TX6) (N := 48) hx hb hts inX6 hown hK.1 hP 0 mW_0 rfl 1 (by decide) (hts _ w_847) (fun _ h9 => h9) mF_1 dX6_putText_9 ?_
      refine lv_bipush (v := 14) hx hb dX6_putText_12 (by decide) ?_
      refine lv_iload_n hx hb dX6_putText_14 rfl (lv_at hl 0 rfl) ?_
      refine lv_iadd hx hb dX6_putText_15 ?_
      obtain ⟨hin, hE⟩ := hE
      refine va_iald (D := G.1) hx hb hK.1 hP 1 0 mW_g1 rfl hin dX6_putText_16 ?_
      obtain ⟨R2, hg, hE⟩ := hE
      refine kA_v (va_runV (As := [.int (R.2.1 1 (14 + x3).toNatClampNeg)]) (rest := []) F.1 (e_put l G h q R (R.2.1 1 (14 + x3).toNatClampNeg) R2 0 hg _) (cwV 1 hts (aw_V w_1228 w_1230 ws_X6_put w_6 w_1231) rfl rfl rfl (by decide +kernel) ⟨by decide, by decide⟩) ⟨cS_blind, va_recv (q := (RX6, TX6, 48)) (ci := 6) (q0 := 0) hK.1 hP rfl mW_0, cS_pre hP hD hK⟩ rfl rfl hl.1 rfl (lv_room (Nat.le_of_ble_eq_true rfl)) dX6_putText_17 ⟨Nat.le_refl _, Nat.le_refl _⟩) hD hS hA (fun u0 H locs hp hP hD hS => ?_)
      refine lv_iinc (v := (x3 + 1)) (k := 0) hx hb dX6_putText_20 hl rfl rfl (by decide) rfl (fun ls hl => ?_)
      have hl : lv_has ls 4 [(3, .int (x3 + 1)), (0, .ref h), (1, .int x1), (2, .int x2)] := hl
      refine lv_goto (tgt := 2) hx hb dX6_putText_23 (by decide) ?_
      exact ih R2 x1 x2 (x3 + 1) _ _ ls (lv_sub hl [0, 1, 2, 3] rfl) hE hP hD hS
def E_putText (R : RS) (a1 : Int32) (a2 : Int32) (R' : RS) (r : Int32) : Prop := ∃ nf : Nat, L_putText_2 nf R a1 a2 a1 R' r
set_option maxHeartbeats 4000000 in
set_option maxRecDepth 100000 in
theorem e_putText (l : Launch) (G : PG) (h : Nat) (q : Nat → Nat) (R : RS) (a1 : Int32) (a2 : Int32) (R' : RS) (r : Int32) (hE : E_putText R a1 a2 R' r) : Cv l yX6_putText (Cond.code yX6_putText cX6_putText 4 none :: aW) { frames := 1, cells := 0, slots := 0, locals := 21 } G (mW G h q R) [.ref h, .int a1, .int a2] (fun (_ : Unit) => True) (fun (_ : Unit) => mW G h q R') 0 0 := by
  refine ofB (y := yX6_putText) (G := G) (cc := cX6_putText) (maxL := 4) (ret := none) (Qc := fun A => va_Qv (fun (_ : Unit) => True) (oB G A (fun (_ : Unit) => mW G h q R')) A) (by decide) rfl ?_
  intro p e s m below meth c A F hK hA hP hD
  have hS : va_S A s.heap s.heap [] := va_S.rf
  have hx := F.1.1; have hb := F.1.2.1; have hml := F.1.2.2.1; have hts := F.1.2.2.2.2
  have hown : s.vm.findClass RX6 = some m.cls := F.1.2.2.2.1
  have hl := lv_entry ([.ref h, .int a1, .int a2]) (n := 4) (Nat.le_of_ble_eq_true rfl)
  rw [lg_entry_eq]
  generalize (lg_sl ([.ref h, .int a1, .int a2]) ++ List.replicate (4 - (lg_sl ([.ref h, .int a1, .int a2])).length) Slot.unset).toArray = ls at hl ⊢
  have hl : lv_has ls 4 [(0, .ref h), (1, .int a1), (2, .int a2)] := hl
  unfold E_putText at hE
  refine lv_iload_n hx hb dX6_putText_0 rfl (lv_at hl 1 rfl) ?_
  refine lv_istore_n hx hb dX6_putText_1 rfl hl (by decide) rfl (fun ls hl => ?_)
  have hl : lv_has ls 4 [(3, .int a1), (0, .ref h), (1, .int a1), (2, .int a2)] := hl
  obtain ⟨nf, hE⟩ := hE
  exact L_putText_2_ok F hK hA nf R a1 a2 a1 _ _ ls (lv_sub hl [0, 1, 2, 3] rfl) hE hP hD hS

theorem dX6_faultOfTemplate_0 : decode cX6_faultOfTemplate 0 = .ok (.iconst 0, 1) := by decide +kernel
theorem dX6_faultOfTemplate_1 : decode cX6_faultOfTemplate 1 = .ok (.istore_n 1, 1) := by decide +kernel
theorem dX6_faultOfTemplate_2 : decode cX6_faultOfTemplate 2 = .ok (.iconst 0, 1) := by decide +kernel
theorem dX6_faultOfTemplate_3 : decode cX6_faultOfTemplate 3 = .ok (.istore_n 2, 1) := by decide +kernel
theorem dX6_faultOfTemplate_4 : decode cX6_faultOfTemplate 4 = .ok (.iload_n 2, 1) := by decide +kernel
theorem dX6_faultOfTemplate_5 : decode cX6_faultOfTemplate 5 = .ok (.aload_n 0, 1) := by decide +kernel
theorem dX6_faultOfTemplate_6 : decode cX6_faultOfTemplate 6 = .ok (.getfield 13, 3) := by decide +kernel
theorem dX6_faultOfTemplate_9 : decode cX6_faultOfTemplate 9 = .ok (.iconst 2, 1) := by decide +kernel
theorem dX6_faultOfTemplate_10 : decode cX6_faultOfTemplate 10 = .ok (.iaload, 1) := by decide +kernel
theorem dX6_faultOfTemplate_11 : decode cX6_faultOfTemplate 11 = .ok (.if_icmp .ge 111, 3) := by decide +kernel
theorem dX6_faultOfTemplate_14 : decode cX6_faultOfTemplate 14 = .ok (.aload_n 0, 1) := by decide +kernel
theorem dX6_faultOfTemplate_15 : decode cX6_faultOfTemplate 15 = .ok (.getfield 7, 3) := by decide +kernel
theorem dX6_faultOfTemplate_18 : decode cX6_faultOfTemplate 18 = .ok (.bipush 28, 2) := by decide +kernel
theorem dX6_faultOfTemplate_20 : decode cX6_faultOfTemplate 20 = .ok (.iload_n 2, 1) := by decide +kernel
theorem dX6_faultOfTemplate_21 : decode cX6_faultOfTemplate 21 = .ok (.iadd, 1) := by decide +kernel
theorem dX6_faultOfTemplate_22 : decode cX6_faultOfTemplate 22 = .ok (.iaload, 1) := by decide +kernel
theorem dX6_faultOfTemplate_23 : decode cX6_faultOfTemplate 23 = .ok (.istore_n 3, 1) := by decide +kernel
theorem dX6_faultOfTemplate_24 : decode cX6_faultOfTemplate 24 = .ok (.iload_n 3, 1) := by decide +kernel
theorem dX6_faultOfTemplate_25 : decode cX6_faultOfTemplate 25 = .ok (.bipush 36, 2) := by decide +kernel
theorem dX6_faultOfTemplate_27 : decode cX6_faultOfTemplate 27 = .ok (.if_icmp .eq 12, 3) := by decide +kernel
theorem dX6_faultOfTemplate_30 : decode cX6_faultOfTemplate 30 = .ok (.iload_n 3, 1) := by decide +kernel
theorem dX6_faultOfTemplate_31 : decode cX6_faultOfTemplate 31 = .ok (.bipush 92, 2) := by decide +kernel
theorem dX6_faultOfTemplate_33 : decode cX6_faultOfTemplate 33 = .ok (.if_icmp .eq 6, 3) := by decide +kernel
theorem dX6_faultOfTemplate_36 : decode cX6_faultOfTemplate 36 = .ok (.goto 80, 3) := by decide +kernel
theorem dX6_faultOfTemplate_39 : decode cX6_faultOfTemplate 39 = .ok (.iload_n 2, 1) := by decide +kernel
theorem dX6_faultOfTemplate_40 : decode cX6_faultOfTemplate 40 = .ok (.iconst 1, 1) := by decide +kernel
theorem dX6_faultOfTemplate_41 : decode cX6_faultOfTemplate 41 = .ok (.iadd, 1) := by decide +kernel
theorem dX6_faultOfTemplate_42 : decode cX6_faultOfTemplate 42 = .ok (.aload_n 0, 1) := by decide +kernel
theorem dX6_faultOfTemplate_43 : decode cX6_faultOfTemplate 43 = .ok (.getfield 13, 3) := by decide +kernel
theorem dX6_faultOfTemplate_46 : decode cX6_faultOfTemplate 46 = .ok (.iconst 2, 1) := by decide +kernel
theorem dX6_faultOfTemplate_47 : decode cX6_faultOfTemplate 47 = .ok (.iaload, 1) := by decide +kernel
theorem dX6_faultOfTemplate_48 : decode cX6_faultOfTemplate 48 = .ok (.if_icmp .ge 15, 3) := by decide +kernel
theorem dX6_faultOfTemplate_51 : decode cX6_faultOfTemplate 51 = .ok (.aload_n 0, 1) := by decide +kernel
theorem dX6_faultOfTemplate_52 : decode cX6_faultOfTemplate 52 = .ok (.getfield 7, 3) := by decide +kernel
theorem dX6_faultOfTemplate_55 : decode cX6_faultOfTemplate 55 = .ok (.bipush 29, 2) := by decide +kernel
theorem dX6_faultOfTemplate_57 : decode cX6_faultOfTemplate 57 = .ok (.iload_n 2, 1) := by decide +kernel
theorem dX6_faultOfTemplate_58 : decode cX6_faultOfTemplate 58 = .ok (.iadd, 1) := by decide +kernel
theorem dX6_faultOfTemplate_59 : decode cX6_faultOfTemplate 59 = .ok (.iaload, 1) := by decide +kernel
theorem dX6_faultOfTemplate_60 : decode cX6_faultOfTemplate 60 = .ok (.goto 4, 3) := by decide +kernel
theorem dX6_faultOfTemplate_63 : decode cX6_faultOfTemplate 63 = .ok (.iconst 0, 1) := by decide +kernel
theorem dX6_faultOfTemplate_64 : decode cX6_faultOfTemplate 64 = .ok (.istore 4, 2) := by decide +kernel
theorem dX6_faultOfTemplate_66 : decode cX6_faultOfTemplate 66 = .ok (.iload 4, 2) := by decide +kernel
theorem dX6_faultOfTemplate_68 : decode cX6_faultOfTemplate 68 = .ok (.ifCond .eq 23, 3) := by decide +kernel
theorem dX6_faultOfTemplate_71 : decode cX6_faultOfTemplate 71 = .ok (.iload_n 3, 1) := by decide +kernel
theorem dX6_faultOfTemplate_72 : decode cX6_faultOfTemplate 72 = .ok (.bipush 36, 2) := by decide +kernel
theorem dX6_faultOfTemplate_74 : decode cX6_faultOfTemplate 74 = .ok (.if_icmp .ne 19, 3) := by decide +kernel
theorem dX6_faultOfTemplate_77 : decode cX6_faultOfTemplate 77 = .ok (.iload 4, 2) := by decide +kernel
theorem dX6_faultOfTemplate_79 : decode cX6_faultOfTemplate 79 = .ok (.bipush 48, 2) := by decide +kernel
theorem dX6_faultOfTemplate_81 : decode cX6_faultOfTemplate 81 = .ok (.if_icmp .lt 10, 3) := by decide +kernel
theorem dX6_faultOfTemplate_84 : decode cX6_faultOfTemplate 84 = .ok (.iload 4, 2) := by decide +kernel
theorem dX6_faultOfTemplate_86 : decode cX6_faultOfTemplate 86 = .ok (.bipush 57, 2) := by decide +kernel
theorem dX6_faultOfTemplate_88 : decode cX6_faultOfTemplate 88 = .ok (.if_icmp .le 5, 3) := by decide +kernel
theorem dX6_faultOfTemplate_91 : decode cX6_faultOfTemplate 91 = .ok (.iconst 2, 1) := by decide +kernel
theorem dX6_faultOfTemplate_92 : decode cX6_faultOfTemplate 92 = .ok (.ireturn, 1) := by decide +kernel
theorem dX6_faultOfTemplate_93 : decode cX6_faultOfTemplate 93 = .ok (.iload_n 3, 1) := by decide +kernel
theorem dX6_faultOfTemplate_94 : decode cX6_faultOfTemplate 94 = .ok (.bipush 36, 2) := by decide +kernel
theorem dX6_faultOfTemplate_96 : decode cX6_faultOfTemplate 96 = .ok (.if_icmp .ne 17, 3) := by decide +kernel
theorem dX6_faultOfTemplate_99 : decode cX6_faultOfTemplate 99 = .ok (.iload 4, 2) := by decide +kernel
theorem dX6_faultOfTemplate_101 : decode cX6_faultOfTemplate 101 = .ok (.bipush 48, 2) := by decide +kernel
theorem dX6_faultOfTemplate_103 : decode cX6_faultOfTemplate 103 = .ok (.isub, 1) := by decide +kernel
theorem dX6_faultOfTemplate_104 : decode cX6_faultOfTemplate 104 = .ok (.aload_n 0, 1) := by decide +kernel
theorem dX6_faultOfTemplate_105 : decode cX6_faultOfTemplate 105 = .ok (.getfield 202, 3) := by decide +kernel
theorem dX6_faultOfTemplate_108 : decode cX6_faultOfTemplate 108 = .ok (.if_icmp .le 5, 3) := by decide +kernel
theorem dX6_faultOfTemplate_111 : decode cX6_faultOfTemplate 111 = .ok (.iconst 3, 1) := by decide +kernel
theorem dX6_faultOfTemplate_112 : decode cX6_faultOfTemplate 112 = .ok (.istore_n 1, 1) := by decide +kernel
theorem dX6_faultOfTemplate_113 : decode cX6_faultOfTemplate 113 = .ok (.iinc 2 1, 3) := by decide +kernel
theorem dX6_faultOfTemplate_116 : decode cX6_faultOfTemplate 116 = .ok (.iinc 2 1, 3) := by decide +kernel
theorem dX6_faultOfTemplate_119 : decode cX6_faultOfTemplate 119 = .ok (.goto (-115), 3) := by decide +kernel
theorem dX6_faultOfTemplate_122 : decode cX6_faultOfTemplate 122 = .ok (.iload_n 1, 1) := by decide +kernel
theorem dX6_faultOfTemplate_123 : decode cX6_faultOfTemplate 123 = .ok (.ireturn, 1) := by decide +kernel
def L_faultOfTemplate_4 : Nat → RS → Int32 → Int32 → RS → Int32 → Prop
  | 0, _, _, _, _, _ => False
  | nf + 1, R, x1, x2, R', r => vp_in 2 3 ∧ (if (R.2.1 2 (2 : Int32).toNatClampNeg) ≤ x2 then (R' = R ∧ r = x1) else (vp_in (28 + x2) 42 ∧ (if (R.2.1 1 (28 + x2).toNatClampNeg) = 36 then (vp_in 2 3 ∧ (if (R.2.1 2 (2 : Int32).toNatClampNeg) ≤ (x2 + 1) then (R' = R ∧ r = 2) else (vp_in (29 + x2) 42 ∧ (if (R.2.1 1 (29 + x2).toNatClampNeg) = 0 then (R' = R ∧ r = 2) else (if (R.2.1 1 (28 + x2).toNatClampNeg) = 36 then (if (R.2.1 1 (29 + x2).toNatClampNeg) < 48 then (R' = R ∧ r = 2) else (if (R.2.1 1 (29 + x2).toNatClampNeg) ≤ 57 then (if (R.2.1 1 (28 + x2).toNatClampNeg) = 36 then (if ((R.2.1 1 (29 + x2).toNatClampNeg) - 48) ≤ (R.1 5) then (L_faultOfTemplate_4 nf R x1 ((x2 + 1) + 1) R' r) else (L_faultOfTemplate_4 nf R 3 ((x2 + 1) + 1) R' r)) else (L_faultOfTemplate_4 nf R x1 ((x2 + 1) + 1) R' r)) else (R' = R ∧ r = 2))) else (if (R.2.1 1 (28 + x2).toNatClampNeg) = 36 then (if ((R.2.1 1 (29 + x2).toNatClampNeg) - 48) ≤ (R.1 5) then (L_faultOfTemplate_4 nf R x1 ((x2 + 1) + 1) R' r) else (L_faultOfTemplate_4 nf R 3 ((x2 + 1) + 1) R' r)) else (L_faultOfTemplate_4 nf R x1 ((x2 + 1) + 1) R' r))))))) else (if (R.2.1 1 (28 + x2).toNatClampNeg) = 92 then (vp_in 2 3 ∧ (if (R.2.1 2 (2 : Int32).toNatClampNeg) ≤ (x2 + 1) then (R' = R ∧ r = 2) else (vp_in (29 + x2) 42 ∧ (if (R.2.1 1 (29 + x2).toNatClampNeg) = 0 then (R' = R ∧ r = 2) else (if (R.2.1 1 (28 + x2).toNatClampNeg) = 36 then (if (R.2.1 1 (29 + x2).toNatClampNeg) < 48 then (R' = R ∧ r = 2) else (if (R.2.1 1 (29 + x2).toNatClampNeg) ≤ 57 then (if (R.2.1 1 (28 + x2).toNatClampNeg) = 36 then (if ((R.2.1 1 (29 + x2).toNatClampNeg) - 48) ≤ (R.1 5) then (L_faultOfTemplate_4 nf R x1 ((x2 + 1) + 1) R' r) else (L_faultOfTemplate_4 nf R 3 ((x2 + 1) + 1) R' r)) else (L_faultOfTemplate_4 nf R x1 ((x2 + 1) + 1) R' r)) else (R' = R ∧ r = 2))) else (if (R.2.1 1 (28 + x2).toNatClampNeg) = 36 then (if ((R.2.1 1 (29 + x2).toNatClampNeg) - 48) ≤ (R.1 5) then (L_faultOfTemplate_4 nf R x1 ((x2 + 1) + 1) R' r) else (L_faultOfTemplate_4 nf R 3 ((x2 + 1) + 1) R' r)) else (L_faultOfTemplate_4 nf R x1 ((x2 + 1) + 1) R' r))))))) else (L_faultOfTemplate_4 nf R x1 (x2 + 1) R' r)))))
set_option maxHeartbeats 4000000 in
set_option maxRecDepth 100000 in
theorem L_faultOfTemplate_4_ok {l : Launch} {G : PG} {h : Nat} {q : Nat → Nat} {R' : RS} {r : Int32} {p : Program} {e : Env} {s : State} {m : MethodId} {below : List Frame} {meth : Method} {c : Code} {A : Nat → Prop} (F : bF p s m meth c cX6_faultOfTemplate 5 (some .int) ([.ref h] : List Value).toArray yX6_faultOfTemplate) (hK : pg_K G s) (hA : ∀ q, s.heap.size ≤ q → A q) : ∀ (nf : Nat) (R : RS) (x1 : Int32) (x2 : Int32) (H : Heap) (locs : List Loc) (ls : Array Slot), lv_has ls 5 [(2, .int x2), (1, .int x1), (0, .ref h)] → L_faultOfTemplate_4 nf R x1 x2 R' r → va_P G.1 vwCl (mW G h q R) H → va_D A (mW G h q R) → va_S A s.heap H locs → W p l e { frames := 0, cells := 0, slots := 0, locals := 0 } s m ([.ref h] : List Value).toArray below meth c H locs 0 0 (MQ below (va_Qi (fun (r9 : Int32) (_ : Unit) => r9 = r) (oB G A (fun (_ : Unit) => mW G h q R')) A) ([.ref h] : List Value).toArray s 0 0 A) (F0 m 4 ls []) := by
  have hx := F.1.1; have hb := F.1.2.1; have hml := F.1.2.2.1; have hts := F.1.2.2.2.2
  have hown : s.vm.findClass RX6 = some m.cls := F.1.2.2.2.1
  intro nf
  induction nf with
  | zero => intro R x1 x2 H locs ls hl hE; exact hE.elim
  | succ nf ih =>
    intro R x1 x2 H locs ls hl hE hP hD hS
    unfold L_faultOfTemplate_4 at hE
    refine lv_iload_n hx hb dX6_faultOfTemplate_4 rfl (lv_at hl 0 rfl) ?_
    refine lv_aload_n hx hb dX6_faultOfTemplate_5 rfl (lv_at hl 2 rfl) ?_
    refine va_get (D := G.1) (ci := 6) (C := RX6) (T := TX6) (N := 48) hx hb hts inX6 hown hK.1 hP 0 mW_0 rfl 2 (by decide) (hts _ w_848) (fun _ h9 => h9) mF_2 dX6_faultOfTemplate_6 ?_
    refine lv_iconst (v := 2) hx hb dX6_faultOfTemplate_9 (by decide) ?_
    obtain ⟨hin, hE⟩ := hE
    refine va_iald (D := G.1) hx hb hK.1 hP 2 0 mW_g2 rfl hin dX6_faultOfTemplate_10 ?_
    refine lv_icmp_ge (tgt := 122) hx hb dX6_faultOfTemplate_11 (by decide) (fun h1 => ?_) (fun h1 => ?_)
    ·
      rw [if_pos h1] at hE
      refine lv_iload_n hx hb dX6_faultOfTemplate_122 rfl (lv_at hl 1 rfl) ?_
      obtain ⟨rfl, rfl⟩ := hE
      exact en_i F hS _ () (by rfl) rfl hP hD (Nat.le_refl _) (Nat.le_refl _) dX6_faultOfTemplate_123
    ·
      rw [if_neg h1] at hE
      refine lv_aload_n hx hb dX6_faultOfTemplate_14 rfl (lv_at hl 2 rfl) ?_
      refine va_get (D := G.1) (ci := 6) (C := RX6) (T := TX6) (N := 48) hx hb hts inX6 hown hK.1 hP 0 mW_0 rfl 1 (by decide) (hts _ w_847) (fun _ h9 => h9) mF_1 dX6_faultOfTemplate_15 ?_
      refine lv_bipush (v := 28) hx hb dX6_faultOfTemplate_18 (by decide) ?_
      refine lv_iload_n hx hb dX6_faultOfTemplate_20 rfl (lv_at hl 0 rfl) ?_
      refine lv_iadd hx hb dX6_faultOfTemplate_21 ?_
      obtain ⟨hin, hE⟩ := hE
      refine va_iald (D := G.1) hx hb hK.1 hP 1 0 mW_g1 rfl hin dX6_faultOfTemplate_22 ?_
      refine lv_istore_n hx hb dX6_faultOfTemplate_23 rfl hl (by decide) rfl (fun ls hl => ?_)
      have hl : lv_has ls 5 [(3, .int (R.2.1 1 (28 + x2).toNatClampNeg)), (2, .int x2), (1, .int x1), (0, .ref h)] := hl
      refine lv_iload_n hx hb dX6_faultOfTemplate_24 rfl (lv_at hl 0 rfl) ?_
      refine lv_bipush (v := 36) hx hb dX6_faultOfTemplate_25 (by decide) ?_
      refine lv_icmp_eq (tgt := 39) hx hb dX6_faultOfTemplate_27 (by decide) (fun h2 => ?_) (fun h2 => ?_)
      ·
        rw [if_pos h2] at hE
        refine lv_iload_n hx hb dX6_faultOfTemplate_39 rfl (lv_at hl 1 rfl) ?_
        refine lv_iconst (v := 1) hx hb dX6_faultOfTemplate_40 (by decide) ?_
        refine lv_iadd hx hb dX6_faultOfTemplate_41 ?_
        refine lv_aload_n hx hb dX6_faultOfTemplate_42 rfl (lv_at hl 3 rfl) ?_
        refine va_get (D := G.1) (ci := 6) (C := RX6) (T := TX6) (N := 48) hx hb hts inX6 hown hK.1 hP 0 mW_0 rfl 2 (by decide) (hts _ w_848) (fun _ h9 => h9) mF_2 dX6_faultOfTemplate_43 ?_
        refine lv_iconst (v := 2) hx hb dX6_faultOfTemplate_46 (by decide) ?_
        obtain ⟨hin, hE⟩ := hE
        refine va_iald (D := G.1) hx hb hK.1 hP 2 0 mW_g2 rfl hin dX6_faultOfTemplate_47 ?_
        refine lv_icmp_ge (tgt := 63) hx hb dX6_faultOfTemplate_48 (by decide) (fun h3 => ?_) (fun h3 => ?_)
        ·
          rw [if_pos h3] at hE
          refine lv_iconst (v := 0) hx hb dX6_faultOfTemplate_63 (by decide) ?_
          refine lv_istore hx hb dX6_faultOfTemplate_64 hl (by decide) rfl (fun ls hl => ?_)
          have hl : lv_has ls 5 [(4, .int 0), (3, .int (R.2.1 1 (28 + x2).toNatClampNeg)), (2, .int x2), (1, .int x1), (0, .ref h)] := hl
          refine lv_iload hx hb dX6_faultOfTemplate_66 (lv_at hl 0 rfl) ?_
          refine lv_if_eq (tgt := 91) hx hb dX6_faultOfTemplate_68 (by decide) (fun _ => ?_) (fun h => absurd (by decide) h)
          refine lv_iconst (v := 2) hx hb dX6_faultOfTemplate_91 (by decide) ?_
          obtain ⟨rfl, rfl⟩ := hE
          exact en_i F hS _ () (by rfl) rfl hP hD (Nat.le_refl _) (Nat.le_refl _) dX6_faultOfTemplate_92
        ·
          rw [if_neg h3] at hE
          refine lv_aload_n hx hb dX6_faultOfTemplate_51 rfl (lv_at hl 3 rfl) ?_
          refine va_get (D := G.1) (ci := 6) (C := RX6) (T := TX6) (N := 48) hx hb hts inX6 hown hK.1 hP 0 mW_0 rfl 1 (by decide) (hts _ w_847) (fun _ h9 => h9) mF_1 dX6_faultOfTemplate_52 ?_
          refine lv_bipush (v := 29) hx hb dX6_faultOfTemplate_55 (by decide) ?_
          refine lv_iload_n hx hb dX6_faultOfTemplate_57 rfl (lv_at hl 1 rfl) ?_
          refine lv_iadd hx hb dX6_faultOfTemplate_58 ?_
          obtain ⟨hin, hE⟩ := hE
          refine va_iald (D := G.1) hx hb hK.1 hP 1 0 mW_g1 rfl hin dX6_faultOfTemplate_59 ?_
          refine lv_goto (tgt := 64) hx hb dX6_faultOfTemplate_60 (by decide) ?_
          refine lv_istore hx hb dX6_faultOfTemplate_64 hl (by decide) rfl (fun ls hl => ?_)
          have hl : lv_has ls 5 [(4, .int (R.2.1 1 (29 + x2).toNatClampNeg)), (3, .int (R.2.1 1 (28 + x2).toNatClampNeg)), (2, .int x2), (1, .int x1), (0, .ref h)] := hl
          refine lv_iload hx hb dX6_faultOfTemplate_66 (lv_at hl 0 rfl) ?_
          refine lv_if_eq (tgt := 91) hx hb dX6_faultOfTemplate_68 (by decide) (fun h5 => ?_) (fun h5 => ?_)
          ·
            rw [if_pos h5] at hE
            refine lv_iconst (v := 2) hx hb dX6_faultOfTemplate_91 (by decide) ?_
            obtain ⟨rfl, rfl⟩ := hE
            exact en_i F hS _ () (by rfl) rfl hP hD (Nat.le_refl _) (Nat.le_refl _) dX6_faultOfTemplate_92
          ·
            rw [if_neg h5] at hE
            refine lv_iload_n hx hb dX6_faultOfTemplate_71 rfl (lv_at hl 1 rfl) ?_
            refine lv_bipush (v := 36) hx hb dX6_faultOfTemplate_72 (by decide) ?_
            refine lv_icmp_ne (tgt := 93) hx hb dX6_faultOfTemplate_74 (by decide) (fun h6 => ?_) (fun h6 => ?_)
            ·
              rw [if_neg h6] at hE
              refine lv_iload_n hx hb dX6_faultOfTemplate_93 rfl (lv_at hl 1 rfl) ?_
              refine lv_bipush (v := 36) hx hb dX6_faultOfTemplate_94 (by decide) ?_
              refine lv_icmp_ne (tgt := 113) hx hb dX6_faultOfTemplate_96 (by decide) (fun h7 => ?_) (fun h7 => ?_)
              ·
                rw [if_neg h7] at hE
                refine lv_iinc (v := (x2 + 1)) (k := 2) hx hb dX6_faultOfTemplate_113 hl rfl rfl (by decide) rfl (fun ls hl => ?_)
                have hl : lv_has ls 5 [(2, .int (x2 + 1)), (4, .int (R.2.1 1 (29 + x2).toNatClampNeg)), (3, .int (R.2.1 1 (28 + x2).toNatClampNeg)), (1, .int x1), (0, .ref h)] := hl
                refine lv_iinc (v := ((x2 + 1) + 1)) (k := 0) hx hb dX6_faultOfTemplate_116 hl rfl rfl (by decide) rfl (fun ls hl => ?_)
                have hl : lv_has ls 5 [(2, .int ((x2 + 1) + 1)), (4, .int (R.2.1 1 (29 + x2).toNatClampNeg)), (3, .int (R.2.1 1 (28 + x2).toNatClampNeg)), (1, .int x1), (0, .ref h)] := hl
                refine lv_goto (tgt := 4) hx hb dX6_faultOfTemplate_119 (by decide) ?_
                exact ih R x1 ((x2 + 1) + 1) _ _ ls (lv_sub hl [0, 3, 4] rfl) hE hP hD hS
              ·
                rw [if_pos h7] at hE
                refine lv_iload hx hb dX6_faultOfTemplate_99 (lv_at hl 0 rfl) ?_
                refine lv_bipush (v := 48) hx hb dX6_faultOfTemplate_101 (by decide) ?_
                refine lv_isub hx hb dX6_faultOfTemplate_103 ?_
                refine lv_aload_n hx hb dX6_faultOfTemplate_104 rfl (lv_at hl 4 rfl) ?_
                refine va_get (D := G.1) (ci := 6) (C := RX6) (T := TX6) (N := 48) hx hb hts inX6 hown hK.1 hP 0 mW_0 rfl 5 (by decide) (hts _ w_851) (fun _ h9 => h9) mF_5 dX6_faultOfTemplate_105 ?_
                refine lv_icmp_le (tgt := 113) hx hb dX6_faultOfTemplate_108 (by decide) (fun h8 => ?_) (fun h8 => ?_)
                ·
                  rw [if_pos h8] at hE
                  refine lv_iinc (v := (x2 + 1)) (k := 2) hx hb dX6_faultOfTemplate_113 hl rfl rfl (by decide) rfl (fun ls hl => ?_)
                  have hl : lv_has ls 5 [(2, .int (x2 + 1)), (4, .int (R.2.1 1 (29 + x2).toNatClampNeg)), (3, .int (R.2.1 1 (28 + x2).toNatClampNeg)), (1, .int x1), (0, .ref h)] := hl
                  refine lv_iinc (v := ((x2 + 1) + 1)) (k := 0) hx hb dX6_faultOfTemplate_116 hl rfl rfl (by decide) rfl (fun ls hl => ?_)
                  have hl : lv_has ls 5 [(2, .int ((x2 + 1) + 1)), (4, .int (R.2.1 1 (29 + x2).toNatClampNeg)), (3, .int (R.2.1 1 (28 + x2).toNatClampNeg)), (1, .int x1), (0, .ref h)] := hl
                  refine lv_goto (tgt := 4) hx hb dX6_faultOfTemplate_119 (by decide) ?_
                  exact ih R x1 ((x2 + 1) + 1) _ _ ls (lv_sub hl [0, 3, 4] rfl) hE hP hD hS
                ·
                  rw [if_neg h8] at hE
                  refine lv_iconst (v := 3) hx hb dX6_faultOfTemplate_111 (by decide) ?_
                  refine lv_istore_n hx hb dX6_faultOfTemplate_112 rfl hl (by decide) rfl (fun ls hl => ?_)
                  have hl : lv_has ls 5 [(1, .int 3), (4, .int (R.2.1 1 (29 + x2).toNatClampNeg)), (3, .int (R.2.1 1 (28 + x2).toNatClampNeg)), (2, .int x2), (0, .ref h)] := hl
                  refine lv_iinc (v := (x2 + 1)) (k := 3) hx hb dX6_faultOfTemplate_113 hl rfl rfl (by decide) rfl (fun ls hl => ?_)
                  have hl : lv_has ls 5 [(2, .int (x2 + 1)), (1, .int 3), (4, .int (R.2.1 1 (29 + x2).toNatClampNeg)), (3, .int (R.2.1 1 (28 + x2).toNatClampNeg)), (0, .ref h)] := hl
                  refine lv_iinc (v := ((x2 + 1) + 1)) (k := 0) hx hb dX6_faultOfTemplate_116 hl rfl rfl (by decide) rfl (fun ls hl => ?_)
                  have hl : lv_has ls 5 [(2, .int ((x2 + 1) + 1)), (1, .int 3), (4, .int (R.2.1 1 (29 + x2).toNatClampNeg)), (3, .int (R.2.1 1 (28 + x2).toNatClampNeg)), (0, .ref h)] := hl
                  refine lv_goto (tgt := 4) hx hb dX6_faultOfTemplate_119 (by decide) ?_
                  exact ih R 3 ((x2 + 1) + 1) _ _ ls (lv_sub hl [0, 1, 4] rfl) hE hP hD hS
            ·
              rw [if_pos h6] at hE
              refine lv_iload hx hb dX6_faultOfTemplate_77 (lv_at hl 0 rfl) ?_
              refine lv_bipush (v := 48) hx hb dX6_faultOfTemplate_79 (by decide) ?_
              refine lv_icmp_lt (tgt := 91) hx hb dX6_faultOfTemplate_81 (by decide) (fun h9 => ?_) (fun h9 => ?_)
              ·
                rw [if_pos h9] at hE
                refine lv_iconst (v := 2) hx hb dX6_faultOfTemplate_91 (by decide) ?_
                obtain ⟨rfl, rfl⟩ := hE
                exact en_i F hS _ () (by rfl) rfl hP hD (Nat.le_refl _) (Nat.le_refl _) dX6_faultOfTemplate_92
              ·
                rw [if_neg h9] at hE
                refine lv_iload hx hb dX6_faultOfTemplate_84 (lv_at hl 0 rfl) ?_
                refine lv_bipush (v := 57) hx hb dX6_faultOfTemplate_86 (by decide) ?_
                refine lv_icmp_le (tgt := 93) hx hb dX6_faultOfTemplate_88 (by decide) (fun h10 => ?_) (fun h10 => ?_)
                ·
                  rw [if_pos h10] at hE
                  refine lv_iload_n hx hb dX6_faultOfTemplate_93 rfl (lv_at hl 1 rfl) ?_
                  refine lv_bipush (v := 36) hx hb dX6_faultOfTemplate_94 (by decide) ?_
                  refine lv_icmp_ne (tgt := 113) hx hb dX6_faultOfTemplate_96 (by decide) (fun h11 => ?_) (fun h11 => ?_)
                  ·
                    rw [if_neg h11] at hE
                    refine lv_iinc (v := (x2 + 1)) (k := 2) hx hb dX6_faultOfTemplate_113 hl rfl rfl (by decide) rfl (fun ls hl => ?_)
                    have hl : lv_has ls 5 [(2, .int (x2 + 1)), (4, .int (R.2.1 1 (29 + x2).toNatClampNeg)), (3, .int (R.2.1 1 (28 + x2).toNatClampNeg)), (1, .int x1), (0, .ref h)] := hl
                    refine lv_iinc (v := ((x2 + 1) + 1)) (k := 0) hx hb dX6_faultOfTemplate_116 hl rfl rfl (by decide) rfl (fun ls hl => ?_)
                    have hl : lv_has ls 5 [(2, .int ((x2 + 1) + 1)), (4, .int (R.2.1 1 (29 + x2).toNatClampNeg)), (3, .int (R.2.1 1 (28 + x2).toNatClampNeg)), (1, .int x1), (0, .ref h)] := hl
                    refine lv_goto (tgt := 4) hx hb dX6_faultOfTemplate_119 (by decide) ?_
                    exact ih R x1 ((x2 + 1) + 1) _ _ ls (lv_sub hl [0, 3, 4] rfl) hE hP hD hS
                  ·
                    rw [if_pos h11] at hE
                    refine lv_iload hx hb dX6_faultOfTemplate_99 (lv_at hl 0 rfl) ?_
                    refine lv_bipush (v := 48) hx hb dX6_faultOfTemplate_101 (by decide) ?_
                    refine lv_isub hx hb dX6_faultOfTemplate_103 ?_
                    refine lv_aload_n hx hb dX6_faultOfTemplate_104 rfl (lv_at hl 4 rfl) ?_
                    refine va_get (D := G.1) (ci := 6) (C := RX6) (T := TX6) (N := 48) hx hb hts inX6 hown hK.1 hP 0 mW_0 rfl 5 (by decide) (hts _ w_851) (fun _ h9 => h9) mF_5 dX6_faultOfTemplate_105 ?_
                    refine lv_icmp_le (tgt := 113) hx hb dX6_faultOfTemplate_108 (by decide) (fun h12 => ?_) (fun h12 => ?_)
                    ·
                      rw [if_pos h12] at hE
                      refine lv_iinc (v := (x2 + 1)) (k := 2) hx hb dX6_faultOfTemplate_113 hl rfl rfl (by decide) rfl (fun ls hl => ?_)
                      have hl : lv_has ls 5 [(2, .int (x2 + 1)), (4, .int (R.2.1 1 (29 + x2).toNatClampNeg)), (3, .int (R.2.1 1 (28 + x2).toNatClampNeg)), (1, .int x1), (0, .ref h)] := hl
                      refine lv_iinc (v := ((x2 + 1) + 1)) (k := 0) hx hb dX6_faultOfTemplate_116 hl rfl rfl (by decide) rfl (fun ls hl => ?_)
                      have hl : lv_has ls 5 [(2, .int ((x2 + 1) + 1)), (4, .int (R.2.1 1 (29 + x2).toNatClampNeg)), (3, .int (R.2.1 1 (28 + x2).toNatClampNeg)), (1, .int x1), (0, .ref h)] := hl
                      refine lv_goto (tgt := 4) hx hb dX6_faultOfTemplate_119 (by decide) ?_
                      exact ih R x1 ((x2 + 1) + 1) _ _ ls (lv_sub hl [0, 3, 4] rfl) hE hP hD hS
                    ·
                      rw [if_neg h12] at hE
                      refine lv_iconst (v := 3) hx hb dX6_faultOfTemplate_111 (by decide) ?_
                      refine lv_istore_n hx hb dX6_faultOfTemplate_112 rfl hl (by decide) rfl (fun ls hl => ?_)
                      have hl : lv_has ls 5 [(1, .int 3), (4, .int (R.2.1 1 (29 + x2).toNatClampNeg)), (3, .int (R.2.1 1 (28 + x2).toNatClampNeg)), (2, .int x2), (0, .ref h)] := hl
                      refine lv_iinc (v := (x2 + 1)) (k := 3) hx hb dX6_faultOfTemplate_113 hl rfl rfl (by decide) rfl (fun ls hl => ?_)
                      have hl : lv_has ls 5 [(2, .int (x2 + 1)), (1, .int 3), (4, .int (R.2.1 1 (29 + x2).toNatClampNeg)), (3, .int (R.2.1 1 (28 + x2).toNatClampNeg)), (0, .ref h)] := hl
                      refine lv_iinc (v := ((x2 + 1) + 1)) (k := 0) hx hb dX6_faultOfTemplate_116 hl rfl rfl (by decide) rfl (fun ls hl => ?_)
                      have hl : lv_has ls 5 [(2, .int ((x2 + 1) + 1)), (1, .int 3), (4, .int (R.2.1 1 (29 + x2).toNatClampNeg)), (3, .int (R.2.1 1 (28 + x2).toNatClampNeg)), (0, .ref h)] := hl
                      refine lv_goto (tgt := 4) hx hb dX6_faultOfTemplate_119 (by decide) ?_
                      exact ih R 3 ((x2 + 1) + 1) _ _ ls (lv_sub hl [0, 1, 4] rfl) hE hP hD hS
                ·
                  rw [if_neg h10] at hE
                  refine lv_iconst (v := 2) hx hb dX6_faultOfTemplate_91 (by decide) ?_
                  obtain ⟨rfl, rfl⟩ := hE
                  exact en_i F hS _ () (by rfl) rfl hP hD (Nat.le_refl _) (Nat.le_refl _) dX6_faultOfTemplate_92
      ·
        rw [if_neg h2] at hE
        refine lv_iload_n hx hb dX6_faultOfTemplate_30 rfl (lv_at hl 0 rfl) ?_
        refine lv_bipush (v := 92) hx hb dX6_faultOfTemplate_31 (by decide) ?_
        refine lv_icmp_eq (tgt := 39) hx hb dX6_faultOfTemplate_33 (by decide) (fun h13 => ?_) (fun h13 => ?_)
        ·
          rw [if_pos h13] at hE
          refine lv_iload_n hx hb dX6_faultOfTemplate_39 rfl (lv_at hl 1 rfl) ?_
          refine lv_iconst (v := 1) hx hb dX6_faultOfTemplate_40 (by decide) ?_
          refine lv_iadd hx hb dX6_faultOfTemplate_41 ?_
          refine lv_aload_n hx hb dX6_faultOfTemplate_42 rfl (lv_at hl 3 rfl) ?_
          refine va_get (D := G.1) (ci := 6) (C := RX6) (T := TX6) (N := 48) hx hb hts inX6 hown hK.1 hP 0 mW_0 rfl 2 (by decide) (hts _ w_848) (fun _ h9 => h9) mF_2 dX6_faultOfTemplate_43 ?_
          refine lv_iconst (v := 2) hx hb dX6_faultOfTemplate_46 (by decide) ?_
          obtain ⟨hin, hE⟩ := hE
          refine va_iald (D := G.1) hx hb hK.1 hP 2 0 mW_g2 rfl hin dX6_faultOfTemplate_47 ?_
          refine lv_icmp_ge (tgt := 63) hx hb dX6_faultOfTemplate_48 (by decide) (fun h14 => ?_) (fun h14 => ?_)
          ·
            rw [if_pos h14] at hE
            refine lv_iconst (v := 0) hx hb dX6_faultOfTemplate_63 (by decide) ?_
            refine lv_istore hx hb dX6_faultOfTemplate_64 hl (by decide) rfl (fun ls hl => ?_)
            have hl : lv_has ls 5 [(4, .int 0), (3, .int (R.2.1 1 (28 + x2).toNatClampNeg)), (2, .int x2), (1, .int x1), (0, .ref h)] := hl
            refine lv_iload hx hb dX6_faultOfTemplate_66 (lv_at hl 0 rfl) ?_
            refine lv_if_eq (tgt := 91) hx hb dX6_faultOfTemplate_68 (by decide) (fun _ => ?_) (fun h => absurd (by decide) h)
            refine lv_iconst (v := 2) hx hb dX6_faultOfTemplate_91 (by decide) ?_
            obtain ⟨rfl, rfl⟩ := hE
            exact en_i F hS _ () (by rfl) rfl hP hD (Nat.le_refl _) (Nat.le_refl _) dX6_faultOfTemplate_92
          ·
            rw [if_neg h14] at hE
            refine lv_aload_n hx hb dX6_faultOfTemplate_51 rfl (lv_at hl 3 rfl) ?_
            refine va_get (D := G.1) (ci := 6) (C := RX6) (T := TX6) (N := 48) hx hb hts inX6 hown hK.1 hP 0 mW_0 rfl 1 (by decide) (hts _ w_847) (fun _ h9 => h9) mF_1 dX6_faultOfTemplate_52 ?_
            refine lv_bipush (v := 29) hx hb dX6_faultOfTemplate_55 (by decide) ?_
            refine lv_iload_n hx hb dX6_faultOfTemplate_57 rfl (lv_at hl 1 rfl) ?_
            refine lv_iadd hx hb dX6_faultOfTemplate_58 ?_
            obtain ⟨hin, hE⟩ := hE
            refine va_iald (D := G.1) hx hb hK.1 hP 1 0 mW_g1 rfl hin dX6_faultOfTemplate_59 ?_
            refine lv_goto (tgt := 64) hx hb dX6_faultOfTemplate_60 (by decide) ?_
            refine lv_istore hx hb dX6_faultOfTemplate_64 hl (by decide) rfl (fun ls hl => ?_)
            have hl : lv_has ls 5 [(4, .int (R.2.1 1 (29 + x2).toNatClampNeg)), (3, .int (R.2.1 1 (28 + x2).toNatClampNeg)), (2, .int x2), (1, .int x1), (0, .ref h)] := hl
            refine lv_iload hx hb dX6_faultOfTemplate_66 (lv_at hl 0 rfl) ?_
            refine lv_if_eq (tgt := 91) hx hb dX6_faultOfTemplate_68 (by decide) (fun h16 => ?_) (fun h16 => ?_)
            ·
              rw [if_pos h16] at hE
              refine lv_iconst (v := 2) hx hb dX6_faultOfTemplate_91 (by decide) ?_
              obtain ⟨rfl, rfl⟩ := hE
              exact en_i F hS _ () (by rfl) rfl hP hD (Nat.le_refl _) (Nat.le_refl _) dX6_faultOfTemplate_92
            ·
              rw [if_neg h16] at hE
              refine lv_iload_n hx hb dX6_faultOfTemplate_71 rfl (lv_at hl 1 rfl) ?_
              refine lv_bipush (v := 36) hx hb dX6_faultOfTemplate_72 (by decide) ?_
              refine lv_icmp_ne (tgt := 93) hx hb dX6_faultOfTemplate_74 (by decide) (fun h17 => ?_) (fun h17 => ?_)
              ·
                rw [if_neg h17] at hE
                refine lv_iload_n hx hb dX6_faultOfTemplate_93 rfl (lv_at hl 1 rfl) ?_
                refine lv_bipush (v := 36) hx hb dX6_faultOfTemplate_94 (by decide) ?_
                refine lv_icmp_ne (tgt := 113) hx hb dX6_faultOfTemplate_96 (by decide) (fun h18 => ?_) (fun h18 => ?_)
                ·
                  rw [if_neg h18] at hE
                  refine lv_iinc (v := (x2 + 1)) (k := 2) hx hb dX6_faultOfTemplate_113 hl rfl rfl (by decide) rfl (fun ls hl => ?_)
                  have hl : lv_has ls 5 [(2, .int (x2 + 1)), (4, .int (R.2.1 1 (29 + x2).toNatClampNeg)), (3, .int (R.2.1 1 (28 + x2).toNatClampNeg)), (1, .int x1), (0, .ref h)] := hl
                  refine lv_iinc (v := ((x2 + 1) + 1)) (k := 0) hx hb dX6_faultOfTemplate_116 hl rfl rfl (by decide) rfl (fun ls hl => ?_)
                  have hl : lv_has ls 5 [(2, .int ((x2 + 1) + 1)), (4, .int (R.2.1 1 (29 + x2).toNatClampNeg)), (3, .int (R.2.1 1 (28 + x2).toNatClampNeg)), (1, .int x1), (0, .ref h)] := hl
                  refine lv_goto (tgt := 4) hx hb dX6_faultOfTemplate_119 (by decide) ?_
                  exact ih R x1 ((x2 + 1) + 1) _ _ ls (lv_sub hl [0, 3, 4] rfl) hE hP hD hS
                ·
                  rw [if_pos h18] at hE
                  refine lv_iload hx hb dX6_faultOfTemplate_99 (lv_at hl 0 rfl) ?_
                  refine lv_bipush (v := 48) hx hb dX6_faultOfTemplate_101 (by decide) ?_
                  refine lv_isub hx hb dX6_faultOfTemplate_103 ?_
                  refine lv_aload_n hx hb dX6_faultOfTemplate_104 rfl (lv_at hl 4 rfl) ?_
                  refine va_get (D := G.1) (ci := 6) (C := RX6) (T := TX6) (N := 48) hx hb hts inX6 hown hK.1 hP 0 mW_0 rfl 5 (by decide) (hts _ w_851) (fun _ h9 => h9) mF_5 dX6_faultOfTemplate_105 ?_
                  refine lv_icmp_le (tgt := 113) hx hb dX6_faultOfTemplate_108 (by decide) (fun h19 => ?_) (fun h19 => ?_)
                  ·
                    rw [if_pos h19] at hE
                    refine lv_iinc (v := (x2 + 1)) (k := 2) hx hb dX6_faultOfTemplate_113 hl rfl rfl (by decide) rfl (fun ls hl => ?_)
                    have hl : lv_has ls 5 [(2, .int (x2 + 1)), (4, .int (R.2.1 1 (29 + x2).toNatClampNeg)), (3, .int (R.2.1 1 (28 + x2).toNatClampNeg)), (1, .int x1), (0, .ref h)] := hl
                    refine lv_iinc (v := ((x2 + 1) + 1)) (k := 0) hx hb dX6_faultOfTemplate_116 hl rfl rfl (by decide) rfl (fun ls hl => ?_)
                    have hl : lv_has ls 5 [(2, .int ((x2 + 1) + 1)), (4, .int (R.2.1 1 (29 + x2).toNatClampNeg)), (3, .int (R.2.1 1 (28 + x2).toNatClampNeg)), (1, .int x1), (0, .ref h)] := hl
                    refine lv_goto (tgt := 4) hx hb dX6_faultOfTemplate_119 (by decide) ?_
                    exact ih R x1 ((x2 + 1) + 1) _ _ ls (lv_sub hl [0, 3, 4] rfl) hE hP hD hS
                  ·
                    rw [if_neg h19] at hE
                    refine lv_iconst (v := 3) hx hb dX6_faultOfTemplate_111 (by decide) ?_
                    refine lv_istore_n hx hb dX6_faultOfTemplate_112 rfl hl (by decide) rfl (fun ls hl => ?_)
                    have hl : lv_has ls 5 [(1, .int 3), (4, .int (R.2.1 1 (29 + x2).toNatClampNeg)), (3, .int (R.2.1 1 (28 + x2).toNatClampNeg)), (2, .int x2), (0, .ref h)] := hl
                    refine lv_iinc (v := (x2 + 1)) (k := 3) hx hb dX6_faultOfTemplate_113 hl rfl rfl (by decide) rfl (fun ls hl => ?_)
                    have hl : lv_has ls 5 [(2, .int (x2 + 1)), (1, .int 3), (4, .int (R.2.1 1 (29 + x2).toNatClampNeg)), (3, .int (R.2.1 1 (28 + x2).toNatClampNeg)), (0, .ref h)] := hl
                    refine lv_iinc (v := ((x2 + 1) + 1)) (k := 0) hx hb dX6_faultOfTemplate_116 hl rfl rfl (by decide) rfl (fun ls hl => ?_)
                    have hl : lv_has ls 5 [(2, .int ((x2 + 1) + 1)), (1, .int 3), (4, .int (R.2.1 1 (29 + x2).toNatClampNeg)), (3, .int (R.2.1 1 (28 + x2).toNatClampNeg)), (0, .ref h)] := hl
                    refine lv_goto (tgt := 4) hx hb dX6_faultOfTemplate_119 (by decide) ?_
                    exact ih R 3 ((x2 + 1) + 1) _ _ ls (lv_sub hl [0, 1, 4] rfl) hE hP hD hS
              ·
                rw [if_pos h17] at hE
                refine lv_iload hx hb dX6_faultOfTemplate_77 (lv_at hl 0 rfl) ?_
                refine lv_bipush (v := 48) hx hb dX6_faultOfTemplate_79 (by decide) ?_
                refine lv_icmp_lt (tgt := 91) hx hb dX6_faultOfTemplate_81 (by decide) (fun h20 => ?_) (fun h20 => ?_)
                ·
                  rw [if_pos h20] at hE
                  refine lv_iconst (v := 2) hx hb dX6_faultOfTemplate_91 (by decide) ?_
                  obtain ⟨rfl, rfl⟩ := hE
                  exact en_i F hS _ () (by rfl) rfl hP hD (Nat.le_refl _) (Nat.le_refl _) dX6_faultOfTemplate_92
                ·
                  rw [if_neg h20] at hE
                  refine lv_iload hx hb dX6_faultOfTemplate_84 (lv_at hl 0 rfl) ?_
                  refine lv_bipush (v := 57) hx hb dX6_faultOfTemplate_86 (by decide) ?_
                  refine lv_icmp_le (tgt := 93) hx hb dX6_faultOfTemplate_88 (by decide) (fun h21 => ?_) (fun h21 => ?_)
                  ·
                    rw [if_pos h21] at hE
                    refine lv_iload_n hx hb dX6_faultOfTemplate_93 rfl (lv_at hl 1 rfl) ?_
                    refine lv_bipush (v := 36) hx hb dX6_faultOfTemplate_94 (by decide) ?_
                    refine lv_icmp_ne (tgt := 113) hx hb dX6_faultOfTemplate_96 (by decide) (fun h22 => ?_) (fun h22 => ?_)
                    ·
                      rw [if_neg h22] at hE
                      refine lv_iinc (v := (x2 + 1)) (k := 2) hx hb dX6_faultOfTemplate_113 hl rfl rfl (by decide) rfl (fun ls hl => ?_)
                      have hl : lv_has ls 5 [(2, .int (x2 + 1)), (4, .int (R.2.1 1 (29 + x2).toNatClampNeg)), (3, .int (R.2.1 1 (28 + x2).toNatClampNeg)), (1, .int x1), (0, .ref h)] := hl
                      refine lv_iinc (v := ((x2 + 1) + 1)) (k := 0) hx hb dX6_faultOfTemplate_116 hl rfl rfl (by decide) rfl (fun ls hl => ?_)
                      have hl : lv_has ls 5 [(2, .int ((x2 + 1) + 1)), (4, .int (R.2.1 1 (29 + x2).toNatClampNeg)), (3, .int (R.2.1 1 (28 + x2).toNatClampNeg)), (1, .int x1), (0, .ref h)] := hl
                      refine lv_goto (tgt := 4) hx hb dX6_faultOfTemplate_119 (by decide) ?_
                      exact ih R x1 ((x2 + 1) + 1) _ _ ls (lv_sub hl [0, 3, 4] rfl) hE hP hD hS
                    ·
                      rw [if_pos h22] at hE
                      refine lv_iload hx hb dX6_faultOfTemplate_99 (lv_at hl 0 rfl) ?_
                      refine lv_bipush (v := 48) hx hb dX6_faultOfTemplate_101 (by decide) ?_
                      refine lv_isub hx hb dX6_faultOfTemplate_103 ?_
                      refine lv_aload_n hx hb dX6_faultOfTemplate_104 rfl (lv_at hl 4 rfl) ?_
                      refine va_get (D := G.1) (ci := 6) (C := RX6) (T := TX6) (N := 48) hx hb hts inX6 hown hK.1 hP 0 mW_0 rfl 5 (by decide) (hts _ w_851) (fun _ h9 => h9) mF_5 dX6_faultOfTemplate_105 ?_
                      refine lv_icmp_le (tgt := 113) hx hb dX6_faultOfTemplate_108 (by decide) (fun h23 => ?_) (fun h23 => ?_)
                      ·
                        rw [if_pos h23] at hE
                        refine lv_iinc (v := (x2 + 1)) (k := 2) hx hb dX6_faultOfTemplate_113 hl rfl rfl (by decide) rfl (fun ls hl => ?_)
                        have hl : lv_has ls 5 [(2, .int (x2 + 1)), (4, .int (R.2.1 1 (29 + x2).toNatClampNeg)), (3, .int (R.2.1 1 (28 + x2).toNatClampNeg)), (1, .int x1), (0, .ref h)] := hl
                        refine lv_iinc (v := ((x2 + 1) + 1)) (k := 0) hx hb dX6_faultOfTemplate_116 hl rfl rfl (by decide) rfl (fun ls hl => ?_)
                        have hl : lv_has ls 5 [(2, .int ((x2 + 1) + 1)), (4, .int (R.2.1 1 (29 + x2).toNatClampNeg)), (3, .int (R.2.1 1 (28 + x2).toNatClampNeg)), (1, .int x1), (0, .ref h)] := hl
                        refine lv_goto (tgt := 4) hx hb dX6_faultOfTemplate_119 (by decide) ?_
                        exact ih R x1 ((x2 + 1) + 1) _ _ ls (lv_sub hl [0, 3, 4] rfl) hE hP hD hS
                      ·
                        rw [if_neg h23] at hE
                        refine lv_iconst (v := 3) hx hb dX6_faultOfTemplate_111 (by decide) ?_
                        refine lv_istore_n hx hb dX6_faultOfTemplate_112 rfl hl (by decide) rfl (fun ls hl => ?_)
                        have hl : lv_has ls 5 [(1, .int 3), (4, .int (R.2.1 1 (29 + x2).toNatClampNeg)), (3, .int (R.2.1 1 (28 + x2).toNatClampNeg)), (2, .int x2), (0, .ref h)] := hl
                        refine lv_iinc (v := (x2 + 1)) (k := 3) hx hb dX6_faultOfTemplate_113 hl rfl rfl (by decide) rfl (fun ls hl => ?_)
                        have hl : lv_has ls 5 [(2, .int (x2 + 1)), (1, .int 3), (4, .int (R.2.1 1 (29 + x2).toNatClampNeg)), (3, .int (R.2.1 1 (28 + x2).toNatClampNeg)), (0, .ref h)] := hl
                        refine lv_iinc (v := ((x2 + 1) + 1)) (k := 0) hx hb dX6_faultOfTemplate_116 hl rfl rfl (by decide) rfl (fun ls hl => ?_)
                        have hl : lv_has ls 5 [(2, .int ((x2 + 1) + 1)), (1, .int 3), (4, .int (R.2.1 1 (29 + x2).toNatClampNeg)), (3, .int (R.2.1 1 (28 + x2).toNatClampNeg)), (0, .ref h)] := hl
                        refine lv_goto (tgt := 4) hx hb dX6_faultOfTemplate_119 (by decide) ?_
                        exact ih R 3 ((x2 + 1) + 1) _ _ ls (lv_sub hl [0, 1, 4] rfl) hE hP hD hS
                  ·
                    rw [if_neg h21] at hE
                    refine lv_iconst (v := 2) hx hb dX6_faultOfTemplate_91 (by decide) ?_
                    obtain ⟨rfl, rfl⟩ := hE
                    exact en_i F hS _ () (by rfl) rfl hP hD (Nat.le_refl _) (Nat.le_refl _) dX6_faultOfTemplate_92
        ·
          rw [if_neg h13] at hE
          refine lv_goto (tgt := 116) hx hb dX6_faultOfTemplate_36 (by decide) ?_
          refine lv_iinc (v := (x2 + 1)) (k := 1) hx hb dX6_faultOfTemplate_116 hl rfl rfl (by decide) rfl (fun ls hl => ?_)
          have hl : lv_has ls 5 [(2, .int (x2 + 1)), (3, .int (R.2.1 1 (28 + x2).toNatClampNeg)), (1, .int x1), (0, .ref h)] := hl
          refine lv_goto (tgt := 4) hx hb dX6_faultOfTemplate_119 (by decide) ?_
          exact ih R x1 (x2 + 1) _ _ ls (lv_sub hl [0, 2, 3] rfl) hE hP hD hS
def E_faultOfTemplate (R : RS)  (R' : RS) (r : Int32) : Prop := ∃ nf : Nat, L_faultOfTemplate_4 nf R 0 0 R' r
set_option maxHeartbeats 4000000 in
set_option maxRecDepth 100000 in
theorem e_faultOfTemplate (l : Launch) (G : PG) (h : Nat) (q : Nat → Nat) (R : RS)  (R' : RS) (r : Int32) (hE : E_faultOfTemplate R R' r) : Ci l yX6_faultOfTemplate (Cond.code yX6_faultOfTemplate cX6_faultOfTemplate 5 (some .int) :: aW) { frames := 0, cells := 0, slots := 0, locals := 0 } G (mW G h q R) [.ref h] (fun (r9 : Int32) (_ : Unit) => r9 = r) (fun (_ : Unit) => mW G h q R') 0 0 := by
  refine ofB (y := yX6_faultOfTemplate) (G := G) (cc := cX6_faultOfTemplate) (maxL := 5) (ret := (some .int)) (Qc := fun A => va_Qi (fun (r9 : Int32) (_ : Unit) => r9 = r) (oB G A (fun (_ : Unit) => mW G h q R')) A) (by decide) rfl ?_
  intro p e s m below meth c A F hK hA hP hD
  have hS : va_S A s.heap s.heap [] := va_S.rf
  have hx := F.1.1; have hb := F.1.2.1; have hml := F.1.2.2.1; have hts := F.1.2.2.2.2
  have hown : s.vm.findClass RX6 = some m.cls := F.1.2.2.2.1
  have hl := lv_entry ([.ref h]) (n := 5) (Nat.le_of_ble_eq_true rfl)
  rw [lg_entry_eq]
  generalize (lg_sl ([.ref h]) ++ List.replicate (5 - (lg_sl ([.ref h])).length) Slot.unset).toArray = ls at hl ⊢
  have hl : lv_has ls 5 [(0, .ref h)] := hl
  unfold E_faultOfTemplate at hE
  refine lv_iconst (v := 0) hx hb dX6_faultOfTemplate_0 (by decide) ?_
  refine lv_istore_n hx hb dX6_faultOfTemplate_1 rfl hl (by decide) rfl (fun ls hl => ?_)
  have hl : lv_has ls 5 [(1, .int 0), (0, .ref h)] := hl
  refine lv_iconst (v := 0) hx hb dX6_faultOfTemplate_2 (by decide) ?_
  refine lv_istore_n hx hb dX6_faultOfTemplate_3 rfl hl (by decide) rfl (fun ls hl => ?_)
  have hl : lv_has ls 5 [(2, .int 0), (1, .int 0), (0, .ref h)] := hl
  obtain ⟨nf, hE⟩ := hE
  exact L_faultOfTemplate_4_ok F hK hA nf R 0 0 _ _ ls (lv_sub hl [0, 1, 2] rfl) hE hP hD hS

theorem dX6_putTemplate_0 : decode cX6_putTemplate 0 = .ok (.iconst 0, 1) := by decide +kernel
theorem dX6_putTemplate_1 : decode cX6_putTemplate 1 = .ok (.istore_n 1, 1) := by decide +kernel
theorem dX6_putTemplate_2 : decode cX6_putTemplate 2 = .ok (.iload_n 1, 1) := by decide +kernel
theorem dX6_putTemplate_3 : decode cX6_putTemplate 3 = .ok (.aload_n 0, 1) := by decide +kernel
theorem dX6_putTemplate_4 : decode cX6_putTemplate 4 = .ok (.getfield 13, 3) := by decide +kernel
theorem dX6_putTemplate_7 : decode cX6_putTemplate 7 = .ok (.iconst 2, 1) := by decide +kernel
theorem dX6_putTemplate_8 : decode cX6_putTemplate 8 = .ok (.iaload, 1) := by decide +kernel
theorem dX6_putTemplate_9 : decode cX6_putTemplate 9 = .ok (.if_icmp .ge 109, 3) := by decide +kernel
theorem dX6_putTemplate_12 : decode cX6_putTemplate 12 = .ok (.aload_n 0, 1) := by decide +kernel
theorem dX6_putTemplate_13 : decode cX6_putTemplate 13 = .ok (.getfield 7, 3) := by decide +kernel
theorem dX6_putTemplate_16 : decode cX6_putTemplate 16 = .ok (.bipush 28, 2) := by decide +kernel
theorem dX6_putTemplate_18 : decode cX6_putTemplate 18 = .ok (.iload_n 1, 1) := by decide +kernel
theorem dX6_putTemplate_19 : decode cX6_putTemplate 19 = .ok (.iadd, 1) := by decide +kernel
theorem dX6_putTemplate_20 : decode cX6_putTemplate 20 = .ok (.iaload, 1) := by decide +kernel
theorem dX6_putTemplate_21 : decode cX6_putTemplate 21 = .ok (.istore_n 2, 1) := by decide +kernel
theorem dX6_putTemplate_22 : decode cX6_putTemplate 22 = .ok (.iload_n 2, 1) := by decide +kernel
theorem dX6_putTemplate_23 : decode cX6_putTemplate 23 = .ok (.bipush 36, 2) := by decide +kernel
theorem dX6_putTemplate_25 : decode cX6_putTemplate 25 = .ok (.if_icmp .eq 17, 3) := by decide +kernel
theorem dX6_putTemplate_28 : decode cX6_putTemplate 28 = .ok (.iload_n 2, 1) := by decide +kernel
theorem dX6_putTemplate_29 : decode cX6_putTemplate 29 = .ok (.bipush 92, 2) := by decide +kernel
theorem dX6_putTemplate_31 : decode cX6_putTemplate 31 = .ok (.if_icmp .eq 11, 3) := by decide +kernel
theorem dX6_putTemplate_34 : decode cX6_putTemplate 34 = .ok (.aload_n 0, 1) := by decide +kernel
theorem dX6_putTemplate_35 : decode cX6_putTemplate 35 = .ok (.iload_n 2, 1) := by decide +kernel
theorem dX6_putTemplate_36 : decode cX6_putTemplate 36 = .ok (.invokevirtual 311, 3) := by decide +kernel
theorem dX6_putTemplate_39 : decode cX6_putTemplate 39 = .ok (.goto 73, 3) := by decide +kernel
theorem dX6_putTemplate_42 : decode cX6_putTemplate 42 = .ok (.iinc 1 1, 3) := by decide +kernel
theorem dX6_putTemplate_45 : decode cX6_putTemplate 45 = .ok (.aload_n 0, 1) := by decide +kernel
theorem dX6_putTemplate_46 : decode cX6_putTemplate 46 = .ok (.getfield 7, 3) := by decide +kernel
theorem dX6_putTemplate_49 : decode cX6_putTemplate 49 = .ok (.bipush 28, 2) := by decide +kernel
theorem dX6_putTemplate_51 : decode cX6_putTemplate 51 = .ok (.iload_n 1, 1) := by decide +kernel
theorem dX6_putTemplate_52 : decode cX6_putTemplate 52 = .ok (.iadd, 1) := by decide +kernel
theorem dX6_putTemplate_53 : decode cX6_putTemplate 53 = .ok (.iaload, 1) := by decide +kernel
theorem dX6_putTemplate_54 : decode cX6_putTemplate 54 = .ok (.istore_n 3, 1) := by decide +kernel
theorem dX6_putTemplate_55 : decode cX6_putTemplate 55 = .ok (.iload_n 2, 1) := by decide +kernel
theorem dX6_putTemplate_56 : decode cX6_putTemplate 56 = .ok (.bipush 92, 2) := by decide +kernel
theorem dX6_putTemplate_58 : decode cX6_putTemplate 58 = .ok (.if_icmp .ne 11, 3) := by decide +kernel
theorem dX6_putTemplate_61 : decode cX6_putTemplate 61 = .ok (.aload_n 0, 1) := by decide +kernel
theorem dX6_putTemplate_62 : decode cX6_putTemplate 62 = .ok (.iload_n 3, 1) := by decide +kernel
theorem dX6_putTemplate_63 : decode cX6_putTemplate 63 = .ok (.invokevirtual 311, 3) := by decide +kernel
theorem dX6_putTemplate_66 : decode cX6_putTemplate 66 = .ok (.goto 46, 3) := by decide +kernel
theorem dX6_putTemplate_69 : decode cX6_putTemplate 69 = .ok (.aload_n 0, 1) := by decide +kernel
theorem dX6_putTemplate_70 : decode cX6_putTemplate 70 = .ok (.getfield 57, 3) := by decide +kernel
theorem dX6_putTemplate_73 : decode cX6_putTemplate 73 = .ok (.iconst 2, 1) := by decide +kernel
theorem dX6_putTemplate_74 : decode cX6_putTemplate 74 = .ok (.iload_n 3, 1) := by decide +kernel
theorem dX6_putTemplate_75 : decode cX6_putTemplate 75 = .ok (.bipush 48, 2) := by decide +kernel
theorem dX6_putTemplate_77 : decode cX6_putTemplate 77 = .ok (.isub, 1) := by decide +kernel
theorem dX6_putTemplate_78 : decode cX6_putTemplate 78 = .ok (.imul, 1) := by decide +kernel
theorem dX6_putTemplate_79 : decode cX6_putTemplate 79 = .ok (.iaload, 1) := by decide +kernel
theorem dX6_putTemplate_80 : decode cX6_putTemplate 80 = .ok (.iconst (-1), 1) := by decide +kernel
theorem dX6_putTemplate_81 : decode cX6_putTemplate 81 = .ok (.if_icmp .eq 31, 3) := by decide +kernel
theorem dX6_putTemplate_84 : decode cX6_putTemplate 84 = .ok (.aload_n 0, 1) := by decide +kernel
theorem dX6_putTemplate_85 : decode cX6_putTemplate 85 = .ok (.aload_n 0, 1) := by decide +kernel
theorem dX6_putTemplate_86 : decode cX6_putTemplate 86 = .ok (.getfield 57, 3) := by decide +kernel
theorem dX6_putTemplate_89 : decode cX6_putTemplate 89 = .ok (.iconst 2, 1) := by decide +kernel
theorem dX6_putTemplate_90 : decode cX6_putTemplate 90 = .ok (.iload_n 3, 1) := by decide +kernel
theorem dX6_putTemplate_91 : decode cX6_putTemplate 91 = .ok (.bipush 48, 2) := by decide +kernel
theorem dX6_putTemplate_93 : decode cX6_putTemplate 93 = .ok (.isub, 1) := by decide +kernel
theorem dX6_putTemplate_94 : decode cX6_putTemplate 94 = .ok (.imul, 1) := by decide +kernel
theorem dX6_putTemplate_95 : decode cX6_putTemplate 95 = .ok (.iaload, 1) := by decide +kernel
theorem dX6_putTemplate_96 : decode cX6_putTemplate 96 = .ok (.aload_n 0, 1) := by decide +kernel
theorem dX6_putTemplate_97 : decode cX6_putTemplate 97 = .ok (.getfield 57, 3) := by decide +kernel
theorem dX6_putTemplate_100 : decode cX6_putTemplate 100 = .ok (.iconst 2, 1) := by decide +kernel
theorem dX6_putTemplate_101 : decode cX6_putTemplate 101 = .ok (.iload_n 3, 1) := by decide +kernel
theorem dX6_putTemplate_102 : decode cX6_putTemplate 102 = .ok (.bipush 48, 2) := by decide +kernel
theorem dX6_putTemplate_104 : decode cX6_putTemplate 104 = .ok (.isub, 1) := by decide +kernel
theorem dX6_putTemplate_105 : decode cX6_putTemplate 105 = .ok (.imul, 1) := by decide +kernel
theorem dX6_putTemplate_106 : decode cX6_putTemplate 106 = .ok (.iconst 1, 1) := by decide +kernel
theorem dX6_putTemplate_107 : decode cX6_putTemplate 107 = .ok (.iadd, 1) := by decide +kernel
theorem dX6_putTemplate_108 : decode cX6_putTemplate 108 = .ok (.iaload, 1) := by decide +kernel
theorem dX6_putTemplate_109 : decode cX6_putTemplate 109 = .ok (.invokevirtual 314, 3) := by decide +kernel
theorem dX6_putTemplate_112 : decode cX6_putTemplate 112 = .ok (.iinc 1 1, 3) := by decide +kernel
theorem dX6_putTemplate_115 : decode cX6_putTemplate 115 = .ok (.goto (-113), 3) := by decide +kernel
theorem dX6_putTemplate_118 : decode cX6_putTemplate 118 = .ok (.return_, 1) := by decide +kernel
def L_putTemplate_2 : Nat → RS → Int32 → RS → Int32 → Prop
  | 0, _, _, _, _ => False
  | nf + 1, R, x1, R', r => vp_in 2 3 ∧ (if (R.2.1 2 (2 : Int32).toNatClampNeg) ≤ x1 then (R' = R ∧ r = 0) else (vp_in (28 + x1) 42 ∧ (if (R.2.1 1 (28 + x1).toNatClampNeg) = 36 then (vp_in (28 + (x1 + 1)) 42 ∧ (if (R.2.1 1 (28 + x1).toNatClampNeg) = 92 then (∃ R7 : RS, E_put R (R.2.1 1 (28 + (x1 + 1)).toNatClampNeg) R7 0 ∧ (L_putTemplate_2 nf R7 ((x1 + 1) + 1) R' r)) else (vp_in (2 * ((R.2.1 1 (28 + (x1 + 1)).toNatClampNeg) - 48)) 10 ∧ (if (R.2.1 30 (2 * ((R.2.1 1 (28 + (x1 + 1)).toNatClampNeg) - 48)).toNatClampNeg) = (-1) then (L_putTemplate_2 nf R ((x1 + 1) + 1) R' r) else (vp_in (2 * ((R.2.1 1 (28 + (x1 + 1)).toNatClampNeg) - 48)) 10 ∧ (vp_in ((2 * ((R.2.1 1 (28 + (x1 + 1)).toNatClampNeg) - 48)) + 1) 10 ∧ (∃ R5 : RS, E_putText R (R.2.1 30 (2 * ((R.2.1 1 (28 + (x1 + 1)).toNatClampNeg) - 48)).toNatClampNeg) (R.2.1 30 ((2 * ((R.2.1 1 (28 + (x1 + 1)).toNatClampNeg) - 48)) + 1).toNatClampNeg) R5 0 ∧ (L_putTemplate_2 nf R5 ((x1 + 1) + 1) R' r)))))))) else (if (R.2.1 1 (28 + x1).toNatClampNeg) = 92 then (vp_in (28 + (x1 + 1)) 42 ∧ (if (R.2.1 1 (28 + x1).toNatClampNeg) = 92 then (∃ R14 : RS, E_put R (R.2.1 1 (28 + (x1 + 1)).toNatClampNeg) R14 0 ∧ (L_putTemplate_2 nf R14 ((x1 + 1) + 1) R' r)) else (vp_in (2 * ((R.2.1 1 (28 + (x1 + 1)).toNatClampNeg) - 48)) 10 ∧ (if (R.2.1 30 (2 * ((R.2.1 1 (28 + (x1 + 1)).toNatClampNeg) - 48)).toNatClampNeg) = (-1) then (L_putTemplate_2 nf R ((x1 + 1) + 1) R' r) else (vp_in (2 * ((R.2.1 1 (28 + (x1 + 1)).toNatClampNeg) - 48)) 10 ∧ (vp_in ((2 * ((R.2.1 1 (28 + (x1 + 1)).toNatClampNeg) - 48)) + 1) 10 ∧ (∃ R12 : RS, E_putText R (R.2.1 30 (2 * ((R.2.1 1 (28 + (x1 + 1)).toNatClampNeg) - 48)).toNatClampNeg) (R.2.1 30 ((2 * ((R.2.1 1 (28 + (x1 + 1)).toNatClampNeg) - 48)) + 1).toNatClampNeg) R12 0 ∧ (L_putTemplate_2 nf R12 ((x1 + 1) + 1) R' r)))))))) else (∃ R16 : RS, E_put R (R.2.1 1 (28 + x1).toNatClampNeg) R16 0 ∧ (L_putTemplate_2 nf R16 (x1 + 1) R' r))))))
set_option maxHeartbeats 4000000 in
set_option maxRecDepth 100000 in
theorem L_putTemplate_2_ok {l : Launch} {G : PG} {h : Nat} {q : Nat → Nat} {R' : RS} {r : Int32} {p : Program} {e : Env} {s : State} {m : MethodId} {below : List Frame} {meth : Method} {c : Code} {A : Nat → Prop} (F : bF p s m meth c cX6_putTemplate 4 none ([.ref h] : List Value).toArray yX6_putTemplate) (hK : pg_K G s) (hA : ∀ q, s.heap.size ≤ q → A q) : ∀ (nf : Nat) (R : RS) (x1 : Int32) (H : Heap) (locs : List Loc) (ls : Array Slot), lv_has ls 4 [(1, .int x1), (0, .ref h)] → L_putTemplate_2 nf R x1 R' r → va_P G.1 vwCl (mW G h q R) H → va_D A (mW G h q R) → va_S A s.heap H locs → W p l e { frames := 2, cells := 0, slots := 0, locals := 44 } s m ([.ref h] : List Value).toArray below meth c H locs 0 0 (MQ below (va_Qv (fun (_ : Unit) => True) (oB G A (fun (_ : Unit) => mW G h q R')) A) ([.ref h] : List Value).toArray s 0 0 A) (F0 m 2 ls []) := by
  have hx := F.1.1; have hb := F.1.2.1; have hml := F.1.2.2.1; have hts := F.1.2.2.2.2
  have hown : s.vm.findClass RX6 = some m.cls := F.1.2.2.2.1
  intro nf
  induction nf with
  | zero => intro R x1 H locs ls hl hE; exact hE.elim
  | succ nf ih =>
    intro R x1 H locs ls hl hE hP hD hS
    unfold L_putTemplate_2 at hE
    refine lv_iload_n hx hb dX6_putTemplate_2 rfl (lv_at hl 0 rfl) ?_
    refine lv_aload_n hx hb dX6_putTemplate_3 rfl (lv_at hl 1 rfl) ?_
    refine va_get (D := G.1) (ci := 6) (C := RX6) (T := TX6) (N := 48) hx hb hts inX6 hown hK.1 hP 0 mW_0 rfl 2 (by decide) (hts _ w_848) (fun _ h9 => h9) mF_2 dX6_putTemplate_4 ?_
    refine lv_iconst (v := 2) hx hb dX6_putTemplate_7 (by decide) ?_
    obtain ⟨hin, hE⟩ := hE
    refine va_iald (D := G.1) hx hb hK.1 hP 2 0 mW_g2 rfl hin dX6_putTemplate_8 ?_
    refine lv_icmp_ge (tgt := 118) hx hb dX6_putTemplate_9 (by decide) (fun h1 => ?_) (fun h1 => ?_)
    ·
      rw [if_pos h1] at hE
      obtain ⟨rfl, rfl⟩ := hE
      exact en_v F hS () trivial hP hD (Nat.le_refl _) (Nat.le_refl _) dX6_putTemplate_118
    ·
      rw [if_neg h1] at hE
      refine lv_aload_n hx hb dX6_putTemplate_12 rfl (lv_at hl 1 rfl) ?_
      refine va_get (D := G.1) (ci := 6) (C := RX6) (T := TX6) (N := 48) hx hb hts inX6 hown hK.1 hP 0 mW_0 rfl 1 (by decide) (hts _ w_847) (fun _ h9 => h9) mF_1 dX6_putTemplate_13 ?_
      refine lv_bipush (v := 28) hx hb dX6_putTemplate_16 (by decide) ?_
      refine lv_iload_n hx hb dX6_putTemplate_18 rfl (lv_at hl 0 rfl) ?_
      refine lv_iadd hx hb dX6_putTemplate_19 ?_
      obtain ⟨hin, hE⟩ := hE
      refine va_iald (D := G.1) hx hb hK.1 hP 1 0 mW_g1 rfl hin dX6_putTemplate_20 ?_
      refine lv_istore_n hx hb dX6_putTemplate_21 rfl hl (by decide) rfl (fun ls hl => ?_)
      have hl : lv_has ls 4 [(2, .int (R.2.1 1 (28 + x1).toNatClampNeg)), (1, .int x1), (0, .ref h)] := hl
      refine lv_iload_n hx hb dX6_putTemplate_22 rfl (lv_at hl 0 rfl) ?_
      refine lv_bipush (v := 36) hx hb dX6_putTemplate_23 (by decide) ?_
      refine lv_icmp_eq (tgt := 42) hx hb dX6_putTemplate_25 (by decide) (fun h2 => ?_) (fun h2 => ?_)
      ·
        rw [if_pos h2] at hE
        refine lv_iinc (v := (x1 + 1)) (k := 1) hx hb dX6_putTemplate_42 hl rfl rfl (by decide) rfl (fun ls hl => ?_)
        have hl : lv_has ls 4 [(1, .int (x1 + 1)), (2, .int (R.2.1 1 (28 + x1).toNatClampNeg)), (0, .ref h)] := hl
        refine lv_aload_n hx hb dX6_putTemplate_45 rfl (lv_at hl 2 rfl) ?_
        refine va_get (D := G.1) (ci := 6) (C := RX6) (T := TX6) (N := 48) hx hb hts inX6 hown hK.1 hP 0 mW_0 rfl 1 (by decide) (hts _ w_847) (fun _ h9 => h9) mF_1 dX6_putTemplate_46 ?_
        refine lv_bipush (v := 28) hx hb dX6_putTemplate_49 (by decide) ?_
        refine lv_iload_n hx hb dX6_putTemplate_51 rfl (lv_at hl 0 rfl) ?_
        refine lv_iadd hx hb dX6_putTemplate_52 ?_
        obtain ⟨hin, hE⟩ := hE
        refine va_iald (D := G.1) hx hb hK.1 hP 1 0 mW_g1 rfl hin dX6_putTemplate_53 ?_
        refine lv_istore_n hx hb dX6_putTemplate_54 rfl hl (by decide) rfl (fun ls hl => ?_)
        have hl : lv_has ls 4 [(3, .int (R.2.1 1 (28 + (x1 + 1)).toNatClampNeg)), (1, .int (x1 + 1)), (2, .int (R.2.1 1 (28 + x1).toNatClampNeg)), (0, .ref h)] := hl
        refine lv_iload_n hx hb dX6_putTemplate_55 rfl (lv_at hl 2 rfl) ?_
        refine lv_bipush (v := 92) hx hb dX6_putTemplate_56 (by decide) ?_
        refine lv_icmp_ne (tgt := 69) hx hb dX6_putTemplate_58 (by decide) (fun h3 => ?_) (fun h3 => ?_)
        ·
          rw [if_neg h3] at hE
          refine lv_aload_n hx hb dX6_putTemplate_69 rfl (lv_at hl 3 rfl) ?_
          refine va_get (D := G.1) (ci := 6) (C := RX6) (T := TX6) (N := 48) hx hb hts inX6 hown hK.1 hP 0 mW_0 rfl 30 (by decide) (hts _ w_876) (fun _ h9 => h9) mF_30 dX6_putTemplate_70 ?_
          refine lv_iconst (v := 2) hx hb dX6_putTemplate_73 (by decide) ?_
          refine lv_iload_n hx hb dX6_putTemplate_74 rfl (lv_at hl 0 rfl) ?_
          refine lv_bipush (v := 48) hx hb dX6_putTemplate_75 (by decide) ?_
          refine lv_isub hx hb dX6_putTemplate_77 ?_
          refine lv_imul hx hb dX6_putTemplate_78 ?_
          obtain ⟨hin, hE⟩ := hE
          refine va_iald (D := G.1) hx hb hK.1 hP 16 0 mW_g30 rfl hin dX6_putTemplate_79 ?_
          refine lv_iconst (v := (-1)) hx hb dX6_putTemplate_80 (by decide) ?_
          refine lv_icmp_eq (tgt := 112) hx hb dX6_putTemplate_81 (by decide) (fun h4 => ?_) (fun h4 => ?_)
          ·
            rw [if_pos h4] at hE
            refine lv_iinc (v := ((x1 + 1) + 1)) (k := 1) hx hb dX6_putTemplate_112 hl rfl rfl (by decide) rfl (fun ls hl => ?_)
            have hl : lv_has ls 4 [(1, .int ((x1 + 1) + 1)), (3, .int (R.2.1 1 (28 + (x1 + 1)).toNatClampNeg)), (2, .int (R.2.1 1 (28 + x1).toNatClampNeg)), (0, .ref h)] := hl
            refine lv_goto (tgt := 2) hx hb dX6_putTemplate_115 (by decide) ?_
            exact ih R ((x1 + 1) + 1) _ _ ls (lv_sub hl [0, 3] rfl) hE hP hD hS
          ·
            rw [if_neg h4] at hE
            refine lv_aload_n hx hb dX6_putTemplate_84 rfl (lv_at hl 3 rfl) ?_
            refine lv_aload_n hx hb dX6_putTemplate_85 rfl (lv_at hl 3 rfl) ?_
            refine va_get (D := G.1) (ci := 6) (C := RX6) (T := TX6) (N := 48) hx hb hts inX6 hown hK.1 hP 0 mW_0 rfl 30 (by decide) (hts _ w_876) (fun _ h9 => h9) mF_30 dX6_putTemplate_86 ?_
            refine lv_iconst (v := 2) hx hb dX6_putTemplate_89 (by decide) ?_
            refine lv_iload_n hx hb dX6_putTemplate_90 rfl (lv_at hl 0 rfl) ?_
            refine lv_bipush (v := 48) hx hb dX6_putTemplate_91 (by decide) ?_
            refine lv_isub hx hb dX6_putTemplate_93 ?_
            refine lv_imul hx hb dX6_putTemplate_94 ?_
            obtain ⟨hin, hE⟩ := hE
            refine va_iald (D := G.1) hx hb hK.1 hP 16 0 mW_g30 rfl hin dX6_putTemplate_95 ?_
            refine lv_aload_n hx hb dX6_putTemplate_96 rfl (lv_at hl 3 rfl) ?_
            refine va_get (D := G.1) (ci := 6) (C := RX6) (T := TX6) (N := 48) hx hb hts inX6 hown hK.1 hP 0 mW_0 rfl 30 (by decide) (hts _ w_876) (fun _ h9 => h9) mF_30 dX6_putTemplate_97 ?_
            refine lv_iconst (v := 2) hx hb dX6_putTemplate_100 (by decide) ?_
            refine lv_iload_n hx hb dX6_putTemplate_101 rfl (lv_at hl 0 rfl) ?_
            refine lv_bipush (v := 48) hx hb dX6_putTemplate_102 (by decide) ?_
            refine lv_isub hx hb dX6_putTemplate_104 ?_
            refine lv_imul hx hb dX6_putTemplate_105 ?_
            refine lv_iconst (v := 1) hx hb dX6_putTemplate_106 (by decide) ?_
            refine lv_iadd hx hb dX6_putTemplate_107 ?_
            obtain ⟨hin, hE⟩ := hE
            refine va_iald (D := G.1) hx hb hK.1 hP 16 0 mW_g30 rfl hin dX6_putTemplate_108 ?_
            obtain ⟨R5, hg, hE⟩ := hE
            refine kA_v (va_runV (As := [.int (R.2.1 30 (2 * ((R.2.1 1 (28 + (x1 + 1)).toNatClampNeg) - 48)).toNatClampNeg), .int (R.2.1 30 ((2 * ((R.2.1 1 (28 + (x1 + 1)).toNatClampNeg) - 48)) + 1).toNatClampNeg)]) (rest := []) F.1 (e_putText l G h q R (R.2.1 30 (2 * ((R.2.1 1 (28 + (x1 + 1)).toNatClampNeg) - 48)).toNatClampNeg) (R.2.1 30 ((2 * ((R.2.1 1 (28 + (x1 + 1)).toNatClampNeg) - 48)) + 1).toNatClampNeg) R5 0 hg _) (cwV 2 hts (aw_V w_1224 w_1226 ws_X6_putText w_6 w_1227) rfl rfl rfl (by decide +kernel) ⟨by decide, by decide⟩) ⟨cS_blind, va_recv (q := (RX6, TX6, 48)) (ci := 6) (q0 := 0) hK.1 hP rfl mW_0, cS_pre hP hD hK⟩ rfl rfl hl.1 rfl (lv_room (Nat.le_of_ble_eq_true rfl)) dX6_putTemplate_109 ⟨Nat.le_refl _, Nat.le_refl _⟩) hD hS hA (fun u0 H locs hp hP hD hS => ?_)
            refine lv_iinc (v := ((x1 + 1) + 1)) (k := 1) hx hb dX6_putTemplate_112 hl rfl rfl (by decide) rfl (fun ls hl => ?_)
            have hl : lv_has ls 4 [(1, .int ((x1 + 1) + 1)), (3, .int (R.2.1 1 (28 + (x1 + 1)).toNatClampNeg)), (2, .int (R.2.1 1 (28 + x1).toNatClampNeg)), (0, .ref h)] := hl
            refine lv_goto (tgt := 2) hx hb dX6_putTemplate_115 (by decide) ?_
            exact ih R5 ((x1 + 1) + 1) _ _ ls (lv_sub hl [0, 3] rfl) hE hP hD hS
        ·
          rw [if_pos h3] at hE
          refine lv_aload_n hx hb dX6_putTemplate_61 rfl (lv_at hl 3 rfl) ?_
          refine lv_iload_n hx hb dX6_putTemplate_62 rfl (lv_at hl 0 rfl) ?_
          obtain ⟨R7, hg, hE⟩ := hE
          refine kA_v (va_runV (As := [.int (R.2.1 1 (28 + (x1 + 1)).toNatClampNeg)]) (rest := []) F.1 (e_put l G h q R (R.2.1 1 (28 + (x1 + 1)).toNatClampNeg) R7 0 hg _) (cwV 1 hts (aw_V w_1228 w_1230 ws_X6_put w_6 w_1231) rfl rfl rfl (by decide +kernel) ⟨by decide, by decide⟩) ⟨cS_blind, va_recv (q := (RX6, TX6, 48)) (ci := 6) (q0 := 0) hK.1 hP rfl mW_0, cS_pre hP hD hK⟩ rfl rfl hl.1 rfl (lv_room (Nat.le_of_ble_eq_true rfl)) dX6_putTemplate_63 ⟨Nat.le_refl _, Nat.le_refl _⟩) hD hS hA (fun u0 H locs hp hP hD hS => ?_)
          refine lv_goto (tgt := 112) hx hb dX6_putTemplate_66 (by decide) ?_
          refine lv_iinc (v := ((x1 + 1) + 1)) (k := 1) hx hb dX6_putTemplate_112 hl rfl rfl (by decide) rfl (fun ls hl => ?_)
          have hl : lv_has ls 4 [(1, .int ((x1 + 1) + 1)), (3, .int (R.2.1 1 (28 + (x1 + 1)).toNatClampNeg)), (2, .int (R.2.1 1 (28 + x1).toNatClampNeg)), (0, .ref h)] := hl
          refine lv_goto (tgt := 2) hx hb dX6_putTemplate_115 (by decide) ?_
          exact ih R7 ((x1 + 1) + 1) _ _ ls (lv_sub hl [0, 3] rfl) hE hP hD hS
      ·
        rw [if_neg h2] at hE
        refine lv_iload_n hx hb dX6_putTemplate_28 rfl (lv_at hl 0 rfl) ?_
        refine lv_bipush (v := 92) hx hb dX6_putTemplate_29 (by decide) ?_
        refine lv_icmp_eq (tgt := 42) hx hb dX6_putTemplate_31 (by decide) (fun h9 => ?_) (fun h9 => ?_)
        ·
          rw [if_pos h9] at hE
          refine lv_iinc (v := (x1 + 1)) (k := 1) hx hb dX6_putTemplate_42 hl rfl rfl (by decide) rfl (fun ls hl => ?_)
          have hl : lv_has ls 4 [(1, .int (x1 + 1)), (2, .int (R.2.1 1 (28 + x1).toNatClampNeg)), (0, .ref h)] := hl
          refine lv_aload_n hx hb dX6_putTemplate_45 rfl (lv_at hl 2 rfl) ?_
          refine va_get (D := G.1) (ci := 6) (C := RX6) (T := TX6) (N := 48) hx hb hts inX6 hown hK.1 hP 0 mW_0 rfl 1 (by decide) (hts _ w_847) (fun _ h9 => h9) mF_1 dX6_putTemplate_46 ?_
          refine lv_bipush (v := 28) hx hb dX6_putTemplate_49 (by decide) ?_
          refine lv_iload_n hx hb dX6_putTemplate_51 rfl (lv_at hl 0 rfl) ?_
          refine lv_iadd hx hb dX6_putTemplate_52 ?_
          obtain ⟨hin, hE⟩ := hE
          refine va_iald (D := G.1) hx hb hK.1 hP 1 0 mW_g1 rfl hin dX6_putTemplate_53 ?_
          refine lv_istore_n hx hb dX6_putTemplate_54 rfl hl (by decide) rfl (fun ls hl => ?_)
          have hl : lv_has ls 4 [(3, .int (R.2.1 1 (28 + (x1 + 1)).toNatClampNeg)), (1, .int (x1 + 1)), (2, .int (R.2.1 1 (28 + x1).toNatClampNeg)), (0, .ref h)] := hl
          refine lv_iload_n hx hb dX6_putTemplate_55 rfl (lv_at hl 2 rfl) ?_
          refine lv_bipush (v := 92) hx hb dX6_putTemplate_56 (by decide) ?_
          refine lv_icmp_ne (tgt := 69) hx hb dX6_putTemplate_58 (by decide) (fun h10 => ?_) (fun h10 => ?_)
          ·
            rw [if_neg h10] at hE
            refine lv_aload_n hx hb dX6_putTemplate_69 rfl (lv_at hl 3 rfl) ?_
            refine va_get (D := G.1) (ci := 6) (C := RX6) (T := TX6) (N := 48) hx hb hts inX6 hown hK.1 hP 0 mW_0 rfl 30 (by decide) (hts _ w_876) (fun _ h9 => h9) mF_30 dX6_putTemplate_70 ?_
            refine lv_iconst (v := 2) hx hb dX6_putTemplate_73 (by decide) ?_
            refine lv_iload_n hx hb dX6_putTemplate_74 rfl (lv_at hl 0 rfl) ?_
            refine lv_bipush (v := 48) hx hb dX6_putTemplate_75 (by decide) ?_
            refine lv_isub hx hb dX6_putTemplate_77 ?_
            refine lv_imul hx hb dX6_putTemplate_78 ?_
            obtain ⟨hin, hE⟩ := hE
            refine va_iald (D := G.1) hx hb hK.1 hP 16 0 mW_g30 rfl hin dX6_putTemplate_79 ?_
            refine lv_iconst (v := (-1)) hx hb dX6_putTemplate_80 (by decide) ?_
            refine lv_icmp_eq (tgt := 112) hx hb dX6_putTemplate_81 (by decide) (fun h11 => ?_) (fun h11 => ?_)
            ·
              rw [if_pos h11] at hE
              refine lv_iinc (v := ((x1 + 1) + 1)) (k := 1) hx hb dX6_putTemplate_112 hl rfl rfl (by decide) rfl (fun ls hl => ?_)
              have hl : lv_has ls 4 [(1, .int ((x1 + 1) + 1)), (3, .int (R.2.1 1 (28 + (x1 + 1)).toNatClampNeg)), (2, .int (R.2.1 1 (28 + x1).toNatClampNeg)), (0, .ref h)] := hl
              refine lv_goto (tgt := 2) hx hb dX6_putTemplate_115 (by decide) ?_
              exact ih R ((x1 + 1) + 1) _ _ ls (lv_sub hl [0, 3] rfl) hE hP hD hS
            ·
              rw [if_neg h11] at hE
              refine lv_aload_n hx hb dX6_putTemplate_84 rfl (lv_at hl 3 rfl) ?_
              refine lv_aload_n hx hb dX6_putTemplate_85 rfl (lv_at hl 3 rfl) ?_
              refine va_get (D := G.1) (ci := 6) (C := RX6) (T := TX6) (N := 48) hx hb hts inX6 hown hK.1 hP 0 mW_0 rfl 30 (by decide) (hts _ w_876) (fun _ h9 => h9) mF_30 dX6_putTemplate_86 ?_
              refine lv_iconst (v := 2) hx hb dX6_putTemplate_89 (by decide) ?_
              refine lv_iload_n hx hb dX6_putTemplate_90 rfl (lv_at hl 0 rfl) ?_
              refine lv_bipush (v := 48) hx hb dX6_putTemplate_91 (by decide) ?_
              refine lv_isub hx hb dX6_putTemplate_93 ?_
              refine lv_imul hx hb dX6_putTemplate_94 ?_
              obtain ⟨hin, hE⟩ := hE
              refine va_iald (D := G.1) hx hb hK.1 hP 16 0 mW_g30 rfl hin dX6_putTemplate_95 ?_
              refine lv_aload_n hx hb dX6_putTemplate_96 rfl (lv_at hl 3 rfl) ?_
              refine va_get (D := G.1) (ci := 6) (C := RX6) (T := TX6) (N := 48) hx hb hts inX6 hown hK.1 hP 0 mW_0 rfl 30 (by decide) (hts _ w_876) (fun _ h9 => h9) mF_30 dX6_putTemplate_97 ?_
              refine lv_iconst (v := 2) hx hb dX6_putTemplate_100 (by decide) ?_
              refine lv_iload_n hx hb dX6_putTemplate_101 rfl (lv_at hl 0 rfl) ?_
              refine lv_bipush (v := 48) hx hb dX6_putTemplate_102 (by decide) ?_
              refine lv_isub hx hb dX6_putTemplate_104 ?_
              refine lv_imul hx hb dX6_putTemplate_105 ?_
              refine lv_iconst (v := 1) hx hb dX6_putTemplate_106 (by decide) ?_
              refine lv_iadd hx hb dX6_putTemplate_107 ?_
              obtain ⟨hin, hE⟩ := hE
              refine va_iald (D := G.1) hx hb hK.1 hP 16 0 mW_g30 rfl hin dX6_putTemplate_108 ?_
              obtain ⟨R12, hg, hE⟩ := hE
              refine kA_v (va_runV (As := [.int (R.2.1 30 (2 * ((R.2.1 1 (28 + (x1 + 1)).toNatClampNeg) - 48)).toNatClampNeg), .int (R.2.1 30 ((2 * ((R.2.1 1 (28 + (x1 + 1)).toNatClampNeg) - 48)) + 1).toNatClampNeg)]) (rest := []) F.1 (e_putText l G h q R (R.2.1 30 (2 * ((R.2.1 1 (28 + (x1 + 1)).toNatClampNeg) - 48)).toNatClampNeg) (R.2.1 30 ((2 * ((R.2.1 1 (28 + (x1 + 1)).toNatClampNeg) - 48)) + 1).toNatClampNeg) R12 0 hg _) (cwV 2 hts (aw_V w_1224 w_1226 ws_X6_putText w_6 w_1227) rfl rfl rfl (by decide +kernel) ⟨by decide, by decide⟩) ⟨cS_blind, va_recv (q := (RX6, TX6, 48)) (ci := 6) (q0 := 0) hK.1 hP rfl mW_0, cS_pre hP hD hK⟩ rfl rfl hl.1 rfl (lv_room (Nat.le_of_ble_eq_true rfl)) dX6_putTemplate_109 ⟨Nat.le_refl _, Nat.le_refl _⟩) hD hS hA (fun u0 H locs hp hP hD hS => ?_)
              refine lv_iinc (v := ((x1 + 1) + 1)) (k := 1) hx hb dX6_putTemplate_112 hl rfl rfl (by decide) rfl (fun ls hl => ?_)
              have hl : lv_has ls 4 [(1, .int ((x1 + 1) + 1)), (3, .int (R.2.1 1 (28 + (x1 + 1)).toNatClampNeg)), (2, .int (R.2.1 1 (28 + x1).toNatClampNeg)), (0, .ref h)] := hl
              refine lv_goto (tgt := 2) hx hb dX6_putTemplate_115 (by decide) ?_
              exact ih R12 ((x1 + 1) + 1) _ _ ls (lv_sub hl [0, 3] rfl) hE hP hD hS
          ·
            rw [if_pos h10] at hE
            refine lv_aload_n hx hb dX6_putTemplate_61 rfl (lv_at hl 3 rfl) ?_
            refine lv_iload_n hx hb dX6_putTemplate_62 rfl (lv_at hl 0 rfl) ?_
            obtain ⟨R14, hg, hE⟩ := hE
            refine kA_v (va_runV (As := [.int (R.2.1 1 (28 + (x1 + 1)).toNatClampNeg)]) (rest := []) F.1 (e_put l G h q R (R.2.1 1 (28 + (x1 + 1)).toNatClampNeg) R14 0 hg _) (cwV 1 hts (aw_V w_1228 w_1230 ws_X6_put w_6 w_1231) rfl rfl rfl (by decide +kernel) ⟨by decide, by decide⟩) ⟨cS_blind, va_recv (q := (RX6, TX6, 48)) (ci := 6) (q0 := 0) hK.1 hP rfl mW_0, cS_pre hP hD hK⟩ rfl rfl hl.1 rfl (lv_room (Nat.le_of_ble_eq_true rfl)) dX6_putTemplate_63 ⟨Nat.le_refl _, Nat.le_refl _⟩) hD hS hA (fun u0 H locs hp hP hD hS => ?_)
            refine lv_goto (tgt := 112) hx hb dX6_putTemplate_66 (by decide) ?_
            refine lv_iinc (v := ((x1 + 1) + 1)) (k := 1) hx hb dX6_putTemplate_112 hl rfl rfl (by decide) rfl (fun ls hl => ?_)
            have hl : lv_has ls 4 [(1, .int ((x1 + 1) + 1)), (3, .int (R.2.1 1 (28 + (x1 + 1)).toNatClampNeg)), (2, .int (R.2.1 1 (28 + x1).toNatClampNeg)), (0, .ref h)] := hl
            refine lv_goto (tgt := 2) hx hb dX6_putTemplate_115 (by decide) ?_
            exact ih R14 ((x1 + 1) + 1) _ _ ls (lv_sub hl [0, 3] rfl) hE hP hD hS
        ·
          rw [if_neg h9] at hE
          refine lv_aload_n hx hb dX6_putTemplate_34 rfl (lv_at hl 2 rfl) ?_
          refine lv_iload_n hx hb dX6_putTemplate_35 rfl (lv_at hl 0 rfl) ?_
          obtain ⟨R16, hg, hE⟩ := hE
          refine kA_v (va_runV (As := [.int (R.2.1 1 (28 + x1).toNatClampNeg)]) (rest := []) F.1 (e_put l G h q R (R.2.1 1 (28 + x1).toNatClampNeg) R16 0 hg _) (cwV 1 hts (aw_V w_1228 w_1230 ws_X6_put w_6 w_1231) rfl rfl rfl (by decide +kernel) ⟨by decide, by decide⟩) ⟨cS_blind, va_recv (q := (RX6, TX6, 48)) (ci := 6) (q0 := 0) hK.1 hP rfl mW_0, cS_pre hP hD hK⟩ rfl rfl hl.1 rfl (lv_room (Nat.le_of_ble_eq_true rfl)) dX6_putTemplate_36 ⟨Nat.le_refl _, Nat.le_refl _⟩) hD hS hA (fun u0 H locs hp hP hD hS => ?_)
          refine lv_goto (tgt := 112) hx hb dX6_putTemplate_39 (by decide) ?_
          refine lv_iinc (v := (x1 + 1)) (k := 1) hx hb dX6_putTemplate_112 hl rfl rfl (by decide) rfl (fun ls hl => ?_)
          have hl : lv_has ls 4 [(1, .int (x1 + 1)), (2, .int (R.2.1 1 (28 + x1).toNatClampNeg)), (0, .ref h)] := hl
          refine lv_goto (tgt := 2) hx hb dX6_putTemplate_115 (by decide) ?_
          exact ih R16 (x1 + 1) _ _ ls (lv_sub hl [0, 2] rfl) hE hP hD hS
def E_putTemplate (R : RS)  (R' : RS) (r : Int32) : Prop := ∃ nf : Nat, L_putTemplate_2 nf R 0 R' r
set_option maxHeartbeats 4000000 in
set_option maxRecDepth 100000 in
theorem e_putTemplate (l : Launch) (G : PG) (h : Nat) (q : Nat → Nat) (R : RS)  (R' : RS) (r : Int32) (hE : E_putTemplate R R' r) : Cv l yX6_putTemplate (Cond.code yX6_putTemplate cX6_putTemplate 4 none :: aW) { frames := 2, cells := 0, slots := 0, locals := 44 } G (mW G h q R) [.ref h] (fun (_ : Unit) => True) (fun (_ : Unit) => mW G h q R') 0 0 := by
  refine ofB (y := yX6_putTemplate) (G := G) (cc := cX6_putTemplate) (maxL := 4) (ret := none) (Qc := fun A => va_Qv (fun (_ : Unit) => True) (oB G A (fun (_ : Unit) => mW G h q R')) A) (by decide) rfl ?_
  intro p e s m below meth c A F hK hA hP hD
  have hS : va_S A s.heap s.heap [] := va_S.rf
  have hx := F.1.1; have hb := F.1.2.1; have hml := F.1.2.2.1; have hts := F.1.2.2.2.2
  have hown : s.vm.findClass RX6 = some m.cls := F.1.2.2.2.1
  have hl := lv_entry ([.ref h]) (n := 4) (Nat.le_of_ble_eq_true rfl)
  rw [lg_entry_eq]
  generalize (lg_sl ([.ref h]) ++ List.replicate (4 - (lg_sl ([.ref h])).length) Slot.unset).toArray = ls at hl ⊢
  have hl : lv_has ls 4 [(0, .ref h)] := hl
  unfold E_putTemplate at hE
  refine lv_iconst (v := 0) hx hb dX6_putTemplate_0 (by decide) ?_
  refine lv_istore_n hx hb dX6_putTemplate_1 rfl hl (by decide) rfl (fun ls hl => ?_)
  have hl : lv_has ls 4 [(1, .int 0), (0, .ref h)] := hl
  obtain ⟨nf, hE⟩ := hE
  exact L_putTemplate_2_ok F hK hA nf R 0 _ _ ls (lv_sub hl [0, 1] rfl) hE hP hD hS

theorem dX6_replace_12 : decode cX6_replace 12 = .ok (.aload_n 0, 1) := by decide +kernel
theorem dX6_replace_13 : decode cX6_replace 13 = .ok (.invokevirtual 317, 3) := by decide +kernel
theorem dX6_replace_28 : decode cX6_replace 28 = .ok (.aload_n 0, 1) := by decide +kernel
theorem dX6_replace_29 : decode cX6_replace 29 = .ok (.iconst 0, 1) := by decide +kernel
theorem dX6_replace_30 : decode cX6_replace 30 = .ok (.putfield 110, 3) := by decide +kernel
theorem dX6_replace_33 : decode cX6_replace 33 = .ok (.aload_n 0, 1) := by decide +kernel
theorem dX6_replace_34 : decode cX6_replace 34 = .ok (.iconst 0, 1) := by decide +kernel
theorem dX6_replace_35 : decode cX6_replace 35 = .ok (.putfield 308, 3) := by decide +kernel
theorem dX6_replace_38 : decode cX6_replace 38 = .ok (.iconst 0, 1) := by decide +kernel
theorem dX6_replace_39 : decode cX6_replace 39 = .ok (.istore_n 1, 1) := by decide +kernel
theorem dX6_replace_40 : decode cX6_replace 40 = .ok (.iconst 0, 1) := by decide +kernel
theorem dX6_replace_41 : decode cX6_replace 41 = .ok (.istore_n 2, 1) := by decide +kernel
theorem dX6_replace_42 : decode cX6_replace 42 = .ok (.iload_n 2, 1) := by decide +kernel
theorem dX6_replace_43 : decode cX6_replace 43 = .ok (.aload_n 0, 1) := by decide +kernel
theorem dX6_replace_44 : decode cX6_replace 44 = .ok (.getfield 13, 3) := by decide +kernel
theorem dX6_replace_47 : decode cX6_replace 47 = .ok (.iconst 1, 1) := by decide +kernel
theorem dX6_replace_48 : decode cX6_replace 48 = .ok (.iaload, 1) := by decide +kernel
theorem dX6_replace_49 : decode cX6_replace 49 = .ok (.if_icmp .gt 41, 3) := by decide +kernel
theorem dX6_replace_52 : decode cX6_replace 52 = .ok (.aload_n 0, 1) := by decide +kernel
theorem dX6_replace_53 : decode cX6_replace 53 = .ok (.iload_n 2, 1) := by decide +kernel
theorem dX6_replace_54 : decode cX6_replace 54 = .ok (.invokevirtual 301, 3) := by decide +kernel
theorem dX6_replace_57 : decode cX6_replace 57 = .ok (.ifCond .eq 33, 3) := by decide +kernel
theorem dX6_replace_60 : decode cX6_replace 60 = .ok (.aload_n 0, 1) := by decide +kernel
theorem dX6_replace_61 : decode cX6_replace 61 = .ok (.iload_n 1, 1) := by decide +kernel
theorem dX6_replace_62 : decode cX6_replace 62 = .ok (.aload_n 0, 1) := by decide +kernel
theorem dX6_replace_63 : decode cX6_replace 63 = .ok (.getfield 57, 3) := by decide +kernel
theorem dX6_replace_66 : decode cX6_replace 66 = .ok (.iconst 0, 1) := by decide +kernel
theorem dX6_replace_67 : decode cX6_replace 67 = .ok (.iaload, 1) := by decide +kernel
theorem dX6_replace_68 : decode cX6_replace 68 = .ok (.invokevirtual 314, 3) := by decide +kernel
theorem dX6_replace_71 : decode cX6_replace 71 = .ok (.aload_n 0, 1) := by decide +kernel
theorem dX6_replace_72 : decode cX6_replace 72 = .ok (.invokevirtual 320, 3) := by decide +kernel
theorem dX6_replace_75 : decode cX6_replace 75 = .ok (.aload_n 0, 1) := by decide +kernel
theorem dX6_replace_76 : decode cX6_replace 76 = .ok (.getfield 57, 3) := by decide +kernel
theorem dX6_replace_79 : decode cX6_replace 79 = .ok (.iconst 1, 1) := by decide +kernel
theorem dX6_replace_80 : decode cX6_replace 80 = .ok (.iaload, 1) := by decide +kernel
theorem dX6_replace_81 : decode cX6_replace 81 = .ok (.istore_n 1, 1) := by decide +kernel
theorem dX6_replace_82 : decode cX6_replace 82 = .ok (.aload_n 0, 1) := by decide +kernel
theorem dX6_replace_83 : decode cX6_replace 83 = .ok (.invokevirtual 323, 3) := by decide +kernel
theorem dX6_replace_86 : decode cX6_replace 86 = .ok (.istore_n 2, 1) := by decide +kernel
theorem dX6_replace_87 : decode cX6_replace 87 = .ok (.goto (-45), 3) := by decide +kernel
theorem dX6_replace_90 : decode cX6_replace 90 = .ok (.aload_n 0, 1) := by decide +kernel
theorem dX6_replace_91 : decode cX6_replace 91 = .ok (.iload_n 1, 1) := by decide +kernel
theorem dX6_replace_92 : decode cX6_replace 92 = .ok (.aload_n 0, 1) := by decide +kernel
theorem dX6_replace_93 : decode cX6_replace 93 = .ok (.getfield 13, 3) := by decide +kernel
theorem dX6_replace_96 : decode cX6_replace 96 = .ok (.iconst 1, 1) := by decide +kernel
theorem dX6_replace_97 : decode cX6_replace 97 = .ok (.iaload, 1) := by decide +kernel
theorem dX6_replace_98 : decode cX6_replace 98 = .ok (.invokevirtual 314, 3) := by decide +kernel
theorem dX6_replace_101 : decode cX6_replace 101 = .ok (.aload_n 0, 1) := by decide +kernel
theorem dX6_replace_102 : decode cX6_replace 102 = .ok (.getfield 308, 3) := by decide +kernel
theorem dX6_replace_105 : decode cX6_replace 105 = .ok (.ireturn, 1) := by decide +kernel
def L_replace_42 : Nat → RS → Int32 → Int32 → RS → Int32 → Prop
  | 0, _, _, _, _, _ => False
  | nf + 1, R, x1, x2, R', r => vp_in 1 3 ∧ (if (R.2.1 2 (1 : Int32).toNatClampNeg) < x2 then (vp_in 1 3 ∧ (∃ R7 : RS, E_putText R x1 (R.2.1 2 (1 : Int32).toNatClampNeg) R7 0 ∧ (R' = R7 ∧ r = (R7.1 43)))) else (∃ (R9 : RS) (r10 : Int32), E_search R x2 R9 r10 ∧ (if r10 = 0 then (vp_in 1 3 ∧ (∃ R12 : RS, E_putText R9 x1 (R9.2.1 2 (1 : Int32).toNatClampNeg) R12 0 ∧ (R' = R12 ∧ r = (R12.1 43)))) else (vp_in 0 10 ∧ (∃ R14 : RS, E_putText R9 x1 (R9.2.1 30 (0 : Int32).toNatClampNeg) R14 0 ∧ (∃ R16 : RS, E_putTemplate R14 R16 0 ∧ (vp_in 1 10 ∧ (∃ (R18 : RS) (r19 : Int32), E_behindMatch R16 R18 r19 ∧ (L_replace_42 nf R18 (R16.2.1 30 (1 : Int32).toNatClampNeg) r19 R' r)))))))))
set_option maxHeartbeats 4000000 in
set_option maxRecDepth 100000 in
theorem L_replace_42_ok {l : Launch} {G : PG} {h : Nat} {q : Nat → Nat} {R' : RS} {r : Int32} {p : Program} {e : Env} {s : State} {m : MethodId} {below : List Frame} {meth : Method} {c : Code} {A : Nat → Prop} (F : bF p s m meth c cX6_replace 3 (some .int) ([.ref h] : List Value).toArray yX6_replace) (hK : pg_K G s) (hA : ∀ q, s.heap.size ≤ q → A q) : ∀ (nf : Nat) (R : RS) (x1 : Int32) (x2 : Int32) (H : Heap) (locs : List Loc) (ls : Array Slot), lv_has ls 3 [(2, .int x2), (1, .int x1), (0, .ref h)] → L_replace_42 nf R x1 x2 R' r → va_P G.1 vwCl (mW G h q R) H → va_D A (mW G h q R) → va_S A s.heap H locs → W p l e { frames := 7, cells := 0, slots := 0, locals := 157 } s m ([.ref h] : List Value).toArray below meth c H locs 0 0 (MQ below (va_Qi (fun (r9 : Int32) (_ : Unit) => r9 = r) (oB G A (fun (_ : Unit) => mW G h q R')) A) ([.ref h] : List Value).toArray s 0 0 A) (F0 m 42 ls []) := by
  have hx := F.1.1; have hb := F.1.2.1; have hml := F.1.2.2.1; have hts := F.1.2.2.2.2
  have hown : s.vm.findClass RX6 = some m.cls := F.1.2.2.2.1
  intro nf
  induction nf with
  | zero => intro R x1 x2 H locs ls hl hE; exact hE.elim
  | succ nf ih =>
    intro R x1 x2 H locs ls hl hE hP hD hS
    unfold L_replace_42 at hE
    refine lv_iload_n hx hb dX6_replace_42 rfl (lv_at hl 0 rfl) ?_
    refine lv_aload_n hx hb dX6_replace_43 rfl (lv_at hl 2 rfl) ?_
    refine va_get (D := G.1) (ci := 6) (C := RX6) (T := TX6) (N := 48) hx hb hts inX6 hown hK.1 hP 0 mW_0 rfl 2 (by decide) (hts _ w_848) (fun _ h9 => h9) mF_2 dX6_replace_44 ?_
    refine lv_iconst (v := 1) hx hb dX6_replace_47 (by decide) ?_
    obtain ⟨hin, hE⟩ := hE
    refine va_iald (D := G.1) hx hb hK.1 hP 2 0 mW_g2 rfl hin dX6_replace_48 ?_
    refine lv_icmp_gt (tgt := 90) hx hb dX6_replace_49 (by decide) (fun h6 => ?_) (fun h6 => ?_)
    ·
      rw [if_pos h6] at hE
      refine lv_aload_n hx hb dX6_replace_90 rfl (lv_at hl 2 rfl) ?_
      refine lv_iload_n hx hb dX6_replace_91 rfl (lv_at hl 1 rfl) ?_
      refine lv_aload_n hx hb dX6_replace_92 rfl (lv_at hl 2 rfl) ?_
      refine va_get (D := G.1) (ci := 6) (C := RX6) (T := TX6) (N := 48) hx hb hts inX6 hown hK.1 hP 0 mW_0 rfl 2 (by decide) (hts _ w_848) (fun _ h9 => h9) mF_2 dX6_replace_93 ?_
      refine lv_iconst (v := 1) hx hb dX6_replace_96 (by decide) ?_
      obtain ⟨hin, hE⟩ := hE
      refine va_iald (D := G.1) hx hb hK.1 hP 2 0 mW_g2 rfl hin dX6_replace_97 ?_
      obtain ⟨R7, hg, hE⟩ := hE
      refine kA_v (va_runV (As := [.int x1, .int (R.2.1 2 (1 : Int32).toNatClampNeg)]) (rest := []) F.1 (e_putText l G h q R x1 (R.2.1 2 (1 : Int32).toNatClampNeg) R7 0 hg _) (cwV 2 hts (aw_V w_1224 w_1226 ws_X6_putText w_6 w_1227) rfl rfl rfl (by decide +kernel) ⟨by decide, by decide⟩) ⟨cS_blind, va_recv (q := (RX6, TX6, 48)) (ci := 6) (q0 := 0) hK.1 hP rfl mW_0, cS_pre hP hD hK⟩ rfl rfl hl.1 rfl (lv_room (Nat.le_of_ble_eq_true rfl)) dX6_replace_98 ⟨Nat.le_refl _, Nat.le_refl _⟩) hD hS hA (fun u0 H locs hp hP hD hS => ?_)
      refine lv_aload_n hx hb dX6_replace_101 rfl (lv_at hl 2 rfl) ?_
      refine va_get (D := G.1) (ci := 6) (C := RX6) (T := TX6) (N := 48) hx hb hts inX6 hown hK.1 hP 0 mW_0 rfl 43 (by decide) (hts _ w_889) (fun _ h9 => h9) mF_43 dX6_replace_102 ?_
      obtain ⟨rfl, rfl⟩ := hE
      exact en_i F hS _ () (by rfl) rfl hP hD (Nat.le_refl _) (Nat.le_refl _) dX6_replace_105
    ·
      rw [if_neg h6] at hE
      refine lv_aload_n hx hb dX6_replace_52 rfl (lv_at hl 2 rfl) ?_
      refine lv_iload_n hx hb dX6_replace_53 rfl (lv_at hl 0 rfl) ?_
      obtain ⟨R9, r10, hg, hE⟩ := hE
      refine kA_i (va_runV (As := [.int x2]) (rest := []) F.1 (e_search l G h q R x2 R9 r10 hg _) (cwV 1 hts (aw_V w_1200 w_1202 ws_X6_search w_6 w_1203) rfl rfl rfl (by decide +kernel) ⟨by decide, by decide⟩) ⟨cS_blind, va_recv (q := (RX6, TX6, 48)) (ci := 6) (q0 := 0) hK.1 hP rfl mW_0, cS_pre hP hD hK⟩ rfl rfl hl.1 rfl (lv_room (Nat.le_of_ble_eq_true rfl)) dX6_replace_54 ⟨Nat.le_refl _, Nat.le_refl _⟩) hD hS hA (fun r9 u0 H locs hp hP hD hS => ?_)
      have hp := hp.symm; subst hp
      refine lv_if_eq (tgt := 90) hx hb dX6_replace_57 (by decide) (fun h11 => ?_) (fun h11 => ?_)
      ·
        rw [if_pos h11] at hE
        refine lv_aload_n hx hb dX6_replace_90 rfl (lv_at hl 2 rfl) ?_
        refine lv_iload_n hx hb dX6_replace_91 rfl (lv_at hl 1 rfl) ?_
        refine lv_aload_n hx hb dX6_replace_92 rfl (lv_at hl 2 rfl) ?_
        refine va_get (D := G.1) (ci := 6) (C := RX6) (T := TX6) (N := 48) hx hb hts inX6 hown hK.1 hP 0 mW_0 rfl 2 (by decide) (hts _ w_848) (fun _ h9 => h9) mF_2 dX6_replace_93 ?_
        refine lv_iconst (v := 1) hx hb dX6_replace_96 (by decide) ?_
        obtain ⟨hin, hE⟩ := hE
        refine va_iald (D := G.1) hx hb hK.1 hP 2 0 mW_g2 rfl hin dX6_replace_97 ?_
        obtain ⟨R12, hg, hE⟩ := hE
        refine kA_v (va_runV (As := [.int x1, .int (R9.2.1 2 (1 : Int32).toNatClampNeg)]) (rest := []) F.1 (e_putText l G h q R9 x1 (R9.2.1 2 (1 : Int32).toNatClampNeg) R12 0 hg _) (cwV 2 hts (aw_V w_1224 w_1226 ws_X6_putText w_6 w_1227) rfl rfl rfl (by decide +kernel) ⟨by decide, by decide⟩) ⟨cS_blind, va_recv (q := (RX6, TX6, 48)) (ci := 6) (q0 := 0) hK.1 hP rfl mW_0, cS_pre hP hD hK⟩ rfl rfl hl.1 rfl (lv_room (Nat.le_of_ble_eq_true rfl)) dX6_replace_98 ⟨Nat.le_refl _, Nat.le_refl _⟩) hD hS hA (fun u0 H locs hp hP hD hS => ?_)
        refine lv_aload_n hx hb dX6_replace_101 rfl (lv_at hl 2 rfl) ?_
        refine va_get (D := G.1) (ci := 6) (C := RX6) (T := TX6) (N := 48) hx hb hts inX6 hown hK.1 hP 0 mW_0 rfl 43 (by decide) (hts _ w_889) (fun _ h9 => h9) mF_43 dX6_replace_102 ?_
        obtain ⟨rfl, rfl⟩ := hE
        exact en_i F hS _ () (by rfl) rfl hP hD (Nat.le_refl _) (Nat.le_refl _) dX6_replace_105
      ·
        rw [if_neg h11] at hE
        refine lv_aload_n hx hb dX6_replace_60 rfl (lv_at hl 2 rfl) ?_
        refine lv_iload_n hx hb dX6_replace_61 rfl (lv_at hl 1 rfl) ?_
        refine lv_aload_n hx hb dX6_replace_62 rfl (lv_at hl 2 rfl) ?_
        refine va_get (D := G.1) (ci := 6) (C := RX6) (T := TX6) (N := 48) hx hb hts inX6 hown hK.1 hP 0 mW_0 rfl 30 (by decide) (hts _ w_876) (fun _ h9 => h9) mF_30 dX6_replace_63 ?_
        refine lv_iconst (v := 0) hx hb dX6_replace_66 (by decide) ?_
        obtain ⟨hin, hE⟩ := hE
        refine va_iald (D := G.1) hx hb hK.1 hP 16 0 mW_g30 rfl hin dX6_replace_67 ?_
        obtain ⟨R14, hg, hE⟩ := hE
        refine kA_v (va_runV (As := [.int x1, .int (R9.2.1 30 (0 : Int32).toNatClampNeg)]) (rest := []) F.1 (e_putText l G h q R9 x1 (R9.2.1 30 (0 : Int32).toNatClampNeg) R14 0 hg _) (cwV 2 hts (aw_V w_1224 w_1226 ws_X6_putText w_6 w_1227) rfl rfl rfl (by decide +kernel) ⟨by decide, by decide⟩) ⟨cS_blind, va_recv (q := (RX6, TX6, 48)) (ci := 6) (q0 := 0) hK.1 hP rfl mW_0, cS_pre hP hD hK⟩ rfl rfl hl.1 rfl (lv_room (Nat.le_of_ble_eq_true rfl)) dX6_replace_68 ⟨Nat.le_refl _, Nat.le_refl _⟩) hD hS hA (fun u0 H locs hp hP hD hS => ?_)
        refine lv_aload_n hx hb dX6_replace_71 rfl (lv_at hl 2 rfl) ?_
        obtain ⟨R16, hg, hE⟩ := hE
        refine kA_v (va_runV (As := []) (rest := []) F.1 (e_putTemplate l G h q R14 R16 0 hg _) (cwV 0 hts (aw_V w_1232 w_1234 ws_X6_putTemplate w_6 w_1235) rfl rfl rfl (by decide +kernel) ⟨by decide, by decide⟩) ⟨cS_blind, va_recv (q := (RX6, TX6, 48)) (ci := 6) (q0 := 0) hK.1 hP rfl mW_0, cS_pre hP hD hK⟩ rfl rfl hl.1 rfl (lv_room (Nat.le_of_ble_eq_true rfl)) dX6_replace_72 ⟨Nat.le_refl _, Nat.le_refl _⟩) hD hS hA (fun u0 H locs hp hP hD hS => ?_)
        refine lv_aload_n hx hb dX6_replace_75 rfl (lv_at hl 2 rfl) ?_
        refine va_get (D := G.1) (ci := 6) (C := RX6) (T := TX6) (N := 48) hx hb hts inX6 hown hK.1 hP 0 mW_0 rfl 30 (by decide) (hts _ w_876) (fun _ h9 => h9) mF_30 dX6_replace_76 ?_
        refine lv_iconst (v := 1) hx hb dX6_replace_79 (by decide) ?_
        obtain ⟨hin, hE⟩ := hE
        refine va_iald (D := G.1) hx hb hK.1 hP 16 0 mW_g30 rfl hin dX6_replace_80 ?_
        refine lv_istore_n hx hb dX6_replace_81 rfl hl (by decide) rfl (fun ls hl => ?_)
        have hl : lv_has ls 3 [(1, .int (R16.2.1 30 (1 : Int32).toNatClampNeg)), (2, .int x2), (0, .ref h)] := hl
        refine lv_aload_n hx hb dX6_replace_82 rfl (lv_at hl 2 rfl) ?_
        obtain ⟨R18, r19, hg, hE⟩ := hE
        refine kA_i (va_runV (As := []) (rest := []) F.1 (e_behindMatch l G h q R16 R18 r19 hg _) (cwV 0 hts (aw_V w_1236 w_1238 ws_X6_behindMatch w_6 w_1239) rfl rfl rfl (by decide +kernel) ⟨by decide, by decide⟩) ⟨cS_blind, va_recv (q := (RX6, TX6, 48)) (ci := 6) (q0 := 0) hK.1 hP rfl mW_0, cS_pre hP hD hK⟩ rfl rfl hl.1 rfl (lv_room (Nat.le_of_ble_eq_true rfl)) dX6_replace_83 ⟨Nat.le_refl _, Nat.le_refl _⟩) hD hS hA (fun r9 u0 H locs hp hP hD hS => ?_)
        have hp := hp.symm; subst hp
        refine lv_istore_n hx hb dX6_replace_86 rfl hl (by decide) rfl (fun ls hl => ?_)
        have hl : lv_has ls 3 [(2, .int r19), (1, .int (R16.2.1 30 (1 : Int32).toNatClampNeg)), (0, .ref h)] := hl
        refine lv_goto (tgt := 42) hx hb dX6_replace_87 (by decide) ?_
        exact ih R18 (R16.2.1 30 (1 : Int32).toNatClampNeg) r19 _ _ ls (lv_sub hl [0, 1, 2] rfl) hE hP hD hS
def E_replace (R : RS)  (R' : RS) (r : Int32) : Prop := if (R.1 7) = 0 then (R' = (mf R 0 1) ∧ r = 0) else (∃ (R2 : RS) (r3 : Int32), E_faultOfTemplate R R2 r3 ∧ (if r3 ≤ 0 then (∃ nf : Nat, L_replace_42 nf (mf (mf (mf R2 0 r3) 41 0) 43 0) 0 0 R' r) else (R' = (mf R2 0 r3) ∧ r = 0)))
set_option maxHeartbeats 4000000 in
set_option maxRecDepth 100000 in
theorem e_replace (l : Launch) (G : PG) (h : Nat) (q : Nat → Nat) (R : RS)  (R' : RS) (r : Int32) (hE : E_replace R R' r) : Ci l yX6_replace (Cond.code yX6_replace cX6_replace 3 (some .int) :: aW) { frames := 7, cells := 0, slots := 0, locals := 157 } G (mW G h q R) [.ref h] (fun (r9 : Int32) (_ : Unit) => r9 = r) (fun (_ : Unit) => mW G h q R') 0 0 := by
  refine ofB (y := yX6_replace) (G := G) (cc := cX6_replace) (maxL := 3) (ret := (some .int)) (Qc := fun A => va_Qi (fun (r9 : Int32) (_ : Unit) => r9 = r) (oB G A (fun (_ : Unit) => mW G h q R')) A) (by decide) rfl ?_
  intro p e s m below meth c A F hK hA hP hD
  have hS : va_S A s.heap s.heap [] := va_S.rf
  have hx := F.1.1; have hb := F.1.2.1; have hml := F.1.2.2.1; have hts := F.1.2.2.2.2
  have hown : s.vm.findClass RX6 = some m.cls := F.1.2.2.2.1
  have hl := lv_entry ([.ref h]) (n := 3) (Nat.le_of_ble_eq_true rfl)
  rw [lg_entry_eq]
  generalize (lg_sl ([.ref h]) ++ List.replicate (3 - (lg_sl ([.ref h])).length) Slot.unset).toArray = ls at hl ⊢
  have hl : lv_has ls 3 [(0, .ref h)] := hl
  unfold E_replace at hE
  refine lv_aload_n hx hb dX6_replace_0 rfl (lv_at hl 0 rfl) ?_
  refine lv_aload_n hx hb dX6_replace_1 rfl (lv_at hl 0 rfl) ?_
  refine va_get (D := G.1) (ci := 6) (C := RX6) (T := TX6) (N := 48) hx hb hts inX6 hown hK.1 hP 0 mW_0 rfl 7 (by decide) (hts _ w_853) (fun _ h9 => h9) mF_7 dX6_replace_2 ?_
  refine lv_if_ne (tgt := 12) hx hb dX6_replace_5 (by decide) (fun h1 => ?_) (fun h1 => ?_)
  ·
    rw [if_neg h1] at hE
    refine lv_aload_n hx hb dX6_replace_12 rfl (lv_at hl 0 rfl) ?_
    obtain ⟨R2, r3, hg, hE⟩ := hE
    refine kA_i (va_runV (As := []) (rest := [.ref h]) F.1 (e_faultOfTemplate l G h q R R2 r3 hg _) (cwV 0 hts (aw_V w_1220 w_1222 ws_X6_faultOfTemplate w_6 w_1223) rfl rfl rfl (by decide +kernel) ⟨by decide, by decide⟩) ⟨cS_blind, va_recv (q := (RX6, TX6, 48)) (ci := 6) (q0 := 0) hK.1 hP rfl mW_0, cS_pre hP hD hK⟩ rfl rfl hl.1 rfl (lv_room (Nat.le_of_ble_eq_true rfl)) dX6_replace_13 ⟨Nat.le_refl _, Nat.le_refl _⟩) hD hS hA (fun r9 u0 H locs hp hP hD hS => ?_)
    have hp := hp.symm; subst hp
    refine va_put (D := G.1) (ci := 6) (v := .int r3) (ty := .int) (C := RX6) (T := TX6) (N := 48) hx hb hts inX6 tyX6 tyX6_ok nmX6 hown hK.1 hP hD hS 0 mW_0 rfl 0 (by decide) (hts _ w_846) (fun _ h9 => h9) rfl (by decide +kernel) rfl rfl mF_l0 dX6_replace_16 (fun H locs hP hD hS => ?_)
    rw [mW_f0] at hP hD
    refine lv_aload_n hx hb dX6_replace_19 rfl (lv_at hl 0 rfl) ?_
    refine va_get (D := G.1) (ci := 6) (C := RX6) (T := TX6) (N := 48) hx hb hts inX6 hown hK.1 hP 0 mW_0 rfl 0 (by decide) (hts _ w_846) (fun _ h9 => h9) mF_0 dX6_replace_20 ?_
    refine tp_i r3 rfl ?_
    refine lv_if_le (tgt := 28) hx hb dX6_replace_23 (by decide) (fun h4 => ?_) (fun h4 => ?_)
    ·
      rw [if_pos h4] at hE
      refine lv_aload_n hx hb dX6_replace_28 rfl (lv_at hl 0 rfl) ?_
      refine lv_iconst (v := 0) hx hb dX6_replace_29 (by decide) ?_
      refine va_put (D := G.1) (ci := 6) (v := .int 0) (ty := .boolean) (C := RX6) (T := TX6) (N := 48) hx hb hts inX6 tyX6 tyX6_ok nmX6 hown hK.1 hP hD hS 0 mW_0 rfl 41 (by decide) (hts _ w_887) (fun _ h9 => h9) rfl (by decide +kernel) rfl rfl mF_l41 dX6_replace_30 (fun H locs hP hD hS => ?_)
      rw [mW_f41] at hP hD
      refine lv_aload_n hx hb dX6_replace_33 rfl (lv_at hl 0 rfl) ?_
      refine lv_iconst (v := 0) hx hb dX6_replace_34 (by decide) ?_
      refine va_put (D := G.1) (ci := 6) (v := .int 0) (ty := .int) (C := RX6) (T := TX6) (N := 48) hx hb hts inX6 tyX6 tyX6_ok nmX6 hown hK.1 hP hD hS 0 mW_0 rfl 43 (by decide) (hts _ w_889) (fun _ h9 => h9) rfl (by decide +kernel) rfl rfl mF_l43 dX6_replace_35 (fun H locs hP hD hS => ?_)
      rw [mW_f43] at hP hD
      refine lv_iconst (v := 0) hx hb dX6_replace_38 (by decide) ?_
      refine lv_istore_n hx hb dX6_replace_39 rfl hl (by decide) rfl (fun ls hl => ?_)
      have hl : lv_has ls 3 [(1, .int 0), (0, .ref h)] := hl
      refine lv_iconst (v := 0) hx hb dX6_replace_40 (by decide) ?_
      refine lv_istore_n hx hb dX6_replace_41 rfl hl (by decide) rfl (fun ls hl => ?_)
      have hl : lv_has ls 3 [(2, .int 0), (1, .int 0), (0, .ref h)] := hl
      obtain ⟨nf, hE⟩ := hE
      exact L_replace_42_ok F hK hA nf (mf (mf (mf R2 0 r3) 41 0) 43 0) 0 0 _ _ ls (lv_sub hl [0, 1, 2] rfl) hE hP hD hS
    ·
      rw [if_neg h4] at hE
      refine lv_iconst (v := 0) hx hb dX6_replace_26 (by decide) ?_
      obtain ⟨rfl, rfl⟩ := hE
      exact en_i F hS _ () (by rfl) rfl hP hD (Nat.le_refl _) (Nat.le_refl _) dX6_replace_27
  ·
    rw [if_pos h1] at hE
    refine lv_iconst (v := 1) hx hb dX6_replace_8 (by decide) ?_
    refine lv_goto (tgt := 16) hx hb dX6_replace_9 (by decide) ?_
    refine va_put (D := G.1) (ci := 6) (v := .int 1) (ty := .int) (C := RX6) (T := TX6) (N := 48) hx hb hts inX6 tyX6 tyX6_ok nmX6 hown hK.1 hP hD hS 0 mW_0 rfl 0 (by decide) (hts _ w_846) (fun _ h9 => h9) rfl (by decide +kernel) rfl rfl mF_l0 dX6_replace_16 (fun H locs hP hD hS => ?_)
    rw [mW_f0] at hP hD
    refine lv_aload_n hx hb dX6_replace_19 rfl (lv_at hl 0 rfl) ?_
    refine va_get (D := G.1) (ci := 6) (C := RX6) (T := TX6) (N := 48) hx hb hts inX6 hown hK.1 hP 0 mW_0 rfl 0 (by decide) (hts _ w_846) (fun _ h9 => h9) mF_0 dX6_replace_20 ?_
    refine tp_i 1 rfl ?_
    refine lv_if_le (tgt := 28) hx hb dX6_replace_23 (by decide) (fun h => absurd h (by decide)) (fun _ => ?_)
    refine lv_iconst (v := 0) hx hb dX6_replace_26 (by decide) ?_
    obtain ⟨rfl, rfl⟩ := hE
    exact en_i F hS _ () (by rfl) rfl hP hD (Nat.le_refl _) (Nat.le_refl _) dX6_replace_27

theorem dX6_replaced_17 : decode cX6_replaced 17 = .ok (.iconst 0, 1) := by decide +kernel
theorem dX6_replaced_32 : decode cX6_replaced 32 = .ok (.aload_n 0, 1) := by decide +kernel
theorem dX6_replaced_33 : decode cX6_replaced 33 = .ok (.getfield 93, 3) := by decide +kernel
theorem dX6_replaced_36 : decode cX6_replaced 36 = .ok (.iload_n 1, 1) := by decide +kernel
theorem dX6_replaced_37 : decode cX6_replaced 37 = .ok (.iaload, 1) := by decide +kernel
def E_replaced (R : RS) (a1 : Int32) (R' : RS) (r : Int32) : Prop := if (if a1 < 0 then 1 else (if a1 < (R.1 43) then 0 else 1 : Int32) : Int32) ≤ 0 then (vp_in a1 400 ∧ (narrow .char (.int (((R.2.1 44 a1.toNatClampNeg).toUInt32 % 65536).toInt32)) = .int (((R.2.1 44 a1.toNatClampNeg).toUInt32 % 65536).toInt32) ∧ R' = (mf R 0 (if a1 < 0 then 1 else (if a1 < (R.1 43) then 0 else 1 : Int32) : Int32)) ∧ r = ((R.2.1 44 a1.toNatClampNeg).toUInt32 % 65536).toInt32)) else (narrow .char (.int (((0 : Int32).toUInt32 % 65536).toInt32)) = .int (((0 : Int32).toUInt32 % 65536).toInt32) ∧ R' = (mf R 0 (if a1 < 0 then 1 else (if a1 < (R.1 43) then 0 else 1 : Int32) : Int32)) ∧ r = ((0 : Int32).toUInt32 % 65536).toInt32)
set_option maxHeartbeats 4000000 in
set_option maxRecDepth 100000 in
theorem e_replaced (l : Launch) (G : PG) (h : Nat) (q : Nat → Nat) (R : RS) (a1 : Int32) (R' : RS) (r : Int32) (hE : E_replaced R a1 R' r) : Ci l yX6_replaced (Cond.code yX6_replaced cX6_replaced 2 (some .char) :: aW) { frames := 0, cells := 0, slots := 0, locals := 0 } G (mW G h q R) [.ref h, .int a1] (fun (r9 : Int32) (_ : Unit) => r9 = r) (fun (_ : Unit) => mW G h q R') 0 0 := by
  refine ofB (y := yX6_replaced) (G := G) (cc := cX6_replaced) (maxL := 2) (ret := (some .char)) (Qc := fun A => va_Qi (fun (r9 : Int32) (_ : Unit) => r9 = r) (oB G A (fun (_ : Unit) => mW G h q R')) A) (by decide) rfl ?_
  intro p e s m below meth c A F hK hA hP hD
  have hS : va_S A s.heap s.heap [] := va_S.rf
  have hx := F.1.1; have hb := F.1.2.1; have hml := F.1.2.2.1; have hts := F.1.2.2.2.2
  have hown : s.vm.findClass RX6 = some m.cls := F.1.2.2.2.1
  have hl := lv_entry ([.ref h, .int a1]) (n := 2) (Nat.le_of_ble_eq_true rfl)
  rw [lg_entry_eq]
  generalize (lg_sl ([.ref h, .int a1]) ++ List.replicate (2 - (lg_sl ([.ref h, .int a1])).length) Slot.unset).toArray = ls at hl ⊢
  have hl : lv_has ls 2 [(0, .ref h), (1, .int a1)] := hl
  unfold E_replaced at hE
  refine lv_aload_n hx hb dX6_replaced_0 rfl (lv_at hl 0 rfl) ?_
  refine lv_iload_n hx hb dX6_replaced_1 rfl (lv_at hl 1 rfl) ?_
  refine jn_v (v := (if a1 < 0 then 1 else (if a1 < (R.1 43) then 0 else 1 : Int32) : Int32)) (pcM := 18) (rest := [.ref h]) (fun kM => ?_) ?_
  ·
    refine lv_if_lt (tgt := 13) hx hb dX6_replaced_2 (by decide) (fun h2 => ?_) (fun h2 => ?_)
    ·
      refine lv_iconst (v := 1) hx hb dX6_replaced_13 (by decide) ?_
      refine lv_goto (tgt := 18) hx hb dX6_replaced_14 (by decide) ?_
      exact kM _ (by try rw [if_pos h2])
    ·
      refine lv_iload_n hx hb dX6_replaced_5 rfl (lv_at hl 1 rfl) ?_
      refine lv_aload_n hx hb dX6_replaced_6 rfl (lv_at hl 0 rfl) ?_
      refine va_get (D := G.1) (ci := 6) (C := RX6) (T := TX6) (N := 48) hx hb hts inX6 hown hK.1 hP 0 mW_0 rfl 43 (by decide) (hts _ w_889) (fun _ h9 => h9) mF_43 dX6_replaced_7 ?_
      refine lv_icmp_lt (tgt := 17) hx hb dX6_replaced_10 (by decide) (fun h3 => ?_) (fun h3 => ?_)
      ·
        refine lv_iconst (v := 0) hx hb dX6_replaced_17 (by decide) ?_
        exact kM _ (by try rw [if_neg h2]; try rw [if_pos h3])
      ·
        refine lv_iconst (v := 1) hx hb dX6_replaced_13 (by decide) ?_
        refine lv_goto (tgt := 18) hx hb dX6_replaced_14 (by decide) ?_
        exact kM _ (by try rw [if_neg h2]; try rw [if_neg h3])
  refine va_put (D := G.1) (ci := 6) (v := .int (if a1 < 0 then 1 else (if a1 < (R.1 43) then 0 else 1 : Int32) : Int32)) (ty := .int) (C := RX6) (T := TX6) (N := 48) hx hb hts inX6 tyX6 tyX6_ok nmX6 hown hK.1 hP hD hS 0 mW_0 rfl 0 (by decide) (hts _ w_846) (fun _ h9 => h9) rfl (by decide +kernel) rfl rfl mF_l0 dX6_replaced_18 (fun H locs hP hD hS => ?_)
  rw [mW_f0] at hP hD
  refine lv_aload_n hx hb dX6_replaced_21 rfl (lv_at hl 0 rfl) ?_
  refine va_get (D := G.1) (ci := 6) (C := RX6) (T := TX6) (N := 48) hx hb hts inX6 hown hK.1 hP 0 mW_0 rfl 0 (by decide) (hts _ w_846) (fun _ h9 => h9) mF_0 dX6_replaced_22 ?_
  refine tp_i (if a1 < 0 then 1 else (if a1 < (R.1 43) then 0 else 1 : Int32) : Int32) rfl ?_
  refine lv_if_le (tgt := 32) hx hb dX6_replaced_25 (by decide) (fun h4 => ?_) (fun h4 => ?_)
  ·
    rw [if_pos h4] at hE
    refine lv_aload_n hx hb dX6_replaced_32 rfl (lv_at hl 0 rfl) ?_
    refine va_get (D := G.1) (ci := 6) (C := RX6) (T := TX6) (N := 48) hx hb hts inX6 hown hK.1 hP 0 mW_0 rfl 44 (by decide) (hts _ w_890) (fun _ h9 => h9) mF_44 dX6_replaced_33 ?_
    refine lv_iload_n hx hb dX6_replaced_36 rfl (lv_at hl 1 rfl) ?_
    obtain ⟨hin, hE⟩ := hE
    refine va_iald (D := G.1) hx hb hK.1 hP 28 0 mW_g44 rfl hin dX6_replaced_37 ?_
    refine tp_i (R.2.1 44 a1.toNatClampNeg) rfl ?_
    refine lv_i2c (v := ((R.2.1 44 a1.toNatClampNeg).toUInt32 % 65536).toInt32) hx hb dX6_replaced_38 rfl ?_
    obtain ⟨hn, rfl, rfl⟩ := hE
    exact en_i F hS _ () hn rfl hP hD (Nat.le_refl _) (Nat.le_refl _) dX6_replaced_39
  ·
    rw [if_neg h4] at hE
    refine lv_iconst (v := 0) hx hb dX6_replaced_28 (by decide) ?_
    refine lv_goto (tgt := 38) hx hb dX6_replaced_29 (by decide) ?_
    refine lv_i2c (v := ((0 : Int32).toUInt32 % 65536).toInt32) hx hb dX6_replaced_38 rfl ?_
    obtain ⟨hn, rfl, rfl⟩ := hE
    exact en_i F hS _ () hn rfl hP hD (Nat.le_refl _) (Nat.le_refl _) dX6_replaced_39

theorem dX6_split_8 : decode cX6_split 8 = .ok (.iconst 0, 1) := by decide +kernel
theorem dX6_split_9 : decode cX6_split 9 = .ok (.goto 4, 3) := by decide +kernel
theorem dX6_split_25 : decode cX6_split 25 = .ok (.aload_n 0, 1) := by decide +kernel
theorem dX6_split_26 : decode cX6_split 26 = .ok (.iconst 0, 1) := by decide +kernel
theorem dX6_split_27 : decode cX6_split 27 = .ok (.putfield 110, 3) := by decide +kernel
theorem dX6_split_30 : decode cX6_split 30 = .ok (.aload_n 0, 1) := by decide +kernel
theorem dX6_split_31 : decode cX6_split 31 = .ok (.iconst 0, 1) := by decide +kernel
theorem dX6_split_32 : decode cX6_split 32 = .ok (.putfield 326, 3) := by decide +kernel
theorem dX6_split_35 : decode cX6_split 35 = .ok (.iconst 0, 1) := by decide +kernel
theorem dX6_split_36 : decode cX6_split 36 = .ok (.istore_n 1, 1) := by decide +kernel
theorem dX6_split_37 : decode cX6_split 37 = .ok (.iconst 0, 1) := by decide +kernel
theorem dX6_split_38 : decode cX6_split 38 = .ok (.istore_n 2, 1) := by decide +kernel
theorem dX6_split_39 : decode cX6_split 39 = .ok (.iconst 0, 1) := by decide +kernel
theorem dX6_split_40 : decode cX6_split 40 = .ok (.istore_n 3, 1) := by decide +kernel
theorem dX6_split_41 : decode cX6_split 41 = .ok (.iload_n 2, 1) := by decide +kernel
theorem dX6_split_42 : decode cX6_split 42 = .ok (.aload_n 0, 1) := by decide +kernel
theorem dX6_split_43 : decode cX6_split 43 = .ok (.getfield 13, 3) := by decide +kernel
theorem dX6_split_46 : decode cX6_split 46 = .ok (.iconst 1, 1) := by decide +kernel
theorem dX6_split_47 : decode cX6_split 47 = .ok (.iaload, 1) := by decide +kernel
theorem dX6_split_48 : decode cX6_split 48 = .ok (.if_icmp .gt 75, 3) := by decide +kernel
theorem dX6_split_51 : decode cX6_split 51 = .ok (.aload_n 0, 1) := by decide +kernel
theorem dX6_split_52 : decode cX6_split 52 = .ok (.iload_n 2, 1) := by decide +kernel
theorem dX6_split_53 : decode cX6_split 53 = .ok (.invokevirtual 301, 3) := by decide +kernel
theorem dX6_split_56 : decode cX6_split 56 = .ok (.ifCond .eq 67, 3) := by decide +kernel
theorem dX6_split_59 : decode cX6_split 59 = .ok (.aload_n 0, 1) := by decide +kernel
theorem dX6_split_60 : decode cX6_split 60 = .ok (.invokevirtual 323, 3) := by decide +kernel
theorem dX6_split_63 : decode cX6_split 63 = .ok (.istore_n 2, 1) := by decide +kernel
theorem dX6_split_64 : decode cX6_split 64 = .ok (.aload_n 0, 1) := by decide +kernel
theorem dX6_split_65 : decode cX6_split 65 = .ok (.getfield 57, 3) := by decide +kernel
theorem dX6_split_68 : decode cX6_split 68 = .ok (.iconst 1, 1) := by decide +kernel
theorem dX6_split_69 : decode cX6_split 69 = .ok (.iaload, 1) := by decide +kernel
theorem dX6_split_70 : decode cX6_split 70 = .ok (.ifCond .ne 6, 3) := by decide +kernel
theorem dX6_split_73 : decode cX6_split 73 = .ok (.goto (-32), 3) := by decide +kernel
theorem dX6_split_76 : decode cX6_split 76 = .ok (.iconst 1, 1) := by decide +kernel
theorem dX6_split_77 : decode cX6_split 77 = .ok (.istore_n 3, 1) := by decide +kernel
theorem dX6_split_78 : decode cX6_split 78 = .ok (.aload_n 0, 1) := by decide +kernel
theorem dX6_split_79 : decode cX6_split 79 = .ok (.getfield 96, 3) := by decide +kernel
theorem dX6_split_82 : decode cX6_split 82 = .ok (.aload_n 0, 1) := by decide +kernel
theorem dX6_split_83 : decode cX6_split 83 = .ok (.getfield 326, 3) := by decide +kernel
theorem dX6_split_86 : decode cX6_split 86 = .ok (.iload_n 1, 1) := by decide +kernel
theorem dX6_split_87 : decode cX6_split 87 = .ok (.iastore, 1) := by decide +kernel
theorem dX6_split_88 : decode cX6_split 88 = .ok (.aload_n 0, 1) := by decide +kernel
theorem dX6_split_89 : decode cX6_split 89 = .ok (.getfield 99, 3) := by decide +kernel
theorem dX6_split_92 : decode cX6_split 92 = .ok (.aload_n 0, 1) := by decide +kernel
theorem dX6_split_93 : decode cX6_split 93 = .ok (.getfield 326, 3) := by decide +kernel
theorem dX6_split_96 : decode cX6_split 96 = .ok (.aload_n 0, 1) := by decide +kernel
theorem dX6_split_97 : decode cX6_split 97 = .ok (.getfield 57, 3) := by decide +kernel
theorem dX6_split_100 : decode cX6_split 100 = .ok (.iconst 0, 1) := by decide +kernel
theorem dX6_split_101 : decode cX6_split 101 = .ok (.iaload, 1) := by decide +kernel
theorem dX6_split_102 : decode cX6_split 102 = .ok (.iastore, 1) := by decide +kernel
theorem dX6_split_103 : decode cX6_split 103 = .ok (.aload_n 0, 1) := by decide +kernel
theorem dX6_split_104 : decode cX6_split 104 = .ok (.dup, 1) := by decide +kernel
theorem dX6_split_105 : decode cX6_split 105 = .ok (.getfield 326, 3) := by decide +kernel
theorem dX6_split_108 : decode cX6_split 108 = .ok (.iconst 1, 1) := by decide +kernel
theorem dX6_split_109 : decode cX6_split 109 = .ok (.iadd, 1) := by decide +kernel
theorem dX6_split_110 : decode cX6_split 110 = .ok (.putfield 326, 3) := by decide +kernel
theorem dX6_split_113 : decode cX6_split 113 = .ok (.aload_n 0, 1) := by decide +kernel
theorem dX6_split_114 : decode cX6_split 114 = .ok (.getfield 57, 3) := by decide +kernel
theorem dX6_split_117 : decode cX6_split 117 = .ok (.iconst 1, 1) := by decide +kernel
theorem dX6_split_118 : decode cX6_split 118 = .ok (.iaload, 1) := by decide +kernel
theorem dX6_split_119 : decode cX6_split 119 = .ok (.istore_n 1, 1) := by decide +kernel
theorem dX6_split_120 : decode cX6_split 120 = .ok (.goto (-79), 3) := by decide +kernel
theorem dX6_split_123 : decode cX6_split 123 = .ok (.aload_n 0, 1) := by decide +kernel
theorem dX6_split_124 : decode cX6_split 124 = .ok (.getfield 96, 3) := by decide +kernel
theorem dX6_split_127 : decode cX6_split 127 = .ok (.aload_n 0, 1) := by decide +kernel
theorem dX6_split_128 : decode cX6_split 128 = .ok (.getfield 326, 3) := by decide +kernel
theorem dX6_split_131 : decode cX6_split 131 = .ok (.iload_n 1, 1) := by decide +kernel
theorem dX6_split_132 : decode cX6_split 132 = .ok (.iastore, 1) := by decide +kernel
theorem dX6_split_133 : decode cX6_split 133 = .ok (.aload_n 0, 1) := by decide +kernel
theorem dX6_split_134 : decode cX6_split 134 = .ok (.getfield 99, 3) := by decide +kernel
theorem dX6_split_137 : decode cX6_split 137 = .ok (.aload_n 0, 1) := by decide +kernel
theorem dX6_split_138 : decode cX6_split 138 = .ok (.getfield 326, 3) := by decide +kernel
theorem dX6_split_141 : decode cX6_split 141 = .ok (.aload_n 0, 1) := by decide +kernel
theorem dX6_split_142 : decode cX6_split 142 = .ok (.getfield 13, 3) := by decide +kernel
theorem dX6_split_145 : decode cX6_split 145 = .ok (.iconst 1, 1) := by decide +kernel
theorem dX6_split_146 : decode cX6_split 146 = .ok (.iaload, 1) := by decide +kernel
theorem dX6_split_147 : decode cX6_split 147 = .ok (.iastore, 1) := by decide +kernel
theorem dX6_split_148 : decode cX6_split 148 = .ok (.aload_n 0, 1) := by decide +kernel
theorem dX6_split_149 : decode cX6_split 149 = .ok (.dup, 1) := by decide +kernel
theorem dX6_split_150 : decode cX6_split 150 = .ok (.getfield 326, 3) := by decide +kernel
theorem dX6_split_153 : decode cX6_split 153 = .ok (.iconst 1, 1) := by decide +kernel
theorem dX6_split_154 : decode cX6_split 154 = .ok (.iadd, 1) := by decide +kernel
theorem dX6_split_155 : decode cX6_split 155 = .ok (.putfield 326, 3) := by decide +kernel
theorem dX6_split_158 : decode cX6_split 158 = .ok (.iload_n 3, 1) := by decide +kernel
theorem dX6_split_159 : decode cX6_split 159 = .ok (.ifCond .eq 48, 3) := by decide +kernel
theorem dX6_split_162 : decode cX6_split 162 = .ok (.aload_n 0, 1) := by decide +kernel
theorem dX6_split_163 : decode cX6_split 163 = .ok (.getfield 326, 3) := by decide +kernel
theorem dX6_split_166 : decode cX6_split 166 = .ok (.ifCond .le 41, 3) := by decide +kernel
theorem dX6_split_169 : decode cX6_split 169 = .ok (.aload_n 0, 1) := by decide +kernel
theorem dX6_split_170 : decode cX6_split 170 = .ok (.getfield 96, 3) := by decide +kernel
theorem dX6_split_173 : decode cX6_split 173 = .ok (.aload_n 0, 1) := by decide +kernel
theorem dX6_split_174 : decode cX6_split 174 = .ok (.getfield 326, 3) := by decide +kernel
theorem dX6_split_177 : decode cX6_split 177 = .ok (.iconst 1, 1) := by decide +kernel
theorem dX6_split_178 : decode cX6_split 178 = .ok (.isub, 1) := by decide +kernel
theorem dX6_split_179 : decode cX6_split 179 = .ok (.iaload, 1) := by decide +kernel
theorem dX6_split_180 : decode cX6_split 180 = .ok (.aload_n 0, 1) := by decide +kernel
theorem dX6_split_181 : decode cX6_split 181 = .ok (.getfield 99, 3) := by decide +kernel
theorem dX6_split_184 : decode cX6_split 184 = .ok (.aload_n 0, 1) := by decide +kernel
theorem dX6_split_185 : decode cX6_split 185 = .ok (.getfield 326, 3) := by decide +kernel
theorem dX6_split_188 : decode cX6_split 188 = .ok (.iconst 1, 1) := by decide +kernel
theorem dX6_split_189 : decode cX6_split 189 = .ok (.isub, 1) := by decide +kernel
theorem dX6_split_190 : decode cX6_split 190 = .ok (.iaload, 1) := by decide +kernel
theorem dX6_split_191 : decode cX6_split 191 = .ok (.if_icmp .ne 16, 3) := by decide +kernel
theorem dX6_split_194 : decode cX6_split 194 = .ok (.aload_n 0, 1) := by decide +kernel
theorem dX6_split_195 : decode cX6_split 195 = .ok (.dup, 1) := by decide +kernel
theorem dX6_split_196 : decode cX6_split 196 = .ok (.getfield 326, 3) := by decide +kernel
theorem dX6_split_199 : decode cX6_split 199 = .ok (.iconst 1, 1) := by decide +kernel
theorem dX6_split_200 : decode cX6_split 200 = .ok (.isub, 1) := by decide +kernel
theorem dX6_split_201 : decode cX6_split 201 = .ok (.putfield 326, 3) := by decide +kernel
theorem dX6_split_204 : decode cX6_split 204 = .ok (.goto (-46), 3) := by decide +kernel
theorem dX6_split_207 : decode cX6_split 207 = .ok (.aload_n 0, 1) := by decide +kernel
theorem dX6_split_208 : decode cX6_split 208 = .ok (.getfield 326, 3) := by decide +kernel
theorem dX6_split_211 : decode cX6_split 211 = .ok (.ireturn, 1) := by decide +kernel
def L_split_158 : Nat → RS → Int32 → Int32 → Int32 → RS → Int32 → Prop
  | 0, _, _, _, _, _, _ => False
  | nf + 1, R, x1, x2, x3, R', r => if x3 = 0 then (R' = R ∧ r = (R.1 45)) else (if (R.1 45) ≤ 0 then (R' = R ∧ r = (R.1 45)) else (vp_in ((R.1 45) - 1) 12 ∧ (vp_in ((R.1 45) - 1) 12 ∧ (if (R.2.1 46 ((R.1 45) - 1).toNatClampNeg) = (R.2.1 47 ((R.1 45) - 1).toNatClampNeg) then (L_split_158 nf (mf R 45 ((R.1 45) - 1)) x1 x2 x3 R' r) else (R' = R ∧ r = (R.1 45))))))
set_option maxHeartbeats 4000000 in
set_option maxRecDepth 100000 in
theorem L_split_158_ok {l : Launch} {G : PG} {h : Nat} {q : Nat → Nat} {R' : RS} {r : Int32} {p : Program} {e : Env} {s : State} {m : MethodId} {below : List Frame} {meth : Method} {c : Code} {A : Nat → Prop} (F : bF p s m meth c cX6_split 4 (some .int) ([.ref h] : List Value).toArray yX6_split) (hK : pg_K G s) (hA : ∀ q, s.heap.size ≤ q → A q) : ∀ (nf : Nat) (R : RS) (x1 : Int32) (x2 : Int32) (x3 : Int32) (H : Heap) (locs : List Loc) (ls : Array Slot), lv_has ls 4 [(3, .int x3), (2, .int x2), (1, .int x1), (0, .ref h)] → L_split_158 nf R x1 x2 x3 R' r → va_P G.1 vwCl (mW G h q R) H → va_D A (mW G h q R) → va_S A s.heap H locs → W p l e { frames := 7, cells := 0, slots := 0, locals := 157 } s m ([.ref h] : List Value).toArray below meth c H locs 0 0 (MQ below (va_Qi (fun (r9 : Int32) (_ : Unit) => r9 = r) (oB G A (fun (_ : Unit) => mW G h q R')) A) ([.ref h] : List Value).toArray s 0 0 A) (F0 m 158 ls []) := by
  have hx := F.1.1; have hb := F.1.2.1; have hml := F.1.2.2.1; have hts := F.1.2.2.2.2
  have hown : s.vm.findClass RX6 = some m.cls := F.1.2.2.2.1
  intro nf
  induction nf with
  | zero => intro R x1 x2 x3 H locs ls hl hE; exact hE.elim
  | succ nf ih =>
    intro R x1 x2 x3 H locs ls hl hE hP hD hS
    unfold L_split_158 at hE
    refine lv_iload_n hx hb dX6_split_158 rfl (lv_at hl 0 rfl) ?_
    refine lv_if_eq (tgt := 207) hx hb dX6_split_159 (by decide) (fun h11 => ?_) (fun h11 => ?_)
    ·
      rw [if_pos h11] at hE
      refine lv_aload_n hx hb dX6_split_207 rfl (lv_at hl 3 rfl) ?_
      refine va_get (D := G.1) (ci := 6) (C := RX6) (T := TX6) (N := 48) hx hb hts inX6 hown hK.1 hP 0 mW_0 rfl 45 (by decide) (hts _ w_891) (fun _ h9 => h9) mF_45 dX6_split_208 ?_
      obtain ⟨rfl, rfl⟩ := hE
      exact en_i F hS _ () (by rfl) rfl hP hD (Nat.le_refl _) (Nat.le_refl _) dX6_split_211
    ·
      rw [if_neg h11] at hE
      refine lv_aload_n hx hb dX6_split_162 rfl (lv_at hl 3 rfl) ?_
      refine va_get (D := G.1) (ci := 6) (C := RX6) (T := TX6) (N := 48) hx hb hts inX6 hown hK.1 hP 0 mW_0 rfl 45 (by decide) (hts _ w_891) (fun _ h9 => h9) mF_45 dX6_split_163 ?_
      refine lv_if_le (tgt := 207) hx hb dX6_split_166 (by decide) (fun h12 => ?_) (fun h12 => ?_)
      ·
        rw [if_pos h12] at hE
        refine lv_aload_n hx hb dX6_split_207 rfl (lv_at hl 3 rfl) ?_
        refine va_get (D := G.1) (ci := 6) (C := RX6) (T := TX6) (N := 48) hx hb hts inX6 hown hK.1 hP 0 mW_0 rfl 45 (by decide) (hts _ w_891) (fun _ h9 => h9) mF_45 dX6_split_208 ?_
        obtain ⟨rfl, rfl⟩ := hE
        exact en_i F hS _ () (by rfl) rfl hP hD (Nat.le_refl _) (Nat.le_refl _) dX6_split_211
      ·
        rw [if_neg h12] at hE
        refine lv_aload_n hx hb dX6_split_169 rfl (lv_at hl 3 rfl) ?_
        refine va_get (D := G.1) (ci := 6) (C := RX6) (T := TX6) (N := 48) hx hb hts inX6 hown hK.1 hP 0 mW_0 rfl 46 (by decide) (hts _ w_892) (fun _ h9 => h9) mF_46 dX6_split_170 ?_
        refine lv_aload_n hx hb dX6_split_173 rfl (lv_at hl 3 rfl) ?_
        refine va_get (D := G.1) (ci := 6) (C := RX6) (T := TX6) (N := 48) hx hb hts inX6 hown hK.1 hP 0 mW_0 rfl 45 (by decide) (hts _ w_891) (fun _ h9 => h9) mF_45 dX6_split_174 ?_
        refine lv_iconst (v := 1) hx hb dX6_split_177 (by decide) ?_
        refine lv_isub hx hb dX6_split_178 ?_
        obtain ⟨hin, hE⟩ := hE
        refine va_iald (D := G.1) hx hb hK.1 hP 29 0 mW_g46 rfl hin dX6_split_179 ?_
        refine lv_aload_n hx hb dX6_split_180 rfl (lv_at hl 3 rfl) ?_
        refine va_get (D := G.1) (ci := 6) (C := RX6) (T := TX6) (N := 48) hx hb hts inX6 hown hK.1 hP 0 mW_0 rfl 47 (by decide) (hts _ w_893) (fun _ h9 => h9) mF_47 dX6_split_181 ?_
        refine lv_aload_n hx hb dX6_split_184 rfl (lv_at hl 3 rfl) ?_
        refine va_get (D := G.1) (ci := 6) (C := RX6) (T := TX6) (N := 48) hx hb hts inX6 hown hK.1 hP 0 mW_0 rfl 45 (by decide) (hts _ w_891) (fun _ h9 => h9) mF_45 dX6_split_185 ?_
        refine lv_iconst (v := 1) hx hb dX6_split_188 (by decide) ?_
        refine lv_isub hx hb dX6_split_189 ?_
        obtain ⟨hin, hE⟩ := hE
        refine va_iald (D := G.1) hx hb hK.1 hP 30 0 mW_g47 rfl hin dX6_split_190 ?_
        refine lv_icmp_ne (tgt := 207) hx hb dX6_split_191 (by decide) (fun h13 => ?_) (fun h13 => ?_)
        ·
          rw [if_neg h13] at hE
          refine lv_aload_n hx hb dX6_split_207 rfl (lv_at hl 3 rfl) ?_
          refine va_get (D := G.1) (ci := 6) (C := RX6) (T := TX6) (N := 48) hx hb hts inX6 hown hK.1 hP 0 mW_0 rfl 45 (by decide) (hts _ w_891) (fun _ h9 => h9) mF_45 dX6_split_208 ?_
          obtain ⟨rfl, rfl⟩ := hE
          exact en_i F hS _ () (by rfl) rfl hP hD (Nat.le_refl _) (Nat.le_refl _) dX6_split_211
        ·
          rw [if_pos h13] at hE
          refine lv_aload_n hx hb dX6_split_194 rfl (lv_at hl 3 rfl) ?_
          refine lv_dup hx hb dX6_split_195 rfl ?_
          refine va_get (D := G.1) (ci := 6) (C := RX6) (T := TX6) (N := 48) hx hb hts inX6 hown hK.1 hP 0 mW_0 rfl 45 (by decide) (hts _ w_891) (fun _ h9 => h9) mF_45 dX6_split_196 ?_
          refine lv_iconst (v := 1) hx hb dX6_split_199 (by decide) ?_
          refine lv_isub hx hb dX6_split_200 ?_
          refine va_put (D := G.1) (ci := 6) (v := .int ((R.1 45) - 1)) (ty := .int) (C := RX6) (T := TX6) (N := 48) hx hb hts inX6 tyX6 tyX6_ok nmX6 hown hK.1 hP hD hS 0 mW_0 rfl 45 (by decide) (hts _ w_891) (fun _ h9 => h9) rfl (by decide +kernel) rfl rfl mF_l45 dX6_split_201 (fun H locs hP hD hS => ?_)
          rw [mW_f45] at hP hD
          refine lv_goto (tgt := 158) hx hb dX6_split_204 (by decide) ?_
          exact ih (mf R 45 ((R.1 45) - 1)) x1 x2 x3 _ _ ls (lv_sub hl [0, 1, 2, 3] rfl) hE hP hD hS
def L_split_41 : Nat → RS → Int32 → Int32 → Int32 → RS → Int32 → Prop
  | 0, _, _, _, _, _, _ => False
  | nf + 1, R, x1, x2, x3, R', r => vp_in 1 3 ∧ (if (R.2.1 2 (1 : Int32).toNatClampNeg) < x2 then (vp_in (R.1 45) 12 ∧ (vp_in 1 3 ∧ (vp_in (R.1 45) 12 ∧ (∃ nf : Nat, L_split_158 nf (mf (ma (ma R 46 ((R.1 45).toNatClampNeg) x1) 47 ((R.1 45).toNatClampNeg) (R.2.1 2 (1 : Int32).toNatClampNeg)) 45 ((R.1 45) + 1)) x1 x2 x3 R' r)))) else (∃ (R5 : RS) (r6 : Int32), E_search R x2 R5 r6 ∧ (if r6 = 0 then (vp_in (R5.1 45) 12 ∧ (vp_in 1 3 ∧ (vp_in (R5.1 45) 12 ∧ (∃ nf : Nat, L_split_158 nf (mf (ma (ma R5 46 ((R5.1 45).toNatClampNeg) x1) 47 ((R5.1 45).toNatClampNeg) (R5.2.1 2 (1 : Int32).toNatClampNeg)) 45 ((R5.1 45) + 1)) x1 x2 x3 R' r)))) else (∃ (R8 : RS) (r9 : Int32), E_behindMatch R5 R8 r9 ∧ (vp_in 1 10 ∧ (if (R8.2.1 30 (1 : Int32).toNatClampNeg) = 0 then (L_split_41 nf R8 x1 r9 x3 R' r) else (vp_in (R8.1 45) 12 ∧ (vp_in 0 10 ∧ (vp_in (R8.1 45) 12 ∧ (vp_in 1 10 ∧ (L_split_41 nf (mf (ma (ma R8 46 ((R8.1 45).toNatClampNeg) x1) 47 ((R8.1 45).toNatClampNeg) (R8.2.1 30 (0 : Int32).toNatClampNeg)) 45 ((R8.1 45) + 1)) (R8.2.1 30 (1 : Int32).toNatClampNeg) r9 1 R' r)))))))))))
set_option maxHeartbeats 4000000 in
set_option maxRecDepth 100000 in
theorem L_split_41_ok {l : Launch} {G : PG} {h : Nat} {q : Nat → Nat} {R' : RS} {r : Int32} {p : Program} {e : Env} {s : State} {m : MethodId} {below : List Frame} {meth : Method} {c : Code} {A : Nat → Prop} (F : bF p s m meth c cX6_split 4 (some .int) ([.ref h] : List Value).toArray yX6_split) (hK : pg_K G s) (hA : ∀ q, s.heap.size ≤ q → A q) : ∀ (nf : Nat) (R : RS) (x1 : Int32) (x2 : Int32) (x3 : Int32) (H : Heap) (locs : List Loc) (ls : Array Slot), lv_has ls 4 [(3, .int x3), (2, .int x2), (1, .int x1), (0, .ref h)] → L_split_41 nf R x1 x2 x3 R' r → va_P G.1 vwCl (mW G h q R) H → va_D A (mW G h q R) → va_S A s.heap H locs → W p l e { frames := 7, cells := 0, slots := 0, locals := 157 } s m ([.ref h] : List Value).toArray below meth c H locs 0 0 (MQ below (va_Qi (fun (r9 : Int32) (_ : Unit) => r9 = r) (oB G A (fun (_ : Unit) => mW G h q R')) A) ([.ref h] : List Value).toArray s 0 0 A) (F0 m 41 ls []) := by
  have hx := F.1.1; have hb := F.1.2.1; have hml := F.1.2.2.1; have hts := F.1.2.2.2.2
  have hown : s.vm.findClass RX6 = some m.cls := F.1.2.2.2.1
  intro nf
  induction nf with
  | zero => intro R x1 x2 x3 H locs ls hl hE; exact hE.elim
  | succ nf ih =>
    intro R x1 x2 x3 H locs ls hl hE hP hD hS
    unfold L_split_41 at hE
    refine lv_iload_n hx hb dX6_split_41 rfl (lv_at hl 1 rfl) ?_
    refine lv_aload_n hx hb dX6_split_42 rfl (lv_at hl 3 rfl) ?_
    refine va_get (D := G.1) (ci := 6) (C := RX6) (T := TX6) (N := 48) hx hb hts inX6 hown hK.1 hP 0 mW_0 rfl 2 (by decide) (hts _ w_848) (fun _ h9 => h9) mF_2 dX6_split_43 ?_
    refine lv_iconst (v := 1) hx hb dX6_split_46 (by decide) ?_
    obtain ⟨hin, hE⟩ := hE
    refine va_iald (D := G.1) hx hb hK.1 hP 2 0 mW_g2 rfl hin dX6_split_47 ?_
    refine lv_icmp_gt (tgt := 123) hx hb dX6_split_48 (by decide) (fun h4 => ?_) (fun h4 => ?_)
    ·
      rw [if_pos h4] at hE
      refine lv_aload_n hx hb dX6_split_123 rfl (lv_at hl 3 rfl) ?_
      refine va_get (D := G.1) (ci := 6) (C := RX6) (T := TX6) (N := 48) hx hb hts inX6 hown hK.1 hP 0 mW_0 rfl 46 (by decide) (hts _ w_892) (fun _ h9 => h9) mF_46 dX6_split_124 ?_
      refine lv_aload_n hx hb dX6_split_127 rfl (lv_at hl 3 rfl) ?_
      refine va_get (D := G.1) (ci := 6) (C := RX6) (T := TX6) (N := 48) hx hb hts inX6 hown hK.1 hP 0 mW_0 rfl 45 (by decide) (hts _ w_891) (fun _ h9 => h9) mF_45 dX6_split_128 ?_
      refine lv_iload_n hx hb dX6_split_131 rfl (lv_at hl 2 rfl) ?_
      obtain ⟨hin, hE⟩ := hE
      refine va_iast (D := G.1) hx hb hK.1 hP hD hS 29 0 mW_g46 rfl hin dX6_split_132 (fun H locs hP hD hS => ?_)
      rw [mW_a46] at hP hD
      refine lv_aload_n hx hb dX6_split_133 rfl (lv_at hl 3 rfl) ?_
      refine va_get (D := G.1) (ci := 6) (C := RX6) (T := TX6) (N := 48) hx hb hts inX6 hown hK.1 hP 0 mW_0 rfl 47 (by decide) (hts _ w_893) (fun _ h9 => h9) mF_47 dX6_split_134 ?_
      refine lv_aload_n hx hb dX6_split_137 rfl (lv_at hl 3 rfl) ?_
      refine va_get (D := G.1) (ci := 6) (C := RX6) (T := TX6) (N := 48) hx hb hts inX6 hown hK.1 hP 0 mW_0 rfl 45 (by decide) (hts _ w_891) (fun _ h9 => h9) mF_45 dX6_split_138 ?_
      refine tp_i (R.1 45) rfl ?_
      refine lv_aload_n hx hb dX6_split_141 rfl (lv_at hl 3 rfl) ?_
      refine va_get (D := G.1) (ci := 6) (C := RX6) (T := TX6) (N := 48) hx hb hts inX6 hown hK.1 hP 0 mW_0 rfl 2 (by decide) (hts _ w_848) (fun _ h9 => h9) mF_2 dX6_split_142 ?_
      refine lv_iconst (v := 1) hx hb dX6_split_145 (by decide) ?_
      obtain ⟨hin, hE⟩ := hE
      refine va_iald (D := G.1) hx hb hK.1 hP 2 0 mW_g2 rfl hin dX6_split_146 ?_
      refine tp_i (R.2.1 2 (1 : Int32).toNatClampNeg) rfl ?_
      obtain ⟨hin, hE⟩ := hE
      refine va_iast (D := G.1) hx hb hK.1 hP hD hS 30 0 mW_g47 rfl hin dX6_split_147 (fun H locs hP hD hS => ?_)
      rw [mW_a47] at hP hD
      refine lv_aload_n hx hb dX6_split_148 rfl (lv_at hl 3 rfl) ?_
      refine lv_dup hx hb dX6_split_149 rfl ?_
      refine va_get (D := G.1) (ci := 6) (C := RX6) (T := TX6) (N := 48) hx hb hts inX6 hown hK.1 hP 0 mW_0 rfl 45 (by decide) (hts _ w_891) (fun _ h9 => h9) mF_45 dX6_split_150 ?_
      refine tp_i (R.1 45) rfl ?_
      refine lv_iconst (v := 1) hx hb dX6_split_153 (by decide) ?_
      refine lv_iadd hx hb dX6_split_154 ?_
      refine va_put (D := G.1) (ci := 6) (v := .int ((R.1 45) + 1)) (ty := .int) (C := RX6) (T := TX6) (N := 48) hx hb hts inX6 tyX6 tyX6_ok nmX6 hown hK.1 hP hD hS 0 mW_0 rfl 45 (by decide) (hts _ w_891) (fun _ h9 => h9) rfl (by decide +kernel) rfl rfl mF_l45 dX6_split_155 (fun H locs hP hD hS => ?_)
      rw [mW_f45] at hP hD
      obtain ⟨nf, hE⟩ := hE
      exact L_split_158_ok F hK hA nf (mf (ma (ma R 46 ((R.1 45).toNatClampNeg) x1) 47 ((R.1 45).toNatClampNeg) (R.2.1 2 (1 : Int32).toNatClampNeg)) 45 ((R.1 45) + 1)) x1 x2 x3 _ _ ls (lv_sub hl [0, 1, 2, 3] rfl) hE hP hD hS
    ·
      rw [if_neg h4] at hE
      refine lv_aload_n hx hb dX6_split_51 rfl (lv_at hl 3 rfl) ?_
      refine lv_iload_n hx hb dX6_split_52 rfl (lv_at hl 1 rfl) ?_
      obtain ⟨R5, r6, hg, hE⟩ := hE
      refine kA_i (va_runV (As := [.int x2]) (rest := []) F.1 (e_search l G h q R x2 R5 r6 hg _) (cwV 1 hts (aw_V w_1200 w_1202 ws_X6_search w_6 w_1203) rfl rfl rfl (by decide +kernel) ⟨by decide, by decide⟩) ⟨cS_blind, va_recv (q := (RX6, TX6, 48)) (ci := 6) (q0 := 0) hK.1 hP rfl mW_0, cS_pre hP hD hK⟩ rfl rfl hl.1 rfl (lv_room (Nat.le_of_ble_eq_true rfl)) dX6_split_53 ⟨Nat.le_refl _, Nat.le_refl _⟩) hD hS hA (fun r9 u0 H locs hp hP hD hS => ?_)
      have hp := hp.symm; subst hp
      refine lv_if_eq (tgt := 123) hx hb dX6_split_56 (by decide) (fun h7 => ?_) (fun h7 => ?_)
      ·
        rw [if_pos h7] at hE
        refine lv_aload_n hx hb dX6_split_123 rfl (lv_at hl 3 rfl) ?_
        refine va_get (D := G.1) (ci := 6) (C := RX6) (T := TX6) (N := 48) hx hb hts inX6 hown hK.1 hP 0 mW_0 rfl 46 (by decide) (hts _ w_892) (fun _ h9 => h9) mF_46 dX6_split_124 ?_
        refine lv_aload_n hx hb dX6_split_127 rfl (lv_at hl 3 rfl) ?_
        refine va_get (D := G.1) (ci := 6) (C := RX6) (T := TX6) (N := 48) hx hb hts inX6 hown hK.1 hP 0 mW_0 rfl 45 (by decide) (hts _ w_891) (fun _ h9 => h9) mF_45 dX6_split_128 ?_
        refine lv_iload_n hx hb dX6_split_131 rfl (lv_at hl 2 rfl) ?_
        obtain ⟨hin, hE⟩ := hE
        refine va_iast (D := G.1) hx hb hK.1 hP hD hS 29 0 mW_g46 rfl hin dX6_split_132 (fun H locs hP hD hS => ?_)
        rw [mW_a46] at hP hD
        refine lv_aload_n hx hb dX6_split_133 rfl (lv_at hl 3 rfl) ?_
        refine va_get (D := G.1) (ci := 6) (C := RX6) (T := TX6) (N := 48) hx hb hts inX6 hown hK.1 hP 0 mW_0 rfl 47 (by decide) (hts _ w_893) (fun _ h9 => h9) mF_47 dX6_split_134 ?_
        refine lv_aload_n hx hb dX6_split_137 rfl (lv_at hl 3 rfl) ?_
        refine va_get (D := G.1) (ci := 6) (C := RX6) (T := TX6) (N := 48) hx hb hts inX6 hown hK.1 hP 0 mW_0 rfl 45 (by decide) (hts _ w_891) (fun _ h9 => h9) mF_45 dX6_split_138 ?_
        refine tp_i (R5.1 45) rfl ?_
        refine lv_aload_n hx hb dX6_split_141 rfl (lv_at hl 3 rfl) ?_
        refine va_get (D := G.1) (ci := 6) (C := RX6) (T := TX6) (N := 48) hx hb hts inX6 hown hK.1 hP 0 mW_0 rfl 2 (by decide) (hts _ w_848) (fun _ h9 => h9) mF_2 dX6_split_142 ?_
        refine lv_iconst (v := 1) hx hb dX6_split_145 (by decide) ?_
        obtain ⟨hin, hE⟩ := hE
        refine va_iald (D := G.1) hx hb hK.1 hP 2 0 mW_g2 rfl hin dX6_split_146 ?_
        refine tp_i (R5.2.1 2 (1 : Int32).toNatClampNeg) rfl ?_
        obtain ⟨hin, hE⟩ := hE
        refine va_iast (D := G.1) hx hb hK.1 hP hD hS 30 0 mW_g47 rfl hin dX6_split_147 (fun H locs hP hD hS => ?_)
        rw [mW_a47] at hP hD
        refine lv_aload_n hx hb dX6_split_148 rfl (lv_at hl 3 rfl) ?_
        refine lv_dup hx hb dX6_split_149 rfl ?_
        refine va_get (D := G.1) (ci := 6) (C := RX6) (T := TX6) (N := 48) hx hb hts inX6 hown hK.1 hP 0 mW_0 rfl 45 (by decide) (hts _ w_891) (fun _ h9 => h9) mF_45 dX6_split_150 ?_
        refine tp_i (R5.1 45) rfl ?_
        refine lv_iconst (v := 1) hx hb dX6_split_153 (by decide) ?_
        refine lv_iadd hx hb dX6_split_154 ?_
        refine va_put (D := G.1) (ci := 6) (v := .int ((R5.1 45) + 1)) (ty := .int) (C := RX6) (T := TX6) (N := 48) hx hb hts inX6 tyX6 tyX6_ok nmX6 hown hK.1 hP hD hS 0 mW_0 rfl 45 (by decide) (hts _ w_891) (fun _ h9 => h9) rfl (by decide +kernel) rfl rfl mF_l45 dX6_split_155 (fun H locs hP hD hS => ?_)
        rw [mW_f45] at hP hD
        obtain ⟨nf, hE⟩ := hE
        exact L_split_158_ok F hK hA nf (mf (ma (ma R5 46 ((R5.1 45).toNatClampNeg) x1) 47 ((R5.1 45).toNatClampNeg) (R5.2.1 2 (1 : Int32).toNatClampNeg)) 45 ((R5.1 45) + 1)) x1 x2 x3 _ _ ls (lv_sub hl [0, 1, 2, 3] rfl) hE hP hD hS
      ·
        rw [if_neg h7] at hE
        refine lv_aload_n hx hb dX6_split_59 rfl (lv_at hl 3 rfl) ?_
        obtain ⟨R8, r9, hg, hE⟩ := hE
        refine kA_i (va_runV (As := []) (rest := []) F.1 (e_behindMatch l G h q R5 R8 r9 hg _) (cwV 0 hts (aw_V w_1236 w_1238 ws_X6_behindMatch w_6 w_1239) rfl rfl rfl (by decide +kernel) ⟨by decide, by decide⟩) ⟨cS_blind, va_recv (q := (RX6, TX6, 48)) (ci := 6) (q0 := 0) hK.1 hP rfl mW_0, cS_pre hP hD hK⟩ rfl rfl hl.1 rfl (lv_room (Nat.le_of_ble_eq_true rfl)) dX6_split_60 ⟨Nat.le_refl _, Nat.le_refl _⟩) hD hS hA (fun r9 u0 H locs hp hP hD hS => ?_)
        have hp := hp.symm; subst hp
        refine lv_istore_n hx hb dX6_split_63 rfl hl (by decide) rfl (fun ls hl => ?_)
        have hl : lv_has ls 4 [(2, .int r9), (3, .int x3), (1, .int x1), (0, .ref h)] := hl
        refine lv_aload_n hx hb dX6_split_64 rfl (lv_at hl 3 rfl) ?_
        refine va_get (D := G.1) (ci := 6) (C := RX6) (T := TX6) (N := 48) hx hb hts inX6 hown hK.1 hP 0 mW_0 rfl 30 (by decide) (hts _ w_876) (fun _ h9 => h9) mF_30 dX6_split_65 ?_
        refine lv_iconst (v := 1) hx hb dX6_split_68 (by decide) ?_
        obtain ⟨hin, hE⟩ := hE
        refine va_iald (D := G.1) hx hb hK.1 hP 16 0 mW_g30 rfl hin dX6_split_69 ?_
        refine lv_if_ne (tgt := 76) hx hb dX6_split_70 (by decide) (fun h10 => ?_) (fun h10 => ?_)
        ·
          rw [if_neg h10] at hE
          refine lv_iconst (v := 1) hx hb dX6_split_76 (by decide) ?_
          refine lv_istore_n hx hb dX6_split_77 rfl hl (by decide) rfl (fun ls hl => ?_)
          have hl : lv_has ls 4 [(3, .int 1), (2, .int r9), (1, .int x1), (0, .ref h)] := hl
          refine lv_aload_n hx hb dX6_split_78 rfl (lv_at hl 3 rfl) ?_
          refine va_get (D := G.1) (ci := 6) (C := RX6) (T := TX6) (N := 48) hx hb hts inX6 hown hK.1 hP 0 mW_0 rfl 46 (by decide) (hts _ w_892) (fun _ h9 => h9) mF_46 dX6_split_79 ?_
          refine lv_aload_n hx hb dX6_split_82 rfl (lv_at hl 3 rfl) ?_
          refine va_get (D := G.1) (ci := 6) (C := RX6) (T := TX6) (N := 48) hx hb hts inX6 hown hK.1 hP 0 mW_0 rfl 45 (by decide) (hts _ w_891) (fun _ h9 => h9) mF_45 dX6_split_83 ?_
          refine lv_iload_n hx hb dX6_split_86 rfl (lv_at hl 2 rfl) ?_
          obtain ⟨hin, hE⟩ := hE
          refine va_iast (D := G.1) hx hb hK.1 hP hD hS 29 0 mW_g46 rfl hin dX6_split_87 (fun H locs hP hD hS => ?_)
          rw [mW_a46] at hP hD
          refine lv_aload_n hx hb dX6_split_88 rfl (lv_at hl 3 rfl) ?_
          refine va_get (D := G.1) (ci := 6) (C := RX6) (T := TX6) (N := 48) hx hb hts inX6 hown hK.1 hP 0 mW_0 rfl 47 (by decide) (hts _ w_893) (fun _ h9 => h9) mF_47 dX6_split_89 ?_
          refine lv_aload_n hx hb dX6_split_92 rfl (lv_at hl 3 rfl) ?_
          refine va_get (D := G.1) (ci := 6) (C := RX6) (T := TX6) (N := 48) hx hb hts inX6 hown hK.1 hP 0 mW_0 rfl 45 (by decide) (hts _ w_891) (fun _ h9 => h9) mF_45 dX6_split_93 ?_
          refine tp_i (R8.1 45) rfl ?_
          refine lv_aload_n hx hb dX6_split_96 rfl (lv_at hl 3 rfl) ?_
          refine va_get (D := G.1) (ci := 6) (C := RX6) (T := TX6) (N := 48) hx hb hts inX6 hown hK.1 hP 0 mW_0 rfl 30 (by decide) (hts _ w_876) (fun _ h9 => h9) mF_30 dX6_split_97 ?_
          refine lv_iconst (v := 0) hx hb dX6_split_100 (by decide) ?_
          obtain ⟨hin, hE⟩ := hE
          refine va_iald (D := G.1) hx hb hK.1 hP 16 0 mW_g30 rfl hin dX6_split_101 ?_
          refine tp_i (R8.2.1 30 (0 : Int32).toNatClampNeg) rfl ?_
          obtain ⟨hin, hE⟩ := hE
          refine va_iast (D := G.1) hx hb hK.1 hP hD hS 30 0 mW_g47 rfl hin dX6_split_102 (fun H locs hP hD hS => ?_)
          rw [mW_a47] at hP hD
          refine lv_aload_n hx hb dX6_split_103 rfl (lv_at hl 3 rfl) ?_
          refine lv_dup hx hb dX6_split_104 rfl ?_
          refine va_get (D := G.1) (ci := 6) (C := RX6) (T := TX6) (N := 48) hx hb hts inX6 hown hK.1 hP 0 mW_0 rfl 45 (by decide) (hts _ w_891) (fun _ h9 => h9) mF_45 dX6_split_105 ?_
          refine tp_i (R8.1 45) rfl ?_
          refine lv_iconst (v := 1) hx hb dX6_split_108 (by decide) ?_
          refine lv_iadd hx hb dX6_split_109 ?_
          refine va_put (D := G.1) (ci := 6) (v := .int ((R8.1 45) + 1)) (ty := .int) (C := RX6) (T := TX6) (N := 48) hx hb hts inX6 tyX6 tyX6_ok nmX6 hown hK.1 hP hD hS 0 mW_0 rfl 45 (by decide) (hts _ w_891) (fun _ h9 => h9) rfl (by decide +kernel) rfl rfl mF_l45 dX6_split_110 (fun H locs hP hD hS => ?_)
          rw [mW_f45] at hP hD
          refine lv_aload_n hx hb dX6_split_113 rfl (lv_at hl 3 rfl) ?_
          refine va_get (D := G.1) (ci := 6) (C := RX6) (T := TX6) (N := 48) hx hb hts inX6 hown hK.1 hP 0 mW_0 rfl 30 (by decide) (hts _ w_876) (fun _ h9 => h9) mF_30 dX6_split_114 ?_
          refine lv_iconst (v := 1) hx hb dX6_split_117 (by decide) ?_
          obtain ⟨hin, hE⟩ := hE
          refine va_iald (D := G.1) hx hb hK.1 hP 16 0 mW_g30 rfl hin dX6_split_118 ?_
          refine tp_i (R8.2.1 30 (1 : Int32).toNatClampNeg) rfl ?_
          refine lv_istore_n hx hb dX6_split_119 rfl hl (by decide) rfl (fun ls hl => ?_)
          have hl : lv_has ls 4 [(1, .int (R8.2.1 30 (1 : Int32).toNatClampNeg)), (3, .int 1), (2, .int r9), (0, .ref h)] := hl
          refine lv_goto (tgt := 41) hx hb dX6_split_120 (by decide) ?_
          exact ih (mf (ma (ma R8 46 ((R8.1 45).toNatClampNeg) x1) 47 ((R8.1 45).toNatClampNeg) (R8.2.1 30 (0 : Int32).toNatClampNeg)) 45 ((R8.1 45) + 1)) (R8.2.1 30 (1 : Int32).toNatClampNeg) r9 1 _ _ ls (lv_sub hl [1, 2, 0, 3] rfl) hE hP hD hS
        ·
          rw [if_pos h10] at hE
          refine lv_goto (tgt := 41) hx hb dX6_split_73 (by decide) ?_
          exact ih R8 x1 r9 x3 _ _ ls (lv_sub hl [1, 0, 2, 3] rfl) hE hP hD hS
def E_split (R : RS)  (R' : RS) (r : Int32) : Prop := if (if (R.1 7) = 0 then 1 else 0 : Int32) ≤ 0 then (∃ nf : Nat, L_split_41 nf (mf (mf (mf R 0 (if (R.1 7) = 0 then 1 else 0 : Int32)) 41 0) 45 0) 0 0 0 R' r) else (R' = (mf R 0 (if (R.1 7) = 0 then 1 else 0 : Int32)) ∧ r = 0)
set_option maxHeartbeats 4000000 in
set_option maxRecDepth 100000 in
theorem e_split (l : Launch) (G : PG) (h : Nat) (q : Nat → Nat) (R : RS)  (R' : RS) (r : Int32) (hE : E_split R R' r) : Ci l yX6_split (Cond.code yX6_split cX6_split 4 (some .int) :: aW) { frames := 7, cells := 0, slots := 0, locals := 157 } G (mW G h q R) [.ref h] (fun (r9 : Int32) (_ : Unit) => r9 = r) (fun (_ : Unit) => mW G h q R') 0 0 := by
  refine ofB (y := yX6_split) (G := G) (cc := cX6_split) (maxL := 4) (ret := (some .int)) (Qc := fun A => va_Qi (fun (r9 : Int32) (_ : Unit) => r9 = r) (oB G A (fun (_ : Unit) => mW G h q R')) A) (by decide) rfl ?_
  intro p e s m below meth c A F hK hA hP hD
  have hS : va_S A s.heap s.heap [] := va_S.rf
  have hx := F.1.1; have hb := F.1.2.1; have hml := F.1.2.2.1; have hts := F.1.2.2.2.2
  have hown : s.vm.findClass RX6 = some m.cls := F.1.2.2.2.1
  have hl := lv_entry ([.ref h]) (n := 4) (Nat.le_of_ble_eq_true rfl)
  rw [lg_entry_eq]
  generalize (lg_sl ([.ref h]) ++ List.replicate (4 - (lg_sl ([.ref h])).length) Slot.unset).toArray = ls at hl ⊢
  have hl : lv_has ls 4 [(0, .ref h)] := hl
  unfold E_split at hE
  refine lv_aload_n hx hb dX6_split_0 rfl (lv_at hl 0 rfl) ?_
  refine lv_aload_n hx hb dX6_split_1 rfl (lv_at hl 0 rfl) ?_
  refine va_get (D := G.1) (ci := 6) (C := RX6) (T := TX6) (N := 48) hx hb hts inX6 hown hK.1 hP 0 mW_0 rfl 7 (by decide) (hts _ w_853) (fun _ h9 => h9) mF_7 dX6_split_2 ?_
  refine jn_v (v := (if (R.1 7) = 0 then 1 else 0 : Int32)) (pcM := 13) (rest := [.ref h]) (fun kM => ?_) ?_
  ·
    refine lv_if_eq (tgt := 12) hx hb dX6_split_5 (by decide) (fun h2 => ?_) (fun h2 => ?_)
    ·
      refine lv_iconst (v := 1) hx hb dX6_split_12 (by decide) ?_
      exact kM _ (by try rw [if_pos h2])
    ·
      refine lv_iconst (v := 0) hx hb dX6_split_8 (by decide) ?_
      refine lv_goto (tgt := 13) hx hb dX6_split_9 (by decide) ?_
      exact kM _ (by try rw [if_neg h2])
  refine va_put (D := G.1) (ci := 6) (v := .int (if (R.1 7) = 0 then 1 else 0 : Int32)) (ty := .int) (C := RX6) (T := TX6) (N := 48) hx hb hts inX6 tyX6 tyX6_ok nmX6 hown hK.1 hP hD hS 0 mW_0 rfl 0 (by decide) (hts _ w_846) (fun _ h9 => h9) rfl (by decide +kernel) rfl rfl mF_l0 dX6_split_13 (fun H locs hP hD hS => ?_)
  rw [mW_f0] at hP hD
  refine lv_aload_n hx hb dX6_split_16 rfl (lv_at hl 0 rfl) ?_
  refine va_get (D := G.1) (ci := 6) (C := RX6) (T := TX6) (N := 48) hx hb hts inX6 hown hK.1 hP 0 mW_0 rfl 0 (by decide) (hts _ w_846) (fun _ h9 => h9) mF_0 dX6_split_17 ?_
  refine tp_i (if (R.1 7) = 0 then 1 else 0 : Int32) rfl ?_
  refine lv_if_le (tgt := 25) hx hb dX6_split_20 (by decide) (fun h3 => ?_) (fun h3 => ?_)
  ·
    rw [if_pos h3] at hE
    refine lv_aload_n hx hb dX6_split_25 rfl (lv_at hl 0 rfl) ?_
    refine lv_iconst (v := 0) hx hb dX6_split_26 (by decide) ?_
    refine va_put (D := G.1) (ci := 6) (v := .int 0) (ty := .boolean) (C := RX6) (T := TX6) (N := 48) hx hb hts inX6 tyX6 tyX6_ok nmX6 hown hK.1 hP hD hS 0 mW_0 rfl 41 (by decide) (hts _ w_887) (fun _ h9 => h9) rfl (by decide +kernel) rfl rfl mF_l41 dX6_split_27 (fun H locs hP hD hS => ?_)
    rw [mW_f41] at hP hD
    refine lv_aload_n hx hb dX6_split_30 rfl (lv_at hl 0 rfl) ?_
    refine lv_iconst (v := 0) hx hb dX6_split_31 (by decide) ?_
    refine va_put (D := G.1) (ci := 6) (v := .int 0) (ty := .int) (C := RX6) (T := TX6) (N := 48) hx hb hts inX6 tyX6 tyX6_ok nmX6 hown hK.1 hP hD hS 0 mW_0 rfl 45 (by decide) (hts _ w_891) (fun _ h9 => h9) rfl (by decide +kernel) rfl rfl mF_l45 dX6_split_32 (fun H locs hP hD hS => ?_)
    rw [mW_f45] at hP hD
    refine lv_iconst (v := 0) hx hb dX6_split_35 (by decide) ?_
    refine lv_istore_n hx hb dX6_split_36 rfl hl (by decide) rfl (fun ls hl => ?_)
    have hl : lv_has ls 4 [(1, .int 0), (0, .ref h)] := hl
    refine lv_iconst (v := 0) hx hb dX6_split_37 (by decide) ?_
    refine lv_istore_n hx hb dX6_split_38 rfl hl (by decide) rfl (fun ls hl => ?_)
    have hl : lv_has ls 4 [(2, .int 0), (1, .int 0), (0, .ref h)] := hl
    refine lv_iconst (v := 0) hx hb dX6_split_39 (by decide) ?_
    refine lv_istore_n hx hb dX6_split_40 rfl hl (by decide) rfl (fun ls hl => ?_)
    have hl : lv_has ls 4 [(3, .int 0), (2, .int 0), (1, .int 0), (0, .ref h)] := hl
    obtain ⟨nf, hE⟩ := hE
    exact L_split_41_ok F hK hA nf (mf (mf (mf R 0 (if (R.1 7) = 0 then 1 else 0 : Int32)) 41 0) 45 0) 0 0 0 _ _ ls (lv_sub hl [0, 1, 2, 3] rfl) hE hP hD hS
  ·
    rw [if_neg h3] at hE
    refine lv_iconst (v := 0) hx hb dX6_split_23 (by decide) ?_
    obtain ⟨rfl, rfl⟩ := hE
    exact en_i F hS _ () (by rfl) rfl hP hD (Nat.le_refl _) (Nat.le_refl _) dX6_split_24

theorem dX6_piece_17 : decode cX6_piece 17 = .ok (.iconst 0, 1) := by decide +kernel
theorem dX6_piece_30 : decode cX6_piece 30 = .ok (.iload_n 2, 1) := by decide +kernel
theorem dX6_piece_31 : decode cX6_piece 31 = .ok (.ifCond .ne 12, 3) := by decide +kernel
theorem dX6_piece_34 : decode cX6_piece 34 = .ok (.aload_n 0, 1) := by decide +kernel
theorem dX6_piece_35 : decode cX6_piece 35 = .ok (.getfield 96, 3) := by decide +kernel
theorem dX6_piece_38 : decode cX6_piece 38 = .ok (.iload_n 1, 1) := by decide +kernel
theorem dX6_piece_39 : decode cX6_piece 39 = .ok (.iaload, 1) := by decide +kernel
theorem dX6_piece_40 : decode cX6_piece 40 = .ok (.goto 18, 3) := by decide +kernel
theorem dX6_piece_43 : decode cX6_piece 43 = .ok (.iload_n 2, 1) := by decide +kernel
theorem dX6_piece_44 : decode cX6_piece 44 = .ok (.iconst 1, 1) := by decide +kernel
theorem dX6_piece_45 : decode cX6_piece 45 = .ok (.if_icmp .ne 12, 3) := by decide +kernel
theorem dX6_piece_48 : decode cX6_piece 48 = .ok (.aload_n 0, 1) := by decide +kernel
theorem dX6_piece_49 : decode cX6_piece 49 = .ok (.getfield 99, 3) := by decide +kernel
theorem dX6_piece_52 : decode cX6_piece 52 = .ok (.iload_n 1, 1) := by decide +kernel
theorem dX6_piece_53 : decode cX6_piece 53 = .ok (.iaload, 1) := by decide +kernel
theorem dX6_piece_54 : decode cX6_piece 54 = .ok (.goto 4, 3) := by decide +kernel
theorem dX6_piece_57 : decode cX6_piece 57 = .ok (.iconst (-1), 1) := by decide +kernel
theorem dX6_piece_58 : decode cX6_piece 58 = .ok (.ireturn, 1) := by decide +kernel
def E_piece (R : RS) (a1 : Int32) (a2 : Int32) (R' : RS) (r : Int32) : Prop := if (if a1 < 0 then 1 else (if a1 < (R.1 45) then 0 else 1 : Int32) : Int32) ≤ 0 then (if a2 = 0 then (vp_in a1 12 ∧ (R' = (mf R 0 (if a1 < 0 then 1 else (if a1 < (R.1 45) then 0 else 1 : Int32) : Int32)) ∧ r = (R.2.1 46 a1.toNatClampNeg))) else (if a2 = 1 then (vp_in a1 12 ∧ (R' = (mf R 0 (if a1 < 0 then 1 else (if a1 < (R.1 45) then 0 else 1 : Int32) : Int32)) ∧ r = (R.2.1 47 a1.toNatClampNeg))) else (R' = (mf R 0 (if a1 < 0 then 1 else (if a1 < (R.1 45) then 0 else 1 : Int32) : Int32)) ∧ r = (-1)))) else (R' = (mf R 0 (if a1 < 0 then 1 else (if a1 < (R.1 45) then 0 else 1 : Int32) : Int32)) ∧ r = 0)
set_option maxHeartbeats 4000000 in
set_option maxRecDepth 100000 in
theorem e_piece (l : Launch) (G : PG) (h : Nat) (q : Nat → Nat) (R : RS) (a1 : Int32) (a2 : Int32) (R' : RS) (r : Int32) (hE : E_piece R a1 a2 R' r) : Ci l yX6_piece (Cond.code yX6_piece cX6_piece 3 (some .int) :: aW) { frames := 0, cells := 0, slots := 0, locals := 0 } G (mW G h q R) [.ref h, .int a1, .int a2] (fun (r9 : Int32) (_ : Unit) => r9 = r) (fun (_ : Unit) => mW G h q R') 0 0 := by
  refine ofB (y := yX6_piece) (G := G) (cc := cX6_piece) (maxL := 3) (ret := (some .int)) (Qc := fun A => va_Qi (fun (r9 : Int32) (_ : Unit) => r9 = r) (oB G A (fun (_ : Unit) => mW G h q R')) A) (by decide) rfl ?_
  intro p e s m below meth c A F hK hA hP hD
  have hS : va_S A s.heap s.heap [] := va_S.rf
  have hx := F.1.1; have hb := F.1.2.1; have hml := F.1.2.2.1; have hts := F.1.2.2.2.2
  have hown : s.vm.findClass RX6 = some m.cls := F.1.2.2.2.1
  have hl := lv_entry ([.ref h, .int a1, .int a2]) (n := 3) (Nat.le_of_ble_eq_true rfl)
  rw [lg_entry_eq]
  generalize (lg_sl ([.ref h, .int a1, .int a2]) ++ List.replicate (3 - (lg_sl ([.ref h, .int a1, .int a2])).length) Slot.unset).toArray = ls at hl ⊢
  have hl : lv_has ls 3 [(0, .ref h), (1, .int a1), (2, .int a2)] := hl
  unfold E_piece at hE
  refine lv_aload_n hx hb dX6_piece_0 rfl (lv_at hl 0 rfl) ?_
  refine lv_iload_n hx hb dX6_piece_1 rfl (lv_at hl 1 rfl) ?_
  refine jn_v (v := (if a1 < 0 then 1 else (if a1 < (R.1 45) then 0 else 1 : Int32) : Int32)) (pcM := 18) (rest := [.ref h]) (fun kM => ?_) ?_
  ·
    refine lv_if_lt (tgt := 13) hx hb dX6_piece_2 (by decide) (fun h2 => ?_) (fun h2 => ?_)
    ·
      refine lv_iconst (v := 1) hx hb dX6_piece_13 (by decide) ?_
      refine lv_goto (tgt := 18) hx hb dX6_piece_14 (by decide) ?_
      exact kM _ (by try rw [if_pos h2])
    ·
      refine lv_iload_n hx hb dX6_piece_5 rfl (lv_at hl 1 rfl) ?_
      refine lv_aload_n hx hb dX6_piece_6 rfl (lv_at hl 0 rfl) ?_
      refine va_get (D := G.1) (ci := 6) (C := RX6) (T := TX6) (N := 48) hx hb hts inX6 hown hK.1 hP 0 mW_0 rfl 45 (by decide) (hts _ w_891) (fun _ h9 => h9) mF_45 dX6_piece_7 ?_
      refine lv_icmp_lt (tgt := 17) hx hb dX6_piece_10 (by decide) (fun h3 => ?_) (fun h3 => ?_)
      ·
        refine lv_iconst (v := 0) hx hb dX6_piece_17 (by decide) ?_
        exact kM _ (by try rw [if_neg h2]; try rw [if_pos h3])
      ·
        refine lv_iconst (v := 1) hx hb dX6_piece_13 (by decide) ?_
        refine lv_goto (tgt := 18) hx hb dX6_piece_14 (by decide) ?_
        exact kM _ (by try rw [if_neg h2]; try rw [if_neg h3])
  refine va_put (D := G.1) (ci := 6) (v := .int (if a1 < 0 then 1 else (if a1 < (R.1 45) then 0 else 1 : Int32) : Int32)) (ty := .int) (C := RX6) (T := TX6) (N := 48) hx hb hts inX6 tyX6 tyX6_ok nmX6 hown hK.1 hP hD hS 0 mW_0 rfl 0 (by decide) (hts _ w_846) (fun _ h9 => h9) rfl (by decide +kernel) rfl rfl mF_l0 dX6_piece_18 (fun H locs hP hD hS => ?_)
  rw [mW_f0] at hP hD
  refine lv_aload_n hx hb dX6_piece_21 rfl (lv_at hl 0 rfl) ?_
  refine va_get (D := G.1) (ci := 6) (C := RX6) (T := TX6) (N := 48) hx hb hts inX6 hown hK.1 hP 0 mW_0 rfl 0 (by decide) (hts _ w_846) (fun _ h9 => h9) mF_0 dX6_piece_22 ?_
  refine tp_i (if a1 < 0 then 1 else (if a1 < (R.1 45) then 0 else 1 : Int32) : Int32) rfl ?_
  refine lv_if_le (tgt := 30) hx hb dX6_piece_25 (by decide) (fun h4 => ?_) (fun h4 => ?_)
  ·
    rw [if_pos h4] at hE
    refine lv_iload_n hx hb dX6_piece_30 rfl (lv_at hl 2 rfl) ?_
    refine lv_if_ne (tgt := 43) hx hb dX6_piece_31 (by decide) (fun h5 => ?_) (fun h5 => ?_)
    ·
      rw [if_neg h5] at hE
      refine lv_iload_n hx hb dX6_piece_43 rfl (lv_at hl 2 rfl) ?_
      refine lv_iconst (v := 1) hx hb dX6_piece_44 (by decide) ?_
      refine lv_icmp_ne (tgt := 57) hx hb dX6_piece_45 (by decide) (fun h6 => ?_) (fun h6 => ?_)
      ·
        rw [if_neg h6] at hE
        refine lv_iconst (v := (-1)) hx hb dX6_piece_57 (by decide) ?_
        obtain ⟨rfl, rfl⟩ := hE
        exact en_i F hS _ () (by rfl) rfl hP hD (Nat.le_refl _) (Nat.le_refl _) dX6_piece_58
      ·
        rw [if_pos h6] at hE
        refine lv_aload_n hx hb dX6_piece_48 rfl (lv_at hl 0 rfl) ?_
        refine va_get (D := G.1) (ci := 6) (C := RX6) (T := TX6) (N := 48) hx hb hts inX6 hown hK.1 hP 0 mW_0 rfl 47 (by decide) (hts _ w_893) (fun _ h9 => h9) mF_47 dX6_piece_49 ?_
        refine lv_iload_n hx hb dX6_piece_52 rfl (lv_at hl 1 rfl) ?_
        obtain ⟨hin, hE⟩ := hE
        refine va_iald (D := G.1) hx hb hK.1 hP 30 0 mW_g47 rfl hin dX6_piece_53 ?_
        refine tp_i (R.2.1 47 a1.toNatClampNeg) rfl ?_
        refine lv_goto (tgt := 58) hx hb dX6_piece_54 (by decide) ?_
        obtain ⟨rfl, rfl⟩ := hE
        exact en_i F hS _ () (by rfl) rfl hP hD (Nat.le_refl _) (Nat.le_refl _) dX6_piece_58
    ·
      rw [if_pos h5] at hE
      refine lv_aload_n hx hb dX6_piece_34 rfl (lv_at hl 0 rfl) ?_
      refine va_get (D := G.1) (ci := 6) (C := RX6) (T := TX6) (N := 48) hx hb hts inX6 hown hK.1 hP 0 mW_0 rfl 46 (by decide) (hts _ w_892) (fun _ h9 => h9) mF_46 dX6_piece_35 ?_
      refine lv_iload_n hx hb dX6_piece_38 rfl (lv_at hl 1 rfl) ?_
      obtain ⟨hin, hE⟩ := hE
      refine va_iald (D := G.1) hx hb hK.1 hP 29 0 mW_g46 rfl hin dX6_piece_39 ?_
      refine tp_i (R.2.1 46 a1.toNatClampNeg) rfl ?_
      refine lv_goto (tgt := 58) hx hb dX6_piece_40 (by decide) ?_
      obtain ⟨rfl, rfl⟩ := hE
      exact en_i F hS _ () (by rfl) rfl hP hD (Nat.le_refl _) (Nat.le_refl _) dX6_piece_58
  ·
    rw [if_neg h4] at hE
    refine lv_iconst (v := 0) hx hb dX6_piece_28 (by decide) ?_
    obtain ⟨rfl, rfl⟩ := hE
    exact en_i F hS _ () (by rfl) rfl hP hD (Nat.le_refl _) (Nat.le_refl _) dX6_piece_29
