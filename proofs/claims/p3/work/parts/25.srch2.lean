/-! Search: the methods that call each other: RUN stands for run one level deeper -/
abbrev RT : Type := SS → Int32 → Int32 → Int32 → SS → Int32 → Prop
def RC (l : Launch) (G : PG) (h : Nat) (q ad : Nat → Nat) (T : TD) (f n : Nat) (RUN : RT) : Prop := ∀ (S : SS) (a1 a2 a3 : Int32) (S' : SS) (r : Int32), RUN S a1 a2 a3 S' r → Ci l yX4_run (Cond.code yX4_run cX4_run 8 (some .boolean) :: aW) { frames := f, cells := 0, slots := 0, locals := n } G (sW G h q ad T S) [.ref h, .int a1, .int a2, .int a3] (fun (r9 : Int32) (_ : Unit) => r9 = r) (fun (_ : Unit) => sW G h q ad T S') 0 0
theorem dX4_lookBehind_0 : decode cX4_lookBehind 0 = .ok (.aload_n 0, 1) := by decide +kernel
theorem dX4_lookBehind_1 : decode cX4_lookBehind 1 = .ok (.getfield 51, 3) := by decide +kernel
theorem dX4_lookBehind_4 : decode cX4_lookBehind 4 = .ok (.istore_n 3, 1) := by decide +kernel
theorem dX4_lookBehind_5 : decode cX4_lookBehind 5 = .ok (.aload_n 0, 1) := by decide +kernel
theorem dX4_lookBehind_6 : decode cX4_lookBehind 6 = .ok (.getfield 56, 3) := by decide +kernel
theorem dX4_lookBehind_9 : decode cX4_lookBehind 9 = .ok (.lstore 4, 2) := by decide +kernel
theorem dX4_lookBehind_11 : decode cX4_lookBehind 11 = .ok (.iload_n 3, 1) := by decide +kernel
theorem dX4_lookBehind_12 : decode cX4_lookBehind 12 = .ok (.istore 6, 2) := by decide +kernel
theorem dX4_lookBehind_14 : decode cX4_lookBehind 14 = .ok (.iload 6, 2) := by decide +kernel
theorem dX4_lookBehind_16 : decode cX4_lookBehind 16 = .ok (.ifCond .lt 33, 3) := by decide +kernel
theorem dX4_lookBehind_19 : decode cX4_lookBehind 19 = .ok (.aload_n 0, 1) := by decide +kernel
theorem dX4_lookBehind_20 : decode cX4_lookBehind 20 = .ok (.iload 6, 2) := by decide +kernel
theorem dX4_lookBehind_22 : decode cX4_lookBehind 22 = .ok (.putfield 51, 3) := by decide +kernel
theorem dX4_lookBehind_25 : decode cX4_lookBehind 25 = .ok (.aload_n 0, 1) := by decide +kernel
theorem dX4_lookBehind_26 : decode cX4_lookBehind 26 = .ok (.lload 4, 2) := by decide +kernel
theorem dX4_lookBehind_28 : decode cX4_lookBehind 28 = .ok (.putfield 56, 3) := by decide +kernel
theorem dX4_lookBehind_31 : decode cX4_lookBehind 31 = .ok (.aload_n 0, 1) := by decide +kernel
theorem dX4_lookBehind_32 : decode cX4_lookBehind 32 = .ok (.iload_n 1, 1) := by decide +kernel
theorem dX4_lookBehind_33 : decode cX4_lookBehind 33 = .ok (.iload_n 3, 1) := by decide +kernel
theorem dX4_lookBehind_34 : decode cX4_lookBehind 34 = .ok (.iload_n 2, 1) := by decide +kernel
theorem dX4_lookBehind_35 : decode cX4_lookBehind 35 = .ok (.invokevirtual 63, 3) := by decide +kernel
theorem dX4_lookBehind_38 : decode cX4_lookBehind 38 = .ok (.ifCond .eq 5, 3) := by decide +kernel
theorem dX4_lookBehind_41 : decode cX4_lookBehind 41 = .ok (.iconst 1, 1) := by decide +kernel
theorem dX4_lookBehind_42 : decode cX4_lookBehind 42 = .ok (.ireturn, 1) := by decide +kernel
theorem dX4_lookBehind_43 : decode cX4_lookBehind 43 = .ok (.iinc 6 (-1), 3) := by decide +kernel
theorem dX4_lookBehind_46 : decode cX4_lookBehind 46 = .ok (.goto (-32), 3) := by decide +kernel
theorem dX4_lookBehind_49 : decode cX4_lookBehind 49 = .ok (.iconst 0, 1) := by decide +kernel
theorem dX4_lookBehind_50 : decode cX4_lookBehind 50 = .ok (.ireturn, 1) := by decide +kernel
def L_s_lookBehind_14 (T : TD) (RUN : RT) : Nat → SS → Int32 → Int32 → Int32 → Int64 → Int32 → SS → Int32 → Prop
  | 0, _, _, _, _, _, _, _, _ => False
  | nf + 1, S, x1, x2, x3, x4, x6, S', r => if x6 < 0 then (S' = S ∧ r = 0) else (∃ (S2 : SS) (r3 : Int32), RUN (ss (sf S 10 x6) x4) x1 x3 x2 S2 r3 ∧ (if r3 = 0 then (L_s_lookBehind_14 T RUN nf S2 x1 x2 x3 x4 (x6 + (-1)) S' r) else (S' = S2 ∧ r = 1)))
set_option maxHeartbeats 4000000 in
set_option maxRecDepth 100000 in
theorem L_s_lookBehind_14_ok {l : Launch} {G : PG} {h : Nat} {q ad : Nat → Nat} {T : TD} (hO : tOK T) {RUN : RT} {f n : Nat} (hf : 6 ≤ f) (hn : 200 ≤ n) (hR : RC l G h q ad T f n RUN) {a1 : Int32} {a2 : Int32} {S' : SS} {r : Int32} {p : Program} {e : Env} {s : State} {m : MethodId} {below : List Frame} {meth : Method} {c : Code} {A : Nat → Prop} (F : bF p s m meth c cX4_lookBehind 7 (some .boolean) ([.ref h, .int a1, .int a2] : List Value).toArray yX4_lookBehind) (hK : pg_K G s) (hA : ∀ q, s.heap.size ≤ q → A q) : ∀ (nf : Nat) (S : SS) (x1 : Int32) (x2 : Int32) (x3 : Int32) (x4 : Int64) (x6 : Int32) (H : Heap) (locs : List Loc) (ls : Array Slot), lv_has ls 7 [(6, .int x6), (4, .long x4), (3, .int x3), (0, .ref h), (1, .int x1), (2, .int x2)] → L_s_lookBehind_14 T RUN nf S x1 x2 x3 x4 x6 S' r → va_P G.1 vwCl (sW G h q ad T S) H → va_D A (sW G h q ad T S) → va_S A s.heap H locs → W p l e { frames := f + 1, cells := 0, slots := 0, locals := n + 27 } s m ([.ref h, .int a1, .int a2] : List Value).toArray below meth c H locs 0 0 (MQ below (va_Qi (fun (r9 : Int32) (_ : Unit) => r9 = r) (oB G A (fun (_ : Unit) => sW G h q ad T S')) A) ([.ref h, .int a1, .int a2] : List Value).toArray s 0 0 A) (F0 m 14 ls []) := by
  have hx := F.1.1; have hb := F.1.2.1; have hml := F.1.2.2.1; have hts := F.1.2.2.2.2
  have hown : s.vm.findClass RX4 = some m.cls := F.1.2.2.2.1
  intro nf
  induction nf with
  | zero => intro S x1 x2 x3 x4 x6 H locs ls hl hE; exact hE.elim
  | succ nf ih =>
    intro S x1 x2 x3 x4 x6 H locs ls hl hE hP hD hS
    unfold L_s_lookBehind_14 at hE
    refine lv_iload hx hb dX4_lookBehind_14 (lv_at hl 0 rfl) ?_
    refine lv_if_lt (tgt := 49) hx hb dX4_lookBehind_16 (by decide) (fun h1 => ?_) (fun h1 => ?_)
    ·
      rw [if_pos h1] at hE
      refine lv_iconst (v := 0) hx hb dX4_lookBehind_49 (by decide) ?_
      obtain ⟨rfl, rfl⟩ := hE
      exact en_i F hS _ () (by rfl) rfl hP hD (Nat.le_refl _) (Nat.le_refl _) dX4_lookBehind_50
    ·
      rw [if_neg h1] at hE
      refine lv_aload_n hx hb dX4_lookBehind_19 rfl (lv_at hl 3 rfl) ?_
      refine lv_iload hx hb dX4_lookBehind_20 (lv_at hl 0 rfl) ?_
      refine va_put (D := G.1) (ci := 4) (v := .int x6) (ty := .int) (C := RX4) (T := TX4) (N := 13) hx hb hts inX4 tyX4 tyX4_ok nmX4 hown hK.1 hP hD hS 0 sW_0 rfl 10 (by decide) (hts _ w_151) (fun _ h9 => h9) rfl (by decide +kernel) rfl rfl sF_l10 dX4_lookBehind_22 (fun H locs hP hD hS => ?_)
      rw [sW_f10] at hP hD
      refine lv_aload_n hx hb dX4_lookBehind_25 rfl (lv_at hl 3 rfl) ?_
      refine lv_lload hx hb dX4_lookBehind_26 (lv_at hl 1 rfl) ?_
      refine va_put (D := G.1) (ci := 4) (v := .long x4) (ty := .long) (C := RX4) (T := TX4) (N := 13) hx hb hts inX4 tyX4 tyX4_ok nmX4 hown hK.1 hP hD hS 0 sW_0 rfl 12 (by decide) (hts _ w_154) (fun _ h9 => h9) rfl (by decide +kernel) rfl rfl sF_l12 dX4_lookBehind_28 (fun H locs hP hD hS => ?_)
      rw [sW_f12] at hP hD
      refine lv_aload_n hx hb dX4_lookBehind_31 rfl (lv_at hl 3 rfl) ?_
      refine lv_iload_n hx hb dX4_lookBehind_32 rfl (lv_at hl 4 rfl) ?_
      refine lv_iload_n hx hb dX4_lookBehind_33 rfl (lv_at hl 2 rfl) ?_
      refine lv_iload_n hx hb dX4_lookBehind_34 rfl (lv_at hl 5 rfl) ?_
      obtain ⟨S2, r3, hg, hE⟩ := hE
      refine kA_i (va_runV (As := [.int x1, .int x3, .int x2]) (rest := []) F.1 (hR (ss (sf S 10 x6) x4) x1 x3 x2 S2 r3 hg _) (cwV 3 hts (aw_V w_630 w_632 ws_X4_run w_2 w_633) rfl rfl rfl (by decide +kernel) ⟨by dsimp only; omega, by dsimp only; omega⟩) ⟨cS_blind, va_recv (q := (RX4, TX4, 13)) (ci := 4) (q0 := 0) hK.1 hP rfl sW_0, cS_pre hP hD hK⟩ rfl rfl hl.1 rfl (lv_room (Nat.le_of_ble_eq_true rfl)) dX4_lookBehind_35 ⟨Nat.le_refl _, Nat.le_refl _⟩) hD hS hA (fun r9 u0 H locs hp hP hD hS => ?_)
      have hp := hp.symm; subst hp
      refine lv_if_eq (tgt := 43) hx hb dX4_lookBehind_38 (by decide) (fun h4 => ?_) (fun h4 => ?_)
      ·
        rw [if_pos h4] at hE
        refine lv_iinc (v := (x6 + (-1))) (k := 0) hx hb dX4_lookBehind_43 hl rfl rfl (by decide) rfl (fun ls hl => ?_)
        have hl : lv_has ls 7 [(6, .int (x6 + (-1))), (4, .long x4), (3, .int x3), (0, .ref h), (1, .int x1), (2, .int x2)] := hl
        refine lv_goto (tgt := 14) hx hb dX4_lookBehind_46 (by decide) ?_
        exact ih S2 x1 x2 x3 x4 (x6 + (-1)) _ _ ls (lv_sub hl [0, 1, 2, 3, 4, 5] rfl) hE hP hD hS
      ·
        rw [if_neg h4] at hE
        refine lv_iconst (v := 1) hx hb dX4_lookBehind_41 (by decide) ?_
        obtain ⟨rfl, rfl⟩ := hE
        exact en_i F hS _ () (by rfl) rfl hP hD (Nat.le_refl _) (Nat.le_refl _) dX4_lookBehind_42
def E_s_lookBehind (T : TD) (RUN : RT) (S : SS) (a1 : Int32) (a2 : Int32) (S' : SS) (r : Int32) : Prop := ∃ nf : Nat, L_s_lookBehind_14 T RUN nf S a1 a2 (S.1.1 10) S.2 (S.1.1 10) S' r
set_option maxHeartbeats 4000000 in
set_option maxRecDepth 100000 in
theorem e_s_lookBehind (l : Launch) (G : PG) (h : Nat) (q ad : Nat → Nat) (T : TD) (hO : tOK T) (RUN : RT) (f n : Nat) (hf : 6 ≤ f) (hn : 200 ≤ n) (hR : RC l G h q ad T f n RUN) (S : SS) (a1 : Int32) (a2 : Int32) (S' : SS) (r : Int32) (hE : E_s_lookBehind T RUN S a1 a2 S' r) : Ci l yX4_lookBehind (Cond.code yX4_lookBehind cX4_lookBehind 7 (some .boolean) :: aW) { frames := f + 1, cells := 0, slots := 0, locals := n + 27 } G (sW G h q ad T S) [.ref h, .int a1, .int a2] (fun (r9 : Int32) (_ : Unit) => r9 = r) (fun (_ : Unit) => sW G h q ad T S') 0 0 := by
  refine ofB (y := yX4_lookBehind) (G := G) (cc := cX4_lookBehind) (maxL := 7) (ret := (some .boolean)) (Qc := fun A => va_Qi (fun (r9 : Int32) (_ : Unit) => r9 = r) (oB G A (fun (_ : Unit) => sW G h q ad T S')) A) (by decide) rfl ?_
  intro p e s m below meth c A F hK hA hP hD
  have hS : va_S A s.heap s.heap [] := va_S.rf
  have hx := F.1.1; have hb := F.1.2.1; have hml := F.1.2.2.1; have hts := F.1.2.2.2.2
  have hown : s.vm.findClass RX4 = some m.cls := F.1.2.2.2.1
  have hl := lv_entry ([.ref h, .int a1, .int a2]) (n := 7) (Nat.le_of_ble_eq_true rfl)
  rw [lg_entry_eq]
  generalize (lg_sl ([.ref h, .int a1, .int a2]) ++ List.replicate (7 - (lg_sl ([.ref h, .int a1, .int a2])).length) Slot.unset).toArray = ls at hl ⊢
  have hl : lv_has ls 7 [(0, .ref h), (1, .int a1), (2, .int a2)] := hl
  unfold E_s_lookBehind at hE
  refine lv_aload_n hx hb dX4_lookBehind_0 rfl (lv_at hl 0 rfl) ?_
  refine va_get (D := G.1) (ci := 4) (C := RX4) (T := TX4) (N := 13) hx hb hts inX4 hown hK.1 hP 0 sW_0 rfl 10 (by decide) (hts _ w_151) (fun _ h9 => h9) sF_10 dX4_lookBehind_1 ?_
  refine lv_istore_n hx hb dX4_lookBehind_4 rfl hl (by decide) rfl (fun ls hl => ?_)
  have hl : lv_has ls 7 [(3, .int (S.1.1 10)), (0, .ref h), (1, .int a1), (2, .int a2)] := hl
  refine lv_aload_n hx hb dX4_lookBehind_5 rfl (lv_at hl 1 rfl) ?_
  refine va_get (D := G.1) (ci := 4) (C := RX4) (T := TX4) (N := 13) hx hb hts inX4 hown hK.1 hP 0 sW_0 rfl 12 (by decide) (hts _ w_154) (fun _ h9 => h9) sF_12 dX4_lookBehind_6 ?_
  refine lv_lstore hx hb dX4_lookBehind_9 hl (by decide) rfl (fun ls hl => ?_)
  have hl : lv_has ls 7 [(4, .long S.2), (3, .int (S.1.1 10)), (0, .ref h), (1, .int a1), (2, .int a2)] := hl
  refine lv_iload_n hx hb dX4_lookBehind_11 rfl (lv_at hl 1 rfl) ?_
  refine lv_istore hx hb dX4_lookBehind_12 hl (by decide) rfl (fun ls hl => ?_)
  have hl : lv_has ls 7 [(6, .int (S.1.1 10)), (4, .long S.2), (3, .int (S.1.1 10)), (0, .ref h), (1, .int a1), (2, .int a2)] := hl
  obtain ⟨nf, hE⟩ := hE
  exact L_s_lookBehind_14_ok hO hf hn hR F hK hA nf S a1 a2 (S.1.1 10) S.2 (S.1.1 10) _ _ ls (lv_sub hl [0, 1, 2, 3, 4, 5] rfl) hE hP hD hS

theorem dX4_atomic_0 : decode cX4_atomic 0 = .ok (.aload_n 0, 1) := by decide +kernel
theorem dX4_atomic_1 : decode cX4_atomic 1 = .ok (.getfield 51, 3) := by decide +kernel
theorem dX4_atomic_4 : decode cX4_atomic 4 = .ok (.istore_n 3, 1) := by decide +kernel
theorem dX4_atomic_5 : decode cX4_atomic 5 = .ok (.aload_n 0, 1) := by decide +kernel
theorem dX4_atomic_6 : decode cX4_atomic 6 = .ok (.getfield 70, 3) := by decide +kernel
theorem dX4_atomic_9 : decode cX4_atomic 9 = .ok (.istore 4, 2) := by decide +kernel
theorem dX4_atomic_11 : decode cX4_atomic 11 = .ok (.aload_n 0, 1) := by decide +kernel
theorem dX4_atomic_12 : decode cX4_atomic 12 = .ok (.iload_n 2, 1) := by decide +kernel
theorem dX4_atomic_13 : decode cX4_atomic 13 = .ok (.iconst 1, 1) := by decide +kernel
theorem dX4_atomic_14 : decode cX4_atomic 14 = .ok (.iadd, 1) := by decide +kernel
theorem dX4_atomic_15 : decode cX4_atomic 15 = .ok (.invokevirtual 204, 3) := by decide +kernel
theorem dX4_atomic_18 : decode cX4_atomic 18 = .ok (.aload_n 0, 1) := by decide +kernel
theorem dX4_atomic_19 : decode cX4_atomic 19 = .ok (.aload_n 1, 1) := by decide +kernel
theorem dX4_atomic_20 : decode cX4_atomic 20 = .ok (.getfield 118, 3) := by decide +kernel
theorem dX4_atomic_23 : decode cX4_atomic 23 = .ok (.iconst (-1), 1) := by decide +kernel
theorem dX4_atomic_24 : decode cX4_atomic 24 = .ok (.iload_n 2, 1) := by decide +kernel
theorem dX4_atomic_25 : decode cX4_atomic 25 = .ok (.iconst 1, 1) := by decide +kernel
theorem dX4_atomic_26 : decode cX4_atomic 26 = .ok (.iadd, 1) := by decide +kernel
theorem dX4_atomic_27 : decode cX4_atomic 27 = .ok (.invokevirtual 63, 3) := by decide +kernel
theorem dX4_atomic_30 : decode cX4_atomic 30 = .ok (.istore 5, 2) := by decide +kernel
theorem dX4_atomic_32 : decode cX4_atomic 32 = .ok (.aload_n 0, 1) := by decide +kernel
theorem dX4_atomic_33 : decode cX4_atomic 33 = .ok (.getfield 51, 3) := by decide +kernel
theorem dX4_atomic_36 : decode cX4_atomic 36 = .ok (.istore 6, 2) := by decide +kernel
theorem dX4_atomic_38 : decode cX4_atomic 38 = .ok (.aload_n 0, 1) := by decide +kernel
theorem dX4_atomic_39 : decode cX4_atomic 39 = .ok (.aload_n 1, 1) := by decide +kernel
theorem dX4_atomic_40 : decode cX4_atomic 40 = .ok (.getfield 89, 3) := by decide +kernel
theorem dX4_atomic_43 : decode cX4_atomic 43 = .ok (.putfield 67, 3) := by decide +kernel
theorem dX4_atomic_46 : decode cX4_atomic 46 = .ok (.aload_n 0, 1) := by decide +kernel
theorem dX4_atomic_47 : decode cX4_atomic 47 = .ok (.iload_n 3, 1) := by decide +kernel
theorem dX4_atomic_48 : decode cX4_atomic 48 = .ok (.putfield 51, 3) := by decide +kernel
theorem dX4_atomic_51 : decode cX4_atomic 51 = .ok (.aload_n 0, 1) := by decide +kernel
theorem dX4_atomic_52 : decode cX4_atomic 52 = .ok (.iload 4, 2) := by decide +kernel
theorem dX4_atomic_54 : decode cX4_atomic 54 = .ok (.putfield 70, 3) := by decide +kernel
theorem dX4_atomic_57 : decode cX4_atomic 57 = .ok (.aload_n 0, 1) := by decide +kernel
theorem dX4_atomic_58 : decode cX4_atomic 58 = .ok (.iload 6, 2) := by decide +kernel
theorem dX4_atomic_60 : decode cX4_atomic 60 = .ok (.invokevirtual 158, 3) := by decide +kernel
theorem dX4_atomic_63 : decode cX4_atomic 63 = .ok (.iload 5, 2) := by decide +kernel
theorem dX4_atomic_65 : decode cX4_atomic 65 = .ok (.ireturn, 1) := by decide +kernel
def E_s_atomic (T : TD) (RUN : RT) (S : SS) (i : Nat) (a2 : Int32) (S' : SS) (r : Int32) : Prop := ∃ S1 : SS, E_s_openSearch T S (a2 + 1) S1 0 ∧ (∃ (S3 : SS) (r4 : Int32), RUN S1 (tA T i 3) (-1) (a2 + 1) S3 r4 ∧ (∃ S5 : SS, E_s_moveTo T (sf (sf (sf S3 9 (tA T i 2)) 10 (S.1.1 10)) 11 (S.1.1 11)) (S3.1.1 10) S5 0 ∧ (narrow .boolean (.int r4) = .int r4 ∧ S' = S5 ∧ r = r4)))
set_option maxHeartbeats 4000000 in
set_option maxRecDepth 100000 in
theorem e_s_atomic (l : Launch) (G : PG) (h : Nat) (q ad : Nat → Nat) (T : TD) (hO : tOK T) (RUN : RT) (f n : Nat) (hf : 6 ≤ f) (hn : 200 ≤ n) (hR : RC l G h q ad T f n RUN) (S : SS) (i : Nat) (hi : i < 32) (a2 : Int32) (S' : SS) (r : Int32) (hE : E_s_atomic T RUN S i a2 S' r) : Ci l yX4_atomic (Cond.code yX4_atomic cX4_atomic 7 (some .boolean) :: aW) { frames := f + 1, cells := 0, slots := 0, locals := n + 27 } G (sW G h q ad T S) [.ref h, .ref (ad i), .int a2] (fun (r9 : Int32) (_ : Unit) => r9 = r) (fun (_ : Unit) => sW G h q ad T S') 0 0 := by
  refine ofB (y := yX4_atomic) (G := G) (cc := cX4_atomic) (maxL := 7) (ret := (some .boolean)) (Qc := fun A => va_Qi (fun (r9 : Int32) (_ : Unit) => r9 = r) (oB G A (fun (_ : Unit) => sW G h q ad T S')) A) (by decide) rfl ?_
  intro p e s m below meth c A F hK hA hP hD
  have hS : va_S A s.heap s.heap [] := va_S.rf
  have hx := F.1.1; have hb := F.1.2.1; have hml := F.1.2.2.1; have hts := F.1.2.2.2.2
  have hown : s.vm.findClass RX4 = some m.cls := F.1.2.2.2.1
  have hl := lv_entry ([.ref h, .ref (ad i), .int a2]) (n := 7) (Nat.le_of_ble_eq_true rfl)
  rw [lg_entry_eq]
  generalize (lg_sl ([.ref h, .ref (ad i), .int a2]) ++ List.replicate (7 - (lg_sl ([.ref h, .ref (ad i), .int a2])).length) Slot.unset).toArray = ls at hl ⊢
  have hl : lv_has ls 7 [(0, .ref h), (1, .ref (ad i)), (2, .int a2)] := hl
  unfold E_s_atomic at hE
  refine lv_aload_n hx hb dX4_atomic_0 rfl (lv_at hl 0 rfl) ?_
  refine va_get (D := G.1) (ci := 4) (C := RX4) (T := TX4) (N := 13) hx hb hts inX4 hown hK.1 hP 0 sW_0 rfl 10 (by decide) (hts _ w_151) (fun _ h9 => h9) sF_10 dX4_atomic_1 ?_
  refine lv_istore_n hx hb dX4_atomic_4 rfl hl (by decide) rfl (fun ls hl => ?_)
  have hl : lv_has ls 7 [(3, .int (S.1.1 10)), (0, .ref h), (1, .ref (ad i)), (2, .int a2)] := hl
  refine lv_aload_n hx hb dX4_atomic_5 rfl (lv_at hl 1 rfl) ?_
  refine va_get (D := G.1) (ci := 4) (C := RX4) (T := TX4) (N := 13) hx hb hts inX4 hown hK.1 hP 0 sW_0 rfl 11 (by decide) (hts _ w_153) (fun _ h9 => h9) sF_11 dX4_atomic_6 ?_
  refine lv_istore hx hb dX4_atomic_9 hl (by decide) rfl (fun ls hl => ?_)
  have hl : lv_has ls 7 [(4, .int (S.1.1 11)), (3, .int (S.1.1 10)), (0, .ref h), (1, .ref (ad i)), (2, .int a2)] := hl
  refine lv_aload_n hx hb dX4_atomic_11 rfl (lv_at hl 2 rfl) ?_
  refine lv_iload_n hx hb dX4_atomic_12 rfl (lv_at hl 4 rfl) ?_
  refine lv_iconst (v := 1) hx hb dX4_atomic_13 (by decide) ?_
  refine lv_iadd hx hb dX4_atomic_14 ?_
  obtain ⟨S1, hg, hE⟩ := hE
  refine kA_v (va_runV (As := [.int (a2 + 1)]) (rest := []) F.1 (e_s_openSearch l G h q ad T hO S (a2 + 1) S1 0 hg _) (cwV 1 hts (aw_V w_719 w_622 w_623 w_2 w_624) rfl rfl rfl (by decide +kernel) ⟨by dsimp only; omega, by dsimp only; omega⟩) ⟨cS_blind, va_recv (q := (RX4, TX4, 13)) (ci := 4) (q0 := 0) hK.1 hP rfl sW_0, cS_pre hP hD hK⟩ rfl rfl hl.1 rfl (lv_room (Nat.le_of_ble_eq_true rfl)) dX4_atomic_15 ⟨Nat.le_refl _, Nat.le_refl _⟩) hD hS hA (fun u0 H locs hp hP hD hS => ?_)
  refine lv_aload_n hx hb dX4_atomic_18 rfl (lv_at hl 2 rfl) ?_
  refine lv_aload_n hx hb dX4_atomic_19 rfl (lv_at hl 3 rfl) ?_
  refine va_getN (D := G.1) (ci := 0) (v := .int (tA T i 3)) (C := RX0) (T := TX0) (N := 13) hx hb hts inX0 hown hK.1 hP (10 + i) (sW_n hi) rfl 3 (by decide) (hK.2.1.use w_71) (fun _ h9 => h9) rfl dX4_atomic_20 ?_
  refine lv_iconst (v := (-1)) hx hb dX4_atomic_23 (by decide) ?_
  refine lv_iload_n hx hb dX4_atomic_24 rfl (lv_at hl 4 rfl) ?_
  refine lv_iconst (v := 1) hx hb dX4_atomic_25 (by decide) ?_
  refine lv_iadd hx hb dX4_atomic_26 ?_
  obtain ⟨S3, r4, hg, hE⟩ := hE
  refine kA_i (va_runV (As := [.int (tA T i 3), .int (-1), .int (a2 + 1)]) (rest := []) F.1 (hR S1 (tA T i 3) (-1) (a2 + 1) S3 r4 hg _) (cwV 3 hts (aw_V w_630 w_632 ws_X4_run w_2 w_633) rfl rfl rfl (by decide +kernel) ⟨by dsimp only; omega, by dsimp only; omega⟩) ⟨cS_blind, va_recv (q := (RX4, TX4, 13)) (ci := 4) (q0 := 0) hK.1 hP rfl sW_0, cS_pre hP hD hK⟩ rfl rfl hl.1 rfl (lv_room (Nat.le_of_ble_eq_true rfl)) dX4_atomic_27 ⟨Nat.le_refl _, Nat.le_refl _⟩) hD hS hA (fun r9 u0 H locs hp hP hD hS => ?_)
  have hp := hp.symm; subst hp
  refine lv_istore hx hb dX4_atomic_30 hl (by decide) rfl (fun ls hl => ?_)
  have hl : lv_has ls 7 [(5, .int r4), (4, .int (S.1.1 11)), (3, .int (S.1.1 10)), (0, .ref h), (1, .ref (ad i)), (2, .int a2)] := hl
  refine lv_aload_n hx hb dX4_atomic_32 rfl (lv_at hl 3 rfl) ?_
  refine va_get (D := G.1) (ci := 4) (C := RX4) (T := TX4) (N := 13) hx hb hts inX4 hown hK.1 hP 0 sW_0 rfl 10 (by decide) (hts _ w_151) (fun _ h9 => h9) sF_10 dX4_atomic_33 ?_
  refine lv_istore hx hb dX4_atomic_36 hl (by decide) rfl (fun ls hl => ?_)
  have hl : lv_has ls 7 [(6, .int (S3.1.1 10)), (5, .int r4), (4, .int (S.1.1 11)), (3, .int (S.1.1 10)), (0, .ref h), (1, .ref (ad i)), (2, .int a2)] := hl
  refine lv_aload_n hx hb dX4_atomic_38 rfl (lv_at hl 4 rfl) ?_
  refine lv_aload_n hx hb dX4_atomic_39 rfl (lv_at hl 5 rfl) ?_
  refine va_getN (D := G.1) (ci := 0) (v := .int (tA T i 2)) (C := RX0) (T := TX0) (N := 13) hx hb hts inX0 hown hK.1 hP (10 + i) (sW_n hi) rfl 2 (by decide) (hK.2.1.use w_68) (fun _ h9 => h9) rfl dX4_atomic_40 ?_
  refine va_put (D := G.1) (ci := 4) (v := .int (tA T i 2)) (ty := .int) (C := RX4) (T := TX4) (N := 13) hx hb hts inX4 tyX4 tyX4_ok nmX4 hown hK.1 hP hD hS 0 sW_0 rfl 9 (by decide) (hts _ w_150) (fun _ h9 => h9) rfl (by decide +kernel) rfl rfl sF_l9 dX4_atomic_43 (fun H locs hP hD hS => ?_)
  rw [sW_f9] at hP hD
  refine lv_aload_n hx hb dX4_atomic_46 rfl (lv_at hl 4 rfl) ?_
  refine lv_iload_n hx hb dX4_atomic_47 rfl (lv_at hl 3 rfl) ?_
  refine va_put (D := G.1) (ci := 4) (v := .int (S.1.1 10)) (ty := .int) (C := RX4) (T := TX4) (N := 13) hx hb hts inX4 tyX4 tyX4_ok nmX4 hown hK.1 hP hD hS 0 sW_0 rfl 10 (by decide) (hts _ w_151) (fun _ h9 => h9) rfl (by decide +kernel) rfl rfl sF_l10 dX4_atomic_48 (fun H locs hP hD hS => ?_)
  rw [sW_f10] at hP hD
  refine lv_aload_n hx hb dX4_atomic_51 rfl (lv_at hl 4 rfl) ?_
  refine lv_iload hx hb dX4_atomic_52 (lv_at hl 2 rfl) ?_
  refine va_put (D := G.1) (ci := 4) (v := .int (S.1.1 11)) (ty := .int) (C := RX4) (T := TX4) (N := 13) hx hb hts inX4 tyX4 tyX4_ok nmX4 hown hK.1 hP hD hS 0 sW_0 rfl 11 (by decide) (hts _ w_153) (fun _ h9 => h9) rfl (by decide +kernel) rfl rfl sF_l11 dX4_atomic_54 (fun H locs hP hD hS => ?_)
  rw [sW_f11] at hP hD
  refine lv_aload_n hx hb dX4_atomic_57 rfl (lv_at hl 4 rfl) ?_
  refine lv_iload hx hb dX4_atomic_58 (lv_at hl 0 rfl) ?_
  obtain ⟨S5, hg, hE⟩ := hE
  refine kA_v (va_runV (As := [.int (S3.1.1 10)]) (rest := []) F.1 (e_s_moveTo l G h q ad T hO (sf (sf (sf S3 9 (tA T i 2)) 10 (S.1.1 10)) 11 (S.1.1 11)) (S3.1.1 10) S5 0 hg _) (cwV 1 hts (aw_V w_654 w_656 ws_X4_moveTo w_2 w_657) rfl rfl rfl (by decide +kernel) ⟨by dsimp only; omega, by dsimp only; omega⟩) ⟨cS_blind, va_recv (q := (RX4, TX4, 13)) (ci := 4) (q0 := 0) hK.1 hP rfl sW_0, cS_pre hP hD hK⟩ rfl rfl hl.1 rfl (lv_room (Nat.le_of_ble_eq_true rfl)) dX4_atomic_60 ⟨Nat.le_refl _, Nat.le_refl _⟩) hD hS hA (fun u0 H locs hp hP hD hS => ?_)
  refine lv_iload hx hb dX4_atomic_63 (lv_at hl 1 rfl) ?_
  obtain ⟨hn, rfl, rfl⟩ := hE
  exact en_i F hS _ () hn rfl hP hD (Nat.le_refl _) (Nat.le_refl _) dX4_atomic_65

theorem dX4_look_0 : decode cX4_look 0 = .ok (.aload_n 0, 1) := by decide +kernel
theorem dX4_look_1 : decode cX4_look 1 = .ok (.getfield 51, 3) := by decide +kernel
theorem dX4_look_4 : decode cX4_look 4 = .ok (.istore_n 3, 1) := by decide +kernel
theorem dX4_look_5 : decode cX4_look 5 = .ok (.aload_n 0, 1) := by decide +kernel
theorem dX4_look_6 : decode cX4_look 6 = .ok (.getfield 70, 3) := by decide +kernel
theorem dX4_look_9 : decode cX4_look 9 = .ok (.istore 4, 2) := by decide +kernel
theorem dX4_look_11 : decode cX4_look 11 = .ok (.aload_n 0, 1) := by decide +kernel
theorem dX4_look_12 : decode cX4_look 12 = .ok (.getfield 56, 3) := by decide +kernel
theorem dX4_look_15 : decode cX4_look 15 = .ok (.lstore 5, 2) := by decide +kernel
theorem dX4_look_17 : decode cX4_look 17 = .ok (.aload_n 0, 1) := by decide +kernel
theorem dX4_look_18 : decode cX4_look 18 = .ok (.iload_n 2, 1) := by decide +kernel
theorem dX4_look_19 : decode cX4_look 19 = .ok (.iconst 1, 1) := by decide +kernel
theorem dX4_look_20 : decode cX4_look 20 = .ok (.iadd, 1) := by decide +kernel
theorem dX4_look_21 : decode cX4_look 21 = .ok (.invokevirtual 204, 3) := by decide +kernel
theorem dX4_look_24 : decode cX4_look 24 = .ok (.aload_n 1, 1) := by decide +kernel
theorem dX4_look_25 : decode cX4_look 25 = .ok (.getfield 207, 3) := by decide +kernel
theorem dX4_look_28 : decode cX4_look 28 = .ok (.ifCond .eq 17, 3) := by decide +kernel
theorem dX4_look_31 : decode cX4_look 31 = .ok (.aload_n 0, 1) := by decide +kernel
theorem dX4_look_32 : decode cX4_look 32 = .ok (.aload_n 1, 1) := by decide +kernel
theorem dX4_look_33 : decode cX4_look 33 = .ok (.getfield 118, 3) := by decide +kernel
theorem dX4_look_36 : decode cX4_look 36 = .ok (.iload_n 2, 1) := by decide +kernel
theorem dX4_look_37 : decode cX4_look 37 = .ok (.iconst 1, 1) := by decide +kernel
theorem dX4_look_38 : decode cX4_look 38 = .ok (.iadd, 1) := by decide +kernel
theorem dX4_look_39 : decode cX4_look 39 = .ok (.invokevirtual 210, 3) := by decide +kernel
theorem dX4_look_42 : decode cX4_look 42 = .ok (.goto 15, 3) := by decide +kernel
theorem dX4_look_45 : decode cX4_look 45 = .ok (.aload_n 0, 1) := by decide +kernel
theorem dX4_look_46 : decode cX4_look 46 = .ok (.aload_n 1, 1) := by decide +kernel
theorem dX4_look_47 : decode cX4_look 47 = .ok (.getfield 118, 3) := by decide +kernel
theorem dX4_look_50 : decode cX4_look 50 = .ok (.iconst (-1), 1) := by decide +kernel
theorem dX4_look_51 : decode cX4_look 51 = .ok (.iload_n 2, 1) := by decide +kernel
theorem dX4_look_52 : decode cX4_look 52 = .ok (.iconst 1, 1) := by decide +kernel
theorem dX4_look_53 : decode cX4_look 53 = .ok (.iadd, 1) := by decide +kernel
theorem dX4_look_54 : decode cX4_look 54 = .ok (.invokevirtual 63, 3) := by decide +kernel
theorem dX4_look_57 : decode cX4_look 57 = .ok (.istore 7, 2) := by decide +kernel
theorem dX4_look_59 : decode cX4_look 59 = .ok (.aload_n 0, 1) := by decide +kernel
theorem dX4_look_60 : decode cX4_look 60 = .ok (.aload_n 1, 1) := by decide +kernel
theorem dX4_look_61 : decode cX4_look 61 = .ok (.getfield 89, 3) := by decide +kernel
theorem dX4_look_64 : decode cX4_look 64 = .ok (.putfield 67, 3) := by decide +kernel
theorem dX4_look_67 : decode cX4_look 67 = .ok (.aload_n 0, 1) := by decide +kernel
theorem dX4_look_68 : decode cX4_look 68 = .ok (.iload_n 3, 1) := by decide +kernel
theorem dX4_look_69 : decode cX4_look 69 = .ok (.putfield 51, 3) := by decide +kernel
theorem dX4_look_72 : decode cX4_look 72 = .ok (.aload_n 0, 1) := by decide +kernel
theorem dX4_look_73 : decode cX4_look 73 = .ok (.iload 4, 2) := by decide +kernel
theorem dX4_look_75 : decode cX4_look 75 = .ok (.putfield 70, 3) := by decide +kernel
theorem dX4_look_78 : decode cX4_look 78 = .ok (.aload_n 1, 1) := by decide +kernel
theorem dX4_look_79 : decode cX4_look 79 = .ok (.getfield 213, 3) := by decide +kernel
theorem dX4_look_82 : decode cX4_look 82 = .ok (.ifCond .eq 9, 3) := by decide +kernel
theorem dX4_look_85 : decode cX4_look 85 = .ok (.aload_n 0, 1) := by decide +kernel
theorem dX4_look_86 : decode cX4_look 86 = .ok (.lload 5, 2) := by decide +kernel
theorem dX4_look_88 : decode cX4_look 88 = .ok (.putfield 56, 3) := by decide +kernel
theorem dX4_look_91 : decode cX4_look 91 = .ok (.iload 7, 2) := by decide +kernel
theorem dX4_look_93 : decode cX4_look 93 = .ok (.aload_n 1, 1) := by decide +kernel
theorem dX4_look_94 : decode cX4_look 94 = .ok (.getfield 213, 3) := by decide +kernel
theorem dX4_look_97 : decode cX4_look 97 = .ok (.if_icmp .eq 7, 3) := by decide +kernel
theorem dX4_look_100 : decode cX4_look 100 = .ok (.iconst 1, 1) := by decide +kernel
theorem dX4_look_101 : decode cX4_look 101 = .ok (.goto 4, 3) := by decide +kernel
theorem dX4_look_104 : decode cX4_look 104 = .ok (.iconst 0, 1) := by decide +kernel
theorem dX4_look_105 : decode cX4_look 105 = .ok (.ireturn, 1) := by decide +kernel
def E_s_look (T : TD) (RUN : RT) (S : SS) (i : Nat) (a2 : Int32) (S' : SS) (r : Int32) : Prop := ∃ S1 : SS, E_s_openSearch T S (a2 + 1) S1 0 ∧ (if (tA T i 9) = 0 then (∃ (S4 : SS) (r5 : Int32), RUN S1 (tA T i 3) (-1) (a2 + 1) S4 r5 ∧ (if (tA T i 10) = 0 then (if r5 = (tA T i 10) then (S' = (sf (sf (sf S4 9 (tA T i 2)) 10 (S.1.1 10)) 11 (S.1.1 11)) ∧ r = 0) else (S' = (sf (sf (sf S4 9 (tA T i 2)) 10 (S.1.1 10)) 11 (S.1.1 11)) ∧ r = 1)) else (if r5 = (tA T i 10) then (S' = (ss (sf (sf (sf S4 9 (tA T i 2)) 10 (S.1.1 10)) 11 (S.1.1 11)) S.2) ∧ r = 0) else (S' = (ss (sf (sf (sf S4 9 (tA T i 2)) 10 (S.1.1 10)) 11 (S.1.1 11)) S.2) ∧ r = 1)))) else (∃ (S9 : SS) (r10 : Int32), E_s_lookBehind T RUN S1 (tA T i 3) (a2 + 1) S9 r10 ∧ (if (tA T i 10) = 0 then (if r10 = (tA T i 10) then (S' = (sf (sf (sf S9 9 (tA T i 2)) 10 (S.1.1 10)) 11 (S.1.1 11)) ∧ r = 0) else (S' = (sf (sf (sf S9 9 (tA T i 2)) 10 (S.1.1 10)) 11 (S.1.1 11)) ∧ r = 1)) else (if r10 = (tA T i 10) then (S' = (ss (sf (sf (sf S9 9 (tA T i 2)) 10 (S.1.1 10)) 11 (S.1.1 11)) S.2) ∧ r = 0) else (S' = (ss (sf (sf (sf S9 9 (tA T i 2)) 10 (S.1.1 10)) 11 (S.1.1 11)) S.2) ∧ r = 1)))))
set_option maxHeartbeats 4000000 in
set_option maxRecDepth 100000 in
theorem e_s_look (l : Launch) (G : PG) (h : Nat) (q ad : Nat → Nat) (T : TD) (hO : tOK T) (RUN : RT) (f n : Nat) (hf : 6 ≤ f) (hn : 200 ≤ n) (hR : RC l G h q ad T f n RUN) (S : SS) (i : Nat) (hi : i < 32) (a2 : Int32) (S' : SS) (r : Int32) (hE : E_s_look T RUN S i a2 S' r) : Ci l yX4_look (Cond.code yX4_look cX4_look 8 (some .boolean) :: aW) { frames := f + 2, cells := 0, slots := 0, locals := n + 53 } G (sW G h q ad T S) [.ref h, .ref (ad i), .int a2] (fun (r9 : Int32) (_ : Unit) => r9 = r) (fun (_ : Unit) => sW G h q ad T S') 0 0 := by
  refine ofB (y := yX4_look) (G := G) (cc := cX4_look) (maxL := 8) (ret := (some .boolean)) (Qc := fun A => va_Qi (fun (r9 : Int32) (_ : Unit) => r9 = r) (oB G A (fun (_ : Unit) => sW G h q ad T S')) A) (by decide) rfl ?_
  intro p e s m below meth c A F hK hA hP hD
  have hS : va_S A s.heap s.heap [] := va_S.rf
  have hx := F.1.1; have hb := F.1.2.1; have hml := F.1.2.2.1; have hts := F.1.2.2.2.2
  have hown : s.vm.findClass RX4 = some m.cls := F.1.2.2.2.1
  have hl := lv_entry ([.ref h, .ref (ad i), .int a2]) (n := 8) (Nat.le_of_ble_eq_true rfl)
  rw [lg_entry_eq]
  generalize (lg_sl ([.ref h, .ref (ad i), .int a2]) ++ List.replicate (8 - (lg_sl ([.ref h, .ref (ad i), .int a2])).length) Slot.unset).toArray = ls at hl ⊢
  have hl : lv_has ls 8 [(0, .ref h), (1, .ref (ad i)), (2, .int a2)] := hl
  unfold E_s_look at hE
  refine lv_aload_n hx hb dX4_look_0 rfl (lv_at hl 0 rfl) ?_
  refine va_get (D := G.1) (ci := 4) (C := RX4) (T := TX4) (N := 13) hx hb hts inX4 hown hK.1 hP 0 sW_0 rfl 10 (by decide) (hts _ w_151) (fun _ h9 => h9) sF_10 dX4_look_1 ?_
  refine lv_istore_n hx hb dX4_look_4 rfl hl (by decide) rfl (fun ls hl => ?_)
  have hl : lv_has ls 8 [(3, .int (S.1.1 10)), (0, .ref h), (1, .ref (ad i)), (2, .int a2)] := hl
  refine lv_aload_n hx hb dX4_look_5 rfl (lv_at hl 1 rfl) ?_
  refine va_get (D := G.1) (ci := 4) (C := RX4) (T := TX4) (N := 13) hx hb hts inX4 hown hK.1 hP 0 sW_0 rfl 11 (by decide) (hts _ w_153) (fun _ h9 => h9) sF_11 dX4_look_6 ?_
  refine lv_istore hx hb dX4_look_9 hl (by decide) rfl (fun ls hl => ?_)
  have hl : lv_has ls 8 [(4, .int (S.1.1 11)), (3, .int (S.1.1 10)), (0, .ref h), (1, .ref (ad i)), (2, .int a2)] := hl
  refine lv_aload_n hx hb dX4_look_11 rfl (lv_at hl 2 rfl) ?_
  refine va_get (D := G.1) (ci := 4) (C := RX4) (T := TX4) (N := 13) hx hb hts inX4 hown hK.1 hP 0 sW_0 rfl 12 (by decide) (hts _ w_154) (fun _ h9 => h9) sF_12 dX4_look_12 ?_
  refine lv_lstore hx hb dX4_look_15 hl (by decide) rfl (fun ls hl => ?_)
  have hl : lv_has ls 8 [(5, .long S.2), (4, .int (S.1.1 11)), (3, .int (S.1.1 10)), (0, .ref h), (1, .ref (ad i)), (2, .int a2)] := hl
  refine lv_aload_n hx hb dX4_look_17 rfl (lv_at hl 3 rfl) ?_
  refine lv_iload_n hx hb dX4_look_18 rfl (lv_at hl 5 rfl) ?_
  refine lv_iconst (v := 1) hx hb dX4_look_19 (by decide) ?_
  refine lv_iadd hx hb dX4_look_20 ?_
  obtain ⟨S1, hg, hE⟩ := hE
  refine kA_v (va_runV (As := [.int (a2 + 1)]) (rest := []) F.1 (e_s_openSearch l G h q ad T hO S (a2 + 1) S1 0 hg _) (cwV 1 hts (aw_V w_719 w_622 w_623 w_2 w_624) rfl rfl rfl (by decide +kernel) ⟨by dsimp only; omega, by dsimp only; omega⟩) ⟨cS_blind, va_recv (q := (RX4, TX4, 13)) (ci := 4) (q0 := 0) hK.1 hP rfl sW_0, cS_pre hP hD hK⟩ rfl rfl hl.1 rfl (lv_room (Nat.le_of_ble_eq_true rfl)) dX4_look_21 ⟨Nat.le_refl _, Nat.le_refl _⟩) hD hS hA (fun u0 H locs hp hP hD hS => ?_)
  refine lv_aload_n hx hb dX4_look_24 rfl (lv_at hl 4 rfl) ?_
  refine va_getN (D := G.1) (ci := 0) (v := .int (tA T i 9)) (C := RX0) (T := TX0) (N := 13) hx hb hts inX0 hown hK.1 hP (10 + i) (sW_n hi) rfl 9 (by decide) (hK.2.1.use w_82) (fun _ h9 => h9) rfl dX4_look_25 ?_
  refine lv_if_eq (tgt := 45) hx hb dX4_look_28 (by decide) (fun h3 => ?_) (fun h3 => ?_)
  ·
    rw [if_pos h3] at hE
    refine lv_aload_n hx hb dX4_look_45 rfl (lv_at hl 3 rfl) ?_
    refine lv_aload_n hx hb dX4_look_46 rfl (lv_at hl 4 rfl) ?_
    refine va_getN (D := G.1) (ci := 0) (v := .int (tA T i 3)) (C := RX0) (T := TX0) (N := 13) hx hb hts inX0 hown hK.1 hP (10 + i) (sW_n hi) rfl 3 (by decide) (hK.2.1.use w_71) (fun _ h9 => h9) rfl dX4_look_47 ?_
    refine lv_iconst (v := (-1)) hx hb dX4_look_50 (by decide) ?_
    refine lv_iload_n hx hb dX4_look_51 rfl (lv_at hl 5 rfl) ?_
    refine lv_iconst (v := 1) hx hb dX4_look_52 (by decide) ?_
    refine lv_iadd hx hb dX4_look_53 ?_
    obtain ⟨S4, r5, hg, hE⟩ := hE
    refine kA_i (va_runV (As := [.int (tA T i 3), .int (-1), .int (a2 + 1)]) (rest := []) F.1 (hR S1 (tA T i 3) (-1) (a2 + 1) S4 r5 hg _) (cwV 3 hts (aw_V w_630 w_632 ws_X4_run w_2 w_633) rfl rfl rfl (by decide +kernel) ⟨by dsimp only; omega, by dsimp only; omega⟩) ⟨cS_blind, va_recv (q := (RX4, TX4, 13)) (ci := 4) (q0 := 0) hK.1 hP rfl sW_0, cS_pre hP hD hK⟩ rfl rfl hl.1 rfl (lv_room (Nat.le_of_ble_eq_true rfl)) dX4_look_54 ⟨Nat.le_refl _, Nat.le_refl _⟩) hD hS hA (fun r9 u0 H locs hp hP hD hS => ?_)
    have hp := hp.symm; subst hp
    refine lv_istore hx hb dX4_look_57 hl (by decide) rfl (fun ls hl => ?_)
    have hl : lv_has ls 8 [(7, .int r5), (5, .long S.2), (4, .int (S.1.1 11)), (3, .int (S.1.1 10)), (0, .ref h), (1, .ref (ad i)), (2, .int a2)] := hl
    refine lv_aload_n hx hb dX4_look_59 rfl (lv_at hl 4 rfl) ?_
    refine lv_aload_n hx hb dX4_look_60 rfl (lv_at hl 5 rfl) ?_
    refine va_getN (D := G.1) (ci := 0) (v := .int (tA T i 2)) (C := RX0) (T := TX0) (N := 13) hx hb hts inX0 hown hK.1 hP (10 + i) (sW_n hi) rfl 2 (by decide) (hK.2.1.use w_68) (fun _ h9 => h9) rfl dX4_look_61 ?_
    refine va_put (D := G.1) (ci := 4) (v := .int (tA T i 2)) (ty := .int) (C := RX4) (T := TX4) (N := 13) hx hb hts inX4 tyX4 tyX4_ok nmX4 hown hK.1 hP hD hS 0 sW_0 rfl 9 (by decide) (hts _ w_150) (fun _ h9 => h9) rfl (by decide +kernel) rfl rfl sF_l9 dX4_look_64 (fun H locs hP hD hS => ?_)
    rw [sW_f9] at hP hD
    refine lv_aload_n hx hb dX4_look_67 rfl (lv_at hl 4 rfl) ?_
    refine lv_iload_n hx hb dX4_look_68 rfl (lv_at hl 3 rfl) ?_
    refine va_put (D := G.1) (ci := 4) (v := .int (S.1.1 10)) (ty := .int) (C := RX4) (T := TX4) (N := 13) hx hb hts inX4 tyX4 tyX4_ok nmX4 hown hK.1 hP hD hS 0 sW_0 rfl 10 (by decide) (hts _ w_151) (fun _ h9 => h9) rfl (by decide +kernel) rfl rfl sF_l10 dX4_look_69 (fun H locs hP hD hS => ?_)
    rw [sW_f10] at hP hD
    refine lv_aload_n hx hb dX4_look_72 rfl (lv_at hl 4 rfl) ?_
    refine lv_iload hx hb dX4_look_73 (lv_at hl 2 rfl) ?_
    refine va_put (D := G.1) (ci := 4) (v := .int (S.1.1 11)) (ty := .int) (C := RX4) (T := TX4) (N := 13) hx hb hts inX4 tyX4 tyX4_ok nmX4 hown hK.1 hP hD hS 0 sW_0 rfl 11 (by decide) (hts _ w_153) (fun _ h9 => h9) rfl (by decide +kernel) rfl rfl sF_l11 dX4_look_75 (fun H locs hP hD hS => ?_)
    rw [sW_f11] at hP hD
    refine lv_aload_n hx hb dX4_look_78 rfl (lv_at hl 5 rfl) ?_
    refine va_getN (D := G.1) (ci := 0) (v := .int (tA T i 10)) (C := RX0) (T := TX0) (N := 13) hx hb hts inX0 hown hK.1 hP (10 + i) (sW_n hi) rfl 10 (by decide) (hK.2.1.use w_84) (fun _ h9 => h9) rfl dX4_look_79 ?_
    refine lv_if_eq (tgt := 91) hx hb dX4_look_82 (by decide) (fun h6 => ?_) (fun h6 => ?_)
    ·
      rw [if_pos h6] at hE
      refine lv_iload hx hb dX4_look_91 (lv_at hl 0 rfl) ?_
      refine lv_aload_n hx hb dX4_look_93 rfl (lv_at hl 5 rfl) ?_
      refine va_getN (D := G.1) (ci := 0) (v := .int (tA T i 10)) (C := RX0) (T := TX0) (N := 13) hx hb hts inX0 hown hK.1 hP (10 + i) (sW_n hi) rfl 10 (by decide) (hK.2.1.use w_84) (fun _ h9 => h9) rfl dX4_look_94 ?_
      refine lv_icmp_eq (tgt := 104) hx hb dX4_look_97 (by decide) (fun h7 => ?_) (fun h7 => ?_)
      ·
        rw [if_pos h7] at hE
        refine lv_iconst (v := 0) hx hb dX4_look_104 (by decide) ?_
        obtain ⟨rfl, rfl⟩ := hE
        exact en_i F hS _ () (by rfl) rfl hP hD (Nat.le_refl _) (Nat.le_refl _) dX4_look_105
      ·
        rw [if_neg h7] at hE
        refine lv_iconst (v := 1) hx hb dX4_look_100 (by decide) ?_
        refine lv_goto (tgt := 105) hx hb dX4_look_101 (by decide) ?_
        obtain ⟨rfl, rfl⟩ := hE
        exact en_i F hS _ () (by rfl) rfl hP hD (Nat.le_refl _) (Nat.le_refl _) dX4_look_105
    ·
      rw [if_neg h6] at hE
      refine lv_aload_n hx hb dX4_look_85 rfl (lv_at hl 4 rfl) ?_
      refine lv_lload hx hb dX4_look_86 (lv_at hl 1 rfl) ?_
      refine va_put (D := G.1) (ci := 4) (v := .long S.2) (ty := .long) (C := RX4) (T := TX4) (N := 13) hx hb hts inX4 tyX4 tyX4_ok nmX4 hown hK.1 hP hD hS 0 sW_0 rfl 12 (by decide) (hts _ w_154) (fun _ h9 => h9) rfl (by decide +kernel) rfl rfl sF_l12 dX4_look_88 (fun H locs hP hD hS => ?_)
      rw [sW_f12] at hP hD
      refine lv_iload hx hb dX4_look_91 (lv_at hl 0 rfl) ?_
      refine lv_aload_n hx hb dX4_look_93 rfl (lv_at hl 5 rfl) ?_
      refine va_getN (D := G.1) (ci := 0) (v := .int (tA T i 10)) (C := RX0) (T := TX0) (N := 13) hx hb hts inX0 hown hK.1 hP (10 + i) (sW_n hi) rfl 10 (by decide) (hK.2.1.use w_84) (fun _ h9 => h9) rfl dX4_look_94 ?_
      refine lv_icmp_eq (tgt := 104) hx hb dX4_look_97 (by decide) (fun h8 => ?_) (fun h8 => ?_)
      ·
        rw [if_pos h8] at hE
        refine lv_iconst (v := 0) hx hb dX4_look_104 (by decide) ?_
        obtain ⟨rfl, rfl⟩ := hE
        exact en_i F hS _ () (by rfl) rfl hP hD (Nat.le_refl _) (Nat.le_refl _) dX4_look_105
      ·
        rw [if_neg h8] at hE
        refine lv_iconst (v := 1) hx hb dX4_look_100 (by decide) ?_
        refine lv_goto (tgt := 105) hx hb dX4_look_101 (by decide) ?_
        obtain ⟨rfl, rfl⟩ := hE
        exact en_i F hS _ () (by rfl) rfl hP hD (Nat.le_refl _) (Nat.le_refl _) dX4_look_105
  ·
    rw [if_neg h3] at hE
    refine lv_aload_n hx hb dX4_look_31 rfl (lv_at hl 3 rfl) ?_
    refine lv_aload_n hx hb dX4_look_32 rfl (lv_at hl 4 rfl) ?_
    refine va_getN (D := G.1) (ci := 0) (v := .int (tA T i 3)) (C := RX0) (T := TX0) (N := 13) hx hb hts inX0 hown hK.1 hP (10 + i) (sW_n hi) rfl 3 (by decide) (hK.2.1.use w_71) (fun _ h9 => h9) rfl dX4_look_33 ?_
    refine lv_iload_n hx hb dX4_look_36 rfl (lv_at hl 5 rfl) ?_
    refine lv_iconst (v := 1) hx hb dX4_look_37 (by decide) ?_
    refine lv_iadd hx hb dX4_look_38 ?_
    obtain ⟨S9, r10, hg, hE⟩ := hE
    refine kA_i (va_runV (As := [.int (tA T i 3), .int (a2 + 1)]) (rest := []) F.1 (e_s_lookBehind l G h q ad T hO RUN f n hf hn hR S1 (tA T i 3) (a2 + 1) S9 r10 hg _) (cwV 2 hts (aw_V w_720 w_722 ws_X4_lookBehind w_2 w_723) rfl rfl rfl (by decide +kernel) ⟨by dsimp only; omega, by dsimp only; omega⟩) ⟨cS_blind, va_recv (q := (RX4, TX4, 13)) (ci := 4) (q0 := 0) hK.1 hP rfl sW_0, cS_pre hP hD hK⟩ rfl rfl hl.1 rfl (lv_room (Nat.le_of_ble_eq_true rfl)) dX4_look_39 ⟨Nat.le_refl _, Nat.le_refl _⟩) hD hS hA (fun r9 u0 H locs hp hP hD hS => ?_)
    have hp := hp.symm; subst hp
    refine lv_goto (tgt := 57) hx hb dX4_look_42 (by decide) ?_
    refine lv_istore hx hb dX4_look_57 hl (by decide) rfl (fun ls hl => ?_)
    have hl : lv_has ls 8 [(7, .int r10), (5, .long S.2), (4, .int (S.1.1 11)), (3, .int (S.1.1 10)), (0, .ref h), (1, .ref (ad i)), (2, .int a2)] := hl
    refine lv_aload_n hx hb dX4_look_59 rfl (lv_at hl 4 rfl) ?_
    refine lv_aload_n hx hb dX4_look_60 rfl (lv_at hl 5 rfl) ?_
    refine va_getN (D := G.1) (ci := 0) (v := .int (tA T i 2)) (C := RX0) (T := TX0) (N := 13) hx hb hts inX0 hown hK.1 hP (10 + i) (sW_n hi) rfl 2 (by decide) (hK.2.1.use w_68) (fun _ h9 => h9) rfl dX4_look_61 ?_
    refine va_put (D := G.1) (ci := 4) (v := .int (tA T i 2)) (ty := .int) (C := RX4) (T := TX4) (N := 13) hx hb hts inX4 tyX4 tyX4_ok nmX4 hown hK.1 hP hD hS 0 sW_0 rfl 9 (by decide) (hts _ w_150) (fun _ h9 => h9) rfl (by decide +kernel) rfl rfl sF_l9 dX4_look_64 (fun H locs hP hD hS => ?_)
    rw [sW_f9] at hP hD
    refine lv_aload_n hx hb dX4_look_67 rfl (lv_at hl 4 rfl) ?_
    refine lv_iload_n hx hb dX4_look_68 rfl (lv_at hl 3 rfl) ?_
    refine va_put (D := G.1) (ci := 4) (v := .int (S.1.1 10)) (ty := .int) (C := RX4) (T := TX4) (N := 13) hx hb hts inX4 tyX4 tyX4_ok nmX4 hown hK.1 hP hD hS 0 sW_0 rfl 10 (by decide) (hts _ w_151) (fun _ h9 => h9) rfl (by decide +kernel) rfl rfl sF_l10 dX4_look_69 (fun H locs hP hD hS => ?_)
    rw [sW_f10] at hP hD
    refine lv_aload_n hx hb dX4_look_72 rfl (lv_at hl 4 rfl) ?_
    refine lv_iload hx hb dX4_look_73 (lv_at hl 2 rfl) ?_
    refine va_put (D := G.1) (ci := 4) (v := .int (S.1.1 11)) (ty := .int) (C := RX4) (T := TX4) (N := 13) hx hb hts inX4 tyX4 tyX4_ok nmX4 hown hK.1 hP hD hS 0 sW_0 rfl 11 (by decide) (hts _ w_153) (fun _ h9 => h9) rfl (by decide +kernel) rfl rfl sF_l11 dX4_look_75 (fun H locs hP hD hS => ?_)
    rw [sW_f11] at hP hD
    refine lv_aload_n hx hb dX4_look_78 rfl (lv_at hl 5 rfl) ?_
    refine va_getN (D := G.1) (ci := 0) (v := .int (tA T i 10)) (C := RX0) (T := TX0) (N := 13) hx hb hts inX0 hown hK.1 hP (10 + i) (sW_n hi) rfl 10 (by decide) (hK.2.1.use w_84) (fun _ h9 => h9) rfl dX4_look_79 ?_
    refine lv_if_eq (tgt := 91) hx hb dX4_look_82 (by decide) (fun h11 => ?_) (fun h11 => ?_)
    ·
      rw [if_pos h11] at hE
      refine lv_iload hx hb dX4_look_91 (lv_at hl 0 rfl) ?_
      refine lv_aload_n hx hb dX4_look_93 rfl (lv_at hl 5 rfl) ?_
      refine va_getN (D := G.1) (ci := 0) (v := .int (tA T i 10)) (C := RX0) (T := TX0) (N := 13) hx hb hts inX0 hown hK.1 hP (10 + i) (sW_n hi) rfl 10 (by decide) (hK.2.1.use w_84) (fun _ h9 => h9) rfl dX4_look_94 ?_
      refine lv_icmp_eq (tgt := 104) hx hb dX4_look_97 (by decide) (fun h12 => ?_) (fun h12 => ?_)
      ·
        rw [if_pos h12] at hE
        refine lv_iconst (v := 0) hx hb dX4_look_104 (by decide) ?_
        obtain ⟨rfl, rfl⟩ := hE
        exact en_i F hS _ () (by rfl) rfl hP hD (Nat.le_refl _) (Nat.le_refl _) dX4_look_105
      ·
        rw [if_neg h12] at hE
        refine lv_iconst (v := 1) hx hb dX4_look_100 (by decide) ?_
        refine lv_goto (tgt := 105) hx hb dX4_look_101 (by decide) ?_
        obtain ⟨rfl, rfl⟩ := hE
        exact en_i F hS _ () (by rfl) rfl hP hD (Nat.le_refl _) (Nat.le_refl _) dX4_look_105
    ·
      rw [if_neg h11] at hE
      refine lv_aload_n hx hb dX4_look_85 rfl (lv_at hl 4 rfl) ?_
      refine lv_lload hx hb dX4_look_86 (lv_at hl 1 rfl) ?_
      refine va_put (D := G.1) (ci := 4) (v := .long S.2) (ty := .long) (C := RX4) (T := TX4) (N := 13) hx hb hts inX4 tyX4 tyX4_ok nmX4 hown hK.1 hP hD hS 0 sW_0 rfl 12 (by decide) (hts _ w_154) (fun _ h9 => h9) rfl (by decide +kernel) rfl rfl sF_l12 dX4_look_88 (fun H locs hP hD hS => ?_)
      rw [sW_f12] at hP hD
      refine lv_iload hx hb dX4_look_91 (lv_at hl 0 rfl) ?_
      refine lv_aload_n hx hb dX4_look_93 rfl (lv_at hl 5 rfl) ?_
      refine va_getN (D := G.1) (ci := 0) (v := .int (tA T i 10)) (C := RX0) (T := TX0) (N := 13) hx hb hts inX0 hown hK.1 hP (10 + i) (sW_n hi) rfl 10 (by decide) (hK.2.1.use w_84) (fun _ h9 => h9) rfl dX4_look_94 ?_
      refine lv_icmp_eq (tgt := 104) hx hb dX4_look_97 (by decide) (fun h13 => ?_) (fun h13 => ?_)
      ·
        rw [if_pos h13] at hE
        refine lv_iconst (v := 0) hx hb dX4_look_104 (by decide) ?_
        obtain ⟨rfl, rfl⟩ := hE
        exact en_i F hS _ () (by rfl) rfl hP hD (Nat.le_refl _) (Nat.le_refl _) dX4_look_105
      ·
        rw [if_neg h13] at hE
        refine lv_iconst (v := 1) hx hb dX4_look_100 (by decide) ?_
        refine lv_goto (tgt := 105) hx hb dX4_look_101 (by decide) ?_
        obtain ⟨rfl, rfl⟩ := hE
        exact en_i F hS _ () (by rfl) rfl hP hD (Nat.le_refl _) (Nat.le_refl _) dX4_look_105

theorem dX4_step_0 : decode cX4_step 0 = .ok (.aload_n 0, 1) := by decide +kernel
theorem dX4_step_1 : decode cX4_step 1 = .ok (.aload_n 1, 1) := by decide +kernel
theorem dX4_step_2 : decode cX4_step 2 = .ok (.getfield 89, 3) := by decide +kernel
theorem dX4_step_5 : decode cX4_step 5 = .ok (.putfield 67, 3) := by decide +kernel
theorem dX4_step_8 : decode cX4_step 8 = .ok (.aload_n 1, 1) := by decide +kernel
theorem dX4_step_9 : decode cX4_step 9 = .ok (.getfield 80, 3) := by decide +kernel
theorem dX4_step_12 : decode cX4_step 12 = .ok (.tableswitch 263 2 15 #[72, 78, 91, 111, 116, 129, 138, 159, 180, 208, 210, 226, 249, 256], 72) := by decide +kernel
theorem dX4_step_84 : decode cX4_step 84 = .ok (.aload_n 0, 1) := by decide +kernel
theorem dX4_step_85 : decode cX4_step 85 = .ok (.aload_n 1, 1) := by decide +kernel
theorem dX4_step_86 : decode cX4_step 86 = .ok (.invokevirtual 92, 3) := by decide +kernel
theorem dX4_step_89 : decode cX4_step 89 = .ok (.ireturn, 1) := by decide +kernel
theorem dX4_step_90 : decode cX4_step 90 = .ok (.aload_n 0, 1) := by decide +kernel
theorem dX4_step_91 : decode cX4_step 91 = .ok (.getfield 51, 3) := by decide +kernel
theorem dX4_step_94 : decode cX4_step 94 = .ok (.ifCond .ne 7, 3) := by decide +kernel
theorem dX4_step_97 : decode cX4_step 97 = .ok (.iconst 1, 1) := by decide +kernel
theorem dX4_step_98 : decode cX4_step 98 = .ok (.goto 4, 3) := by decide +kernel
theorem dX4_step_101 : decode cX4_step 101 = .ok (.iconst 0, 1) := by decide +kernel
theorem dX4_step_102 : decode cX4_step 102 = .ok (.ireturn, 1) := by decide +kernel
theorem dX4_step_103 : decode cX4_step 103 = .ok (.aload_n 0, 1) := by decide +kernel
theorem dX4_step_104 : decode cX4_step 104 = .ok (.getfield 51, 3) := by decide +kernel
theorem dX4_step_107 : decode cX4_step 107 = .ok (.aload_n 0, 1) := by decide +kernel
theorem dX4_step_108 : decode cX4_step 108 = .ok (.getfield 14, 3) := by decide +kernel
theorem dX4_step_111 : decode cX4_step 111 = .ok (.invokevirtual 96, 3) := by decide +kernel
theorem dX4_step_114 : decode cX4_step 114 = .ok (.if_icmp .ne 7, 3) := by decide +kernel
theorem dX4_step_117 : decode cX4_step 117 = .ok (.iconst 1, 1) := by decide +kernel
theorem dX4_step_118 : decode cX4_step 118 = .ok (.goto 4, 3) := by decide +kernel
theorem dX4_step_121 : decode cX4_step 121 = .ok (.iconst 0, 1) := by decide +kernel
theorem dX4_step_122 : decode cX4_step 122 = .ok (.ireturn, 1) := by decide +kernel
theorem dX4_step_123 : decode cX4_step 123 = .ok (.aload_n 0, 1) := by decide +kernel
theorem dX4_step_124 : decode cX4_step 124 = .ok (.invokevirtual 100, 3) := by decide +kernel
theorem dX4_step_127 : decode cX4_step 127 = .ok (.ireturn, 1) := by decide +kernel
theorem dX4_step_128 : decode cX4_step 128 = .ok (.aload_n 0, 1) := by decide +kernel
theorem dX4_step_129 : decode cX4_step 129 = .ok (.invokevirtual 100, 3) := by decide +kernel
theorem dX4_step_132 : decode cX4_step 132 = .ok (.ifCond .ne 7, 3) := by decide +kernel
theorem dX4_step_135 : decode cX4_step 135 = .ok (.iconst 1, 1) := by decide +kernel
theorem dX4_step_136 : decode cX4_step 136 = .ok (.goto 4, 3) := by decide +kernel
theorem dX4_step_139 : decode cX4_step 139 = .ok (.iconst 0, 1) := by decide +kernel
theorem dX4_step_140 : decode cX4_step 140 = .ok (.ireturn, 1) := by decide +kernel
theorem dX4_step_141 : decode cX4_step 141 = .ok (.aload_n 0, 1) := by decide +kernel
theorem dX4_step_142 : decode cX4_step 142 = .ok (.aload_n 1, 1) := by decide +kernel
theorem dX4_step_143 : decode cX4_step 143 = .ok (.getfield 104, 3) := by decide +kernel
theorem dX4_step_146 : decode cX4_step 146 = .ok (.invokevirtual 107, 3) := by decide +kernel
theorem dX4_step_149 : decode cX4_step 149 = .ok (.ireturn, 1) := by decide +kernel
theorem dX4_step_150 : decode cX4_step 150 = .ok (.aload_n 0, 1) := by decide +kernel
theorem dX4_step_151 : decode cX4_step 151 = .ok (.aload_n 0, 1) := by decide +kernel
theorem dX4_step_152 : decode cX4_step 152 = .ok (.getfield 56, 3) := by decide +kernel
theorem dX4_step_155 : decode cX4_step 155 = .ok (.aload_n 1, 1) := by decide +kernel
theorem dX4_step_156 : decode cX4_step 156 = .ok (.getfield 104, 3) := by decide +kernel
theorem dX4_step_159 : decode cX4_step 159 = .ok (.aload_n 0, 1) := by decide +kernel
theorem dX4_step_160 : decode cX4_step 160 = .ok (.getfield 51, 3) := by decide +kernel
theorem dX4_step_163 : decode cX4_step 163 = .ok (.invokestatic 111, 3) := by decide +kernel
theorem dX4_step_166 : decode cX4_step 166 = .ok (.putfield 56, 3) := by decide +kernel
theorem dX4_step_169 : decode cX4_step 169 = .ok (.iconst 1, 1) := by decide +kernel
theorem dX4_step_170 : decode cX4_step 170 = .ok (.ireturn, 1) := by decide +kernel
theorem dX4_step_171 : decode cX4_step 171 = .ok (.aload_n 0, 1) := by decide +kernel
theorem dX4_step_172 : decode cX4_step 172 = .ok (.aload_n 0, 1) := by decide +kernel
theorem dX4_step_173 : decode cX4_step 173 = .ok (.getfield 56, 3) := by decide +kernel
theorem dX4_step_176 : decode cX4_step 176 = .ok (.aload_n 1, 1) := by decide +kernel
theorem dX4_step_177 : decode cX4_step 177 = .ok (.getfield 104, 3) := by decide +kernel
theorem dX4_step_180 : decode cX4_step 180 = .ok (.aload_n 0, 1) := by decide +kernel
theorem dX4_step_181 : decode cX4_step 181 = .ok (.getfield 51, 3) := by decide +kernel
theorem dX4_step_184 : decode cX4_step 184 = .ok (.invokestatic 115, 3) := by decide +kernel
theorem dX4_step_187 : decode cX4_step 187 = .ok (.putfield 56, 3) := by decide +kernel
theorem dX4_step_190 : decode cX4_step 190 = .ok (.iconst 1, 1) := by decide +kernel
theorem dX4_step_191 : decode cX4_step 191 = .ok (.ireturn, 1) := by decide +kernel
theorem dX4_step_192 : decode cX4_step 192 = .ok (.aload_n 1, 1) := by decide +kernel
theorem dX4_step_193 : decode cX4_step 193 = .ok (.getfield 118, 3) := by decide +kernel
theorem dX4_step_196 : decode cX4_step 196 = .ok (.ifCond .eq 18, 3) := by decide +kernel
theorem dX4_step_199 : decode cX4_step 199 = .ok (.aload_n 0, 1) := by decide +kernel
theorem dX4_step_200 : decode cX4_step 200 = .ok (.aload_n 1, 1) := by decide +kernel
theorem dX4_step_201 : decode cX4_step 201 = .ok (.getfield 118, 3) := by decide +kernel
theorem dX4_step_204 : decode cX4_step 204 = .ok (.aload_n 0, 1) := by decide +kernel
theorem dX4_step_205 : decode cX4_step 205 = .ok (.getfield 70, 3) := by decide +kernel
theorem dX4_step_208 : decode cX4_step 208 = .ok (.invokevirtual 121, 3) := by decide +kernel
theorem dX4_step_211 : decode cX4_step 211 = .ok (.ifCond .eq 7, 3) := by decide +kernel
theorem dX4_step_214 : decode cX4_step 214 = .ok (.iconst 1, 1) := by decide +kernel
theorem dX4_step_215 : decode cX4_step 215 = .ok (.goto 4, 3) := by decide +kernel
theorem dX4_step_218 : decode cX4_step 218 = .ok (.iconst 0, 1) := by decide +kernel
theorem dX4_step_219 : decode cX4_step 219 = .ok (.ireturn, 1) := by decide +kernel
theorem dX4_step_220 : decode cX4_step 220 = .ok (.iconst 1, 1) := by decide +kernel
theorem dX4_step_221 : decode cX4_step 221 = .ok (.ireturn, 1) := by decide +kernel
theorem dX4_step_222 : decode cX4_step 222 = .ok (.aload_n 0, 1) := by decide +kernel
theorem dX4_step_223 : decode cX4_step 223 = .ok (.aload_n 0, 1) := by decide +kernel
theorem dX4_step_224 : decode cX4_step 224 = .ok (.aload_n 1, 1) := by decide +kernel
theorem dX4_step_225 : decode cX4_step 225 = .ok (.getfield 125, 3) := by decide +kernel
theorem dX4_step_228 : decode cX4_step 228 = .ok (.bipush 8, 2) := by decide +kernel
theorem dX4_step_230 : decode cX4_step 230 = .ok (.invokevirtual 128, 3) := by decide +kernel
theorem dX4_step_233 : decode cX4_step 233 = .ok (.putfield 70, 3) := by decide +kernel
theorem dX4_step_236 : decode cX4_step 236 = .ok (.iconst 1, 1) := by decide +kernel
theorem dX4_step_237 : decode cX4_step 237 = .ok (.ireturn, 1) := by decide +kernel
theorem dX4_step_238 : decode cX4_step 238 = .ok (.aload_n 0, 1) := by decide +kernel
theorem dX4_step_239 : decode cX4_step 239 = .ok (.aload_n 1, 1) := by decide +kernel
theorem dX4_step_240 : decode cX4_step 240 = .ok (.iload_n 2, 1) := by decide +kernel
theorem dX4_step_241 : decode cX4_step 241 = .ok (.invokevirtual 132, 3) := by decide +kernel
theorem dX4_step_244 : decode cX4_step 244 = .ok (.ifCond .ne 15, 3) := by decide +kernel
theorem dX4_step_247 : decode cX4_step 247 = .ok (.aload_n 0, 1) := by decide +kernel
theorem dX4_step_248 : decode cX4_step 248 = .ok (.aload_n 1, 1) := by decide +kernel
theorem dX4_step_249 : decode cX4_step 249 = .ok (.invokevirtual 135, 3) := by decide +kernel
theorem dX4_step_252 : decode cX4_step 252 = .ok (.ifCond .eq 7, 3) := by decide +kernel
theorem dX4_step_255 : decode cX4_step 255 = .ok (.iconst 1, 1) := by decide +kernel
theorem dX4_step_256 : decode cX4_step 256 = .ok (.goto 4, 3) := by decide +kernel
theorem dX4_step_259 : decode cX4_step 259 = .ok (.iconst 0, 1) := by decide +kernel
theorem dX4_step_260 : decode cX4_step 260 = .ok (.ireturn, 1) := by decide +kernel
theorem dX4_step_261 : decode cX4_step 261 = .ok (.aload_n 0, 1) := by decide +kernel
theorem dX4_step_262 : decode cX4_step 262 = .ok (.aload_n 1, 1) := by decide +kernel
theorem dX4_step_263 : decode cX4_step 263 = .ok (.iload_n 2, 1) := by decide +kernel
theorem dX4_step_264 : decode cX4_step 264 = .ok (.invokevirtual 138, 3) := by decide +kernel
theorem dX4_step_267 : decode cX4_step 267 = .ok (.ireturn, 1) := by decide +kernel
theorem dX4_step_268 : decode cX4_step 268 = .ok (.aload_n 0, 1) := by decide +kernel
theorem dX4_step_269 : decode cX4_step 269 = .ok (.aload_n 1, 1) := by decide +kernel
theorem dX4_step_270 : decode cX4_step 270 = .ok (.iload_n 2, 1) := by decide +kernel
theorem dX4_step_271 : decode cX4_step 271 = .ok (.invokevirtual 141, 3) := by decide +kernel
theorem dX4_step_274 : decode cX4_step 274 = .ok (.ireturn, 1) := by decide +kernel
theorem dX4_step_275 : decode cX4_step 275 = .ok (.iconst 0, 1) := by decide +kernel
theorem dX4_step_276 : decode cX4_step 276 = .ok (.ireturn, 1) := by decide +kernel
def E_s_step (T : TD) (RUN : RT) (S : SS) (i : Nat) (a2 : Int32) (S' : SS) (r : Int32) : Prop := if (tA T i 1) = 2 then (∃ (S2 : SS) (r3 : Int32), E_s_takeCharacter T (sf S 9 (tA T i 2)) i S2 r3 ∧ (narrow .boolean (.int r3) = .int r3 ∧ S' = S2 ∧ r = r3)) else (if (tA T i 1) = 3 then (if (S.1.1 10) = 0 then (S' = (sf S 9 (tA T i 2)) ∧ r = 1) else (S' = (sf S 9 (tA T i 2)) ∧ r = 0)) else (if (tA T i 1) = 4 then (if (S.1.1 10) = (nI (tJ T)) then (S' = (sf S 9 (tA T i 2)) ∧ r = 1) else (S' = (sf S 9 (tA T i 2)) ∧ r = 0)) else (if (tA T i 1) = 5 then (∃ (S9 : SS) (r10 : Int32), E_s_isEdge T (sf S 9 (tA T i 2)) S9 r10 ∧ (narrow .boolean (.int r10) = .int r10 ∧ S' = S9 ∧ r = r10)) else (if (tA T i 1) = 6 then (∃ (S12 : SS) (r13 : Int32), E_s_isEdge T (sf S 9 (tA T i 2)) S12 r13 ∧ (if r13 = 0 then (S' = S12 ∧ r = 1) else (S' = S12 ∧ r = 0))) else (if (tA T i 1) = 7 then (∃ (S16 : SS) (r17 : Int32), E_s_takeSpanAgain T (sf S 9 (tA T i 2)) (tA T i 4) S16 r17 ∧ (narrow .boolean (.int r17) = .int r17 ∧ S' = S16 ∧ r = r17)) else (if (tA T i 1) = 8 then (∃ r19 : Int64, E_X5_spanOpened S.2 (tA T i 4) (S.1.1 10) r19 ∧ (S' = (ss (sf S 9 (tA T i 2)) r19) ∧ r = 1)) else (if (tA T i 1) = 9 then (∃ r21 : Int64, E_X5_spanClosed S.2 (tA T i 4) (S.1.1 10) r21 ∧ (S' = (ss (sf S 9 (tA T i 2)) r21) ∧ r = 1)) else (if (tA T i 1) = 10 then (if (tA T i 3) = 0 then (S' = (sf S 9 (tA T i 2)) ∧ r = 1) else (∃ (S24 : SS) (r25 : Int32), E_s_letWait T (sf S 9 (tA T i 2)) (tA T i 3) (S.1.1 11) S24 r25 ∧ (if r25 = 0 then (S' = S24 ∧ r = 0) else (S' = S24 ∧ r = 1)))) else (if (tA T i 1) = 11 then (S' = (sf S 9 (tA T i 2)) ∧ r = 1) else (if (tA T i 1) = 12 then (∃ (S29 : SS) (r30 : Int32), E_s_withLoop T (sf S 9 (tA T i 2)) (tA T i 5) 8 S29 r30 ∧ (S' = (sf S29 11 r30) ∧ r = 1)) else (if (tA T i 1) = 13 then (∃ (S32 : SS) (r33 : Int32), E_s_wasHere T (sf S 9 (tA T i 2)) i a2 S32 r33 ∧ (if r33 = 0 then (∃ (S35 : SS) (r36 : Int32), E_s_loop T S32 i S35 r36 ∧ (if r36 = 0 then (S' = S35 ∧ r = 0) else (S' = S35 ∧ r = 1))) else (S' = S32 ∧ r = 0))) else (if (tA T i 1) = 14 then (∃ (S39 : SS) (r40 : Int32), E_s_look T RUN (sf S 9 (tA T i 2)) i a2 S39 r40 ∧ (narrow .boolean (.int r40) = .int r40 ∧ S' = S39 ∧ r = r40)) else (if (tA T i 1) = 15 then (∃ (S42 : SS) (r43 : Int32), E_s_atomic T RUN (sf S 9 (tA T i 2)) i a2 S42 r43 ∧ (narrow .boolean (.int r43) = .int r43 ∧ S' = S42 ∧ r = r43)) else (S' = (sf S 9 (tA T i 2)) ∧ r = 0))))))))))))))
set_option maxHeartbeats 4000000 in
set_option maxRecDepth 100000 in
theorem e_s_step (l : Launch) (G : PG) (h : Nat) (q ad : Nat → Nat) (T : TD) (hO : tOK T) (RUN : RT) (f n : Nat) (hf : 6 ≤ f) (hn : 200 ≤ n) (hR : RC l G h q ad T f n RUN) (S : SS) (i : Nat) (hi : i < 32) (a2 : Int32) (S' : SS) (r : Int32) (hE : E_s_step T RUN S i a2 S' r) : Ci l yX4_step (Cond.code yX4_step cX4_step 3 (some .boolean) :: aW) { frames := f + 3, cells := 0, slots := 0, locals := n + 80 } G (sW G h q ad T S) [.ref h, .ref (ad i), .int a2] (fun (r9 : Int32) (_ : Unit) => r9 = r) (fun (_ : Unit) => sW G h q ad T S') 0 0 := by
  refine ofB (y := yX4_step) (G := G) (cc := cX4_step) (maxL := 3) (ret := (some .boolean)) (Qc := fun A => va_Qi (fun (r9 : Int32) (_ : Unit) => r9 = r) (oB G A (fun (_ : Unit) => sW G h q ad T S')) A) (by decide) rfl ?_
  intro p e s m below meth c A F hK hA hP hD
  have hS : va_S A s.heap s.heap [] := va_S.rf
  have hx := F.1.1; have hb := F.1.2.1; have hml := F.1.2.2.1; have hts := F.1.2.2.2.2
  have hown : s.vm.findClass RX4 = some m.cls := F.1.2.2.2.1
  have hl := lv_entry ([.ref h, .ref (ad i), .int a2]) (n := 3) (Nat.le_of_ble_eq_true rfl)
  rw [lg_entry_eq]
  generalize (lg_sl ([.ref h, .ref (ad i), .int a2]) ++ List.replicate (3 - (lg_sl ([.ref h, .ref (ad i), .int a2])).length) Slot.unset).toArray = ls at hl ⊢
  have hl : lv_has ls 3 [(0, .ref h), (1, .ref (ad i)), (2, .int a2)] := hl
  unfold E_s_step at hE
  refine lv_aload_n hx hb dX4_step_0 rfl (lv_at hl 0 rfl) ?_
  refine lv_aload_n hx hb dX4_step_1 rfl (lv_at hl 1 rfl) ?_
  refine va_getN (D := G.1) (ci := 0) (v := .int (tA T i 2)) (C := RX0) (T := TX0) (N := 13) hx hb hts inX0 hown hK.1 hP (10 + i) (sW_n hi) rfl 2 (by decide) (hK.2.1.use w_68) (fun _ h9 => h9) rfl dX4_step_2 ?_
  refine va_put (D := G.1) (ci := 4) (v := .int (tA T i 2)) (ty := .int) (C := RX4) (T := TX4) (N := 13) hx hb hts inX4 tyX4 tyX4_ok nmX4 hown hK.1 hP hD hS 0 sW_0 rfl 9 (by decide) (hts _ w_150) (fun _ h9 => h9) rfl (by decide +kernel) rfl rfl sF_l9 dX4_step_5 (fun H locs hP hD hS => ?_)
  rw [sW_f9] at hP hD
  refine lv_aload_n hx hb dX4_step_8 rfl (lv_at hl 1 rfl) ?_
  refine va_getN (D := G.1) (ci := 0) (v := .int (tA T i 1)) (C := RX0) (T := TX0) (N := 13) hx hb hts inX0 hown hK.1 hP (10 + i) (sW_n hi) rfl 1 (by decide) (hK.2.1.use w_65) (fun _ h9 => h9) rfl dX4_step_9 ?_
  by_cases h1 : (tA T i 1) = 2
  ·
    rw [if_pos h1] at hE
    refine tp_i 2 h1 ?_
    refine lv_tableIn (tgt := 84) hx hb dX4_step_12 (by decide) (by decide) rfl (by decide) ?_
    refine lv_aload_n hx hb dX4_step_84 rfl (lv_at hl 0 rfl) ?_
    refine lv_aload_n hx hb dX4_step_85 rfl (lv_at hl 1 rfl) ?_
    obtain ⟨S2, r3, hg, hE⟩ := hE
    refine kA_i (va_runV (As := [.ref (ad i)]) (rest := []) F.1 (e_s_takeCharacter l G h q ad T hO (sf S 9 (tA T i 2)) i hi S2 r3 hg _) (cwV 1 hts (aw_V w_645 w_647 ws_X4_takeCharacter w_2 w_648) rfl rfl rfl (by decide +kernel) ⟨by dsimp only; omega, by dsimp only; omega⟩) ⟨cS_blind, va_recv (q := (RX4, TX4, 13)) (ci := 4) (q0 := 0) hK.1 hP rfl sW_0, cS_pre hP hD hK⟩ rfl rfl hl.1 rfl (lv_room (Nat.le_of_ble_eq_true rfl)) dX4_step_86 ⟨Nat.le_refl _, Nat.le_refl _⟩) hD hS hA (fun r9 u0 H locs hp hP hD hS => ?_)
    have hp := hp.symm; subst hp
    obtain ⟨hn, rfl, rfl⟩ := hE
    exact en_i F hS _ () hn rfl hP hD (Nat.le_refl _) (Nat.le_refl _) dX4_step_89
  rw [if_neg h1] at hE
  by_cases h4 : (tA T i 1) = 3
  ·
    rw [if_pos h4] at hE
    refine tp_i 3 h4 ?_
    refine lv_tableIn (tgt := 90) hx hb dX4_step_12 (by decide) (by decide) rfl (by decide) ?_
    refine lv_aload_n hx hb dX4_step_90 rfl (lv_at hl 0 rfl) ?_
    refine va_get (D := G.1) (ci := 4) (C := RX4) (T := TX4) (N := 13) hx hb hts inX4 hown hK.1 hP 0 sW_0 rfl 10 (by decide) (hts _ w_151) (fun _ h9 => h9) sF_10 dX4_step_91 ?_
    refine tp_i (S.1.1 10) rfl ?_
    refine lv_if_ne (tgt := 101) hx hb dX4_step_94 (by decide) (fun h5 => ?_) (fun h5 => ?_)
    ·
      rw [if_neg h5] at hE
      refine lv_iconst (v := 0) hx hb dX4_step_101 (by decide) ?_
      obtain ⟨rfl, rfl⟩ := hE
      exact en_i F hS _ () (by rfl) rfl hP hD (Nat.le_refl _) (Nat.le_refl _) dX4_step_102
    ·
      rw [if_pos h5] at hE
      refine lv_iconst (v := 1) hx hb dX4_step_97 (by decide) ?_
      refine lv_goto (tgt := 102) hx hb dX4_step_98 (by decide) ?_
      obtain ⟨rfl, rfl⟩ := hE
      exact en_i F hS _ () (by rfl) rfl hP hD (Nat.le_refl _) (Nat.le_refl _) dX4_step_102
  rw [if_neg h4] at hE
  by_cases h6 : (tA T i 1) = 4
  ·
    rw [if_pos h6] at hE
    refine tp_i 4 h6 ?_
    refine lv_tableIn (tgt := 103) hx hb dX4_step_12 (by decide) (by decide) rfl (by decide) ?_
    refine lv_aload_n hx hb dX4_step_103 rfl (lv_at hl 0 rfl) ?_
    refine va_get (D := G.1) (ci := 4) (C := RX4) (T := TX4) (N := 13) hx hb hts inX4 hown hK.1 hP 0 sW_0 rfl 10 (by decide) (hts _ w_151) (fun _ h9 => h9) sF_10 dX4_step_104 ?_
    refine tp_i (S.1.1 10) rfl ?_
    refine lv_aload_n hx hb dX4_step_107 rfl (lv_at hl 0 rfl) ?_
    refine va_get (D := G.1) (ci := 4) (C := RX4) (T := TX4) (N := 13) hx hb hts inX4 hown hK.1 hP 0 sW_0 rfl 7 (by decide) (hts _ w_146) (fun _ h9 => h9) sF_7 dX4_step_108 ?_
    refine kp_V (va_runV (As := []) (rest := [.int (S.1.1 10)]) F.1 (v_row_size l G _ _ _ _ _ _) (cwV 0 hts (aw_V w_649 w_258 w_259 w_3 w_260) rfl rfl rfl (by decide +kernel) ⟨by dsimp only; omega, by dsimp only; omega⟩) ⟨cS_blind, va_recv (q := (RX3, TX3, 2)) (ci := 3) (q0 := 0) hK.1 (sP_row hP) rfl rfl, cS_pre (sP_row hP) (sD_row hD) hK⟩ rfl rfl hl.1 rfl (lv_room (Nat.le_of_ble_eq_true rfl)) dX4_step_111 ⟨Nat.le_refl _, Nat.le_refl _⟩) (fun v9 hp => ?_)
    subst hp
    refine lv_icmp_ne (tgt := 121) hx hb dX4_step_114 (by decide) (fun h7 => ?_) (fun h7 => ?_)
    ·
      rw [if_neg h7] at hE
      refine lv_iconst (v := 0) hx hb dX4_step_121 (by decide) ?_
      obtain ⟨rfl, rfl⟩ := hE
      exact en_i F hS _ () (by rfl) rfl hP hD (Nat.le_refl _) (Nat.le_refl _) dX4_step_122
    ·
      rw [if_pos h7] at hE
      refine lv_iconst (v := 1) hx hb dX4_step_117 (by decide) ?_
      refine lv_goto (tgt := 122) hx hb dX4_step_118 (by decide) ?_
      obtain ⟨rfl, rfl⟩ := hE
      exact en_i F hS _ () (by rfl) rfl hP hD (Nat.le_refl _) (Nat.le_refl _) dX4_step_122
  rw [if_neg h6] at hE
  by_cases h8 : (tA T i 1) = 5
  ·
    rw [if_pos h8] at hE
    refine tp_i 5 h8 ?_
    refine lv_tableIn (tgt := 123) hx hb dX4_step_12 (by decide) (by decide) rfl (by decide) ?_
    refine lv_aload_n hx hb dX4_step_123 rfl (lv_at hl 0 rfl) ?_
    obtain ⟨S9, r10, hg, hE⟩ := hE
    refine kA_i (va_runV (As := []) (rest := []) F.1 (e_s_isEdge l G h q ad T hO (sf S 9 (tA T i 2)) S9 r10 hg _) (cwV 0 hts (aw_V w_659 w_661 ws_X4_isEdge w_2 w_662) rfl rfl rfl (by decide +kernel) ⟨by dsimp only; omega, by dsimp only; omega⟩) ⟨cS_blind, va_recv (q := (RX4, TX4, 13)) (ci := 4) (q0 := 0) hK.1 hP rfl sW_0, cS_pre hP hD hK⟩ rfl rfl hl.1 rfl (lv_room (Nat.le_of_ble_eq_true rfl)) dX4_step_124 ⟨Nat.le_refl _, Nat.le_refl _⟩) hD hS hA (fun r9 u0 H locs hp hP hD hS => ?_)
    have hp := hp.symm; subst hp
    obtain ⟨hn, rfl, rfl⟩ := hE
    exact en_i F hS _ () hn rfl hP hD (Nat.le_refl _) (Nat.le_refl _) dX4_step_127
  rw [if_neg h8] at hE
  by_cases h11 : (tA T i 1) = 6
  ·
    rw [if_pos h11] at hE
    refine tp_i 6 h11 ?_
    refine lv_tableIn (tgt := 128) hx hb dX4_step_12 (by decide) (by decide) rfl (by decide) ?_
    refine lv_aload_n hx hb dX4_step_128 rfl (lv_at hl 0 rfl) ?_
    obtain ⟨S12, r13, hg, hE⟩ := hE
    refine kA_i (va_runV (As := []) (rest := []) F.1 (e_s_isEdge l G h q ad T hO (sf S 9 (tA T i 2)) S12 r13 hg _) (cwV 0 hts (aw_V w_659 w_661 ws_X4_isEdge w_2 w_662) rfl rfl rfl (by decide +kernel) ⟨by dsimp only; omega, by dsimp only; omega⟩) ⟨cS_blind, va_recv (q := (RX4, TX4, 13)) (ci := 4) (q0 := 0) hK.1 hP rfl sW_0, cS_pre hP hD hK⟩ rfl rfl hl.1 rfl (lv_room (Nat.le_of_ble_eq_true rfl)) dX4_step_129 ⟨Nat.le_refl _, Nat.le_refl _⟩) hD hS hA (fun r9 u0 H locs hp hP hD hS => ?_)
    have hp := hp.symm; subst hp
    refine lv_if_ne (tgt := 139) hx hb dX4_step_132 (by decide) (fun h14 => ?_) (fun h14 => ?_)
    ·
      rw [if_neg h14] at hE
      refine lv_iconst (v := 0) hx hb dX4_step_139 (by decide) ?_
      obtain ⟨rfl, rfl⟩ := hE
      exact en_i F hS _ () (by rfl) rfl hP hD (Nat.le_refl _) (Nat.le_refl _) dX4_step_140
    ·
      rw [if_pos h14] at hE
      refine lv_iconst (v := 1) hx hb dX4_step_135 (by decide) ?_
      refine lv_goto (tgt := 140) hx hb dX4_step_136 (by decide) ?_
      obtain ⟨rfl, rfl⟩ := hE
      exact en_i F hS _ () (by rfl) rfl hP hD (Nat.le_refl _) (Nat.le_refl _) dX4_step_140
  rw [if_neg h11] at hE
  by_cases h15 : (tA T i 1) = 7
  ·
    rw [if_pos h15] at hE
    refine tp_i 7 h15 ?_
    refine lv_tableIn (tgt := 141) hx hb dX4_step_12 (by decide) (by decide) rfl (by decide) ?_
    refine lv_aload_n hx hb dX4_step_141 rfl (lv_at hl 0 rfl) ?_
    refine lv_aload_n hx hb dX4_step_142 rfl (lv_at hl 1 rfl) ?_
    refine va_getN (D := G.1) (ci := 0) (v := .int (tA T i 4)) (C := RX0) (T := TX0) (N := 13) hx hb hts inX0 hown hK.1 hP (10 + i) (sW_n hi) rfl 4 (by decide) (hK.2.1.use w_72) (fun _ h9 => h9) rfl dX4_step_143 ?_
    obtain ⟨S16, r17, hg, hE⟩ := hE
    refine kA_i (va_runV (As := [.int (tA T i 4)]) (rest := []) F.1 (e_s_takeSpanAgain l G h q ad T hO (sf S 9 (tA T i 2)) (tA T i 4) S16 r17 hg _) (cwV 1 hts (aw_V w_668 w_670 ws_X4_takeSpanAgain w_2 w_671) rfl rfl rfl (by decide +kernel) ⟨by dsimp only; omega, by dsimp only; omega⟩) ⟨cS_blind, va_recv (q := (RX4, TX4, 13)) (ci := 4) (q0 := 0) hK.1 hP rfl sW_0, cS_pre hP hD hK⟩ rfl rfl hl.1 rfl (lv_room (Nat.le_of_ble_eq_true rfl)) dX4_step_146 ⟨Nat.le_refl _, Nat.le_refl _⟩) hD hS hA (fun r9 u0 H locs hp hP hD hS => ?_)
    have hp := hp.symm; subst hp
    obtain ⟨hn, rfl, rfl⟩ := hE
    exact en_i F hS _ () hn rfl hP hD (Nat.le_refl _) (Nat.le_refl _) dX4_step_149
  rw [if_neg h15] at hE
  by_cases h18 : (tA T i 1) = 8
  ·
    rw [if_pos h18] at hE
    refine tp_i 8 h18 ?_
    refine lv_tableIn (tgt := 150) hx hb dX4_step_12 (by decide) (by decide) rfl (by decide) ?_
    refine lv_aload_n hx hb dX4_step_150 rfl (lv_at hl 0 rfl) ?_
    refine lv_aload_n hx hb dX4_step_151 rfl (lv_at hl 0 rfl) ?_
    refine va_get (D := G.1) (ci := 4) (C := RX4) (T := TX4) (N := 13) hx hb hts inX4 hown hK.1 hP 0 sW_0 rfl 12 (by decide) (hts _ w_154) (fun _ h9 => h9) sF_12 dX4_step_152 ?_
    refine tp_l S.2 rfl ?_
    refine lv_aload_n hx hb dX4_step_155 rfl (lv_at hl 1 rfl) ?_
    refine va_getN (D := G.1) (ci := 0) (v := .int (tA T i 4)) (C := RX0) (T := TX0) (N := 13) hx hb hts inX0 hown hK.1 hP (10 + i) (sW_n hi) rfl 4 (by decide) (hK.2.1.use w_72) (fun _ h9 => h9) rfl dX4_step_156 ?_
    refine lv_aload_n hx hb dX4_step_159 rfl (lv_at hl 0 rfl) ?_
    refine va_get (D := G.1) (ci := 4) (C := RX4) (T := TX4) (N := 13) hx hb hts inX4 hown hK.1 hP 0 sW_0 rfl 10 (by decide) (hts _ w_151) (fun _ h9 => h9) sF_10 dX4_step_160 ?_
    refine tp_i (S.1.1 10) rfl ?_
    obtain ⟨r19, hg, hE⟩ := hE
    refine kp_V (va_runSN (As := [.long S.2, .int (tA T i 4), .int (S.1.1 10)]) (rest := [.ref h]) F.1 (e_X5_spanOpened l G S.2 (tA T i 4) (S.1.1 10) r19 hg _) (⟨va_cnB 3 hts (aw_G w_677) rfl rfl rfl (hK.2.1 _ w_675) (hts _ w_1) (by decide +kernel) ⟨by dsimp only; omega, by dsimp only; omega⟩, hts _ w_676, trivial⟩) ⟨cS_blind, cS_pre va_P0 (va_D0 (A := fun _ => True)) hK⟩ rfl rfl hl.1 rfl (lv_room (Nat.le_of_ble_eq_true rfl)) dX4_step_163 ⟨Nat.le_refl _, Nat.le_refl _⟩) (fun v9 hp => ?_)
    subst hp
    refine va_put (D := G.1) (ci := 4) (v := .long r19) (ty := .long) (C := RX4) (T := TX4) (N := 13) hx hb hts inX4 tyX4 tyX4_ok nmX4 hown hK.1 hP hD hS 0 sW_0 rfl 12 (by decide) (hts _ w_154) (fun _ h9 => h9) rfl (by decide +kernel) rfl rfl sF_l12 dX4_step_166 (fun H locs hP hD hS => ?_)
    rw [sW_f12] at hP hD
    refine lv_iconst (v := 1) hx hb dX4_step_169 (by decide) ?_
    obtain ⟨rfl, rfl⟩ := hE
    exact en_i F hS _ () (by rfl) rfl hP hD (Nat.le_refl _) (Nat.le_refl _) dX4_step_170
  rw [if_neg h18] at hE
  by_cases h20 : (tA T i 1) = 9
  ·
    rw [if_pos h20] at hE
    refine tp_i 9 h20 ?_
    refine lv_tableIn (tgt := 171) hx hb dX4_step_12 (by decide) (by decide) rfl (by decide) ?_
    refine lv_aload_n hx hb dX4_step_171 rfl (lv_at hl 0 rfl) ?_
    refine lv_aload_n hx hb dX4_step_172 rfl (lv_at hl 0 rfl) ?_
    refine va_get (D := G.1) (ci := 4) (C := RX4) (T := TX4) (N := 13) hx hb hts inX4 hown hK.1 hP 0 sW_0 rfl 12 (by decide) (hts _ w_154) (fun _ h9 => h9) sF_12 dX4_step_173 ?_
    refine tp_l S.2 rfl ?_
    refine lv_aload_n hx hb dX4_step_176 rfl (lv_at hl 1 rfl) ?_
    refine va_getN (D := G.1) (ci := 0) (v := .int (tA T i 4)) (C := RX0) (T := TX0) (N := 13) hx hb hts inX0 hown hK.1 hP (10 + i) (sW_n hi) rfl 4 (by decide) (hK.2.1.use w_72) (fun _ h9 => h9) rfl dX4_step_177 ?_
    refine lv_aload_n hx hb dX4_step_180 rfl (lv_at hl 0 rfl) ?_
    refine va_get (D := G.1) (ci := 4) (C := RX4) (T := TX4) (N := 13) hx hb hts inX4 hown hK.1 hP 0 sW_0 rfl 10 (by decide) (hts _ w_151) (fun _ h9 => h9) sF_10 dX4_step_181 ?_
    refine tp_i (S.1.1 10) rfl ?_
    obtain ⟨r21, hg, hE⟩ := hE
    refine kp_V (va_runSN (As := [.long S.2, .int (tA T i 4), .int (S.1.1 10)]) (rest := [.ref h]) F.1 (e_X5_spanClosed l G S.2 (tA T i 4) (S.1.1 10) r21 hg _) (⟨va_cnB 3 hts (aw_G w_682) rfl rfl rfl (hK.2.1 _ w_680) (hts _ w_1) (by decide +kernel) ⟨by dsimp only; omega, by dsimp only; omega⟩, hts _ w_681, trivial⟩) ⟨cS_blind, cS_pre va_P0 (va_D0 (A := fun _ => True)) hK⟩ rfl rfl hl.1 rfl (lv_room (Nat.le_of_ble_eq_true rfl)) dX4_step_184 ⟨Nat.le_refl _, Nat.le_refl _⟩) (fun v9 hp => ?_)
    subst hp
    refine va_put (D := G.1) (ci := 4) (v := .long r21) (ty := .long) (C := RX4) (T := TX4) (N := 13) hx hb hts inX4 tyX4 tyX4_ok nmX4 hown hK.1 hP hD hS 0 sW_0 rfl 12 (by decide) (hts _ w_154) (fun _ h9 => h9) rfl (by decide +kernel) rfl rfl sF_l12 dX4_step_187 (fun H locs hP hD hS => ?_)
    rw [sW_f12] at hP hD
    refine lv_iconst (v := 1) hx hb dX4_step_190 (by decide) ?_
    obtain ⟨rfl, rfl⟩ := hE
    exact en_i F hS _ () (by rfl) rfl hP hD (Nat.le_refl _) (Nat.le_refl _) dX4_step_191
  rw [if_neg h20] at hE
  by_cases h22 : (tA T i 1) = 10
  ·
    rw [if_pos h22] at hE
    refine tp_i 10 h22 ?_
    refine lv_tableIn (tgt := 192) hx hb dX4_step_12 (by decide) (by decide) rfl (by decide) ?_
    refine lv_aload_n hx hb dX4_step_192 rfl (lv_at hl 1 rfl) ?_
    refine va_getN (D := G.1) (ci := 0) (v := .int (tA T i 3)) (C := RX0) (T := TX0) (N := 13) hx hb hts inX0 hown hK.1 hP (10 + i) (sW_n hi) rfl 3 (by decide) (hK.2.1.use w_71) (fun _ h9 => h9) rfl dX4_step_193 ?_
    refine lv_if_eq (tgt := 214) hx hb dX4_step_196 (by decide) (fun h23 => ?_) (fun h23 => ?_)
    ·
      rw [if_pos h23] at hE
      refine lv_iconst (v := 1) hx hb dX4_step_214 (by decide) ?_
      refine lv_goto (tgt := 219) hx hb dX4_step_215 (by decide) ?_
      obtain ⟨rfl, rfl⟩ := hE
      exact en_i F hS _ () (by rfl) rfl hP hD (Nat.le_refl _) (Nat.le_refl _) dX4_step_219
    ·
      rw [if_neg h23] at hE
      refine lv_aload_n hx hb dX4_step_199 rfl (lv_at hl 0 rfl) ?_
      refine lv_aload_n hx hb dX4_step_200 rfl (lv_at hl 1 rfl) ?_
      refine va_getN (D := G.1) (ci := 0) (v := .int (tA T i 3)) (C := RX0) (T := TX0) (N := 13) hx hb hts inX0 hown hK.1 hP (10 + i) (sW_n hi) rfl 3 (by decide) (hK.2.1.use w_71) (fun _ h9 => h9) rfl dX4_step_201 ?_
      refine lv_aload_n hx hb dX4_step_204 rfl (lv_at hl 0 rfl) ?_
      refine va_get (D := G.1) (ci := 4) (C := RX4) (T := TX4) (N := 13) hx hb hts inX4 hown hK.1 hP 0 sW_0 rfl 11 (by decide) (hts _ w_153) (fun _ h9 => h9) sF_11 dX4_step_205 ?_
      refine tp_i (S.1.1 11) rfl ?_
      obtain ⟨S24, r25, hg, hE⟩ := hE
      refine kA_i (va_runV (As := [.int (tA T i 3), .int (S.1.1 11)]) (rest := []) F.1 (e_s_letWait l G h q ad T hO (sf S 9 (tA T i 2)) (tA T i 3) (S.1.1 11) S24 r25 hg _) (cwV 2 hts (aw_V w_685 w_687 ws_X4_letWait w_2 w_688) rfl rfl rfl (by decide +kernel) ⟨by dsimp only; omega, by dsimp only; omega⟩) ⟨cS_blind, va_recv (q := (RX4, TX4, 13)) (ci := 4) (q0 := 0) hK.1 hP rfl sW_0, cS_pre hP hD hK⟩ rfl rfl hl.1 rfl (lv_room (Nat.le_of_ble_eq_true rfl)) dX4_step_208 ⟨Nat.le_refl _, Nat.le_refl _⟩) hD hS hA (fun r9 u0 H locs hp hP hD hS => ?_)
      have hp := hp.symm; subst hp
      refine lv_if_eq (tgt := 218) hx hb dX4_step_211 (by decide) (fun h26 => ?_) (fun h26 => ?_)
      ·
        rw [if_pos h26] at hE
        refine lv_iconst (v := 0) hx hb dX4_step_218 (by decide) ?_
        obtain ⟨rfl, rfl⟩ := hE
        exact en_i F hS _ () (by rfl) rfl hP hD (Nat.le_refl _) (Nat.le_refl _) dX4_step_219
      ·
        rw [if_neg h26] at hE
        refine lv_iconst (v := 1) hx hb dX4_step_214 (by decide) ?_
        refine lv_goto (tgt := 219) hx hb dX4_step_215 (by decide) ?_
        obtain ⟨rfl, rfl⟩ := hE
        exact en_i F hS _ () (by rfl) rfl hP hD (Nat.le_refl _) (Nat.le_refl _) dX4_step_219
  rw [if_neg h22] at hE
  by_cases h27 : (tA T i 1) = 11
  ·
    rw [if_pos h27] at hE
    refine tp_i 11 h27 ?_
    refine lv_tableIn (tgt := 220) hx hb dX4_step_12 (by decide) (by decide) rfl (by decide) ?_
    refine lv_iconst (v := 1) hx hb dX4_step_220 (by decide) ?_
    obtain ⟨rfl, rfl⟩ := hE
    exact en_i F hS _ () (by rfl) rfl hP hD (Nat.le_refl _) (Nat.le_refl _) dX4_step_221
  rw [if_neg h27] at hE
  by_cases h28 : (tA T i 1) = 12
  ·
    rw [if_pos h28] at hE
    refine tp_i 12 h28 ?_
    refine lv_tableIn (tgt := 222) hx hb dX4_step_12 (by decide) (by decide) rfl (by decide) ?_
    refine lv_aload_n hx hb dX4_step_222 rfl (lv_at hl 0 rfl) ?_
    refine lv_aload_n hx hb dX4_step_223 rfl (lv_at hl 0 rfl) ?_
    refine lv_aload_n hx hb dX4_step_224 rfl (lv_at hl 1 rfl) ?_
    refine va_getN (D := G.1) (ci := 0) (v := .int (tA T i 5)) (C := RX0) (T := TX0) (N := 13) hx hb hts inX0 hown hK.1 hP (10 + i) (sW_n hi) rfl 5 (by decide) (hK.2.1.use w_74) (fun _ h9 => h9) rfl dX4_step_225 ?_
    refine lv_bipush (v := 8) hx hb dX4_step_228 (by decide) ?_
    obtain ⟨S29, r30, hg, hE⟩ := hE
    refine kA_i (va_runV (As := [.int (tA T i 5), .int 8]) (rest := [.ref h]) F.1 (e_s_withLoop l G h q ad T hO (sf S 9 (tA T i 2)) (tA T i 5) 8 S29 r30 hg _) (cwV 2 hts (aw_V w_693 w_695 ws_X4_withLoop w_2 w_696) rfl rfl rfl (by decide +kernel) ⟨by dsimp only; omega, by dsimp only; omega⟩) ⟨cS_blind, va_recv (q := (RX4, TX4, 13)) (ci := 4) (q0 := 0) hK.1 hP rfl sW_0, cS_pre hP hD hK⟩ rfl rfl hl.1 rfl (lv_room (Nat.le_of_ble_eq_true rfl)) dX4_step_230 ⟨Nat.le_refl _, Nat.le_refl _⟩) hD hS hA (fun r9 u0 H locs hp hP hD hS => ?_)
    have hp := hp.symm; subst hp
    refine va_put (D := G.1) (ci := 4) (v := .int r30) (ty := .int) (C := RX4) (T := TX4) (N := 13) hx hb hts inX4 tyX4 tyX4_ok nmX4 hown hK.1 hP hD hS 0 sW_0 rfl 11 (by decide) (hts _ w_153) (fun _ h9 => h9) rfl (by decide +kernel) rfl rfl sF_l11 dX4_step_233 (fun H locs hP hD hS => ?_)
    rw [sW_f11] at hP hD
    refine lv_iconst (v := 1) hx hb dX4_step_236 (by decide) ?_
    obtain ⟨rfl, rfl⟩ := hE
    exact en_i F hS _ () (by rfl) rfl hP hD (Nat.le_refl _) (Nat.le_refl _) dX4_step_237
  rw [if_neg h28] at hE
  by_cases h31 : (tA T i 1) = 13
  ·
    rw [if_pos h31] at hE
    refine tp_i 13 h31 ?_
    refine lv_tableIn (tgt := 238) hx hb dX4_step_12 (by decide) (by decide) rfl (by decide) ?_
    refine lv_aload_n hx hb dX4_step_238 rfl (lv_at hl 0 rfl) ?_
    refine lv_aload_n hx hb dX4_step_239 rfl (lv_at hl 1 rfl) ?_
    refine lv_iload_n hx hb dX4_step_240 rfl (lv_at hl 2 rfl) ?_
    obtain ⟨S32, r33, hg, hE⟩ := hE
    refine kA_i (va_runV (As := [.ref (ad i), .int a2]) (rest := []) F.1 (e_s_wasHere l G h q ad T hO (sf S 9 (tA T i 2)) i hi a2 S32 r33 hg _) (cwV 2 hts (aw_V w_697 w_699 ws_X4_wasHere w_2 w_700) rfl rfl rfl (by decide +kernel) ⟨by dsimp only; omega, by dsimp only; omega⟩) ⟨cS_blind, va_recv (q := (RX4, TX4, 13)) (ci := 4) (q0 := 0) hK.1 hP rfl sW_0, cS_pre hP hD hK⟩ rfl rfl hl.1 rfl (lv_room (Nat.le_of_ble_eq_true rfl)) dX4_step_241 ⟨Nat.le_refl _, Nat.le_refl _⟩) hD hS hA (fun r9 u0 H locs hp hP hD hS => ?_)
    have hp := hp.symm; subst hp
    refine lv_if_ne (tgt := 259) hx hb dX4_step_244 (by decide) (fun h34 => ?_) (fun h34 => ?_)
    ·
      rw [if_neg h34] at hE
      refine lv_iconst (v := 0) hx hb dX4_step_259 (by decide) ?_
      obtain ⟨rfl, rfl⟩ := hE
      exact en_i F hS _ () (by rfl) rfl hP hD (Nat.le_refl _) (Nat.le_refl _) dX4_step_260
    ·
      rw [if_pos h34] at hE
      refine lv_aload_n hx hb dX4_step_247 rfl (lv_at hl 0 rfl) ?_
      refine lv_aload_n hx hb dX4_step_248 rfl (lv_at hl 1 rfl) ?_
      obtain ⟨S35, r36, hg, hE⟩ := hE
      refine kA_i (va_runV (As := [.ref (ad i)]) (rest := []) F.1 (e_s_loop l G h q ad T hO S32 i hi S35 r36 hg _) (cwV 1 hts (aw_V w_707 w_709 ws_X4_loop w_2 w_710) rfl rfl rfl (by decide +kernel) ⟨by dsimp only; omega, by dsimp only; omega⟩) ⟨cS_blind, va_recv (q := (RX4, TX4, 13)) (ci := 4) (q0 := 0) hK.1 hP rfl sW_0, cS_pre hP hD hK⟩ rfl rfl hl.1 rfl (lv_room (Nat.le_of_ble_eq_true rfl)) dX4_step_249 ⟨Nat.le_refl _, Nat.le_refl _⟩) hD hS hA (fun r9 u0 H locs hp hP hD hS => ?_)
      have hp := hp.symm; subst hp
      refine lv_if_eq (tgt := 259) hx hb dX4_step_252 (by decide) (fun h37 => ?_) (fun h37 => ?_)
      ·
        rw [if_pos h37] at hE
        refine lv_iconst (v := 0) hx hb dX4_step_259 (by decide) ?_
        obtain ⟨rfl, rfl⟩ := hE
        exact en_i F hS _ () (by rfl) rfl hP hD (Nat.le_refl _) (Nat.le_refl _) dX4_step_260
      ·
        rw [if_neg h37] at hE
        refine lv_iconst (v := 1) hx hb dX4_step_255 (by decide) ?_
        refine lv_goto (tgt := 260) hx hb dX4_step_256 (by decide) ?_
        obtain ⟨rfl, rfl⟩ := hE
        exact en_i F hS _ () (by rfl) rfl hP hD (Nat.le_refl _) (Nat.le_refl _) dX4_step_260
  rw [if_neg h31] at hE
  by_cases h38 : (tA T i 1) = 14
  ·
    rw [if_pos h38] at hE
    refine tp_i 14 h38 ?_
    refine lv_tableIn (tgt := 261) hx hb dX4_step_12 (by decide) (by decide) rfl (by decide) ?_
    refine lv_aload_n hx hb dX4_step_261 rfl (lv_at hl 0 rfl) ?_
    refine lv_aload_n hx hb dX4_step_262 rfl (lv_at hl 1 rfl) ?_
    refine lv_iload_n hx hb dX4_step_263 rfl (lv_at hl 2 rfl) ?_
    obtain ⟨S39, r40, hg, hE⟩ := hE
    refine kA_i (va_runV (As := [.ref (ad i), .int a2]) (rest := []) F.1 (e_s_look l G h q ad T hO RUN f n hf hn hR (sf S 9 (tA T i 2)) i hi a2 S39 r40 hg _) (cwV 2 hts (aw_V w_715 w_717 ws_X4_look w_2 w_718) rfl rfl rfl (by decide +kernel) ⟨by dsimp only; omega, by dsimp only; omega⟩) ⟨cS_blind, va_recv (q := (RX4, TX4, 13)) (ci := 4) (q0 := 0) hK.1 hP rfl sW_0, cS_pre hP hD hK⟩ rfl rfl hl.1 rfl (lv_room (Nat.le_of_ble_eq_true rfl)) dX4_step_264 ⟨Nat.le_refl _, Nat.le_refl _⟩) hD hS hA (fun r9 u0 H locs hp hP hD hS => ?_)
    have hp := hp.symm; subst hp
    obtain ⟨hn, rfl, rfl⟩ := hE
    exact en_i F hS _ () hn rfl hP hD (Nat.le_refl _) (Nat.le_refl _) dX4_step_267
  rw [if_neg h38] at hE
  by_cases h41 : (tA T i 1) = 15
  ·
    rw [if_pos h41] at hE
    refine tp_i 15 h41 ?_
    refine lv_tableIn (tgt := 268) hx hb dX4_step_12 (by decide) (by decide) rfl (by decide) ?_
    refine lv_aload_n hx hb dX4_step_268 rfl (lv_at hl 0 rfl) ?_
    refine lv_aload_n hx hb dX4_step_269 rfl (lv_at hl 1 rfl) ?_
    refine lv_iload_n hx hb dX4_step_270 rfl (lv_at hl 2 rfl) ?_
    obtain ⟨S42, r43, hg, hE⟩ := hE
    refine kA_i (va_runV (As := [.ref (ad i), .int a2]) (rest := []) F.1 (e_s_atomic l G h q ad T hO RUN f n hf hn hR (sf S 9 (tA T i 2)) i hi a2 S42 r43 hg _) (cwV 2 hts (aw_V w_724 w_726 ws_X4_atomic w_2 w_727) rfl rfl rfl (by decide +kernel) ⟨by dsimp only; omega, by dsimp only; omega⟩) ⟨cS_blind, va_recv (q := (RX4, TX4, 13)) (ci := 4) (q0 := 0) hK.1 hP rfl sW_0, cS_pre hP hD hK⟩ rfl rfl hl.1 rfl (lv_room (Nat.le_of_ble_eq_true rfl)) dX4_step_271 ⟨Nat.le_refl _, Nat.le_refl _⟩) hD hS hA (fun r9 u0 H locs hp hP hD hS => ?_)
    have hp := hp.symm; subst hp
    obtain ⟨hn, rfl, rfl⟩ := hE
    exact en_i F hS _ () hn rfl hP hD (Nat.le_refl _) (Nat.le_refl _) dX4_step_274
  rw [if_neg h41] at hE
  refine lv_tableOut (tgt := 275) hx hb dX4_step_12 (sw_out (lo := 2) (hi := 15) (by decide) (by decide) (fun k h1 h2 => by rcases (show k = 2 ∨ k = 3 ∨ k = 4 ∨ k = 5 ∨ k = 6 ∨ k = 7 ∨ k = 8 ∨ k = 9 ∨ k = 10 ∨ k = 11 ∨ k = 12 ∨ k = 13 ∨ k = 14 ∨ k = 15 by omega) with rfl | rfl | rfl | rfl | rfl | rfl | rfl | rfl | rfl | rfl | rfl | rfl | rfl | rfl <;> assumption)) (by decide) ?_
  refine lv_iconst (v := 0) hx hb dX4_step_275 (by decide) ?_
  obtain ⟨rfl, rfl⟩ := hE
  exact en_i F hS _ () (by rfl) rfl hP hD (Nat.le_refl _) (Nat.le_refl _) dX4_step_276

theorem dX4_run_0 : decode cX4_run 0 = .ok (.iload_n 3, 1) := by decide +kernel
theorem dX4_run_1 : decode cX4_run 1 = .ok (.aload_n 0, 1) := by decide +kernel
theorem dX4_run_2 : decode cX4_run 2 = .ok (.getfield 41, 3) := by decide +kernel
theorem dX4_run_5 : decode cX4_run 5 = .ok (.arraylength, 1) := by decide +kernel
theorem dX4_run_6 : decode cX4_run 6 = .ok (.if_icmp .lt 5, 3) := by decide +kernel
theorem dX4_run_9 : decode cX4_run 9 = .ok (.iconst 0, 1) := by decide +kernel
theorem dX4_run_10 : decode cX4_run 10 = .ok (.ireturn, 1) := by decide +kernel
theorem dX4_run_11 : decode cX4_run 11 = .ok (.aload_n 0, 1) := by decide +kernel
theorem dX4_run_12 : decode cX4_run 12 = .ok (.getfield 48, 3) := by decide +kernel
theorem dX4_run_15 : decode cX4_run 15 = .ok (.istore 4, 2) := by decide +kernel
theorem dX4_run_17 : decode cX4_run 17 = .ok (.aload_n 0, 1) := by decide +kernel
theorem dX4_run_18 : decode cX4_run 18 = .ok (.iload_n 1, 1) := by decide +kernel
theorem dX4_run_19 : decode cX4_run 19 = .ok (.putfield 67, 3) := by decide +kernel
theorem dX4_run_22 : decode cX4_run 22 = .ok (.aload_n 0, 1) := by decide +kernel
theorem dX4_run_23 : decode cX4_run 23 = .ok (.iconst 0, 1) := by decide +kernel
theorem dX4_run_24 : decode cX4_run 24 = .ok (.putfield 70, 3) := by decide +kernel
theorem dX4_run_27 : decode cX4_run 27 = .ok (.iconst 1, 1) := by decide +kernel
theorem dX4_run_28 : decode cX4_run 28 = .ok (.istore 5, 2) := by decide +kernel
theorem dX4_run_30 : decode cX4_run 30 = .ok (.iconst 0, 1) := by decide +kernel
theorem dX4_run_31 : decode cX4_run 31 = .ok (.istore 6, 2) := by decide +kernel
theorem dX4_run_33 : decode cX4_run 33 = .ok (.iload 6, 2) := by decide +kernel
theorem dX4_run_35 : decode cX4_run 35 = .ok (.ldc 73, 2) := by decide +kernel
theorem dX4_run_37 : decode cX4_run 37 = .ok (.if_icmp .ge 90, 3) := by decide +kernel
theorem dX4_run_40 : decode cX4_run 40 = .ok (.iload 5, 2) := by decide +kernel
theorem dX4_run_42 : decode cX4_run 42 = .ok (.ifCond .ne 12, 3) := by decide +kernel
theorem dX4_run_45 : decode cX4_run 45 = .ok (.aload_n 0, 1) := by decide +kernel
theorem dX4_run_46 : decode cX4_run 46 = .ok (.getfield 48, 3) := by decide +kernel
theorem dX4_run_49 : decode cX4_run 49 = .ok (.iload 4, 2) := by decide +kernel
theorem dX4_run_51 : decode cX4_run 51 = .ok (.if_icmp .le 76, 3) := by decide +kernel
theorem dX4_run_54 : decode cX4_run 54 = .ok (.iload 5, 2) := by decide +kernel
theorem dX4_run_56 : decode cX4_run 56 = .ok (.ifCond .ne 7, 3) := by decide +kernel
theorem dX4_run_59 : decode cX4_run 59 = .ok (.aload_n 0, 1) := by decide +kernel
theorem dX4_run_60 : decode cX4_run 60 = .ok (.invokevirtual 74, 3) := by decide +kernel
theorem dX4_run_63 : decode cX4_run 63 = .ok (.aload_n 0, 1) := by decide +kernel
theorem dX4_run_64 : decode cX4_run 64 = .ok (.getfield 23, 3) := by decide +kernel
theorem dX4_run_67 : decode cX4_run 67 = .ok (.aload_n 0, 1) := by decide +kernel
theorem dX4_run_68 : decode cX4_run 68 = .ok (.getfield 67, 3) := by decide +kernel
theorem dX4_run_71 : decode cX4_run 71 = .ok (.invokevirtual 77, 3) := by decide +kernel
theorem dX4_run_74 : decode cX4_run 74 = .ok (.astore 7, 2) := by decide +kernel
theorem dX4_run_76 : decode cX4_run 76 = .ok (.aload 7, 2) := by decide +kernel
theorem dX4_run_78 : decode cX4_run 78 = .ok (.getfield 80, 3) := by decide +kernel
theorem dX4_run_81 : decode cX4_run 81 = .ok (.iconst 1, 1) := by decide +kernel
theorem dX4_run_82 : decode cX4_run 82 = .ok (.if_icmp .eq 15, 3) := by decide +kernel
theorem dX4_run_85 : decode cX4_run 85 = .ok (.aload_n 0, 1) := by decide +kernel
theorem dX4_run_86 : decode cX4_run 86 = .ok (.aload 7, 2) := by decide +kernel
theorem dX4_run_88 : decode cX4_run 88 = .ok (.iload_n 3, 1) := by decide +kernel
theorem dX4_run_89 : decode cX4_run 89 = .ok (.invokevirtual 85, 3) := by decide +kernel
theorem dX4_run_92 : decode cX4_run 92 = .ok (.istore 5, 2) := by decide +kernel
theorem dX4_run_94 : decode cX4_run 94 = .ok (.goto 27, 3) := by decide +kernel
theorem dX4_run_97 : decode cX4_run 97 = .ok (.iload_n 2, 1) := by decide +kernel
theorem dX4_run_98 : decode cX4_run 98 = .ok (.iconst (-1), 1) := by decide +kernel
theorem dX4_run_99 : decode cX4_run 99 = .ok (.if_icmp .eq 11, 3) := by decide +kernel
theorem dX4_run_102 : decode cX4_run 102 = .ok (.iload_n 2, 1) := by decide +kernel
theorem dX4_run_103 : decode cX4_run 103 = .ok (.aload_n 0, 1) := by decide +kernel
theorem dX4_run_104 : decode cX4_run 104 = .ok (.getfield 51, 3) := by decide +kernel
theorem dX4_run_107 : decode cX4_run 107 = .ok (.if_icmp .ne 11, 3) := by decide +kernel
theorem dX4_run_110 : decode cX4_run 110 = .ok (.aload_n 0, 1) := by decide +kernel
theorem dX4_run_111 : decode cX4_run 111 = .ok (.iload 4, 2) := by decide +kernel
theorem dX4_run_113 : decode cX4_run 113 = .ok (.putfield 48, 3) := by decide +kernel
theorem dX4_run_116 : decode cX4_run 116 = .ok (.iconst 1, 1) := by decide +kernel
theorem dX4_run_117 : decode cX4_run 117 = .ok (.ireturn, 1) := by decide +kernel
theorem dX4_run_118 : decode cX4_run 118 = .ok (.iconst 0, 1) := by decide +kernel
theorem dX4_run_119 : decode cX4_run 119 = .ok (.istore 5, 2) := by decide +kernel
theorem dX4_run_121 : decode cX4_run 121 = .ok (.iinc 6 1, 3) := by decide +kernel
theorem dX4_run_124 : decode cX4_run 124 = .ok (.goto (-91), 3) := by decide +kernel
theorem dX4_run_127 : decode cX4_run 127 = .ok (.aload_n 0, 1) := by decide +kernel
theorem dX4_run_128 : decode cX4_run 128 = .ok (.iload 4, 2) := by decide +kernel
theorem dX4_run_130 : decode cX4_run 130 = .ok (.putfield 48, 3) := by decide +kernel
theorem dX4_run_133 : decode cX4_run 133 = .ok (.iconst 0, 1) := by decide +kernel
theorem dX4_run_134 : decode cX4_run 134 = .ok (.ireturn, 1) := by decide +kernel
def L_s_run_33 (T : TD) (RUN : RT) : Nat → SS → Int32 → Int32 → Int32 → Int32 → Int32 → Int32 → SS → Int32 → Prop
  | 0, _, _, _, _, _, _, _, _, _ => False
  | nf + 1, S, x1, x2, x3, x4, x5, x6, S', r => if 10000000 ≤ x6 then (S' = (sf S 2 x4) ∧ r = 0) else (if x5 = 0 then (if (S.1.1 2) ≤ x4 then (S' = (sf S 2 x4) ∧ r = 0) else (if x5 = 0 then (∃ S24 : SS, E_s_takeWaiting T S S24 0 ∧ (if (tA T (pn_ix (tC T) (S24.1.1 9)) 1) = 1 then (if x2 = (-1) then (S' = (sf S24 2 x4) ∧ r = 1) else (if x2 = (S24.1.1 10) then (S' = (sf S24 2 x4) ∧ r = 1) else (L_s_run_33 T RUN nf S24 x1 x2 x3 x4 0 (x6 + 1) S' r))) else (∃ (S29 : SS) (r30 : Int32), E_s_step T RUN S24 (pn_ix (tC T) (S24.1.1 9)) x3 S29 r30 ∧ (L_s_run_33 T RUN nf S29 x1 x2 x3 x4 r30 (x6 + 1) S' r)))) else (if (tA T (pn_ix (tC T) (S.1.1 9)) 1) = 1 then (if x2 = (-1) then (S' = (sf S 2 x4) ∧ r = 1) else (if x2 = (S.1.1 10) then (S' = (sf S 2 x4) ∧ r = 1) else (L_s_run_33 T RUN nf S x1 x2 x3 x4 0 (x6 + 1) S' r))) else (∃ (S22 : SS) (r23 : Int32), E_s_step T RUN S (pn_ix (tC T) (S.1.1 9)) x3 S22 r23 ∧ (L_s_run_33 T RUN nf S22 x1 x2 x3 x4 r23 (x6 + 1) S' r))))) else (if x5 = 0 then (∃ S10 : SS, E_s_takeWaiting T S S10 0 ∧ (if (tA T (pn_ix (tC T) (S10.1.1 9)) 1) = 1 then (if x2 = (-1) then (S' = (sf S10 2 x4) ∧ r = 1) else (if x2 = (S10.1.1 10) then (S' = (sf S10 2 x4) ∧ r = 1) else (L_s_run_33 T RUN nf S10 x1 x2 x3 x4 0 (x6 + 1) S' r))) else (∃ (S15 : SS) (r16 : Int32), E_s_step T RUN S10 (pn_ix (tC T) (S10.1.1 9)) x3 S15 r16 ∧ (L_s_run_33 T RUN nf S15 x1 x2 x3 x4 r16 (x6 + 1) S' r)))) else (if (tA T (pn_ix (tC T) (S.1.1 9)) 1) = 1 then (if x2 = (-1) then (S' = (sf S 2 x4) ∧ r = 1) else (if x2 = (S.1.1 10) then (S' = (sf S 2 x4) ∧ r = 1) else (L_s_run_33 T RUN nf S x1 x2 x3 x4 0 (x6 + 1) S' r))) else (∃ (S8 : SS) (r9 : Int32), E_s_step T RUN S (pn_ix (tC T) (S.1.1 9)) x3 S8 r9 ∧ (L_s_run_33 T RUN nf S8 x1 x2 x3 x4 r9 (x6 + 1) S' r)))))
set_option maxHeartbeats 4000000 in
set_option maxRecDepth 100000 in
theorem L_s_run_33_ok {l : Launch} {G : PG} {h : Nat} {q ad : Nat → Nat} {T : TD} (hO : tOK T) {RUN : RT} {f n : Nat} (hf : 6 ≤ f) (hn : 200 ≤ n) (hR : RC l G h q ad T f n RUN) {a1 : Int32} {a2 : Int32} {a3 : Int32} {S' : SS} {r : Int32} {p : Program} {e : Env} {s : State} {m : MethodId} {below : List Frame} {meth : Method} {c : Code} {A : Nat → Prop} (F : bF p s m meth c cX4_run 8 (some .boolean) ([.ref h, .int a1, .int a2, .int a3] : List Value).toArray yX4_run) (hK : pg_K G s) (hA : ∀ q, s.heap.size ≤ q → A q) : ∀ (nf : Nat) (S : SS) (x1 : Int32) (x2 : Int32) (x3 : Int32) (x4 : Int32) (x5 : Int32) (x6 : Int32) (H : Heap) (locs : List Loc) (ls : Array Slot), lv_has ls 8 [(6, .int x6), (5, .int x5), (4, .int x4), (0, .ref h), (1, .int x1), (2, .int x2), (3, .int x3)] → L_s_run_33 T RUN nf S x1 x2 x3 x4 x5 x6 S' r → va_P G.1 vwCl (sW G h q ad T S) H → va_D A (sW G h q ad T S) → va_S A s.heap H locs → W p l e { frames := f + 4, cells := 0, slots := 0, locals := n + 102 } s m ([.ref h, .int a1, .int a2, .int a3] : List Value).toArray below meth c H locs 0 0 (MQ below (va_Qi (fun (r9 : Int32) (_ : Unit) => r9 = r) (oB G A (fun (_ : Unit) => sW G h q ad T S')) A) ([.ref h, .int a1, .int a2, .int a3] : List Value).toArray s 0 0 A) (F0 m 33 ls []) := by
  have hx := F.1.1; have hb := F.1.2.1; have hml := F.1.2.2.1; have hts := F.1.2.2.2.2
  have hown : s.vm.findClass RX4 = some m.cls := F.1.2.2.2.1
  intro nf
  induction nf with
  | zero => intro S x1 x2 x3 x4 x5 x6 H locs ls hl hE; exact hE.elim
  | succ nf ih =>
    intro S x1 x2 x3 x4 x5 x6 H locs ls hl hE hP hD hS
    unfold L_s_run_33 at hE
    refine lv_iload hx hb dX4_run_33 (lv_at hl 0 rfl) ?_
    refine lv_ldc (v := 10000000) hx hb hown (hts _ w_634) dX4_run_35 ?_
    refine lv_icmp_ge (tgt := 127) hx hb dX4_run_37 (by decide) (fun h2 => ?_) (fun h2 => ?_)
    ·
      rw [if_pos h2] at hE
      refine lv_aload_n hx hb dX4_run_127 rfl (lv_at hl 3 rfl) ?_
      refine lv_iload hx hb dX4_run_128 (lv_at hl 2 rfl) ?_
      refine va_put (D := G.1) (ci := 4) (v := .int x4) (ty := .int) (C := RX4) (T := TX4) (N := 13) hx hb hts inX4 tyX4 tyX4_ok nmX4 hown hK.1 hP hD hS 0 sW_0 rfl 2 (by decide) (hts _ w_141) (fun _ h9 => h9) rfl (by decide +kernel) rfl rfl sF_l2 dX4_run_130 (fun H locs hP hD hS => ?_)
      rw [sW_f2] at hP hD
      refine lv_iconst (v := 0) hx hb dX4_run_133 (by decide) ?_
      obtain ⟨rfl, rfl⟩ := hE
      exact en_i F hS _ () (by rfl) rfl hP hD (Nat.le_refl _) (Nat.le_refl _) dX4_run_134
    ·
      rw [if_neg h2] at hE
      refine lv_iload hx hb dX4_run_40 (lv_at hl 1 rfl) ?_
      refine lv_if_ne (tgt := 54) hx hb dX4_run_42 (by decide) (fun h3 => ?_) (fun h3 => ?_)
      ·
        rw [if_neg h3] at hE
        refine lv_iload hx hb dX4_run_54 (lv_at hl 1 rfl) ?_
        refine lv_if_ne (tgt := 63) hx hb dX4_run_56 (by decide) (fun h4 => ?_) (fun h4 => ?_)
        ·
          rw [if_neg h4] at hE
          refine lv_aload_n hx hb dX4_run_63 rfl (lv_at hl 3 rfl) ?_
          refine va_get (D := G.1) (ci := 4) (C := RX4) (T := TX4) (N := 13) hx hb hts inX4 hown hK.1 hP 0 sW_0 rfl 8 (by decide) (hts _ w_148) (fun _ h9 => h9) sF_8 dX4_run_64 ?_
          refine lv_aload_n hx hb dX4_run_67 rfl (lv_at hl 3 rfl) ?_
          refine va_get (D := G.1) (ci := 4) (C := RX4) (T := TX4) (N := 13) hx hb hts inX4 hown hK.1 hP 0 sW_0 rfl 9 (by decide) (hts _ w_150) (fun _ h9 => h9) sF_9 dX4_run_68 ?_
          refine kp_V (va_runV (As := [.int (S.1.1 9)]) (rest := []) F.1 (v_prog_node l G _ _ (tC T) _ _ _ ad (tA T) (tLo T) (tHi T) (S.1.1 9) hO.2.2.1 hO.2.2.2 _) (cwV 1 hts (aw_V w_640 w_340 w_341 w_4 w_342) rfl rfl rfl (by decide +kernel) ⟨by dsimp only; omega, by dsimp only; omega⟩) ⟨cS_blind, va_recv (q := (RX1, TX1, 5)) (ci := 1) (q0 := 0) hK.1 (sP_prog hP) rfl rfl, cS_pre (sP_prog hP) (sD_prog hD) hK⟩ rfl rfl hl.1 rfl (lv_room (Nat.le_of_ble_eq_true rfl)) dX4_run_71 ⟨Nat.le_refl _, Nat.le_refl _⟩) (fun v9 hp => ?_)
          subst hp
          refine lv_astore hx hb dX4_run_74 hl (by decide) rfl (fun ls hl => ?_)
          have hl : lv_has ls 8 [(7, .ref (ad (pn_ix (tC T) (S.1.1 9)))), (6, .int x6), (5, .int x5), (4, .int x4), (0, .ref h), (1, .int x1), (2, .int x2), (3, .int x3)] := hl
          refine lv_aload hx hb dX4_run_76 (lv_at hl 0 rfl) ?_
          refine va_getN (D := G.1) (ci := 0) (v := .int (tA T (pn_ix (tC T) (S.1.1 9)) 1)) (C := RX0) (T := TX0) (N := 13) hx hb hts inX0 hown hK.1 hP (10 + (pn_ix (tC T) (S.1.1 9))) (sW_n (pn_lt hO.2.2.1 hO.2.2.2)) rfl 1 (by decide) (hK.2.1.use w_65) (fun _ h9 => h9) rfl dX4_run_78 ?_
          refine lv_iconst (v := 1) hx hb dX4_run_81 (by decide) ?_
          refine lv_icmp_eq (tgt := 97) hx hb dX4_run_82 (by decide) (fun h5 => ?_) (fun h5 => ?_)
          ·
            rw [if_pos h5] at hE
            refine lv_iload_n hx hb dX4_run_97 rfl (lv_at hl 6 rfl) ?_
            refine lv_iconst (v := (-1)) hx hb dX4_run_98 (by decide) ?_
            refine lv_icmp_eq (tgt := 110) hx hb dX4_run_99 (by decide) (fun h6 => ?_) (fun h6 => ?_)
            ·
              rw [if_pos h6] at hE
              refine lv_aload_n hx hb dX4_run_110 rfl (lv_at hl 4 rfl) ?_
              refine lv_iload hx hb dX4_run_111 (lv_at hl 3 rfl) ?_
              refine va_put (D := G.1) (ci := 4) (v := .int x4) (ty := .int) (C := RX4) (T := TX4) (N := 13) hx hb hts inX4 tyX4 tyX4_ok nmX4 hown hK.1 hP hD hS 0 sW_0 rfl 2 (by decide) (hts _ w_141) (fun _ h9 => h9) rfl (by decide +kernel) rfl rfl sF_l2 dX4_run_113 (fun H locs hP hD hS => ?_)
              rw [sW_f2] at hP hD
              refine lv_iconst (v := 1) hx hb dX4_run_116 (by decide) ?_
              obtain ⟨rfl, rfl⟩ := hE
              exact en_i F hS _ () (by rfl) rfl hP hD (Nat.le_refl _) (Nat.le_refl _) dX4_run_117
            ·
              rw [if_neg h6] at hE
              refine lv_iload_n hx hb dX4_run_102 rfl (lv_at hl 6 rfl) ?_
              refine lv_aload_n hx hb dX4_run_103 rfl (lv_at hl 4 rfl) ?_
              refine va_get (D := G.1) (ci := 4) (C := RX4) (T := TX4) (N := 13) hx hb hts inX4 hown hK.1 hP 0 sW_0 rfl 10 (by decide) (hts _ w_151) (fun _ h9 => h9) sF_10 dX4_run_104 ?_
              refine lv_icmp_ne (tgt := 118) hx hb dX4_run_107 (by decide) (fun h7 => ?_) (fun h7 => ?_)
              ·
                rw [if_neg h7] at hE
                refine lv_iconst (v := 0) hx hb dX4_run_118 (by decide) ?_
                refine lv_istore hx hb dX4_run_119 hl (by decide) rfl (fun ls hl => ?_)
                have hl : lv_has ls 8 [(5, .int 0), (7, .ref (ad (pn_ix (tC T) (S.1.1 9)))), (6, .int x6), (4, .int x4), (0, .ref h), (1, .int x1), (2, .int x2), (3, .int x3)] := hl
                refine lv_iinc (v := (x6 + 1)) (k := 2) hx hb dX4_run_121 hl rfl rfl (by decide) rfl (fun ls hl => ?_)
                have hl : lv_has ls 8 [(6, .int (x6 + 1)), (5, .int 0), (7, .ref (ad (pn_ix (tC T) (S.1.1 9)))), (4, .int x4), (0, .ref h), (1, .int x1), (2, .int x2), (3, .int x3)] := hl
                refine lv_goto (tgt := 33) hx hb dX4_run_124 (by decide) ?_
                exact ih S x1 x2 x3 x4 0 (x6 + 1) _ _ ls (lv_sub hl [0, 1, 3, 4, 5, 6, 7] rfl) hE hP hD hS
              ·
                rw [if_pos h7] at hE
                refine lv_aload_n hx hb dX4_run_110 rfl (lv_at hl 4 rfl) ?_
                refine lv_iload hx hb dX4_run_111 (lv_at hl 3 rfl) ?_
                refine va_put (D := G.1) (ci := 4) (v := .int x4) (ty := .int) (C := RX4) (T := TX4) (N := 13) hx hb hts inX4 tyX4 tyX4_ok nmX4 hown hK.1 hP hD hS 0 sW_0 rfl 2 (by decide) (hts _ w_141) (fun _ h9 => h9) rfl (by decide +kernel) rfl rfl sF_l2 dX4_run_113 (fun H locs hP hD hS => ?_)
                rw [sW_f2] at hP hD
                refine lv_iconst (v := 1) hx hb dX4_run_116 (by decide) ?_
                obtain ⟨rfl, rfl⟩ := hE
                exact en_i F hS _ () (by rfl) rfl hP hD (Nat.le_refl _) (Nat.le_refl _) dX4_run_117
          ·
            rw [if_neg h5] at hE
            refine lv_aload_n hx hb dX4_run_85 rfl (lv_at hl 4 rfl) ?_
            refine lv_aload hx hb dX4_run_86 (lv_at hl 0 rfl) ?_
            refine lv_iload_n hx hb dX4_run_88 rfl (lv_at hl 7 rfl) ?_
            obtain ⟨S8, r9, hg, hE⟩ := hE
            refine kA_i (va_runV (As := [.ref (ad (pn_ix (tC T) (S.1.1 9))), .int x3]) (rest := []) F.1 (e_s_step l G h q ad T hO RUN f n hf hn hR S (pn_ix (tC T) (S.1.1 9)) (pn_lt hO.2.2.1 hO.2.2.2) x3 S8 r9 hg _) (cwV 2 hts (aw_V w_641 w_643 ws_X4_step w_2 w_644) rfl rfl rfl (by decide +kernel) ⟨by dsimp only; omega, by dsimp only; omega⟩) ⟨cS_blind, va_recv (q := (RX4, TX4, 13)) (ci := 4) (q0 := 0) hK.1 hP rfl sW_0, cS_pre hP hD hK⟩ rfl rfl hl.1 rfl (lv_room (Nat.le_of_ble_eq_true rfl)) dX4_run_89 ⟨Nat.le_refl _, Nat.le_refl _⟩) hD hS hA (fun r9 u0 H locs hp hP hD hS => ?_)
            have hp := hp.symm; subst hp
            refine lv_istore hx hb dX4_run_92 hl (by decide) rfl (fun ls hl => ?_)
            have hl : lv_has ls 8 [(5, .int r9), (7, .ref (ad (pn_ix (tC T) (S.1.1 9)))), (6, .int x6), (4, .int x4), (0, .ref h), (1, .int x1), (2, .int x2), (3, .int x3)] := hl
            refine lv_goto (tgt := 121) hx hb dX4_run_94 (by decide) ?_
            refine lv_iinc (v := (x6 + 1)) (k := 2) hx hb dX4_run_121 hl rfl rfl (by decide) rfl (fun ls hl => ?_)
            have hl : lv_has ls 8 [(6, .int (x6 + 1)), (5, .int r9), (7, .ref (ad (pn_ix (tC T) (S.1.1 9)))), (4, .int x4), (0, .ref h), (1, .int x1), (2, .int x2), (3, .int x3)] := hl
            refine lv_goto (tgt := 33) hx hb dX4_run_124 (by decide) ?_
            exact ih S8 x1 x2 x3 x4 r9 (x6 + 1) _ _ ls (lv_sub hl [0, 1, 3, 4, 5, 6, 7] rfl) hE hP hD hS
        ·
          rw [if_pos h4] at hE
          refine lv_aload_n hx hb dX4_run_59 rfl (lv_at hl 3 rfl) ?_
          obtain ⟨S10, hg, hE⟩ := hE
          refine kA_v (va_runV (As := []) (rest := []) F.1 (e_s_takeWaiting l G h q ad T hO S S10 0 hg _) (cwV 0 hts (aw_V w_635 w_637 ws_X4_takeWaiting w_2 w_638) rfl rfl rfl (by decide +kernel) ⟨by dsimp only; omega, by dsimp only; omega⟩) ⟨cS_blind, va_recv (q := (RX4, TX4, 13)) (ci := 4) (q0 := 0) hK.1 hP rfl sW_0, cS_pre hP hD hK⟩ rfl rfl hl.1 rfl (lv_room (Nat.le_of_ble_eq_true rfl)) dX4_run_60 ⟨Nat.le_refl _, Nat.le_refl _⟩) hD hS hA (fun u0 H locs hp hP hD hS => ?_)
          refine lv_aload_n hx hb dX4_run_63 rfl (lv_at hl 3 rfl) ?_
          refine va_get (D := G.1) (ci := 4) (C := RX4) (T := TX4) (N := 13) hx hb hts inX4 hown hK.1 hP 0 sW_0 rfl 8 (by decide) (hts _ w_148) (fun _ h9 => h9) sF_8 dX4_run_64 ?_
          refine lv_aload_n hx hb dX4_run_67 rfl (lv_at hl 3 rfl) ?_
          refine va_get (D := G.1) (ci := 4) (C := RX4) (T := TX4) (N := 13) hx hb hts inX4 hown hK.1 hP 0 sW_0 rfl 9 (by decide) (hts _ w_150) (fun _ h9 => h9) sF_9 dX4_run_68 ?_
          refine kp_V (va_runV (As := [.int (S10.1.1 9)]) (rest := []) F.1 (v_prog_node l G _ _ (tC T) _ _ _ ad (tA T) (tLo T) (tHi T) (S10.1.1 9) hO.2.2.1 hO.2.2.2 _) (cwV 1 hts (aw_V w_640 w_340 w_341 w_4 w_342) rfl rfl rfl (by decide +kernel) ⟨by dsimp only; omega, by dsimp only; omega⟩) ⟨cS_blind, va_recv (q := (RX1, TX1, 5)) (ci := 1) (q0 := 0) hK.1 (sP_prog hP) rfl rfl, cS_pre (sP_prog hP) (sD_prog hD) hK⟩ rfl rfl hl.1 rfl (lv_room (Nat.le_of_ble_eq_true rfl)) dX4_run_71 ⟨Nat.le_refl _, Nat.le_refl _⟩) (fun v9 hp => ?_)
          subst hp
          refine lv_astore hx hb dX4_run_74 hl (by decide) rfl (fun ls hl => ?_)
          have hl : lv_has ls 8 [(7, .ref (ad (pn_ix (tC T) (S10.1.1 9)))), (6, .int x6), (5, .int x5), (4, .int x4), (0, .ref h), (1, .int x1), (2, .int x2), (3, .int x3)] := hl
          refine lv_aload hx hb dX4_run_76 (lv_at hl 0 rfl) ?_
          refine va_getN (D := G.1) (ci := 0) (v := .int (tA T (pn_ix (tC T) (S10.1.1 9)) 1)) (C := RX0) (T := TX0) (N := 13) hx hb hts inX0 hown hK.1 hP (10 + (pn_ix (tC T) (S10.1.1 9))) (sW_n (pn_lt hO.2.2.1 hO.2.2.2)) rfl 1 (by decide) (hK.2.1.use w_65) (fun _ h9 => h9) rfl dX4_run_78 ?_
          refine lv_iconst (v := 1) hx hb dX4_run_81 (by decide) ?_
          refine lv_icmp_eq (tgt := 97) hx hb dX4_run_82 (by decide) (fun h12 => ?_) (fun h12 => ?_)
          ·
            rw [if_pos h12] at hE
            refine lv_iload_n hx hb dX4_run_97 rfl (lv_at hl 6 rfl) ?_
            refine lv_iconst (v := (-1)) hx hb dX4_run_98 (by decide) ?_
            refine lv_icmp_eq (tgt := 110) hx hb dX4_run_99 (by decide) (fun h13 => ?_) (fun h13 => ?_)
            ·
              rw [if_pos h13] at hE
              refine lv_aload_n hx hb dX4_run_110 rfl (lv_at hl 4 rfl) ?_
              refine lv_iload hx hb dX4_run_111 (lv_at hl 3 rfl) ?_
              refine va_put (D := G.1) (ci := 4) (v := .int x4) (ty := .int) (C := RX4) (T := TX4) (N := 13) hx hb hts inX4 tyX4 tyX4_ok nmX4 hown hK.1 hP hD hS 0 sW_0 rfl 2 (by decide) (hts _ w_141) (fun _ h9 => h9) rfl (by decide +kernel) rfl rfl sF_l2 dX4_run_113 (fun H locs hP hD hS => ?_)
              rw [sW_f2] at hP hD
              refine lv_iconst (v := 1) hx hb dX4_run_116 (by decide) ?_
              obtain ⟨rfl, rfl⟩ := hE
              exact en_i F hS _ () (by rfl) rfl hP hD (Nat.le_refl _) (Nat.le_refl _) dX4_run_117
            ·
              rw [if_neg h13] at hE
              refine lv_iload_n hx hb dX4_run_102 rfl (lv_at hl 6 rfl) ?_
              refine lv_aload_n hx hb dX4_run_103 rfl (lv_at hl 4 rfl) ?_
              refine va_get (D := G.1) (ci := 4) (C := RX4) (T := TX4) (N := 13) hx hb hts inX4 hown hK.1 hP 0 sW_0 rfl 10 (by decide) (hts _ w_151) (fun _ h9 => h9) sF_10 dX4_run_104 ?_
              refine lv_icmp_ne (tgt := 118) hx hb dX4_run_107 (by decide) (fun h14 => ?_) (fun h14 => ?_)
              ·
                rw [if_neg h14] at hE
                refine lv_iconst (v := 0) hx hb dX4_run_118 (by decide) ?_
                refine lv_istore hx hb dX4_run_119 hl (by decide) rfl (fun ls hl => ?_)
                have hl : lv_has ls 8 [(5, .int 0), (7, .ref (ad (pn_ix (tC T) (S10.1.1 9)))), (6, .int x6), (4, .int x4), (0, .ref h), (1, .int x1), (2, .int x2), (3, .int x3)] := hl
                refine lv_iinc (v := (x6 + 1)) (k := 2) hx hb dX4_run_121 hl rfl rfl (by decide) rfl (fun ls hl => ?_)
                have hl : lv_has ls 8 [(6, .int (x6 + 1)), (5, .int 0), (7, .ref (ad (pn_ix (tC T) (S10.1.1 9)))), (4, .int x4), (0, .ref h), (1, .int x1), (2, .int x2), (3, .int x3)] := hl
                refine lv_goto (tgt := 33) hx hb dX4_run_124 (by decide) ?_
                exact ih S10 x1 x2 x3 x4 0 (x6 + 1) _ _ ls (lv_sub hl [0, 1, 3, 4, 5, 6, 7] rfl) hE hP hD hS
              ·
                rw [if_pos h14] at hE
                refine lv_aload_n hx hb dX4_run_110 rfl (lv_at hl 4 rfl) ?_
                refine lv_iload hx hb dX4_run_111 (lv_at hl 3 rfl) ?_
                refine va_put (D := G.1) (ci := 4) (v := .int x4) (ty := .int) (C := RX4) (T := TX4) (N := 13) hx hb hts inX4 tyX4 tyX4_ok nmX4 hown hK.1 hP hD hS 0 sW_0 rfl 2 (by decide) (hts _ w_141) (fun _ h9 => h9) rfl (by decide +kernel) rfl rfl sF_l2 dX4_run_113 (fun H locs hP hD hS => ?_)
                rw [sW_f2] at hP hD
                refine lv_iconst (v := 1) hx hb dX4_run_116 (by decide) ?_
                obtain ⟨rfl, rfl⟩ := hE
                exact en_i F hS _ () (by rfl) rfl hP hD (Nat.le_refl _) (Nat.le_refl _) dX4_run_117
          ·
            rw [if_neg h12] at hE
            refine lv_aload_n hx hb dX4_run_85 rfl (lv_at hl 4 rfl) ?_
            refine lv_aload hx hb dX4_run_86 (lv_at hl 0 rfl) ?_
            refine lv_iload_n hx hb dX4_run_88 rfl (lv_at hl 7 rfl) ?_
            obtain ⟨S15, r16, hg, hE⟩ := hE
            refine kA_i (va_runV (As := [.ref (ad (pn_ix (tC T) (S10.1.1 9))), .int x3]) (rest := []) F.1 (e_s_step l G h q ad T hO RUN f n hf hn hR S10 (pn_ix (tC T) (S10.1.1 9)) (pn_lt hO.2.2.1 hO.2.2.2) x3 S15 r16 hg _) (cwV 2 hts (aw_V w_641 w_643 ws_X4_step w_2 w_644) rfl rfl rfl (by decide +kernel) ⟨by dsimp only; omega, by dsimp only; omega⟩) ⟨cS_blind, va_recv (q := (RX4, TX4, 13)) (ci := 4) (q0 := 0) hK.1 hP rfl sW_0, cS_pre hP hD hK⟩ rfl rfl hl.1 rfl (lv_room (Nat.le_of_ble_eq_true rfl)) dX4_run_89 ⟨Nat.le_refl _, Nat.le_refl _⟩) hD hS hA (fun r9 u0 H locs hp hP hD hS => ?_)
            have hp := hp.symm; subst hp
            refine lv_istore hx hb dX4_run_92 hl (by decide) rfl (fun ls hl => ?_)
            have hl : lv_has ls 8 [(5, .int r16), (7, .ref (ad (pn_ix (tC T) (S10.1.1 9)))), (6, .int x6), (4, .int x4), (0, .ref h), (1, .int x1), (2, .int x2), (3, .int x3)] := hl
            refine lv_goto (tgt := 121) hx hb dX4_run_94 (by decide) ?_
            refine lv_iinc (v := (x6 + 1)) (k := 2) hx hb dX4_run_121 hl rfl rfl (by decide) rfl (fun ls hl => ?_)
            have hl : lv_has ls 8 [(6, .int (x6 + 1)), (5, .int r16), (7, .ref (ad (pn_ix (tC T) (S10.1.1 9)))), (4, .int x4), (0, .ref h), (1, .int x1), (2, .int x2), (3, .int x3)] := hl
            refine lv_goto (tgt := 33) hx hb dX4_run_124 (by decide) ?_
            exact ih S15 x1 x2 x3 x4 r16 (x6 + 1) _ _ ls (lv_sub hl [0, 1, 3, 4, 5, 6, 7] rfl) hE hP hD hS
      ·
        rw [if_pos h3] at hE
        refine lv_aload_n hx hb dX4_run_45 rfl (lv_at hl 3 rfl) ?_
        refine va_get (D := G.1) (ci := 4) (C := RX4) (T := TX4) (N := 13) hx hb hts inX4 hown hK.1 hP 0 sW_0 rfl 2 (by decide) (hts _ w_141) (fun _ h9 => h9) sF_2 dX4_run_46 ?_
        refine lv_iload hx hb dX4_run_49 (lv_at hl 2 rfl) ?_
        refine lv_icmp_le (tgt := 127) hx hb dX4_run_51 (by decide) (fun h17 => ?_) (fun h17 => ?_)
        ·
          rw [if_pos h17] at hE
          refine lv_aload_n hx hb dX4_run_127 rfl (lv_at hl 3 rfl) ?_
          refine lv_iload hx hb dX4_run_128 (lv_at hl 2 rfl) ?_
          refine va_put (D := G.1) (ci := 4) (v := .int x4) (ty := .int) (C := RX4) (T := TX4) (N := 13) hx hb hts inX4 tyX4 tyX4_ok nmX4 hown hK.1 hP hD hS 0 sW_0 rfl 2 (by decide) (hts _ w_141) (fun _ h9 => h9) rfl (by decide +kernel) rfl rfl sF_l2 dX4_run_130 (fun H locs hP hD hS => ?_)
          rw [sW_f2] at hP hD
          refine lv_iconst (v := 0) hx hb dX4_run_133 (by decide) ?_
          obtain ⟨rfl, rfl⟩ := hE
          exact en_i F hS _ () (by rfl) rfl hP hD (Nat.le_refl _) (Nat.le_refl _) dX4_run_134
        ·
          rw [if_neg h17] at hE
          refine lv_iload hx hb dX4_run_54 (lv_at hl 1 rfl) ?_
          refine lv_if_ne (tgt := 63) hx hb dX4_run_56 (by decide) (fun h18 => ?_) (fun h18 => ?_)
          ·
            rw [if_neg h18] at hE
            refine lv_aload_n hx hb dX4_run_63 rfl (lv_at hl 3 rfl) ?_
            refine va_get (D := G.1) (ci := 4) (C := RX4) (T := TX4) (N := 13) hx hb hts inX4 hown hK.1 hP 0 sW_0 rfl 8 (by decide) (hts _ w_148) (fun _ h9 => h9) sF_8 dX4_run_64 ?_
            refine lv_aload_n hx hb dX4_run_67 rfl (lv_at hl 3 rfl) ?_
            refine va_get (D := G.1) (ci := 4) (C := RX4) (T := TX4) (N := 13) hx hb hts inX4 hown hK.1 hP 0 sW_0 rfl 9 (by decide) (hts _ w_150) (fun _ h9 => h9) sF_9 dX4_run_68 ?_
            refine kp_V (va_runV (As := [.int (S.1.1 9)]) (rest := []) F.1 (v_prog_node l G _ _ (tC T) _ _ _ ad (tA T) (tLo T) (tHi T) (S.1.1 9) hO.2.2.1 hO.2.2.2 _) (cwV 1 hts (aw_V w_640 w_340 w_341 w_4 w_342) rfl rfl rfl (by decide +kernel) ⟨by dsimp only; omega, by dsimp only; omega⟩) ⟨cS_blind, va_recv (q := (RX1, TX1, 5)) (ci := 1) (q0 := 0) hK.1 (sP_prog hP) rfl rfl, cS_pre (sP_prog hP) (sD_prog hD) hK⟩ rfl rfl hl.1 rfl (lv_room (Nat.le_of_ble_eq_true rfl)) dX4_run_71 ⟨Nat.le_refl _, Nat.le_refl _⟩) (fun v9 hp => ?_)
            subst hp
            refine lv_astore hx hb dX4_run_74 hl (by decide) rfl (fun ls hl => ?_)
            have hl : lv_has ls 8 [(7, .ref (ad (pn_ix (tC T) (S.1.1 9)))), (6, .int x6), (5, .int x5), (4, .int x4), (0, .ref h), (1, .int x1), (2, .int x2), (3, .int x3)] := hl
            refine lv_aload hx hb dX4_run_76 (lv_at hl 0 rfl) ?_
            refine va_getN (D := G.1) (ci := 0) (v := .int (tA T (pn_ix (tC T) (S.1.1 9)) 1)) (C := RX0) (T := TX0) (N := 13) hx hb hts inX0 hown hK.1 hP (10 + (pn_ix (tC T) (S.1.1 9))) (sW_n (pn_lt hO.2.2.1 hO.2.2.2)) rfl 1 (by decide) (hK.2.1.use w_65) (fun _ h9 => h9) rfl dX4_run_78 ?_
            refine lv_iconst (v := 1) hx hb dX4_run_81 (by decide) ?_
            refine lv_icmp_eq (tgt := 97) hx hb dX4_run_82 (by decide) (fun h19 => ?_) (fun h19 => ?_)
            ·
              rw [if_pos h19] at hE
              refine lv_iload_n hx hb dX4_run_97 rfl (lv_at hl 6 rfl) ?_
              refine lv_iconst (v := (-1)) hx hb dX4_run_98 (by decide) ?_
              refine lv_icmp_eq (tgt := 110) hx hb dX4_run_99 (by decide) (fun h20 => ?_) (fun h20 => ?_)
              ·
                rw [if_pos h20] at hE
                refine lv_aload_n hx hb dX4_run_110 rfl (lv_at hl 4 rfl) ?_
                refine lv_iload hx hb dX4_run_111 (lv_at hl 3 rfl) ?_
                refine va_put (D := G.1) (ci := 4) (v := .int x4) (ty := .int) (C := RX4) (T := TX4) (N := 13) hx hb hts inX4 tyX4 tyX4_ok nmX4 hown hK.1 hP hD hS 0 sW_0 rfl 2 (by decide) (hts _ w_141) (fun _ h9 => h9) rfl (by decide +kernel) rfl rfl sF_l2 dX4_run_113 (fun H locs hP hD hS => ?_)
                rw [sW_f2] at hP hD
                refine lv_iconst (v := 1) hx hb dX4_run_116 (by decide) ?_
                obtain ⟨rfl, rfl⟩ := hE
                exact en_i F hS _ () (by rfl) rfl hP hD (Nat.le_refl _) (Nat.le_refl _) dX4_run_117
              ·
                rw [if_neg h20] at hE
                refine lv_iload_n hx hb dX4_run_102 rfl (lv_at hl 6 rfl) ?_
                refine lv_aload_n hx hb dX4_run_103 rfl (lv_at hl 4 rfl) ?_
                refine va_get (D := G.1) (ci := 4) (C := RX4) (T := TX4) (N := 13) hx hb hts inX4 hown hK.1 hP 0 sW_0 rfl 10 (by decide) (hts _ w_151) (fun _ h9 => h9) sF_10 dX4_run_104 ?_
                refine lv_icmp_ne (tgt := 118) hx hb dX4_run_107 (by decide) (fun h21 => ?_) (fun h21 => ?_)
                ·
                  rw [if_neg h21] at hE
                  refine lv_iconst (v := 0) hx hb dX4_run_118 (by decide) ?_
                  refine lv_istore hx hb dX4_run_119 hl (by decide) rfl (fun ls hl => ?_)
                  have hl : lv_has ls 8 [(5, .int 0), (7, .ref (ad (pn_ix (tC T) (S.1.1 9)))), (6, .int x6), (4, .int x4), (0, .ref h), (1, .int x1), (2, .int x2), (3, .int x3)] := hl
                  refine lv_iinc (v := (x6 + 1)) (k := 2) hx hb dX4_run_121 hl rfl rfl (by decide) rfl (fun ls hl => ?_)
                  have hl : lv_has ls 8 [(6, .int (x6 + 1)), (5, .int 0), (7, .ref (ad (pn_ix (tC T) (S.1.1 9)))), (4, .int x4), (0, .ref h), (1, .int x1), (2, .int x2), (3, .int x3)] := hl
                  refine lv_goto (tgt := 33) hx hb dX4_run_124 (by decide) ?_
                  exact ih S x1 x2 x3 x4 0 (x6 + 1) _ _ ls (lv_sub hl [0, 1, 3, 4, 5, 6, 7] rfl) hE hP hD hS
                ·
                  rw [if_pos h21] at hE
                  refine lv_aload_n hx hb dX4_run_110 rfl (lv_at hl 4 rfl) ?_
                  refine lv_iload hx hb dX4_run_111 (lv_at hl 3 rfl) ?_
                  refine va_put (D := G.1) (ci := 4) (v := .int x4) (ty := .int) (C := RX4) (T := TX4) (N := 13) hx hb hts inX4 tyX4 tyX4_ok nmX4 hown hK.1 hP hD hS 0 sW_0 rfl 2 (by decide) (hts _ w_141) (fun _ h9 => h9) rfl (by decide +kernel) rfl rfl sF_l2 dX4_run_113 (fun H locs hP hD hS => ?_)
                  rw [sW_f2] at hP hD
                  refine lv_iconst (v := 1) hx hb dX4_run_116 (by decide) ?_
                  obtain ⟨rfl, rfl⟩ := hE
                  exact en_i F hS _ () (by rfl) rfl hP hD (Nat.le_refl _) (Nat.le_refl _) dX4_run_117
            ·
              rw [if_neg h19] at hE
              refine lv_aload_n hx hb dX4_run_85 rfl (lv_at hl 4 rfl) ?_
              refine lv_aload hx hb dX4_run_86 (lv_at hl 0 rfl) ?_
              refine lv_iload_n hx hb dX4_run_88 rfl (lv_at hl 7 rfl) ?_
              obtain ⟨S22, r23, hg, hE⟩ := hE
              refine kA_i (va_runV (As := [.ref (ad (pn_ix (tC T) (S.1.1 9))), .int x3]) (rest := []) F.1 (e_s_step l G h q ad T hO RUN f n hf hn hR S (pn_ix (tC T) (S.1.1 9)) (pn_lt hO.2.2.1 hO.2.2.2) x3 S22 r23 hg _) (cwV 2 hts (aw_V w_641 w_643 ws_X4_step w_2 w_644) rfl rfl rfl (by decide +kernel) ⟨by dsimp only; omega, by dsimp only; omega⟩) ⟨cS_blind, va_recv (q := (RX4, TX4, 13)) (ci := 4) (q0 := 0) hK.1 hP rfl sW_0, cS_pre hP hD hK⟩ rfl rfl hl.1 rfl (lv_room (Nat.le_of_ble_eq_true rfl)) dX4_run_89 ⟨Nat.le_refl _, Nat.le_refl _⟩) hD hS hA (fun r9 u0 H locs hp hP hD hS => ?_)
              have hp := hp.symm; subst hp
              refine lv_istore hx hb dX4_run_92 hl (by decide) rfl (fun ls hl => ?_)
              have hl : lv_has ls 8 [(5, .int r23), (7, .ref (ad (pn_ix (tC T) (S.1.1 9)))), (6, .int x6), (4, .int x4), (0, .ref h), (1, .int x1), (2, .int x2), (3, .int x3)] := hl
              refine lv_goto (tgt := 121) hx hb dX4_run_94 (by decide) ?_
              refine lv_iinc (v := (x6 + 1)) (k := 2) hx hb dX4_run_121 hl rfl rfl (by decide) rfl (fun ls hl => ?_)
              have hl : lv_has ls 8 [(6, .int (x6 + 1)), (5, .int r23), (7, .ref (ad (pn_ix (tC T) (S.1.1 9)))), (4, .int x4), (0, .ref h), (1, .int x1), (2, .int x2), (3, .int x3)] := hl
              refine lv_goto (tgt := 33) hx hb dX4_run_124 (by decide) ?_
              exact ih S22 x1 x2 x3 x4 r23 (x6 + 1) _ _ ls (lv_sub hl [0, 1, 3, 4, 5, 6, 7] rfl) hE hP hD hS
          ·
            rw [if_pos h18] at hE
            refine lv_aload_n hx hb dX4_run_59 rfl (lv_at hl 3 rfl) ?_
            obtain ⟨S24, hg, hE⟩ := hE
            refine kA_v (va_runV (As := []) (rest := []) F.1 (e_s_takeWaiting l G h q ad T hO S S24 0 hg _) (cwV 0 hts (aw_V w_635 w_637 ws_X4_takeWaiting w_2 w_638) rfl rfl rfl (by decide +kernel) ⟨by dsimp only; omega, by dsimp only; omega⟩) ⟨cS_blind, va_recv (q := (RX4, TX4, 13)) (ci := 4) (q0 := 0) hK.1 hP rfl sW_0, cS_pre hP hD hK⟩ rfl rfl hl.1 rfl (lv_room (Nat.le_of_ble_eq_true rfl)) dX4_run_60 ⟨Nat.le_refl _, Nat.le_refl _⟩) hD hS hA (fun u0 H locs hp hP hD hS => ?_)
            refine lv_aload_n hx hb dX4_run_63 rfl (lv_at hl 3 rfl) ?_
            refine va_get (D := G.1) (ci := 4) (C := RX4) (T := TX4) (N := 13) hx hb hts inX4 hown hK.1 hP 0 sW_0 rfl 8 (by decide) (hts _ w_148) (fun _ h9 => h9) sF_8 dX4_run_64 ?_
            refine lv_aload_n hx hb dX4_run_67 rfl (lv_at hl 3 rfl) ?_
            refine va_get (D := G.1) (ci := 4) (C := RX4) (T := TX4) (N := 13) hx hb hts inX4 hown hK.1 hP 0 sW_0 rfl 9 (by decide) (hts _ w_150) (fun _ h9 => h9) sF_9 dX4_run_68 ?_
            refine kp_V (va_runV (As := [.int (S24.1.1 9)]) (rest := []) F.1 (v_prog_node l G _ _ (tC T) _ _ _ ad (tA T) (tLo T) (tHi T) (S24.1.1 9) hO.2.2.1 hO.2.2.2 _) (cwV 1 hts (aw_V w_640 w_340 w_341 w_4 w_342) rfl rfl rfl (by decide +kernel) ⟨by dsimp only; omega, by dsimp only; omega⟩) ⟨cS_blind, va_recv (q := (RX1, TX1, 5)) (ci := 1) (q0 := 0) hK.1 (sP_prog hP) rfl rfl, cS_pre (sP_prog hP) (sD_prog hD) hK⟩ rfl rfl hl.1 rfl (lv_room (Nat.le_of_ble_eq_true rfl)) dX4_run_71 ⟨Nat.le_refl _, Nat.le_refl _⟩) (fun v9 hp => ?_)
            subst hp
            refine lv_astore hx hb dX4_run_74 hl (by decide) rfl (fun ls hl => ?_)
            have hl : lv_has ls 8 [(7, .ref (ad (pn_ix (tC T) (S24.1.1 9)))), (6, .int x6), (5, .int x5), (4, .int x4), (0, .ref h), (1, .int x1), (2, .int x2), (3, .int x3)] := hl
            refine lv_aload hx hb dX4_run_76 (lv_at hl 0 rfl) ?_
            refine va_getN (D := G.1) (ci := 0) (v := .int (tA T (pn_ix (tC T) (S24.1.1 9)) 1)) (C := RX0) (T := TX0) (N := 13) hx hb hts inX0 hown hK.1 hP (10 + (pn_ix (tC T) (S24.1.1 9))) (sW_n (pn_lt hO.2.2.1 hO.2.2.2)) rfl 1 (by decide) (hK.2.1.use w_65) (fun _ h9 => h9) rfl dX4_run_78 ?_
            refine lv_iconst (v := 1) hx hb dX4_run_81 (by decide) ?_
            refine lv_icmp_eq (tgt := 97) hx hb dX4_run_82 (by decide) (fun h26 => ?_) (fun h26 => ?_)
            ·
              rw [if_pos h26] at hE
              refine lv_iload_n hx hb dX4_run_97 rfl (lv_at hl 6 rfl) ?_
              refine lv_iconst (v := (-1)) hx hb dX4_run_98 (by decide) ?_
              refine lv_icmp_eq (tgt := 110) hx hb dX4_run_99 (by decide) (fun h27 => ?_) (fun h27 => ?_)
              ·
                rw [if_pos h27] at hE
                refine lv_aload_n hx hb dX4_run_110 rfl (lv_at hl 4 rfl) ?_
                refine lv_iload hx hb dX4_run_111 (lv_at hl 3 rfl) ?_
                refine va_put (D := G.1) (ci := 4) (v := .int x4) (ty := .int) (C := RX4) (T := TX4) (N := 13) hx hb hts inX4 tyX4 tyX4_ok nmX4 hown hK.1 hP hD hS 0 sW_0 rfl 2 (by decide) (hts _ w_141) (fun _ h9 => h9) rfl (by decide +kernel) rfl rfl sF_l2 dX4_run_113 (fun H locs hP hD hS => ?_)
                rw [sW_f2] at hP hD
                refine lv_iconst (v := 1) hx hb dX4_run_116 (by decide) ?_
                obtain ⟨rfl, rfl⟩ := hE
                exact en_i F hS _ () (by rfl) rfl hP hD (Nat.le_refl _) (Nat.le_refl _) dX4_run_117
              ·
                rw [if_neg h27] at hE
                refine lv_iload_n hx hb dX4_run_102 rfl (lv_at hl 6 rfl) ?_
                refine lv_aload_n hx hb dX4_run_103 rfl (lv_at hl 4 rfl) ?_
                refine va_get (D := G.1) (ci := 4) (C := RX4) (T := TX4) (N := 13) hx hb hts inX4 hown hK.1 hP 0 sW_0 rfl 10 (by decide) (hts _ w_151) (fun _ h9 => h9) sF_10 dX4_run_104 ?_
                refine lv_icmp_ne (tgt := 118) hx hb dX4_run_107 (by decide) (fun h28 => ?_) (fun h28 => ?_)
                ·
                  rw [if_neg h28] at hE
                  refine lv_iconst (v := 0) hx hb dX4_run_118 (by decide) ?_
                  refine lv_istore hx hb dX4_run_119 hl (by decide) rfl (fun ls hl => ?_)
                  have hl : lv_has ls 8 [(5, .int 0), (7, .ref (ad (pn_ix (tC T) (S24.1.1 9)))), (6, .int x6), (4, .int x4), (0, .ref h), (1, .int x1), (2, .int x2), (3, .int x3)] := hl
                  refine lv_iinc (v := (x6 + 1)) (k := 2) hx hb dX4_run_121 hl rfl rfl (by decide) rfl (fun ls hl => ?_)
                  have hl : lv_has ls 8 [(6, .int (x6 + 1)), (5, .int 0), (7, .ref (ad (pn_ix (tC T) (S24.1.1 9)))), (4, .int x4), (0, .ref h), (1, .int x1), (2, .int x2), (3, .int x3)] := hl
                  refine lv_goto (tgt := 33) hx hb dX4_run_124 (by decide) ?_
                  exact ih S24 x1 x2 x3 x4 0 (x6 + 1) _ _ ls (lv_sub hl [0, 1, 3, 4, 5, 6, 7] rfl) hE hP hD hS
                ·
                  rw [if_pos h28] at hE
                  refine lv_aload_n hx hb dX4_run_110 rfl (lv_at hl 4 rfl) ?_
                  refine lv_iload hx hb dX4_run_111 (lv_at hl 3 rfl) ?_
                  refine va_put (D := G.1) (ci := 4) (v := .int x4) (ty := .int) (C := RX4) (T := TX4) (N := 13) hx hb hts inX4 tyX4 tyX4_ok nmX4 hown hK.1 hP hD hS 0 sW_0 rfl 2 (by decide) (hts _ w_141) (fun _ h9 => h9) rfl (by decide +kernel) rfl rfl sF_l2 dX4_run_113 (fun H locs hP hD hS => ?_)
                  rw [sW_f2] at hP hD
                  refine lv_iconst (v := 1) hx hb dX4_run_116 (by decide) ?_
                  obtain ⟨rfl, rfl⟩ := hE
                  exact en_i F hS _ () (by rfl) rfl hP hD (Nat.le_refl _) (Nat.le_refl _) dX4_run_117
            ·
              rw [if_neg h26] at hE
              refine lv_aload_n hx hb dX4_run_85 rfl (lv_at hl 4 rfl) ?_
              refine lv_aload hx hb dX4_run_86 (lv_at hl 0 rfl) ?_
              refine lv_iload_n hx hb dX4_run_88 rfl (lv_at hl 7 rfl) ?_
              obtain ⟨S29, r30, hg, hE⟩ := hE
              refine kA_i (va_runV (As := [.ref (ad (pn_ix (tC T) (S24.1.1 9))), .int x3]) (rest := []) F.1 (e_s_step l G h q ad T hO RUN f n hf hn hR S24 (pn_ix (tC T) (S24.1.1 9)) (pn_lt hO.2.2.1 hO.2.2.2) x3 S29 r30 hg _) (cwV 2 hts (aw_V w_641 w_643 ws_X4_step w_2 w_644) rfl rfl rfl (by decide +kernel) ⟨by dsimp only; omega, by dsimp only; omega⟩) ⟨cS_blind, va_recv (q := (RX4, TX4, 13)) (ci := 4) (q0 := 0) hK.1 hP rfl sW_0, cS_pre hP hD hK⟩ rfl rfl hl.1 rfl (lv_room (Nat.le_of_ble_eq_true rfl)) dX4_run_89 ⟨Nat.le_refl _, Nat.le_refl _⟩) hD hS hA (fun r9 u0 H locs hp hP hD hS => ?_)
              have hp := hp.symm; subst hp
              refine lv_istore hx hb dX4_run_92 hl (by decide) rfl (fun ls hl => ?_)
              have hl : lv_has ls 8 [(5, .int r30), (7, .ref (ad (pn_ix (tC T) (S24.1.1 9)))), (6, .int x6), (4, .int x4), (0, .ref h), (1, .int x1), (2, .int x2), (3, .int x3)] := hl
              refine lv_goto (tgt := 121) hx hb dX4_run_94 (by decide) ?_
              refine lv_iinc (v := (x6 + 1)) (k := 2) hx hb dX4_run_121 hl rfl rfl (by decide) rfl (fun ls hl => ?_)
              have hl : lv_has ls 8 [(6, .int (x6 + 1)), (5, .int r30), (7, .ref (ad (pn_ix (tC T) (S24.1.1 9)))), (4, .int x4), (0, .ref h), (1, .int x1), (2, .int x2), (3, .int x3)] := hl
              refine lv_goto (tgt := 33) hx hb dX4_run_124 (by decide) ?_
              exact ih S29 x1 x2 x3 x4 r30 (x6 + 1) _ _ ls (lv_sub hl [0, 1, 3, 4, 5, 6, 7] rfl) hE hP hD hS
def E_s_run (T : TD) (RUN : RT) (S : SS) (a1 : Int32) (a2 : Int32) (a3 : Int32) (S' : SS) (r : Int32) : Prop := if a3 < 10 then (∃ nf : Nat, L_s_run_33 T RUN nf (sf (sf S 9 a1) 11 0) a1 a2 a3 (S.1.1 2) 1 0 S' r) else (S' = S ∧ r = 0)
set_option maxHeartbeats 4000000 in
set_option maxRecDepth 100000 in
theorem e_s_run (l : Launch) (G : PG) (h : Nat) (q ad : Nat → Nat) (T : TD) (hO : tOK T) (RUN : RT) (f n : Nat) (hf : 6 ≤ f) (hn : 200 ≤ n) (hR : RC l G h q ad T f n RUN) (S : SS) (a1 : Int32) (a2 : Int32) (a3 : Int32) (S' : SS) (r : Int32) (hE : E_s_run T RUN S a1 a2 a3 S' r) : Ci l yX4_run (Cond.code yX4_run cX4_run 8 (some .boolean) :: aW) { frames := f + 4, cells := 0, slots := 0, locals := n + 102 } G (sW G h q ad T S) [.ref h, .int a1, .int a2, .int a3] (fun (r9 : Int32) (_ : Unit) => r9 = r) (fun (_ : Unit) => sW G h q ad T S') 0 0 := by
  refine ofB (y := yX4_run) (G := G) (cc := cX4_run) (maxL := 8) (ret := (some .boolean)) (Qc := fun A => va_Qi (fun (r9 : Int32) (_ : Unit) => r9 = r) (oB G A (fun (_ : Unit) => sW G h q ad T S')) A) (by decide) rfl ?_
  intro p e s m below meth c A F hK hA hP hD
  have hS : va_S A s.heap s.heap [] := va_S.rf
  have hx := F.1.1; have hb := F.1.2.1; have hml := F.1.2.2.1; have hts := F.1.2.2.2.2
  have hown : s.vm.findClass RX4 = some m.cls := F.1.2.2.2.1
  have hl := lv_entry ([.ref h, .int a1, .int a2, .int a3]) (n := 8) (Nat.le_of_ble_eq_true rfl)
  rw [lg_entry_eq]
  generalize (lg_sl ([.ref h, .int a1, .int a2, .int a3]) ++ List.replicate (8 - (lg_sl ([.ref h, .int a1, .int a2, .int a3])).length) Slot.unset).toArray = ls at hl ⊢
  have hl : lv_has ls 8 [(0, .ref h), (1, .int a1), (2, .int a2), (3, .int a3)] := hl
  unfold E_s_run at hE
  refine lv_iload_n hx hb dX4_run_0 rfl (lv_at hl 3 rfl) ?_
  refine lv_aload_n hx hb dX4_run_1 rfl (lv_at hl 0 rfl) ?_
  refine va_get (D := G.1) (ci := 4) (C := RX4) (T := TX4) (N := 13) hx hb hts inX4 hown hK.1 hP 0 sW_0 rfl 5 (by decide) (hts _ w_144) (fun _ h9 => h9) sF_5 dX4_run_2 ?_
  refine va_alen (D := G.1) (v := 10) hx hb hK.1 hP 7 0 sW_g5 rfl rfl dX4_run_5 ?_
  refine lv_icmp_lt (tgt := 11) hx hb dX4_run_6 (by decide) (fun h1 => ?_) (fun h1 => ?_)
  ·
    rw [if_pos h1] at hE
    refine lv_aload_n hx hb dX4_run_11 rfl (lv_at hl 0 rfl) ?_
    refine va_get (D := G.1) (ci := 4) (C := RX4) (T := TX4) (N := 13) hx hb hts inX4 hown hK.1 hP 0 sW_0 rfl 2 (by decide) (hts _ w_141) (fun _ h9 => h9) sF_2 dX4_run_12 ?_
    refine lv_istore hx hb dX4_run_15 hl (by decide) rfl (fun ls hl => ?_)
    have hl : lv_has ls 8 [(4, .int (S.1.1 2)), (0, .ref h), (1, .int a1), (2, .int a2), (3, .int a3)] := hl
    refine lv_aload_n hx hb dX4_run_17 rfl (lv_at hl 1 rfl) ?_
    refine lv_iload_n hx hb dX4_run_18 rfl (lv_at hl 2 rfl) ?_
    refine va_put (D := G.1) (ci := 4) (v := .int a1) (ty := .int) (C := RX4) (T := TX4) (N := 13) hx hb hts inX4 tyX4 tyX4_ok nmX4 hown hK.1 hP hD hS 0 sW_0 rfl 9 (by decide) (hts _ w_150) (fun _ h9 => h9) rfl (by decide +kernel) rfl rfl sF_l9 dX4_run_19 (fun H locs hP hD hS => ?_)
    rw [sW_f9] at hP hD
    refine lv_aload_n hx hb dX4_run_22 rfl (lv_at hl 1 rfl) ?_
    refine lv_iconst (v := 0) hx hb dX4_run_23 (by decide) ?_
    refine va_put (D := G.1) (ci := 4) (v := .int 0) (ty := .int) (C := RX4) (T := TX4) (N := 13) hx hb hts inX4 tyX4 tyX4_ok nmX4 hown hK.1 hP hD hS 0 sW_0 rfl 11 (by decide) (hts _ w_153) (fun _ h9 => h9) rfl (by decide +kernel) rfl rfl sF_l11 dX4_run_24 (fun H locs hP hD hS => ?_)
    rw [sW_f11] at hP hD
    refine lv_iconst (v := 1) hx hb dX4_run_27 (by decide) ?_
    refine lv_istore hx hb dX4_run_28 hl (by decide) rfl (fun ls hl => ?_)
    have hl : lv_has ls 8 [(5, .int 1), (4, .int (S.1.1 2)), (0, .ref h), (1, .int a1), (2, .int a2), (3, .int a3)] := hl
    refine lv_iconst (v := 0) hx hb dX4_run_30 (by decide) ?_
    refine lv_istore hx hb dX4_run_31 hl (by decide) rfl (fun ls hl => ?_)
    have hl : lv_has ls 8 [(6, .int 0), (5, .int 1), (4, .int (S.1.1 2)), (0, .ref h), (1, .int a1), (2, .int a2), (3, .int a3)] := hl
    obtain ⟨nf, hE⟩ := hE
    exact L_s_run_33_ok hO hf hn hR F hK hA nf (sf (sf S 9 a1) 11 0) a1 a2 a3 (S.1.1 2) 1 0 _ _ ls (lv_sub hl [0, 1, 2, 3, 4, 5, 6] rfl) hE hP hD hS
  ·
    rw [if_neg h1] at hE
    refine lv_iconst (v := 0) hx hb dX4_run_9 (by decide) ?_
    obtain ⟨rfl, rfl⟩ := hE
    exact en_i F hS _ () (by rfl) rfl hP hD (Nat.le_refl _) (Nat.le_refl _) dX4_run_10

theorem dX4_firstWay_0 : decode cX4_firstWay 0 = .ok (.aload_n 0, 1) := by decide +kernel
theorem dX4_firstWay_1 : decode cX4_firstWay 1 = .ok (.iconst 0, 1) := by decide +kernel
theorem dX4_firstWay_2 : decode cX4_firstWay 2 = .ok (.putfield 48, 3) := by decide +kernel
theorem dX4_firstWay_5 : decode cX4_firstWay 5 = .ok (.aload_n 0, 1) := by decide +kernel
theorem dX4_firstWay_6 : decode cX4_firstWay 6 = .ok (.iload_n 1, 1) := by decide +kernel
theorem dX4_firstWay_7 : decode cX4_firstWay 7 = .ok (.putfield 51, 3) := by decide +kernel
theorem dX4_firstWay_10 : decode cX4_firstWay 10 = .ok (.aload_n 0, 1) := by decide +kernel
theorem dX4_firstWay_11 : decode cX4_firstWay 11 = .ok (.ldc2_w 54, 3) := by decide +kernel
theorem dX4_firstWay_14 : decode cX4_firstWay 14 = .ok (.putfield 56, 3) := by decide +kernel
theorem dX4_firstWay_17 : decode cX4_firstWay 17 = .ok (.aload_n 0, 1) := by decide +kernel
theorem dX4_firstWay_18 : decode cX4_firstWay 18 = .ok (.aload_n 0, 1) := by decide +kernel
theorem dX4_firstWay_19 : decode cX4_firstWay 19 = .ok (.getfield 23, 3) := by decide +kernel
theorem dX4_firstWay_22 : decode cX4_firstWay 22 = .ok (.getfield 60, 3) := by decide +kernel
theorem dX4_firstWay_25 : decode cX4_firstWay 25 = .ok (.iload_n 2, 1) := by decide +kernel
theorem dX4_firstWay_26 : decode cX4_firstWay 26 = .ok (.iconst 0, 1) := by decide +kernel
theorem dX4_firstWay_27 : decode cX4_firstWay 27 = .ok (.invokevirtual 63, 3) := by decide +kernel
theorem dX4_firstWay_30 : decode cX4_firstWay 30 = .ok (.ireturn, 1) := by decide +kernel
def E_s_firstWay (T : TD) (RUN : RT) (S : SS) (a1 : Int32) (a2 : Int32) (S' : SS) (r : Int32) : Prop := ∃ (S1 : SS) (r2 : Int32), E_s_run T RUN (ss (sf (sf S 2 0) 10 a1) 17527745802495) (tFi T) a2 0 S1 r2 ∧ (narrow .boolean (.int r2) = .int r2 ∧ S' = S1 ∧ r = r2)
set_option maxHeartbeats 4000000 in
set_option maxRecDepth 100000 in
theorem e_s_firstWay (l : Launch) (G : PG) (h : Nat) (q ad : Nat → Nat) (T : TD) (hO : tOK T) (RUN : RT) (f n : Nat) (hf : 6 ≤ f) (hn : 200 ≤ n) (hR : RC l G h q ad T f n RUN) (S : SS) (a1 : Int32) (a2 : Int32) (S' : SS) (r : Int32) (hE : E_s_firstWay T RUN S a1 a2 S' r) : Ci l yX4_firstWay (Cond.code yX4_firstWay cX4_firstWay 3 (some .boolean) :: aW) { frames := f + 5, cells := 0, slots := 0, locals := n + 129 } G (sW G h q ad T S) [.ref h, .int a1, .int a2] (fun (r9 : Int32) (_ : Unit) => r9 = r) (fun (_ : Unit) => sW G h q ad T S') 0 0 := by
  refine ofB (y := yX4_firstWay) (G := G) (cc := cX4_firstWay) (maxL := 3) (ret := (some .boolean)) (Qc := fun A => va_Qi (fun (r9 : Int32) (_ : Unit) => r9 = r) (oB G A (fun (_ : Unit) => sW G h q ad T S')) A) (by decide) rfl ?_
  intro p e s m below meth c A F hK hA hP hD
  have hS : va_S A s.heap s.heap [] := va_S.rf
  have hx := F.1.1; have hb := F.1.2.1; have hml := F.1.2.2.1; have hts := F.1.2.2.2.2
  have hown : s.vm.findClass RX4 = some m.cls := F.1.2.2.2.1
  have hl := lv_entry ([.ref h, .int a1, .int a2]) (n := 3) (Nat.le_of_ble_eq_true rfl)
  rw [lg_entry_eq]
  generalize (lg_sl ([.ref h, .int a1, .int a2]) ++ List.replicate (3 - (lg_sl ([.ref h, .int a1, .int a2])).length) Slot.unset).toArray = ls at hl ⊢
  have hl : lv_has ls 3 [(0, .ref h), (1, .int a1), (2, .int a2)] := hl
  unfold E_s_firstWay at hE
  refine lv_aload_n hx hb dX4_firstWay_0 rfl (lv_at hl 0 rfl) ?_
  refine lv_iconst (v := 0) hx hb dX4_firstWay_1 (by decide) ?_
  refine va_put (D := G.1) (ci := 4) (v := .int 0) (ty := .int) (C := RX4) (T := TX4) (N := 13) hx hb hts inX4 tyX4 tyX4_ok nmX4 hown hK.1 hP hD hS 0 sW_0 rfl 2 (by decide) (hts _ w_141) (fun _ h9 => h9) rfl (by decide +kernel) rfl rfl sF_l2 dX4_firstWay_2 (fun H locs hP hD hS => ?_)
  rw [sW_f2] at hP hD
  refine lv_aload_n hx hb dX4_firstWay_5 rfl (lv_at hl 0 rfl) ?_
  refine lv_iload_n hx hb dX4_firstWay_6 rfl (lv_at hl 1 rfl) ?_
  refine va_put (D := G.1) (ci := 4) (v := .int a1) (ty := .int) (C := RX4) (T := TX4) (N := 13) hx hb hts inX4 tyX4 tyX4_ok nmX4 hown hK.1 hP hD hS 0 sW_0 rfl 10 (by decide) (hts _ w_151) (fun _ h9 => h9) rfl (by decide +kernel) rfl rfl sF_l10 dX4_firstWay_7 (fun H locs hP hD hS => ?_)
  rw [sW_f10] at hP hD
  refine lv_aload_n hx hb dX4_firstWay_10 rfl (lv_at hl 0 rfl) ?_
  refine lv_ldc2 (v := 17527745802495) hx hb hown (hts _ w_629) dX4_firstWay_11 ?_
  refine va_put (D := G.1) (ci := 4) (v := .long 17527745802495) (ty := .long) (C := RX4) (T := TX4) (N := 13) hx hb hts inX4 tyX4 tyX4_ok nmX4 hown hK.1 hP hD hS 0 sW_0 rfl 12 (by decide) (hts _ w_154) (fun _ h9 => h9) rfl (by decide +kernel) rfl rfl sF_l12 dX4_firstWay_14 (fun H locs hP hD hS => ?_)
  rw [sW_f12] at hP hD
  refine lv_aload_n hx hb dX4_firstWay_17 rfl (lv_at hl 0 rfl) ?_
  refine lv_aload_n hx hb dX4_firstWay_18 rfl (lv_at hl 0 rfl) ?_
  refine va_get (D := G.1) (ci := 4) (C := RX4) (T := TX4) (N := 13) hx hb hts inX4 hown hK.1 hP 0 sW_0 rfl 8 (by decide) (hts _ w_148) (fun _ h9 => h9) sF_8 dX4_firstWay_19 ?_
  refine va_getN (D := G.1) (ci := 1) (v := .int (tFi T)) (C := RX1) (T := TX1) (N := 5) hx hb hts inX1 hown hK.1 hP 8 sW_8 rfl 2 (by decide) (hK.2.1.use w_121) (fun _ h9 => h9) rfl dX4_firstWay_22 ?_
  refine lv_iload_n hx hb dX4_firstWay_25 rfl (lv_at hl 2 rfl) ?_
  refine lv_iconst (v := 0) hx hb dX4_firstWay_26 (by decide) ?_
  obtain ⟨S1, r2, hg, hE⟩ := hE
  refine kA_i (va_runV (As := [.int (tFi T), .int a2, .int 0]) (rest := []) F.1 (e_s_run l G h q ad T hO RUN f n hf hn hR (ss (sf (sf S 2 0) 10 a1) 17527745802495) (tFi T) a2 0 S1 r2 hg _) (cwV 3 hts (aw_V w_630 w_632 ws_X4_run w_2 w_633) rfl rfl rfl (by decide +kernel) ⟨by dsimp only; omega, by dsimp only; omega⟩) ⟨cS_blind, va_recv (q := (RX4, TX4, 13)) (ci := 4) (q0 := 0) hK.1 hP rfl sW_0, cS_pre hP hD hK⟩ rfl rfl hl.1 rfl (lv_room (Nat.le_of_ble_eq_true rfl)) dX4_firstWay_27 ⟨Nat.le_refl _, Nat.le_refl _⟩) hD hS hA (fun r9 u0 H locs hp hP hD hS => ?_)
  have hp := hp.symm; subst hp
  obtain ⟨hn, rfl, rfl⟩ := hE
  exact en_i F hS _ () hn rfl hP hD (Nat.le_refl _) (Nat.le_refl _) dX4_firstWay_30

/-- run, k levels of searches within one another -/
def RUNk (T : TD) : Nat → RT
  | 0 => fun _ _ _ _ _ _ => False
  | k + 1 => fun S a1 a2 a3 S' r => E_s_run T (RUNk T k) S a1 a2 a3 S' r
def rFr : Nat → Nat
  | 0 => 6
  | k + 1 => rFr k + 4
def rLo : Nat → Nat
  | 0 => 200
  | k + 1 => rLo k + 102
theorem rFr_le : ∀ k, 6 ≤ rFr k
  | 0 => Nat.le_refl _
  | k + 1 => Nat.le_trans (rFr_le k) (Nat.le_add_right _ _)
theorem rLo_le : ∀ k, 200 ≤ rLo k
  | 0 => Nat.le_refl _
  | k + 1 => Nat.le_trans (rLo_le k) (Nat.le_add_right _ _)
theorem RUNk_ok (l : Launch) (G : PG) (h : Nat) (q ad : Nat → Nat) (T : TD) (hO : tOK T) : ∀ k, RC l G h q ad T (rFr k) (rLo k) (RUNk T k)
  | 0 => fun _ _ _ _ _ _ hE => hE.elim
  | k + 1 => fun S a1 a2 a3 S' r hE => e_s_run l G h q ad T hO (RUNk T k) (rFr k) (rLo k) (rFr_le k) (rLo_le k) (RUNk_ok l G h q ad T hO k) S a1 a2 a3 S' r hE
def E_fw (T : TD) (S : SS) (a1 a2 : Int32) (S' : SS) (r : Int32) : Prop := E_s_firstWay T (RUNk T 11) S a1 a2 S' r
theorem e_fw (l : Launch) (G : PG) (h : Nat) (q ad : Nat → Nat) (T : TD) (hO : tOK T) (S : SS) (a1 a2 : Int32) (S' : SS) (r : Int32) (hE : E_fw T S a1 a2 S' r) : Ci l yX4_firstWay (Cond.code yX4_firstWay cX4_firstWay 3 (some .boolean) :: aW) { frames := 55, cells := 0, slots := 0, locals := 1451 } G (sW G h q ad T S) [.ref h, .int a1, .int a2] (fun (r9 : Int32) (_ : Unit) => r9 = r) (fun (_ : Unit) => sW G h q ad T S') 0 0 := e_s_firstWay l G h q ad T hO (RUNk T 11) (rFr 11) (rLo 11) (rFr_le 11) (rLo_le 11) (RUNk_ok l G h q ad T hO 11) S a1 a2 S' r hE
