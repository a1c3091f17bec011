/-! the reference, further methods -/
theorem dX6_link_0 : decode cX6_link 0 = .ok (.aload_n 0, 1) := by decide +kernel
theorem dX6_link_1 : decode cX6_link 1 = .ok (.getfield 60, 3) := by decide +kernel
theorem dX6_link_4 : decode cX6_link 4 = .ok (.aload_n 0, 1) := by decide +kernel
theorem dX6_link_5 : decode cX6_link 5 = .ok (.getfield 208, 3) := by decide +kernel
theorem dX6_link_8 : decode cX6_link 8 = .ok (.iload_n 1, 1) := by decide +kernel
theorem dX6_link_9 : decode cX6_link 9 = .ok (.iastore, 1) := by decide +kernel
theorem dX6_link_10 : decode cX6_link 10 = .ok (.aload_n 0, 1) := by decide +kernel
theorem dX6_link_11 : decode cX6_link 11 = .ok (.getfield 63, 3) := by decide +kernel
theorem dX6_link_14 : decode cX6_link 14 = .ok (.aload_n 0, 1) := by decide +kernel
theorem dX6_link_15 : decode cX6_link 15 = .ok (.getfield 208, 3) := by decide +kernel
theorem dX6_link_18 : decode cX6_link 18 = .ok (.iload_n 2, 1) := by decide +kernel
theorem dX6_link_19 : decode cX6_link 19 = .ok (.iastore, 1) := by decide +kernel
theorem dX6_link_20 : decode cX6_link 20 = .ok (.aload_n 0, 1) := by decide +kernel
theorem dX6_link_21 : decode cX6_link 21 = .ok (.getfield 66, 3) := by decide +kernel
theorem dX6_link_24 : decode cX6_link 24 = .ok (.aload_n 0, 1) := by decide +kernel
theorem dX6_link_25 : decode cX6_link 25 = .ok (.getfield 208, 3) := by decide +kernel
theorem dX6_link_28 : decode cX6_link 28 = .ok (.iload_n 3, 1) := by decide +kernel
theorem dX6_link_29 : decode cX6_link 29 = .ok (.iastore, 1) := by decide +kernel
theorem dX6_link_30 : decode cX6_link 30 = .ok (.aload_n 0, 1) := by decide +kernel
theorem dX6_link_31 : decode cX6_link 31 = .ok (.getfield 69, 3) := by decide +kernel
theorem dX6_link_34 : decode cX6_link 34 = .ok (.aload_n 0, 1) := by decide +kernel
theorem dX6_link_35 : decode cX6_link 35 = .ok (.getfield 208, 3) := by decide +kernel
theorem dX6_link_38 : decode cX6_link 38 = .ok (.iload 4, 2) := by decide +kernel
theorem dX6_link_40 : decode cX6_link 40 = .ok (.iastore, 1) := by decide +kernel
theorem dX6_link_41 : decode cX6_link 41 = .ok (.aload_n 0, 1) := by decide +kernel
theorem dX6_link_42 : decode cX6_link 42 = .ok (.dup, 1) := by decide +kernel
theorem dX6_link_43 : decode cX6_link 43 = .ok (.getfield 208, 3) := by decide +kernel
theorem dX6_link_46 : decode cX6_link 46 = .ok (.iconst 1, 1) := by decide +kernel
theorem dX6_link_47 : decode cX6_link 47 = .ok (.iadd, 1) := by decide +kernel
theorem dX6_link_48 : decode cX6_link 48 = .ok (.putfield 208, 3) := by decide +kernel
theorem dX6_link_51 : decode cX6_link 51 = .ok (.aload_n 0, 1) := by decide +kernel
theorem dX6_link_52 : decode cX6_link 52 = .ok (.getfield 208, 3) := by decide +kernel
theorem dX6_link_55 : decode cX6_link 55 = .ok (.iconst 1, 1) := by decide +kernel
theorem dX6_link_56 : decode cX6_link 56 = .ok (.isub, 1) := by decide +kernel
theorem dX6_link_57 : decode cX6_link 57 = .ok (.ireturn, 1) := by decide +kernel
def E_link (R : RS) (a1 : Int32) (a2 : Int32) (a3 : Int32) (a4 : Int32) (R' : RS) (r : Int32) : Prop := vp_in (R.1 26) 1000 ∧ (vp_in (R.1 26) 1000 ∧ (vp_in (R.1 26) 1000 ∧ (vp_in (R.1 26) 1000 ∧ (R' = (mf (ma (ma (ma (ma R 31 ((R.1 26).toNatClampNeg) a1) 32 ((R.1 26).toNatClampNeg) a2) 33 ((R.1 26).toNatClampNeg) a3) 34 ((R.1 26).toNatClampNeg) a4) 26 ((R.1 26) + 1)) ∧ r = (((R.1 26) + 1) - 1)))))
set_option maxHeartbeats 4000000 in
set_option maxRecDepth 100000 in
theorem e_link (l : Launch) (G : PG) (h : Nat) (q : Nat → Nat) (R : RS) (a1 : Int32) (a2 : Int32) (a3 : Int32) (a4 : Int32) (R' : RS) (r : Int32) (hE : E_link R a1 a2 a3 a4 R' r) : Ci l yX6_link (Cond.code yX6_link cX6_link 5 (some .int) :: aW) { frames := 0, cells := 0, slots := 0, locals := 0 } G (mW G h q R) [.ref h, .int a1, .int a2, .int a3, .int a4] (fun (r9 : Int32) (_ : Unit) => r9 = r) (fun (_ : Unit) => mW G h q R') 0 0 := by
  refine ofB (y := yX6_link) (G := G) (cc := cX6_link) (maxL := 5) (ret := (some .int)) (Qc := fun A => va_Qi (fun (r9 : Int32) (_ : Unit) => r9 = r) (oB G A (fun (_ : Unit) => mW G h q R')) A) (by decide) rfl ?_
  intro p e s m below meth c A F hK hA hP hD
  have hS : va_S A s.heap s.heap [] := va_S.rf
  have hx := F.1.1; have hb := F.1.2.1; have hml := F.1.2.2.1; have hts := F.1.2.2.2.2
  have hown : s.vm.findClass RX6 = some m.cls := F.1.2.2.2.1
  have hl := lv_entry ([.ref h, .int a1, .int a2, .int a3, .int a4]) (n := 5) (Nat.le_of_ble_eq_true rfl)
  rw [lg_entry_eq]
  generalize (lg_sl ([.ref h, .int a1, .int a2, .int a3, .int a4]) ++ List.replicate (5 - (lg_sl ([.ref h, .int a1, .int a2, .int a3, .int a4])).length) Slot.unset).toArray = ls at hl ⊢
  have hl : lv_has ls 5 [(0, .ref h), (1, .int a1), (2, .int a2), (3, .int a3), (4, .int a4)] := hl
  unfold E_link at hE
  refine lv_aload_n hx hb dX6_link_0 rfl (lv_at hl 0 rfl) ?_
  refine va_get (D := G.1) (ci := 6) (C := RX6) (T := TX6) (N := 48) hx hb hts inX6 hown hK.1 hP 0 mW_0 rfl 31 (by decide) (hts _ w_877) (fun _ h9 => h9) mF_31 dX6_link_1 ?_
  refine lv_aload_n hx hb dX6_link_4 rfl (lv_at hl 0 rfl) ?_
  refine va_get (D := G.1) (ci := 6) (C := RX6) (T := TX6) (N := 48) hx hb hts inX6 hown hK.1 hP 0 mW_0 rfl 26 (by decide) (hts _ w_872) (fun _ h9 => h9) mF_26 dX6_link_5 ?_
  refine lv_iload_n hx hb dX6_link_8 rfl (lv_at hl 1 rfl) ?_
  obtain ⟨hin, hE⟩ := hE
  refine va_iast (D := G.1) hx hb hK.1 hP hD hS 17 0 mW_g31 rfl hin dX6_link_9 (fun H locs hP hD hS => ?_)
  rw [mW_a31] at hP hD
  refine lv_aload_n hx hb dX6_link_10 rfl (lv_at hl 0 rfl) ?_
  refine va_get (D := G.1) (ci := 6) (C := RX6) (T := TX6) (N := 48) hx hb hts inX6 hown hK.1 hP 0 mW_0 rfl 32 (by decide) (hts _ w_878) (fun _ h9 => h9) mF_32 dX6_link_11 ?_
  refine lv_aload_n hx hb dX6_link_14 rfl (lv_at hl 0 rfl) ?_
  refine va_get (D := G.1) (ci := 6) (C := RX6) (T := TX6) (N := 48) hx hb hts inX6 hown hK.1 hP 0 mW_0 rfl 26 (by decide) (hts _ w_872) (fun _ h9 => h9) mF_26 dX6_link_15 ?_
  refine tp_i (R.1 26) rfl ?_
  refine lv_iload_n hx hb dX6_link_18 rfl (lv_at hl 2 rfl) ?_
  obtain ⟨hin, hE⟩ := hE
  refine va_iast (D := G.1) hx hb hK.1 hP hD hS 18 0 mW_g32 rfl hin dX6_link_19 (fun H locs hP hD hS => ?_)
  rw [mW_a32] at hP hD
  refine lv_aload_n hx hb dX6_link_20 rfl (lv_at hl 0 rfl) ?_
  refine va_get (D := G.1) (ci := 6) (C := RX6) (T := TX6) (N := 48) hx hb hts inX6 hown hK.1 hP 0 mW_0 rfl 33 (by decide) (hts _ w_879) (fun _ h9 => h9) mF_33 dX6_link_21 ?_
  refine lv_aload_n hx hb dX6_link_24 rfl (lv_at hl 0 rfl) ?_
  refine va_get (D := G.1) (ci := 6) (C := RX6) (T := TX6) (N := 48) hx hb hts inX6 hown hK.1 hP 0 mW_0 rfl 26 (by decide) (hts _ w_872) (fun _ h9 => h9) mF_26 dX6_link_25 ?_
  refine tp_i (R.1 26) rfl ?_
  refine lv_iload_n hx hb dX6_link_28 rfl (lv_at hl 3 rfl) ?_
  obtain ⟨hin, hE⟩ := hE
  refine va_iast (D := G.1) hx hb hK.1 hP hD hS 19 0 mW_g33 rfl hin dX6_link_29 (fun H locs hP hD hS => ?_)
  rw [mW_a33] at hP hD
  refine lv_aload_n hx hb dX6_link_30 rfl (lv_at hl 0 rfl) ?_
  refine va_get (D := G.1) (ci := 6) (C := RX6) (T := TX6) (N := 48) hx hb hts inX6 hown hK.1 hP 0 mW_0 rfl 34 (by decide) (hts _ w_880) (fun _ h9 => h9) mF_34 dX6_link_31 ?_
  refine lv_aload_n hx hb dX6_link_34 rfl (lv_at hl 0 rfl) ?_
  refine va_get (D := G.1) (ci := 6) (C := RX6) (T := TX6) (N := 48) hx hb hts inX6 hown hK.1 hP 0 mW_0 rfl 26 (by decide) (hts _ w_872) (fun _ h9 => h9) mF_26 dX6_link_35 ?_
  refine tp_i (R.1 26) rfl ?_
  refine lv_iload hx hb dX6_link_38 (lv_at hl 4 rfl) ?_
  obtain ⟨hin, hE⟩ := hE
  refine va_iast (D := G.1) hx hb hK.1 hP hD hS 20 0 mW_g34 rfl hin dX6_link_40 (fun H locs hP hD hS => ?_)
  rw [mW_a34] at hP hD
  refine lv_aload_n hx hb dX6_link_41 rfl (lv_at hl 0 rfl) ?_
  refine lv_dup hx hb dX6_link_42 rfl ?_
  refine va_get (D := G.1) (ci := 6) (C := RX6) (T := TX6) (N := 48) hx hb hts inX6 hown hK.1 hP 0 mW_0 rfl 26 (by decide) (hts _ w_872) (fun _ h9 => h9) mF_26 dX6_link_43 ?_
  refine tp_i (R.1 26) rfl ?_
  refine lv_iconst (v := 1) hx hb dX6_link_46 (by decide) ?_
  refine lv_iadd hx hb dX6_link_47 ?_
  refine va_put (D := G.1) (ci := 6) (v := .int ((R.1 26) + 1)) (ty := .int) (C := RX6) (T := TX6) (N := 48) hx hb hts inX6 tyX6 tyX6_ok nmX6 hown hK.1 hP hD hS 0 mW_0 rfl 26 (by decide) (hts _ w_872) (fun _ h9 => h9) rfl (by decide +kernel) rfl rfl mF_l26 dX6_link_48 (fun H locs hP hD hS => ?_)
  rw [mW_f26] at hP hD
  refine lv_aload_n hx hb dX6_link_51 rfl (lv_at hl 0 rfl) ?_
  refine va_get (D := G.1) (ci := 6) (C := RX6) (T := TX6) (N := 48) hx hb hts inX6 hown hK.1 hP 0 mW_0 rfl 26 (by decide) (hts _ w_872) (fun _ h9 => h9) mF_26 dX6_link_52 ?_
  refine tp_i ((R.1 26) + 1) rfl ?_
  refine lv_iconst (v := 1) hx hb dX6_link_55 (by decide) ?_
  refine lv_isub hx hb dX6_link_56 ?_
  obtain ⟨rfl, rfl⟩ := hE
  exact en_i F hS _ () (by rfl) rfl hP hD (Nat.le_refl _) (Nat.le_refl _) dX6_link_57

theorem dX6_otherWay_0 : decode cX6_otherWay 0 = .ok (.aload_n 0, 1) := by decide +kernel
theorem dX6_otherWay_1 : decode cX6_otherWay 1 = .ok (.getfield 72, 3) := by decide +kernel
theorem dX6_otherWay_4 : decode cX6_otherWay 4 = .ok (.aload_n 0, 1) := by decide +kernel
theorem dX6_otherWay_5 : decode cX6_otherWay 5 = .ok (.getfield 211, 3) := by decide +kernel
theorem dX6_otherWay_8 : decode cX6_otherWay 8 = .ok (.iload_n 1, 1) := by decide +kernel
theorem dX6_otherWay_9 : decode cX6_otherWay 9 = .ok (.iastore, 1) := by decide +kernel
theorem dX6_otherWay_10 : decode cX6_otherWay 10 = .ok (.aload_n 0, 1) := by decide +kernel
theorem dX6_otherWay_11 : decode cX6_otherWay 11 = .ok (.getfield 75, 3) := by decide +kernel
theorem dX6_otherWay_14 : decode cX6_otherWay 14 = .ok (.aload_n 0, 1) := by decide +kernel
theorem dX6_otherWay_15 : decode cX6_otherWay 15 = .ok (.getfield 211, 3) := by decide +kernel
theorem dX6_otherWay_18 : decode cX6_otherWay 18 = .ok (.iload_n 2, 1) := by decide +kernel
theorem dX6_otherWay_19 : decode cX6_otherWay 19 = .ok (.iastore, 1) := by decide +kernel
theorem dX6_otherWay_20 : decode cX6_otherWay 20 = .ok (.aload_n 0, 1) := by decide +kernel
theorem dX6_otherWay_21 : decode cX6_otherWay 21 = .ok (.getfield 78, 3) := by decide +kernel
theorem dX6_otherWay_24 : decode cX6_otherWay 24 = .ok (.aload_n 0, 1) := by decide +kernel
theorem dX6_otherWay_25 : decode cX6_otherWay 25 = .ok (.getfield 211, 3) := by decide +kernel
theorem dX6_otherWay_28 : decode cX6_otherWay 28 = .ok (.iload_n 3, 1) := by decide +kernel
theorem dX6_otherWay_29 : decode cX6_otherWay 29 = .ok (.iastore, 1) := by decide +kernel
theorem dX6_otherWay_30 : decode cX6_otherWay 30 = .ok (.aload_n 0, 1) := by decide +kernel
theorem dX6_otherWay_31 : decode cX6_otherWay 31 = .ok (.getfield 81, 3) := by decide +kernel
theorem dX6_otherWay_34 : decode cX6_otherWay 34 = .ok (.aload_n 0, 1) := by decide +kernel
theorem dX6_otherWay_35 : decode cX6_otherWay 35 = .ok (.getfield 211, 3) := by decide +kernel
theorem dX6_otherWay_38 : decode cX6_otherWay 38 = .ok (.iload 4, 2) := by decide +kernel
theorem dX6_otherWay_40 : decode cX6_otherWay 40 = .ok (.iastore, 1) := by decide +kernel
theorem dX6_otherWay_41 : decode cX6_otherWay 41 = .ok (.aload_n 0, 1) := by decide +kernel
theorem dX6_otherWay_42 : decode cX6_otherWay 42 = .ok (.getfield 84, 3) := by decide +kernel
theorem dX6_otherWay_45 : decode cX6_otherWay 45 = .ok (.aload_n 0, 1) := by decide +kernel
theorem dX6_otherWay_46 : decode cX6_otherWay 46 = .ok (.getfield 211, 3) := by decide +kernel
theorem dX6_otherWay_49 : decode cX6_otherWay 49 = .ok (.aload_n 0, 1) := by decide +kernel
theorem dX6_otherWay_50 : decode cX6_otherWay 50 = .ok (.getfield 208, 3) := by decide +kernel
theorem dX6_otherWay_53 : decode cX6_otherWay 53 = .ok (.iastore, 1) := by decide +kernel
theorem dX6_otherWay_54 : decode cX6_otherWay 54 = .ok (.iconst 0, 1) := by decide +kernel
theorem dX6_otherWay_55 : decode cX6_otherWay 55 = .ok (.istore 5, 2) := by decide +kernel
theorem dX6_otherWay_57 : decode cX6_otherWay 57 = .ok (.iload 5, 2) := by decide +kernel
theorem dX6_otherWay_59 : decode cX6_otherWay 59 = .ok (.bipush 10, 2) := by decide +kernel
theorem dX6_otherWay_61 : decode cX6_otherWay 61 = .ok (.if_icmp .ge 31, 3) := by decide +kernel
theorem dX6_otherWay_64 : decode cX6_otherWay 64 = .ok (.aload_n 0, 1) := by decide +kernel
theorem dX6_otherWay_65 : decode cX6_otherWay 65 = .ok (.getfield 87, 3) := by decide +kernel
theorem dX6_otherWay_68 : decode cX6_otherWay 68 = .ok (.bipush 10, 2) := by decide +kernel
theorem dX6_otherWay_70 : decode cX6_otherWay 70 = .ok (.aload_n 0, 1) := by decide +kernel
theorem dX6_otherWay_71 : decode cX6_otherWay 71 = .ok (.getfield 211, 3) := by decide +kernel
theorem dX6_otherWay_74 : decode cX6_otherWay 74 = .ok (.imul, 1) := by decide +kernel
theorem dX6_otherWay_75 : decode cX6_otherWay 75 = .ok (.iload 5, 2) := by decide +kernel
theorem dX6_otherWay_77 : decode cX6_otherWay 77 = .ok (.iadd, 1) := by decide +kernel
theorem dX6_otherWay_78 : decode cX6_otherWay 78 = .ok (.aload_n 0, 1) := by decide +kernel
theorem dX6_otherWay_79 : decode cX6_otherWay 79 = .ok (.getfield 57, 3) := by decide +kernel
theorem dX6_otherWay_82 : decode cX6_otherWay 82 = .ok (.iload 5, 2) := by decide +kernel
theorem dX6_otherWay_84 : decode cX6_otherWay 84 = .ok (.iaload, 1) := by decide +kernel
theorem dX6_otherWay_85 : decode cX6_otherWay 85 = .ok (.iastore, 1) := by decide +kernel
theorem dX6_otherWay_86 : decode cX6_otherWay 86 = .ok (.iinc 5 1, 3) := by decide +kernel
theorem dX6_otherWay_89 : decode cX6_otherWay 89 = .ok (.goto (-32), 3) := by decide +kernel
theorem dX6_otherWay_92 : decode cX6_otherWay 92 = .ok (.aload_n 0, 1) := by decide +kernel
theorem dX6_otherWay_93 : decode cX6_otherWay 93 = .ok (.dup, 1) := by decide +kernel
theorem dX6_otherWay_94 : decode cX6_otherWay 94 = .ok (.getfield 211, 3) := by decide +kernel
theorem dX6_otherWay_97 : decode cX6_otherWay 97 = .ok (.iconst 1, 1) := by decide +kernel
theorem dX6_otherWay_98 : decode cX6_otherWay 98 = .ok (.iadd, 1) := by decide +kernel
theorem dX6_otherWay_99 : decode cX6_otherWay 99 = .ok (.putfield 211, 3) := by decide +kernel
theorem dX6_otherWay_102 : decode cX6_otherWay 102 = .ok (.return_, 1) := by decide +kernel
def L_otherWay_57 : Nat → RS → Int32 → Int32 → Int32 → Int32 → Int32 → RS → Int32 → Prop
  | 0, _, _, _, _, _, _, _, _ => False
  | nf + 1, R, x1, x2, x3, x4, x5, R', r => if 10 ≤ x5 then (R' = (mf R 27 ((R.1 27) + 1)) ∧ r = 0) else (vp_in x5 10 ∧ (vp_in ((10 * (R.1 27)) + x5) 5000 ∧ (L_otherWay_57 nf (ma R 40 (((10 * (R.1 27)) + x5).toNatClampNeg) (R.2.1 30 x5.toNatClampNeg)) x1 x2 x3 x4 (x5 + 1) R' r)))
set_option maxHeartbeats 4000000 in
set_option maxRecDepth 100000 in
theorem L_otherWay_57_ok {l : Launch} {G : PG} {h : Nat} {q : Nat → Nat} {a1 : Int32} {a2 : Int32} {a3 : Int32} {a4 : Int32} {R' : RS} {r : Int32} {p : Program} {e : Env} {s : State} {m : MethodId} {below : List Frame} {meth : Method} {c : Code} {A : Nat → Prop} (F : bF p s m meth c cX6_otherWay 6 none ([.ref h, .int a1, .int a2, .int a3, .int a4] : List Value).toArray yX6_otherWay) (hK : pg_K G s) (hA : ∀ q, s.heap.size ≤ q → A q) : ∀ (nf : Nat) (R : RS) (x1 : Int32) (x2 : Int32) (x3 : Int32) (x4 : Int32) (x5 : Int32) (H : Heap) (locs : List Loc) (ls : Array Slot), lv_has ls 6 [(5, .int x5), (0, .ref h), (1, .int x1), (2, .int x2), (3, .int x3), (4, .int x4)] → L_otherWay_57 nf R x1 x2 x3 x4 x5 R' r → va_P G.1 vwCl (mW G h q R) H → va_D A (mW G h q R) → va_S A s.heap H locs → W p l e { frames := 0, cells := 0, slots := 0, locals := 0 } s m ([.ref h, .int a1, .int a2, .int a3, .int a4] : List Value).toArray below meth c H locs 0 0 (MQ below (va_Qv (fun (_ : Unit) => True) (oB G A (fun (_ : Unit) => mW G h q R')) A) ([.ref h, .int a1, .int a2, .int a3, .int a4] : List Value).toArray s 0 0 A) (F0 m 57 ls []) := by
  have hx := F.1.1; have hb := F.1.2.1; have hml := F.1.2.2.1; have hts := F.1.2.2.2.2
  have hown : s.vm.findClass RX6 = some m.cls := F.1.2.2.2.1
  intro nf
  induction nf with
  | zero => intro R x1 x2 x3 x4 x5 H locs ls hl hE; exact hE.elim
  | succ nf ih =>
    intro R x1 x2 x3 x4 x5 H locs ls hl hE hP hD hS
    unfold L_otherWay_57 at hE
    refine lv_iload hx hb dX6_otherWay_57 (lv_at hl 0 rfl) ?_
    refine lv_bipush (v := 10) hx hb dX6_otherWay_59 (by decide) ?_
    refine lv_icmp_ge (tgt := 92) hx hb dX6_otherWay_61 (by decide) (fun h1 => ?_) (fun h1 => ?_)
    ·
      rw [if_pos h1] at hE
      refine lv_aload_n hx hb dX6_otherWay_92 rfl (lv_at hl 1 rfl) ?_
      refine lv_dup hx hb dX6_otherWay_93 rfl ?_
      refine va_get (D := G.1) (ci := 6) (C := RX6) (T := TX6) (N := 48) hx hb hts inX6 hown hK.1 hP 0 mW_0 rfl 27 (by decide) (hts _ w_873) (fun _ h9 => h9) mF_27 dX6_otherWay_94 ?_
      refine lv_iconst (v := 1) hx hb dX6_otherWay_97 (by decide) ?_
      refine lv_iadd hx hb dX6_otherWay_98 ?_
      refine va_put (D := G.1) (ci := 6) (v := .int ((R.1 27) + 1)) (ty := .int) (C := RX6) (T := TX6) (N := 48) hx hb hts inX6 tyX6 tyX6_ok nmX6 hown hK.1 hP hD hS 0 mW_0 rfl 27 (by decide) (hts _ w_873) (fun _ h9 => h9) rfl (by decide +kernel) rfl rfl mF_l27 dX6_otherWay_99 (fun H locs hP hD hS => ?_)
      rw [mW_f27] at hP hD
      obtain ⟨rfl, rfl⟩ := hE
      exact en_v F hS () trivial hP hD (Nat.le_refl _) (Nat.le_refl _) dX6_otherWay_102
    ·
      rw [if_neg h1] at hE
      refine lv_aload_n hx hb dX6_otherWay_64 rfl (lv_at hl 1 rfl) ?_
      refine va_get (D := G.1) (ci := 6) (C := RX6) (T := TX6) (N := 48) hx hb hts inX6 hown hK.1 hP 0 mW_0 rfl 40 (by decide) (hts _ w_886) (fun _ h9 => h9) mF_40 dX6_otherWay_65 ?_
      refine lv_bipush (v := 10) hx hb dX6_otherWay_68 (by decide) ?_
      refine lv_aload_n hx hb dX6_otherWay_70 rfl (lv_at hl 1 rfl) ?_
      refine va_get (D := G.1) (ci := 6) (C := RX6) (T := TX6) (N := 48) hx hb hts inX6 hown hK.1 hP 0 mW_0 rfl 27 (by decide) (hts _ w_873) (fun _ h9 => h9) mF_27 dX6_otherWay_71 ?_
      refine lv_imul hx hb dX6_otherWay_74 ?_
      refine lv_iload hx hb dX6_otherWay_75 (lv_at hl 0 rfl) ?_
      refine lv_iadd hx hb dX6_otherWay_77 ?_
      refine lv_aload_n hx hb dX6_otherWay_78 rfl (lv_at hl 1 rfl) ?_
      refine va_get (D := G.1) (ci := 6) (C := RX6) (T := TX6) (N := 48) hx hb hts inX6 hown hK.1 hP 0 mW_0 rfl 30 (by decide) (hts _ w_876) (fun _ h9 => h9) mF_30 dX6_otherWay_79 ?_
      refine lv_iload hx hb dX6_otherWay_82 (lv_at hl 0 rfl) ?_
      obtain ⟨hin, hE⟩ := hE
      refine va_iald (D := G.1) hx hb hK.1 hP 16 0 mW_g30 rfl hin dX6_otherWay_84 ?_
      obtain ⟨hin, hE⟩ := hE
      refine va_iast (D := G.1) hx hb hK.1 hP hD hS 26 0 mW_g40 rfl hin dX6_otherWay_85 (fun H locs hP hD hS => ?_)
      rw [mW_a40] at hP hD
      refine lv_iinc (v := (x5 + 1)) (k := 0) hx hb dX6_otherWay_86 hl rfl rfl (by decide) rfl (fun ls hl => ?_)
      have hl : lv_has ls 6 [(5, .int (x5 + 1)), (0, .ref h), (1, .int x1), (2, .int x2), (3, .int x3), (4, .int x4)] := hl
      refine lv_goto (tgt := 57) hx hb dX6_otherWay_89 (by decide) ?_
      exact ih (ma R 40 (((10 * (R.1 27)) + x5).toNatClampNeg) (R.2.1 30 x5.toNatClampNeg)) x1 x2 x3 x4 (x5 + 1) _ _ ls (lv_sub hl [0, 1, 2, 3, 4, 5] rfl) hE hP hD hS
def E_otherWay (R : RS) (a1 : Int32) (a2 : Int32) (a3 : Int32) (a4 : Int32) (R' : RS) (r : Int32) : Prop := vp_in (R.1 27) 500 ∧ (vp_in (R.1 27) 500 ∧ (vp_in (R.1 27) 500 ∧ (vp_in (R.1 27) 500 ∧ (vp_in (R.1 27) 500 ∧ (∃ nf : Nat, L_otherWay_57 nf (ma (ma (ma (ma (ma R 35 ((R.1 27).toNatClampNeg) a1) 36 ((R.1 27).toNatClampNeg) a2) 37 ((R.1 27).toNatClampNeg) a3) 38 ((R.1 27).toNatClampNeg) a4) 39 ((R.1 27).toNatClampNeg) (R.1 26)) a1 a2 a3 a4 0 R' r)))))
set_option maxHeartbeats 4000000 in
set_option maxRecDepth 100000 in
theorem e_otherWay (l : Launch) (G : PG) (h : Nat) (q : Nat → Nat) (R : RS) (a1 : Int32) (a2 : Int32) (a3 : Int32) (a4 : Int32) (R' : RS) (r : Int32) (hE : E_otherWay R a1 a2 a3 a4 R' r) : Cv l yX6_otherWay (Cond.code yX6_otherWay cX6_otherWay 6 none :: aW) { frames := 0, cells := 0, slots := 0, locals := 0 } G (mW G h q R) [.ref h, .int a1, .int a2, .int a3, .int a4] (fun (_ : Unit) => True) (fun (_ : Unit) => mW G h q R') 0 0 := by
  refine ofB (y := yX6_otherWay) (G := G) (cc := cX6_otherWay) (maxL := 6) (ret := none) (Qc := fun A => va_Qv (fun (_ : Unit) => True) (oB G A (fun (_ : Unit) => mW G h q R')) A) (by decide) rfl ?_
  intro p e s m below meth c A F hK hA hP hD
  have hS : va_S A s.heap s.heap [] := va_S.rf
  have hx := F.1.1; have hb := F.1.2.1; have hml := F.1.2.2.1; have hts := F.1.2.2.2.2
  have hown : s.vm.findClass RX6 = some m.cls := F.1.2.2.2.1
  have hl := lv_entry ([.ref h, .int a1, .int a2, .int a3, .int a4]) (n := 6) (Nat.le_of_ble_eq_true rfl)
  rw [lg_entry_eq]
  generalize (lg_sl ([.ref h, .int a1, .int a2, .int a3, .int a4]) ++ List.replicate (6 - (lg_sl ([.ref h, .int a1, .int a2, .int a3, .int a4])).length) Slot.unset).toArray = ls at hl ⊢
  have hl : lv_has ls 6 [(0, .ref h), (1, .int a1), (2, .int a2), (3, .int a3), (4, .int a4)] := hl
  unfold E_otherWay at hE
  refine lv_aload_n hx hb dX6_otherWay_0 rfl (lv_at hl 0 rfl) ?_
  refine va_get (D := G.1) (ci := 6) (C := RX6) (T := TX6) (N := 48) hx hb hts inX6 hown hK.1 hP 0 mW_0 rfl 35 (by decide) (hts _ w_881) (fun _ h9 => h9) mF_35 dX6_otherWay_1 ?_
  refine lv_aload_n hx hb dX6_otherWay_4 rfl (lv_at hl 0 rfl) ?_
  refine va_get (D := G.1) (ci := 6) (C := RX6) (T := TX6) (N := 48) hx hb hts inX6 hown hK.1 hP 0 mW_0 rfl 27 (by decide) (hts _ w_873) (fun _ h9 => h9) mF_27 dX6_otherWay_5 ?_
  refine lv_iload_n hx hb dX6_otherWay_8 rfl (lv_at hl 1 rfl) ?_
  obtain ⟨hin, hE⟩ := hE
  refine va_iast (D := G.1) hx hb hK.1 hP hD hS 21 0 mW_g35 rfl hin dX6_otherWay_9 (fun H locs hP hD hS => ?_)
  rw [mW_a35] at hP hD
  refine lv_aload_n hx hb dX6_otherWay_10 rfl (lv_at hl 0 rfl) ?_
  refine va_get (D := G.1) (ci := 6) (C := RX6) (T := TX6) (N := 48) hx hb hts inX6 hown hK.1 hP 0 mW_0 rfl 36 (by decide) (hts _ w_882) (fun _ h9 => h9) mF_36 dX6_otherWay_11 ?_
  refine lv_aload_n hx hb dX6_otherWay_14 rfl (lv_at hl 0 rfl) ?_
  refine va_get (D := G.1) (ci := 6) (C := RX6) (T := TX6) (N := 48) hx hb hts inX6 hown hK.1 hP 0 mW_0 rfl 27 (by decide) (hts _ w_873) (fun _ h9 => h9) mF_27 dX6_otherWay_15 ?_
  refine tp_i (R.1 27) rfl ?_
  refine lv_iload_n hx hb dX6_otherWay_18 rfl (lv_at hl 2 rfl) ?_
  obtain ⟨hin, hE⟩ := hE
  refine va_iast (D := G.1) hx hb hK.1 hP hD hS 22 0 mW_g36 rfl hin dX6_otherWay_19 (fun H locs hP hD hS => ?_)
  rw [mW_a36] at hP hD
  refine lv_aload_n hx hb dX6_otherWay_20 rfl (lv_at hl 0 rfl) ?_
  refine va_get (D := G.1) (ci := 6) (C := RX6) (T := TX6) (N := 48) hx hb hts inX6 hown hK.1 hP 0 mW_0 rfl 37 (by decide) (hts _ w_883) (fun _ h9 => h9) mF_37 dX6_otherWay_21 ?_
  refine lv_aload_n hx hb dX6_otherWay_24 rfl (lv_at hl 0 rfl) ?_
  refine va_get (D := G.1) (ci := 6) (C := RX6) (T := TX6) (N := 48) hx hb hts inX6 hown hK.1 hP 0 mW_0 rfl 27 (by decide) (hts _ w_873) (fun _ h9 => h9) mF_27 dX6_otherWay_25 ?_
  refine tp_i (R.1 27) rfl ?_
  refine lv_iload_n hx hb dX6_otherWay_28 rfl (lv_at hl 3 rfl) ?_
  obtain ⟨hin, hE⟩ := hE
  refine va_iast (D := G.1) hx hb hK.1 hP hD hS 23 0 mW_g37 rfl hin dX6_otherWay_29 (fun H locs hP hD hS => ?_)
  rw [mW_a37] at hP hD
  refine lv_aload_n hx hb dX6_otherWay_30 rfl (lv_at hl 0 rfl) ?_
  refine va_get (D := G.1) (ci := 6) (C := RX6) (T := TX6) (N := 48) hx hb hts inX6 hown hK.1 hP 0 mW_0 rfl 38 (by decide) (hts _ w_884) (fun _ h9 => h9) mF_38 dX6_otherWay_31 ?_
  refine lv_aload_n hx hb dX6_otherWay_34 rfl (lv_at hl 0 rfl) ?_
  refine va_get (D := G.1) (ci := 6) (C := RX6) (T := TX6) (N := 48) hx hb hts inX6 hown hK.1 hP 0 mW_0 rfl 27 (by decide) (hts _ w_873) (fun _ h9 => h9) mF_27 dX6_otherWay_35 ?_
  refine tp_i (R.1 27) rfl ?_
  refine lv_iload hx hb dX6_otherWay_38 (lv_at hl 4 rfl) ?_
  obtain ⟨hin, hE⟩ := hE
  refine va_iast (D := G.1) hx hb hK.1 hP hD hS 24 0 mW_g38 rfl hin dX6_otherWay_40 (fun H locs hP hD hS => ?_)
  rw [mW_a38] at hP hD
  refine lv_aload_n hx hb dX6_otherWay_41 rfl (lv_at hl 0 rfl) ?_
  refine va_get (D := G.1) (ci := 6) (C := RX6) (T := TX6) (N := 48) hx hb hts inX6 hown hK.1 hP 0 mW_0 rfl 39 (by decide) (hts _ w_885) (fun _ h9 => h9) mF_39 dX6_otherWay_42 ?_
  refine lv_aload_n hx hb dX6_otherWay_45 rfl (lv_at hl 0 rfl) ?_
  refine va_get (D := G.1) (ci := 6) (C := RX6) (T := TX6) (N := 48) hx hb hts inX6 hown hK.1 hP 0 mW_0 rfl 27 (by decide) (hts _ w_873) (fun _ h9 => h9) mF_27 dX6_otherWay_46 ?_
  refine tp_i (R.1 27) rfl ?_
  refine lv_aload_n hx hb dX6_otherWay_49 rfl (lv_at hl 0 rfl) ?_
  refine va_get (D := G.1) (ci := 6) (C := RX6) (T := TX6) (N := 48) hx hb hts inX6 hown hK.1 hP 0 mW_0 rfl 26 (by decide) (hts _ w_872) (fun _ h9 => h9) mF_26 dX6_otherWay_50 ?_
  refine tp_i (R.1 26) rfl ?_
  obtain ⟨hin, hE⟩ := hE
  refine va_iast (D := G.1) hx hb hK.1 hP hD hS 25 0 mW_g39 rfl hin dX6_otherWay_53 (fun H locs hP hD hS => ?_)
  rw [mW_a39] at hP hD
  refine lv_iconst (v := 0) hx hb dX6_otherWay_54 (by decide) ?_
  refine lv_istore hx hb dX6_otherWay_55 hl (by decide) rfl (fun ls hl => ?_)
  have hl : lv_has ls 6 [(5, .int 0), (0, .ref h), (1, .int a1), (2, .int a2), (3, .int a3), (4, .int a4)] := hl
  obtain ⟨nf, hE⟩ := hE
  exact L_otherWay_57_ok F hK hA nf (ma (ma (ma (ma (ma R 35 ((R.1 27).toNatClampNeg) a1) 36 ((R.1 27).toNatClampNeg) a2) 37 ((R.1 27).toNatClampNeg) a3) 38 ((R.1 27).toNatClampNeg) a4) 39 ((R.1 27).toNatClampNeg) (R.1 26)) a1 a2 a3 a4 0 _ _ ls (lv_sub hl [0, 1, 2, 3, 4, 5] rfl) hE hP hD hS

theorem dX6_character_0 : decode cX6_character 0 = .ok (.iload_n 1, 1) := by decide +kernel
theorem dX6_character_1 : decode cX6_character 1 = .ok (.ifCond .lt 25, 3) := by decide +kernel
theorem dX6_character_4 : decode cX6_character 4 = .ok (.iload_n 1, 1) := by decide +kernel
theorem dX6_character_5 : decode cX6_character 5 = .ok (.aload_n 0, 1) := by decide +kernel
theorem dX6_character_6 : decode cX6_character 6 = .ok (.getfield 13, 3) := by decide +kernel
theorem dX6_character_9 : decode cX6_character 9 = .ok (.iconst 1, 1) := by decide +kernel
theorem dX6_character_10 : decode cX6_character 10 = .ok (.iaload, 1) := by decide +kernel
theorem dX6_character_11 : decode cX6_character 11 = .ok (.if_icmp .ge 15, 3) := by decide +kernel
theorem dX6_character_14 : decode cX6_character 14 = .ok (.aload_n 0, 1) := by decide +kernel
theorem dX6_character_15 : decode cX6_character 15 = .ok (.getfield 7, 3) := by decide +kernel
theorem dX6_character_18 : decode cX6_character 18 = .ok (.bipush 14, 2) := by decide +kernel
theorem dX6_character_20 : decode cX6_character 20 = .ok (.iload_n 1, 1) := by decide +kernel
theorem dX6_character_21 : decode cX6_character 21 = .ok (.iadd, 1) := by decide +kernel
theorem dX6_character_22 : decode cX6_character 22 = .ok (.iaload, 1) := by decide +kernel
theorem dX6_character_23 : decode cX6_character 23 = .ok (.goto 4, 3) := by decide +kernel
theorem dX6_character_26 : decode cX6_character 26 = .ok (.iconst (-1), 1) := by decide +kernel
theorem dX6_character_27 : decode cX6_character 27 = .ok (.ireturn, 1) := by decide +kernel
def E_character (R : RS) (a1 : Int32) (R' : RS) (r : Int32) : Prop := if a1 < 0 then (R' = R ∧ r = (-1)) else (vp_in 1 3 ∧ (if (R.2.1 2 (1 : Int32).toNatClampNeg) ≤ a1 then (R' = R ∧ r = (-1)) else (vp_in (14 + a1) 42 ∧ (R' = R ∧ r = (R.2.1 1 (14 + a1).toNatClampNeg)))))
set_option maxHeartbeats 4000000 in
set_option maxRecDepth 100000 in
theorem e_character (l : Launch) (G : PG) (h : Nat) (q : Nat → Nat) (R : RS) (a1 : Int32) (R' : RS) (r : Int32) (hE : E_character R a1 R' r) : Ci l yX6_character (Cond.code yX6_character cX6_character 2 (some .int) :: aW) { frames := 0, cells := 0, slots := 0, locals := 0 } G (mW G h q R) [.ref h, .int a1] (fun (r9 : Int32) (_ : Unit) => r9 = r) (fun (_ : Unit) => mW G h q R') 0 0 := by
  refine ofB (y := yX6_character) (G := G) (cc := cX6_character) (maxL := 2) (ret := (some .int)) (Qc := fun A => va_Qi (fun (r9 : Int32) (_ : Unit) => r9 = r) (oB G A (fun (_ : Unit) => mW G h q R')) A) (by decide) rfl ?_
  intro p e s m below meth c A F hK hA hP hD
  have hS : va_S A s.heap s.heap [] := va_S.rf
  have hx := F.1.1; have hb := F.1.2.1; have hml := F.1.2.2.1; have hts := F.1.2.2.2.2
  have hown : s.vm.findClass RX6 = some m.cls := F.1.2.2.2.1
  have hl := lv_entry ([.ref h, .int a1]) (n := 2) (Nat.le_of_ble_eq_true rfl)
  rw [lg_entry_eq]
  generalize (lg_sl ([.ref h, .int a1]) ++ List.replicate (2 - (lg_sl ([.ref h, .int a1])).length) Slot.unset).toArray = ls at hl ⊢
  have hl : lv_has ls 2 [(0, .ref h), (1, .int a1)] := hl
  unfold E_character at hE
  refine lv_iload_n hx hb dX6_character_0 rfl (lv_at hl 1 rfl) ?_
  refine lv_if_lt (tgt := 26) hx hb dX6_character_1 (by decide) (fun h1 => ?_) (fun h1 => ?_)
  ·
    rw [if_pos h1] at hE
    refine lv_iconst (v := (-1)) hx hb dX6_character_26 (by decide) ?_
    obtain ⟨rfl, rfl⟩ := hE
    exact en_i F hS _ () (by rfl) rfl hP hD (Nat.le_refl _) (Nat.le_refl _) dX6_character_27
  ·
    rw [if_neg h1] at hE
    refine lv_iload_n hx hb dX6_character_4 rfl (lv_at hl 1 rfl) ?_
    refine lv_aload_n hx hb dX6_character_5 rfl (lv_at hl 0 rfl) ?_
    refine va_get (D := G.1) (ci := 6) (C := RX6) (T := TX6) (N := 48) hx hb hts inX6 hown hK.1 hP 0 mW_0 rfl 2 (by decide) (hts _ w_848) (fun _ h9 => h9) mF_2 dX6_character_6 ?_
    refine lv_iconst (v := 1) hx hb dX6_character_9 (by decide) ?_
    obtain ⟨hin, hE⟩ := hE
    refine va_iald (D := G.1) hx hb hK.1 hP 2 0 mW_g2 rfl hin dX6_character_10 ?_
    refine lv_icmp_ge (tgt := 26) hx hb dX6_character_11 (by decide) (fun h2 => ?_) (fun h2 => ?_)
    ·
      rw [if_pos h2] at hE
      refine lv_iconst (v := (-1)) hx hb dX6_character_26 (by decide) ?_
      obtain ⟨rfl, rfl⟩ := hE
      exact en_i F hS _ () (by rfl) rfl hP hD (Nat.le_refl _) (Nat.le_refl _) dX6_character_27
    ·
      rw [if_neg h2] at hE
      refine lv_aload_n hx hb dX6_character_14 rfl (lv_at hl 0 rfl) ?_
      refine va_get (D := G.1) (ci := 6) (C := RX6) (T := TX6) (N := 48) hx hb hts inX6 hown hK.1 hP 0 mW_0 rfl 1 (by decide) (hts _ w_847) (fun _ h9 => h9) mF_1 dX6_character_15 ?_
      refine lv_bipush (v := 14) hx hb dX6_character_18 (by decide) ?_
      refine lv_iload_n hx hb dX6_character_20 rfl (lv_at hl 1 rfl) ?_
      refine lv_iadd hx hb dX6_character_21 ?_
      obtain ⟨hin, hE⟩ := hE
      refine va_iald (D := G.1) hx hb hK.1 hP 1 0 mW_g1 rfl hin dX6_character_22 ?_
      refine lv_goto (tgt := 27) hx hb dX6_character_23 (by decide) ?_
      obtain ⟨rfl, rfl⟩ := hE
      exact en_i F hS _ () (by rfl) rfl hP hD (Nat.le_refl _) (Nat.le_refl _) dX6_character_27

theorem dX6_isWordAt_0 : decode cX6_isWordAt 0 = .ok (.aload_n 0, 1) := by decide +kernel
theorem dX6_isWordAt_1 : decode cX6_isWordAt 1 = .ok (.iload_n 1, 1) := by decide +kernel
theorem dX6_isWordAt_2 : decode cX6_isWordAt 2 = .ok (.invokevirtual 214, 3) := by decide +kernel
theorem dX6_isWordAt_5 : decode cX6_isWordAt 5 = .ok (.iconst (-1), 1) := by decide +kernel
theorem dX6_isWordAt_6 : decode cX6_isWordAt 6 = .ok (.if_icmp .eq 18, 3) := by decide +kernel
theorem dX6_isWordAt_9 : decode cX6_isWordAt 9 = .ok (.aload_n 0, 1) := by decide +kernel
theorem dX6_isWordAt_10 : decode cX6_isWordAt 10 = .ok (.iload_n 1, 1) := by decide +kernel
theorem dX6_isWordAt_11 : decode cX6_isWordAt 11 = .ok (.invokevirtual 214, 3) := by decide +kernel
theorem dX6_isWordAt_14 : decode cX6_isWordAt 14 = .ok (.invokestatic 132, 3) := by decide +kernel
theorem dX6_isWordAt_17 : decode cX6_isWordAt 17 = .ok (.ifCond .eq 7, 3) := by decide +kernel
theorem dX6_isWordAt_20 : decode cX6_isWordAt 20 = .ok (.iconst 1, 1) := by decide +kernel
theorem dX6_isWordAt_21 : decode cX6_isWordAt 21 = .ok (.goto 4, 3) := by decide +kernel
theorem dX6_isWordAt_24 : decode cX6_isWordAt 24 = .ok (.iconst 0, 1) := by decide +kernel
theorem dX6_isWordAt_25 : decode cX6_isWordAt 25 = .ok (.ireturn, 1) := by decide +kernel
def E_isWordAt (R : RS) (a1 : Int32) (R' : RS) (r : Int32) : Prop := ∃ (R1 : RS) (r2 : Int32), E_character R a1 R1 r2 ∧ (if r2 = (-1) then (R' = R1 ∧ r = 0) else (∃ (R4 : RS) (r5 : Int32), E_character R1 a1 R4 r5 ∧ (∃ r6 : Int32, E_isWord r5 r6 ∧ (narrow .boolean (.int (if r6 = 0 then 0 else 1 : Int32)) = .int (if r6 = 0 then 0 else 1 : Int32) ∧ R' = R4 ∧ r = (if r6 = 0 then 0 else 1 : Int32)))))
set_option maxHeartbeats 4000000 in
set_option maxRecDepth 100000 in
theorem e_isWordAt (l : Launch) (G : PG) (h : Nat) (q : Nat → Nat) (R : RS) (a1 : Int32) (R' : RS) (r : Int32) (hE : E_isWordAt R a1 R' r) : Ci l yX6_isWordAt (Cond.code yX6_isWordAt cX6_isWordAt 2 (some .boolean) :: aW) { frames := 1, cells := 0, slots := 0, locals := 21 } G (mW G h q R) [.ref h, .int a1] (fun (r9 : Int32) (_ : Unit) => r9 = r) (fun (_ : Unit) => mW G h q R') 0 0 := by
  refine ofB (y := yX6_isWordAt) (G := G) (cc := cX6_isWordAt) (maxL := 2) (ret := (some .boolean)) (Qc := fun A => va_Qi (fun (r9 : Int32) (_ : Unit) => r9 = r) (oB G A (fun (_ : Unit) => mW G h q R')) A) (by decide) rfl ?_
  intro p e s m below meth c A F hK hA hP hD
  have hS : va_S A s.heap s.heap [] := va_S.rf
  have hx := F.1.1; have hb := F.1.2.1; have hml := F.1.2.2.1; have hts := F.1.2.2.2.2
  have hown : s.vm.findClass RX6 = some m.cls := F.1.2.2.2.1
  have hl := lv_entry ([.ref h, .int a1]) (n := 2) (Nat.le_of_ble_eq_true rfl)
  rw [lg_entry_eq]
  generalize (lg_sl ([.ref h, .int a1]) ++ List.replicate (2 - (lg_sl ([.ref h, .int a1])).length) Slot.unset).toArray = ls at hl ⊢
  have hl : lv_has ls 2 [(0, .ref h), (1, .int a1)] := hl
  unfold E_isWordAt at hE
  refine lv_aload_n hx hb dX6_isWordAt_0 rfl (lv_at hl 0 rfl) ?_
  refine lv_iload_n hx hb dX6_isWordAt_1 rfl (lv_at hl 1 rfl) ?_
  obtain ⟨R1, r2, hg, hE⟩ := hE
  refine kA_i (va_runV (As := [.int a1]) (rest := []) F.1 (e_character l G h q R a1 R1 r2 hg _) (cwV 1 hts (aw_V w_1148 w_1150 ws_X6_character w_6 w_1151) rfl rfl rfl (by decide +kernel) ⟨by decide, by decide⟩) ⟨cS_blind, va_recv (q := (RX6, TX6, 48)) (ci := 6) (q0 := 0) hK.1 hP rfl mW_0, cS_pre hP hD hK⟩ rfl rfl hl.1 rfl (lv_room (Nat.le_of_ble_eq_true rfl)) dX6_isWordAt_2 ⟨Nat.le_refl _, Nat.le_refl _⟩) hD hS hA (fun r9 u0 H locs hp hP hD hS => ?_)
  have hp := hp.symm; subst hp
  refine lv_iconst (v := (-1)) hx hb dX6_isWordAt_5 (by decide) ?_
  refine lv_icmp_eq (tgt := 24) hx hb dX6_isWordAt_6 (by decide) (fun h3 => ?_) (fun h3 => ?_)
  ·
    rw [if_pos h3] at hE
    refine lv_iconst (v := 0) hx hb dX6_isWordAt_24 (by decide) ?_
    obtain ⟨rfl, rfl⟩ := hE
    exact en_i F hS _ () (by rfl) rfl hP hD (Nat.le_refl _) (Nat.le_refl _) dX6_isWordAt_25
  ·
    rw [if_neg h3] at hE
    refine lv_aload_n hx hb dX6_isWordAt_9 rfl (lv_at hl 0 rfl) ?_
    refine lv_iload_n hx hb dX6_isWordAt_10 rfl (lv_at hl 1 rfl) ?_
    obtain ⟨R4, r5, hg, hE⟩ := hE
    refine kA_i (va_runV (As := [.int a1]) (rest := []) F.1 (e_character l G h q R1 a1 R4 r5 hg _) (cwV 1 hts (aw_V w_1148 w_1150 ws_X6_character w_6 w_1151) rfl rfl rfl (by decide +kernel) ⟨by decide, by decide⟩) ⟨cS_blind, va_recv (q := (RX6, TX6, 48)) (ci := 6) (q0 := 0) hK.1 hP rfl mW_0, cS_pre hP hD hK⟩ rfl rfl hl.1 rfl (lv_room (Nat.le_of_ble_eq_true rfl)) dX6_isWordAt_11 ⟨Nat.le_refl _, Nat.le_refl _⟩) hD hS hA (fun r9 u0 H locs hp hP hD hS => ?_)
    have hp := hp.symm; subst hp
    obtain ⟨r6, hg, hE⟩ := hE
    refine kp_i (va_runS (As := [.int r5]) (rest := []) F.1 (e_isWord l G r5 r6 hg _) (va_cwS 1 hts (aw_S w_1073 w_1074 w_6 w_1075) rfl rfl rfl (by decide +kernel) ⟨by decide, by decide⟩) ⟨cS_blind, cS_pre va_P0 (va_D0 (A := A)) hK⟩ rfl rfl hl.1 rfl (lv_room (Nat.le_of_ble_eq_true rfl)) dX6_isWordAt_14 ⟨Nat.le_refl _, Nat.le_refl _⟩) (fun r9 hp => ?_)
    have hp := hp.symm; subst hp
    refine jn_v (v := (if r6 = 0 then 0 else 1 : Int32)) (pcM := 25) (rest := []) (fun kM => ?_) ?_
    ·
      refine lv_if_eq (tgt := 24) hx hb dX6_isWordAt_17 (by decide) (fun h8 => ?_) (fun h8 => ?_)
      ·
        refine lv_iconst (v := 0) hx hb dX6_isWordAt_24 (by decide) ?_
        exact kM _ (by try rw [if_pos h8])
      ·
        refine lv_iconst (v := 1) hx hb dX6_isWordAt_20 (by decide) ?_
        refine lv_goto (tgt := 25) hx hb dX6_isWordAt_21 (by decide) ?_
        exact kM _ (by try rw [if_neg h8])
    obtain ⟨hn, rfl, rfl⟩ := hE
    exact en_i F hS _ () hn rfl hP hD (Nat.le_refl _) (Nat.le_refl _) dX6_isWordAt_25

theorem dX6_into_0 : decode cX6_into 0 = .ok (.aload_n 0, 1) := by decide +kernel
theorem dX6_into_1 : decode cX6_into 1 = .ok (.iload_n 2, 1) := by decide +kernel
theorem dX6_into_2 : decode cX6_into 2 = .ok (.putfield 227, 3) := by decide +kernel
theorem dX6_into_5 : decode cX6_into 5 = .ok (.aload_n 0, 1) := by decide +kernel
theorem dX6_into_6 : decode cX6_into 6 = .ok (.aload_n 0, 1) := by decide +kernel
theorem dX6_into_7 : decode cX6_into 7 = .ok (.getfield 28, 3) := by decide +kernel
theorem dX6_into_10 : decode cX6_into 10 = .ok (.iload_n 1, 1) := by decide +kernel
theorem dX6_into_11 : decode cX6_into 11 = .ok (.iaload, 1) := by decide +kernel
theorem dX6_into_12 : decode cX6_into 12 = .ok (.putfield 230, 3) := by decide +kernel
theorem dX6_into_15 : decode cX6_into 15 = .ok (.iconst 1, 1) := by decide +kernel
theorem dX6_into_16 : decode cX6_into 16 = .ok (.ireturn, 1) := by decide +kernel
def E_into (R : RS) (a1 : Int32) (a2 : Int32) (R' : RS) (r : Int32) : Prop := vp_in a1 96 ∧ (R' = (mf (mf R 25 a2) 24 (R.2.1 12 a1.toNatClampNeg)) ∧ r = 1)
set_option maxHeartbeats 4000000 in
set_option maxRecDepth 100000 in
theorem e_into (l : Launch) (G : PG) (h : Nat) (q : Nat → Nat) (R : RS) (a1 : Int32) (a2 : Int32) (R' : RS) (r : Int32) (hE : E_into R a1 a2 R' r) : Ci l yX6_into (Cond.code yX6_into cX6_into 3 (some .boolean) :: aW) { frames := 0, cells := 0, slots := 0, locals := 0 } G (mW G h q R) [.ref h, .int a1, .int a2] (fun (r9 : Int32) (_ : Unit) => r9 = r) (fun (_ : Unit) => mW G h q R') 0 0 := by
  refine ofB (y := yX6_into) (G := G) (cc := cX6_into) (maxL := 3) (ret := (some .boolean)) (Qc := fun A => va_Qi (fun (r9 : Int32) (_ : Unit) => r9 = r) (oB G A (fun (_ : Unit) => mW G h q R')) A) (by decide) rfl ?_
  intro p e s m below meth c A F hK hA hP hD
  have hS : va_S A s.heap s.heap [] := va_S.rf
  have hx := F.1.1; have hb := F.1.2.1; have hml := F.1.2.2.1; have hts := F.1.2.2.2.2
  have hown : s.vm.findClass RX6 = some m.cls := F.1.2.2.2.1
  have hl := lv_entry ([.ref h, .int a1, .int a2]) (n := 3) (Nat.le_of_ble_eq_true rfl)
  rw [lg_entry_eq]
  generalize (lg_sl ([.ref h, .int a1, .int a2]) ++ List.replicate (3 - (lg_sl ([.ref h, .int a1, .int a2])).length) Slot.unset).toArray = ls at hl ⊢
  have hl : lv_has ls 3 [(0, .ref h), (1, .int a1), (2, .int a2)] := hl
  unfold E_into at hE
  refine lv_aload_n hx hb dX6_into_0 rfl (lv_at hl 0 rfl) ?_
  refine lv_iload_n hx hb dX6_into_1 rfl (lv_at hl 2 rfl) ?_
  refine va_put (D := G.1) (ci := 6) (v := .int a2) (ty := .int) (C := RX6) (T := TX6) (N := 48) hx hb hts inX6 tyX6 tyX6_ok nmX6 hown hK.1 hP hD hS 0 mW_0 rfl 25 (by decide) (hts _ w_871) (fun _ h9 => h9) rfl (by decide +kernel) rfl rfl mF_l25 dX6_into_2 (fun H locs hP hD hS => ?_)
  rw [mW_f25] at hP hD
  refine lv_aload_n hx hb dX6_into_5 rfl (lv_at hl 0 rfl) ?_
  refine lv_aload_n hx hb dX6_into_6 rfl (lv_at hl 0 rfl) ?_
  refine va_get (D := G.1) (ci := 6) (C := RX6) (T := TX6) (N := 48) hx hb hts inX6 hown hK.1 hP 0 mW_0 rfl 12 (by decide) (hts _ w_858) (fun _ h9 => h9) mF_12 dX6_into_7 ?_
  refine lv_iload_n hx hb dX6_into_10 rfl (lv_at hl 1 rfl) ?_
  obtain ⟨hin, hE⟩ := hE
  refine va_iald (D := G.1) hx hb hK.1 hP 7 0 mW_g12 rfl hin dX6_into_11 ?_
  refine tp_i (R.2.1 12 a1.toNatClampNeg) rfl ?_
  refine va_put (D := G.1) (ci := 6) (v := .int (R.2.1 12 a1.toNatClampNeg)) (ty := .int) (C := RX6) (T := TX6) (N := 48) hx hb hts inX6 tyX6 tyX6_ok nmX6 hown hK.1 hP hD hS 0 mW_0 rfl 24 (by decide) (hts _ w_870) (fun _ h9 => h9) rfl (by decide +kernel) rfl rfl mF_l24 dX6_into_12 (fun H locs hP hD hS => ?_)
  rw [mW_f24] at hP hD
  refine lv_iconst (v := 1) hx hb dX6_into_15 (by decide) ?_
  obtain ⟨rfl, rfl⟩ := hE
  exact en_i F hS _ () (by rfl) rfl hP hD (Nat.le_refl _) (Nat.le_refl _) dX6_into_16

theorem dX6_pieces_0 : decode cX6_pieces 0 = .ok (.iload_n 1, 1) := by decide +kernel
theorem dX6_pieces_1 : decode cX6_pieces 1 = .ok (.iconst (-1), 1) := by decide +kernel
theorem dX6_pieces_2 : decode cX6_pieces 2 = .ok (.if_icmp .ne 5, 3) := by decide +kernel
theorem dX6_pieces_5 : decode cX6_pieces 5 = .ok (.iconst 1, 1) := by decide +kernel
theorem dX6_pieces_6 : decode cX6_pieces 6 = .ok (.ireturn, 1) := by decide +kernel
theorem dX6_pieces_7 : decode cX6_pieces 7 = .ok (.aload_n 0, 1) := by decide +kernel
theorem dX6_pieces_8 : decode cX6_pieces 8 = .ok (.getfield 31, 3) := by decide +kernel
theorem dX6_pieces_11 : decode cX6_pieces 11 = .ok (.iload_n 1, 1) := by decide +kernel
theorem dX6_pieces_12 : decode cX6_pieces 12 = .ok (.iaload, 1) := by decide +kernel
theorem dX6_pieces_13 : decode cX6_pieces 13 = .ok (.iconst (-1), 1) := by decide +kernel
theorem dX6_pieces_14 : decode cX6_pieces 14 = .ok (.if_icmp .eq 24, 3) := by decide +kernel
theorem dX6_pieces_17 : decode cX6_pieces 17 = .ok (.aload_n 0, 1) := by decide +kernel
theorem dX6_pieces_18 : decode cX6_pieces 18 = .ok (.aload_n 0, 1) := by decide +kernel
theorem dX6_pieces_19 : decode cX6_pieces 19 = .ok (.bipush 20, 2) := by decide +kernel
theorem dX6_pieces_21 : decode cX6_pieces 21 = .ok (.aload_n 0, 1) := by decide +kernel
theorem dX6_pieces_22 : decode cX6_pieces 22 = .ok (.getfield 31, 3) := by decide +kernel
theorem dX6_pieces_25 : decode cX6_pieces 25 = .ok (.iload_n 1, 1) := by decide +kernel
theorem dX6_pieces_26 : decode cX6_pieces 26 = .ok (.iaload, 1) := by decide +kernel
theorem dX6_pieces_27 : decode cX6_pieces 27 = .ok (.iconst 0, 1) := by decide +kernel
theorem dX6_pieces_28 : decode cX6_pieces 28 = .ok (.aload_n 0, 1) := by decide +kernel
theorem dX6_pieces_29 : decode cX6_pieces 29 = .ok (.getfield 227, 3) := by decide +kernel
theorem dX6_pieces_32 : decode cX6_pieces 32 = .ok (.invokevirtual 223, 3) := by decide +kernel
theorem dX6_pieces_35 : decode cX6_pieces 35 = .ok (.putfield 227, 3) := by decide +kernel
theorem dX6_pieces_38 : decode cX6_pieces 38 = .ok (.aload_n 0, 1) := by decide +kernel
theorem dX6_pieces_39 : decode cX6_pieces 39 = .ok (.iload_n 1, 1) := by decide +kernel
theorem dX6_pieces_40 : decode cX6_pieces 40 = .ok (.putfield 230, 3) := by decide +kernel
theorem dX6_pieces_43 : decode cX6_pieces 43 = .ok (.iconst 1, 1) := by decide +kernel
theorem dX6_pieces_44 : decode cX6_pieces 44 = .ok (.ireturn, 1) := by decide +kernel
def E_pieces (R : RS) (a1 : Int32) (R' : RS) (r : Int32) : Prop := if a1 = (-1) then (R' = R ∧ r = 1) else (vp_in a1 96 ∧ (if (R.2.1 13 a1.toNatClampNeg) = (-1) then (R' = (mf R 24 a1) ∧ r = 1) else (vp_in a1 96 ∧ (∃ (R3 : RS) (r4 : Int32), E_link R 20 (R.2.1 13 a1.toNatClampNeg) 0 (R.1 25) R3 r4 ∧ (R' = (mf (mf R3 25 r4) 24 a1) ∧ r = 1)))))
set_option maxHeartbeats 4000000 in
set_option maxRecDepth 100000 in
theorem e_pieces (l : Launch) (G : PG) (h : Nat) (q : Nat → Nat) (R : RS) (a1 : Int32) (R' : RS) (r : Int32) (hE : E_pieces R a1 R' r) : Ci l yX6_pieces (Cond.code yX6_pieces cX6_pieces 2 (some .boolean) :: aW) { frames := 1, cells := 0, slots := 0, locals := 24 } G (mW G h q R) [.ref h, .int a1] (fun (r9 : Int32) (_ : Unit) => r9 = r) (fun (_ : Unit) => mW G h q R') 0 0 := by
  refine ofB (y := yX6_pieces) (G := G) (cc := cX6_pieces) (maxL := 2) (ret := (some .boolean)) (Qc := fun A => va_Qi (fun (r9 : Int32) (_ : Unit) => r9 = r) (oB G A (fun (_ : Unit) => mW G h q R')) A) (by decide) rfl ?_
  intro p e s m below meth c A F hK hA hP hD
  have hS : va_S A s.heap s.heap [] := va_S.rf
  have hx := F.1.1; have hb := F.1.2.1; have hml := F.1.2.2.1; have hts := F.1.2.2.2.2
  have hown : s.vm.findClass RX6 = some m.cls := F.1.2.2.2.1
  have hl := lv_entry ([.ref h, .int a1]) (n := 2) (Nat.le_of_ble_eq_true rfl)
  rw [lg_entry_eq]
  generalize (lg_sl ([.ref h, .int a1]) ++ List.replicate (2 - (lg_sl ([.ref h, .int a1])).length) Slot.unset).toArray = ls at hl ⊢
  have hl : lv_has ls 2 [(0, .ref h), (1, .int a1)] := hl
  unfold E_pieces at hE
  refine lv_iload_n hx hb dX6_pieces_0 rfl (lv_at hl 1 rfl) ?_
  refine lv_iconst (v := (-1)) hx hb dX6_pieces_1 (by decide) ?_
  refine lv_icmp_ne (tgt := 7) hx hb dX6_pieces_2 (by decide) (fun h1 => ?_) (fun h1 => ?_)
  ·
    rw [if_neg h1] at hE
    refine lv_aload_n hx hb dX6_pieces_7 rfl (lv_at hl 0 rfl) ?_
    refine va_get (D := G.1) (ci := 6) (C := RX6) (T := TX6) (N := 48) hx hb hts inX6 hown hK.1 hP 0 mW_0 rfl 13 (by decide) (hts _ w_859) (fun _ h9 => h9) mF_13 dX6_pieces_8 ?_
    refine lv_iload_n hx hb dX6_pieces_11 rfl (lv_at hl 1 rfl) ?_
    obtain ⟨hin, hE⟩ := hE
    refine va_iald (D := G.1) hx hb hK.1 hP 8 0 mW_g13 rfl hin dX6_pieces_12 ?_
    refine lv_iconst (v := (-1)) hx hb dX6_pieces_13 (by decide) ?_
    refine lv_icmp_eq (tgt := 38) hx hb dX6_pieces_14 (by decide) (fun h2 => ?_) (fun h2 => ?_)
    ·
      rw [if_pos h2] at hE
      refine lv_aload_n hx hb dX6_pieces_38 rfl (lv_at hl 0 rfl) ?_
      refine lv_iload_n hx hb dX6_pieces_39 rfl (lv_at hl 1 rfl) ?_
      refine va_put (D := G.1) (ci := 6) (v := .int a1) (ty := .int) (C := RX6) (T := TX6) (N := 48) hx hb hts inX6 tyX6 tyX6_ok nmX6 hown hK.1 hP hD hS 0 mW_0 rfl 24 (by decide) (hts _ w_870) (fun _ h9 => h9) rfl (by decide +kernel) rfl rfl mF_l24 dX6_pieces_40 (fun H locs hP hD hS => ?_)
      rw [mW_f24] at hP hD
      refine lv_iconst (v := 1) hx hb dX6_pieces_43 (by decide) ?_
      obtain ⟨rfl, rfl⟩ := hE
      exact en_i F hS _ () (by rfl) rfl hP hD (Nat.le_refl _) (Nat.le_refl _) dX6_pieces_44
    ·
      rw [if_neg h2] at hE
      refine lv_aload_n hx hb dX6_pieces_17 rfl (lv_at hl 0 rfl) ?_
      refine lv_aload_n hx hb dX6_pieces_18 rfl (lv_at hl 0 rfl) ?_
      refine lv_bipush (v := 20) hx hb dX6_pieces_19 (by decide) ?_
      refine lv_aload_n hx hb dX6_pieces_21 rfl (lv_at hl 0 rfl) ?_
      refine va_get (D := G.1) (ci := 6) (C := RX6) (T := TX6) (N := 48) hx hb hts inX6 hown hK.1 hP 0 mW_0 rfl 13 (by decide) (hts _ w_859) (fun _ h9 => h9) mF_13 dX6_pieces_22 ?_
      refine lv_iload_n hx hb dX6_pieces_25 rfl (lv_at hl 1 rfl) ?_
      obtain ⟨hin, hE⟩ := hE
      refine va_iald (D := G.1) hx hb hK.1 hP 8 0 mW_g13 rfl hin dX6_pieces_26 ?_
      refine lv_iconst (v := 0) hx hb dX6_pieces_27 (by decide) ?_
      refine lv_aload_n hx hb dX6_pieces_28 rfl (lv_at hl 0 rfl) ?_
      refine va_get (D := G.1) (ci := 6) (C := RX6) (T := TX6) (N := 48) hx hb hts inX6 hown hK.1 hP 0 mW_0 rfl 25 (by decide) (hts _ w_871) (fun _ h9 => h9) mF_25 dX6_pieces_29 ?_
      obtain ⟨R3, r4, hg, hE⟩ := hE
      refine kA_i (va_runV (As := [.int 20, .int (R.2.1 13 a1.toNatClampNeg), .int 0, .int (R.1 25)]) (rest := [.ref h]) F.1 (e_link l G h q R 20 (R.2.1 13 a1.toNatClampNeg) 0 (R.1 25) R3 r4 hg _) (cwV 4 hts (aw_V w_1104 w_1106 ws_X6_link w_6 w_1107) rfl rfl rfl (by decide +kernel) ⟨by decide, by decide⟩) ⟨cS_blind, va_recv (q := (RX6, TX6, 48)) (ci := 6) (q0 := 0) hK.1 hP rfl mW_0, cS_pre hP hD hK⟩ rfl rfl hl.1 rfl (lv_room (Nat.le_of_ble_eq_true rfl)) dX6_pieces_32 ⟨Nat.le_refl _, Nat.le_refl _⟩) hD hS hA (fun r9 u0 H locs hp hP hD hS => ?_)
      have hp := hp.symm; subst hp
      refine va_put (D := G.1) (ci := 6) (v := .int r4) (ty := .int) (C := RX6) (T := TX6) (N := 48) hx hb hts inX6 tyX6 tyX6_ok nmX6 hown hK.1 hP hD hS 0 mW_0 rfl 25 (by decide) (hts _ w_871) (fun _ h9 => h9) rfl (by decide +kernel) rfl rfl mF_l25 dX6_pieces_35 (fun H locs hP hD hS => ?_)
      rw [mW_f25] at hP hD
      refine lv_aload_n hx hb dX6_pieces_38 rfl (lv_at hl 0 rfl) ?_
      refine lv_iload_n hx hb dX6_pieces_39 rfl (lv_at hl 1 rfl) ?_
      refine va_put (D := G.1) (ci := 6) (v := .int a1) (ty := .int) (C := RX6) (T := TX6) (N := 48) hx hb hts inX6 tyX6 tyX6_ok nmX6 hown hK.1 hP hD hS 0 mW_0 rfl 24 (by decide) (hts _ w_870) (fun _ h9 => h9) rfl (by decide +kernel) rfl rfl mF_l24 dX6_pieces_40 (fun H locs hP hD hS => ?_)
      rw [mW_f24] at hP hD
      refine lv_iconst (v := 1) hx hb dX6_pieces_43 (by decide) ?_
      obtain ⟨rfl, rfl⟩ := hE
      exact en_i F hS _ () (by rfl) rfl hP hD (Nat.le_refl _) (Nat.le_refl _) dX6_pieces_44
  ·
    rw [if_pos h1] at hE
    refine lv_iconst (v := 1) hx hb dX6_pieces_5 (by decide) ?_
    obtain ⟨rfl, rfl⟩ := hE
    exact en_i F hS _ () (by rfl) rfl hP hD (Nat.le_refl _) (Nat.le_refl _) dX6_pieces_6

theorem dX6_begin_0 : decode cX6_begin 0 = .ok (.aload_n 0, 1) := by decide +kernel
theorem dX6_begin_1 : decode cX6_begin 1 = .ok (.getfield 31, 3) := by decide +kernel
theorem dX6_begin_4 : decode cX6_begin 4 = .ok (.iload_n 1, 1) := by decide +kernel
theorem dX6_begin_5 : decode cX6_begin 5 = .ok (.iaload, 1) := by decide +kernel
theorem dX6_begin_6 : decode cX6_begin 6 = .ok (.iconst (-1), 1) := by decide +kernel
theorem dX6_begin_7 : decode cX6_begin 7 = .ok (.if_icmp .eq 22, 3) := by decide +kernel
theorem dX6_begin_10 : decode cX6_begin 10 = .ok (.aload_n 0, 1) := by decide +kernel
theorem dX6_begin_11 : decode cX6_begin 11 = .ok (.aload_n 0, 1) := by decide +kernel
theorem dX6_begin_12 : decode cX6_begin 12 = .ok (.getfield 31, 3) := by decide +kernel
theorem dX6_begin_15 : decode cX6_begin 15 = .ok (.iload_n 1, 1) := by decide +kernel
theorem dX6_begin_16 : decode cX6_begin 16 = .ok (.iaload, 1) := by decide +kernel
theorem dX6_begin_17 : decode cX6_begin 17 = .ok (.iconst (-1), 1) := by decide +kernel
theorem dX6_begin_18 : decode cX6_begin 18 = .ok (.aload_n 0, 1) := by decide +kernel
theorem dX6_begin_19 : decode cX6_begin 19 = .ok (.getfield 217, 3) := by decide +kernel
theorem dX6_begin_22 : decode cX6_begin 22 = .ok (.aload_n 0, 1) := by decide +kernel
theorem dX6_begin_23 : decode cX6_begin 23 = .ok (.getfield 227, 3) := by decide +kernel
theorem dX6_begin_26 : decode cX6_begin 26 = .ok (.invokevirtual 276, 3) := by decide +kernel
theorem dX6_begin_29 : decode cX6_begin 29 = .ok (.aload_n 0, 1) := by decide +kernel
theorem dX6_begin_30 : decode cX6_begin 30 = .ok (.aload_n 0, 1) := by decide +kernel
theorem dX6_begin_31 : decode cX6_begin 31 = .ok (.getfield 28, 3) := by decide +kernel
theorem dX6_begin_34 : decode cX6_begin 34 = .ok (.iload_n 1, 1) := by decide +kernel
theorem dX6_begin_35 : decode cX6_begin 35 = .ok (.iaload, 1) := by decide +kernel
theorem dX6_begin_36 : decode cX6_begin 36 = .ok (.invokevirtual 280, 3) := by decide +kernel
theorem dX6_begin_39 : decode cX6_begin 39 = .ok (.ireturn, 1) := by decide +kernel
def E_begin (R : RS) (a1 : Int32) (R' : RS) (r : Int32) : Prop := vp_in a1 96 ∧ (if (R.2.1 13 a1.toNatClampNeg) = (-1) then (vp_in a1 96 ∧ (∃ (R2 : RS) (r3 : Int32), E_pieces R (R.2.1 12 a1.toNatClampNeg) R2 r3 ∧ (narrow .boolean (.int r3) = .int r3 ∧ R' = R2 ∧ r = r3))) else (vp_in a1 96 ∧ (∃ R4 : RS, E_otherWay R (R.2.1 13 a1.toNatClampNeg) (-1) (R.1 23) (R.1 25) R4 0 ∧ (vp_in a1 96 ∧ (∃ (R6 : RS) (r7 : Int32), E_pieces R4 (R4.2.1 12 a1.toNatClampNeg) R6 r7 ∧ (narrow .boolean (.int r7) = .int r7 ∧ R' = R6 ∧ r = r7))))))
set_option maxHeartbeats 4000000 in
set_option maxRecDepth 100000 in
theorem e_begin (l : Launch) (G : PG) (h : Nat) (q : Nat → Nat) (R : RS) (a1 : Int32) (R' : RS) (r : Int32) (hE : E_begin R a1 R' r) : Ci l yX6_begin (Cond.code yX6_begin cX6_begin 2 (some .boolean) :: aW) { frames := 2, cells := 0, slots := 0, locals := 45 } G (mW G h q R) [.ref h, .int a1] (fun (r9 : Int32) (_ : Unit) => r9 = r) (fun (_ : Unit) => mW G h q R') 0 0 := by
  refine ofB (y := yX6_begin) (G := G) (cc := cX6_begin) (maxL := 2) (ret := (some .boolean)) (Qc := fun A => va_Qi (fun (r9 : Int32) (_ : Unit) => r9 = r) (oB G A (fun (_ : Unit) => mW G h q R')) A) (by decide) rfl ?_
  intro p e s m below meth c A F hK hA hP hD
  have hS : va_S A s.heap s.heap [] := va_S.rf
  have hx := F.1.1; have hb := F.1.2.1; have hml := F.1.2.2.1; have hts := F.1.2.2.2.2
  have hown : s.vm.findClass RX6 = some m.cls := F.1.2.2.2.1
  have hl := lv_entry ([.ref h, .int a1]) (n := 2) (Nat.le_of_ble_eq_true rfl)
  rw [lg_entry_eq]
  generalize (lg_sl ([.ref h, .int a1]) ++ List.replicate (2 - (lg_sl ([.ref h, .int a1])).length) Slot.unset).toArray = ls at hl ⊢
  have hl : lv_has ls 2 [(0, .ref h), (1, .int a1)] := hl
  unfold E_begin at hE
  refine lv_aload_n hx hb dX6_begin_0 rfl (lv_at hl 0 rfl) ?_
  refine va_get (D := G.1) (ci := 6) (C := RX6) (T := TX6) (N := 48) hx hb hts inX6 hown hK.1 hP 0 mW_0 rfl 13 (by decide) (hts _ w_859) (fun _ h9 => h9) mF_13 dX6_begin_1 ?_
  refine lv_iload_n hx hb dX6_begin_4 rfl (lv_at hl 1 rfl) ?_
  obtain ⟨hin, hE⟩ := hE
  refine va_iald (D := G.1) hx hb hK.1 hP 8 0 mW_g13 rfl hin dX6_begin_5 ?_
  refine lv_iconst (v := (-1)) hx hb dX6_begin_6 (by decide) ?_
  refine lv_icmp_eq (tgt := 29) hx hb dX6_begin_7 (by decide) (fun h1 => ?_) (fun h1 => ?_)
  ·
    rw [if_pos h1] at hE
    refine lv_aload_n hx hb dX6_begin_29 rfl (lv_at hl 0 rfl) ?_
    refine lv_aload_n hx hb dX6_begin_30 rfl (lv_at hl 0 rfl) ?_
    refine va_get (D := G.1) (ci := 6) (C := RX6) (T := TX6) (N := 48) hx hb hts inX6 hown hK.1 hP 0 mW_0 rfl 12 (by decide) (hts _ w_858) (fun _ h9 => h9) mF_12 dX6_begin_31 ?_
    refine lv_iload_n hx hb dX6_begin_34 rfl (lv_at hl 1 rfl) ?_
    obtain ⟨hin, hE⟩ := hE
    refine va_iald (D := G.1) hx hb hK.1 hP 7 0 mW_g12 rfl hin dX6_begin_35 ?_
    obtain ⟨R2, r3, hg, hE⟩ := hE
    refine kA_i (va_runV (As := [.int (R.2.1 12 a1.toNatClampNeg)]) (rest := []) F.1 (e_pieces l G h q R (R.2.1 12 a1.toNatClampNeg) R2 r3 hg _) (cwV 1 hts (aw_V w_1116 w_1118 ws_X6_pieces w_6 w_1119) rfl rfl rfl (by decide +kernel) ⟨by decide, by decide⟩) ⟨cS_blind, va_recv (q := (RX6, TX6, 48)) (ci := 6) (q0 := 0) hK.1 hP rfl mW_0, cS_pre hP hD hK⟩ rfl rfl hl.1 rfl (lv_room (Nat.le_of_ble_eq_true rfl)) dX6_begin_36 ⟨Nat.le_refl _, Nat.le_refl _⟩) hD hS hA (fun r9 u0 H locs hp hP hD hS => ?_)
    have hp := hp.symm; subst hp
    obtain ⟨hn, rfl, rfl⟩ := hE
    exact en_i F hS _ () hn rfl hP hD (Nat.le_refl _) (Nat.le_refl _) dX6_begin_39
  ·
    rw [if_neg h1] at hE
    refine lv_aload_n hx hb dX6_begin_10 rfl (lv_at hl 0 rfl) ?_
    refine lv_aload_n hx hb dX6_begin_11 rfl (lv_at hl 0 rfl) ?_
    refine va_get (D := G.1) (ci := 6) (C := RX6) (T := TX6) (N := 48) hx hb hts inX6 hown hK.1 hP 0 mW_0 rfl 13 (by decide) (hts _ w_859) (fun _ h9 => h9) mF_13 dX6_begin_12 ?_
    refine lv_iload_n hx hb dX6_begin_15 rfl (lv_at hl 1 rfl) ?_
    obtain ⟨hin, hE⟩ := hE
    refine va_iald (D := G.1) hx hb hK.1 hP 8 0 mW_g13 rfl hin dX6_begin_16 ?_
    refine lv_iconst (v := (-1)) hx hb dX6_begin_17 (by decide) ?_
    refine lv_aload_n hx hb dX6_begin_18 rfl (lv_at hl 0 rfl) ?_
    refine va_get (D := G.1) (ci := 6) (C := RX6) (T := TX6) (N := 48) hx hb hts inX6 hown hK.1 hP 0 mW_0 rfl 23 (by decide) (hts _ w_869) (fun _ h9 => h9) mF_23 dX6_begin_19 ?_
    refine lv_aload_n hx hb dX6_begin_22 rfl (lv_at hl 0 rfl) ?_
    refine va_get (D := G.1) (ci := 6) (C := RX6) (T := TX6) (N := 48) hx hb hts inX6 hown hK.1 hP 0 mW_0 rfl 25 (by decide) (hts _ w_871) (fun _ h9 => h9) mF_25 dX6_begin_23 ?_
    obtain ⟨R4, hg, hE⟩ := hE
    refine kA_v (va_runV (As := [.int (R.2.1 13 a1.toNatClampNeg), .int (-1), .int (R.1 23), .int (R.1 25)]) (rest := []) F.1 (e_otherWay l G h q R (R.2.1 13 a1.toNatClampNeg) (-1) (R.1 23) (R.1 25) R4 0 hg _) (cwV 4 hts (aw_V w_1128 w_1130 ws_X6_otherWay w_6 w_1131) rfl rfl rfl (by decide +kernel) ⟨by decide, by decide⟩) ⟨cS_blind, va_recv (q := (RX6, TX6, 48)) (ci := 6) (q0 := 0) hK.1 hP rfl mW_0, cS_pre hP hD hK⟩ rfl rfl hl.1 rfl (lv_room (Nat.le_of_ble_eq_true rfl)) dX6_begin_26 ⟨Nat.le_refl _, Nat.le_refl _⟩) hD hS hA (fun u0 H locs hp hP hD hS => ?_)
    refine lv_aload_n hx hb dX6_begin_29 rfl (lv_at hl 0 rfl) ?_
    refine lv_aload_n hx hb dX6_begin_30 rfl (lv_at hl 0 rfl) ?_
    refine va_get (D := G.1) (ci := 6) (C := RX6) (T := TX6) (N := 48) hx hb hts inX6 hown hK.1 hP 0 mW_0 rfl 12 (by decide) (hts _ w_858) (fun _ h9 => h9) mF_12 dX6_begin_31 ?_
    refine lv_iload_n hx hb dX6_begin_34 rfl (lv_at hl 1 rfl) ?_
    obtain ⟨hin, hE⟩ := hE
    refine va_iald (D := G.1) hx hb hK.1 hP 7 0 mW_g12 rfl hin dX6_begin_35 ?_
    obtain ⟨R6, r7, hg, hE⟩ := hE
    refine kA_i (va_runV (As := [.int (R4.2.1 12 a1.toNatClampNeg)]) (rest := []) F.1 (e_pieces l G h q R4 (R4.2.1 12 a1.toNatClampNeg) R6 r7 hg _) (cwV 1 hts (aw_V w_1116 w_1118 ws_X6_pieces w_6 w_1119) rfl rfl rfl (by decide +kernel) ⟨by decide, by decide⟩) ⟨cS_blind, va_recv (q := (RX6, TX6, 48)) (ci := 6) (q0 := 0) hK.1 hP rfl mW_0, cS_pre hP hD hK⟩ rfl rfl hl.1 rfl (lv_room (Nat.le_of_ble_eq_true rfl)) dX6_begin_36 ⟨Nat.le_refl _, Nat.le_refl _⟩) hD hS hA (fun r9 u0 H locs hp hP hD hS => ?_)
    have hp := hp.symm; subst hp
    obtain ⟨hn, rfl, rfl⟩ := hE
    exact en_i F hS _ () hn rfl hP hD (Nat.le_refl _) (Nat.le_refl _) dX6_begin_39

theorem dX6_one_0 : decode cX6_one 0 = .ok (.aload_n 0, 1) := by decide +kernel
theorem dX6_one_1 : decode cX6_one 1 = .ok (.aload_n 0, 1) := by decide +kernel
theorem dX6_one_2 : decode cX6_one 2 = .ok (.getfield 217, 3) := by decide +kernel
theorem dX6_one_5 : decode cX6_one 5 = .ok (.invokevirtual 214, 3) := by decide +kernel
theorem dX6_one_8 : decode cX6_one 8 = .ok (.istore_n 2, 1) := by decide +kernel
theorem dX6_one_9 : decode cX6_one 9 = .ok (.iload_n 2, 1) := by decide +kernel
theorem dX6_one_10 : decode cX6_one 10 = .ok (.iconst (-1), 1) := by decide +kernel
theorem dX6_one_11 : decode cX6_one 11 = .ok (.if_icmp .eq 12, 3) := by decide +kernel
theorem dX6_one_14 : decode cX6_one 14 = .ok (.aload_n 0, 1) := by decide +kernel
theorem dX6_one_15 : decode cX6_one 15 = .ok (.iload_n 1, 1) := by decide +kernel
theorem dX6_one_16 : decode cX6_one 16 = .ok (.iload_n 2, 1) := by decide +kernel
theorem dX6_one_17 : decode cX6_one 17 = .ok (.invokevirtual 283, 3) := by decide +kernel
theorem dX6_one_20 : decode cX6_one 20 = .ok (.ifCond .ne 5, 3) := by decide +kernel
theorem dX6_one_23 : decode cX6_one 23 = .ok (.iconst 0, 1) := by decide +kernel
theorem dX6_one_24 : decode cX6_one 24 = .ok (.ireturn, 1) := by decide +kernel
theorem dX6_one_25 : decode cX6_one 25 = .ok (.aload_n 0, 1) := by decide +kernel
theorem dX6_one_26 : decode cX6_one 26 = .ok (.dup, 1) := by decide +kernel
theorem dX6_one_27 : decode cX6_one 27 = .ok (.getfield 217, 3) := by decide +kernel
theorem dX6_one_30 : decode cX6_one 30 = .ok (.iconst 1, 1) := by decide +kernel
theorem dX6_one_31 : decode cX6_one 31 = .ok (.iadd, 1) := by decide +kernel
theorem dX6_one_32 : decode cX6_one 32 = .ok (.putfield 217, 3) := by decide +kernel
theorem dX6_one_35 : decode cX6_one 35 = .ok (.iconst 1, 1) := by decide +kernel
theorem dX6_one_36 : decode cX6_one 36 = .ok (.ireturn, 1) := by decide +kernel
def E_one (R : RS) (a1 : Int32) (R' : RS) (r : Int32) : Prop := ∃ (R1 : RS) (r2 : Int32), E_character R (R.1 23) R1 r2 ∧ (if r2 = (-1) then (R' = R1 ∧ r = 0) else (∃ (R4 : RS) (r5 : Int32), E_includes R1 a1 r2 R4 r5 ∧ (if r5 = 0 then (R' = R4 ∧ r = 0) else (R' = (mf R4 23 ((R4.1 23) + 1)) ∧ r = 1))))
set_option maxHeartbeats 4000000 in
set_option maxRecDepth 100000 in
theorem e_one (l : Launch) (G : PG) (h : Nat) (q : Nat → Nat) (R : RS) (a1 : Int32) (R' : RS) (r : Int32) (hE : E_one R a1 R' r) : Ci l yX6_one (Cond.code yX6_one cX6_one 3 (some .boolean) :: aW) { frames := 1, cells := 0, slots := 0, locals := 22 } G (mW G h q R) [.ref h, .int a1] (fun (r9 : Int32) (_ : Unit) => r9 = r) (fun (_ : Unit) => mW G h q R') 0 0 := by
  refine ofB (y := yX6_one) (G := G) (cc := cX6_one) (maxL := 3) (ret := (some .boolean)) (Qc := fun A => va_Qi (fun (r9 : Int32) (_ : Unit) => r9 = r) (oB G A (fun (_ : Unit) => mW G h q R')) A) (by decide) rfl ?_
  intro p e s m below meth c A F hK hA hP hD
  have hS : va_S A s.heap s.heap [] := va_S.rf
  have hx := F.1.1; have hb := F.1.2.1; have hml := F.1.2.2.1; have hts := F.1.2.2.2.2
  have hown : s.vm.findClass RX6 = some m.cls := F.1.2.2.2.1
  have hl := lv_entry ([.ref h, .int a1]) (n := 3) (Nat.le_of_ble_eq_true rfl)
  rw [lg_entry_eq]
  generalize (lg_sl ([.ref h, .int a1]) ++ List.replicate (3 - (lg_sl ([.ref h, .int a1])).length) Slot.unset).toArray = ls at hl ⊢
  have hl : lv_has ls 3 [(0, .ref h), (1, .int a1)] := hl
  unfold E_one at hE
  refine lv_aload_n hx hb dX6_one_0 rfl (lv_at hl 0 rfl) ?_
  refine lv_aload_n hx hb dX6_one_1 rfl (lv_at hl 0 rfl) ?_
  refine va_get (D := G.1) (ci := 6) (C := RX6) (T := TX6) (N := 48) hx hb hts inX6 hown hK.1 hP 0 mW_0 rfl 23 (by decide) (hts _ w_869) (fun _ h9 => h9) mF_23 dX6_one_2 ?_
  obtain ⟨R1, r2, hg, hE⟩ := hE
  refine kA_i (va_runV (As := [.int (R.1 23)]) (rest := []) F.1 (e_character l G h q R (R.1 23) R1 r2 hg _) (cwV 1 hts (aw_V w_1148 w_1150 ws_X6_character w_6 w_1151) rfl rfl rfl (by decide +kernel) ⟨by decide, by decide⟩) ⟨cS_blind, va_recv (q := (RX6, TX6, 48)) (ci := 6) (q0 := 0) hK.1 hP rfl mW_0, cS_pre hP hD hK⟩ rfl rfl hl.1 rfl (lv_room (Nat.le_of_ble_eq_true rfl)) dX6_one_5 ⟨Nat.le_refl _, Nat.le_refl _⟩) hD hS hA (fun r9 u0 H locs hp hP hD hS => ?_)
  have hp := hp.symm; subst hp
  refine lv_istore_n hx hb dX6_one_8 rfl hl (by decide) rfl (fun ls hl => ?_)
  have hl : lv_has ls 3 [(2, .int r2), (0, .ref h), (1, .int a1)] := hl
  refine lv_iload_n hx hb dX6_one_9 rfl (lv_at hl 0 rfl) ?_
  refine lv_iconst (v := (-1)) hx hb dX6_one_10 (by decide) ?_
  refine lv_icmp_eq (tgt := 23) hx hb dX6_one_11 (by decide) (fun h3 => ?_) (fun h3 => ?_)
  ·
    rw [if_pos h3] at hE
    refine lv_iconst (v := 0) hx hb dX6_one_23 (by decide) ?_
    obtain ⟨rfl, rfl⟩ := hE
    exact en_i F hS _ () (by rfl) rfl hP hD (Nat.le_refl _) (Nat.le_refl _) dX6_one_24
  ·
    rw [if_neg h3] at hE
    refine lv_aload_n hx hb dX6_one_14 rfl (lv_at hl 1 rfl) ?_
    refine lv_iload_n hx hb dX6_one_15 rfl (lv_at hl 2 rfl) ?_
    refine lv_iload_n hx hb dX6_one_16 rfl (lv_at hl 0 rfl) ?_
    obtain ⟨R4, r5, hg, hE⟩ := hE
    refine kA_i (va_runV (As := [.int a1, .int r2]) (rest := []) F.1 (e_includes l G h q R1 a1 r2 R4 r5 hg _) (cwV 2 hts (aw_V w_1152 w_1154 ws_X6_includes w_6 w_1155) rfl rfl rfl (by decide +kernel) ⟨by decide, by decide⟩) ⟨cS_blind, va_recv (q := (RX6, TX6, 48)) (ci := 6) (q0 := 0) hK.1 hP rfl mW_0, cS_pre hP hD hK⟩ rfl rfl hl.1 rfl (lv_room (Nat.le_of_ble_eq_true rfl)) dX6_one_17 ⟨Nat.le_refl _, Nat.le_refl _⟩) hD hS hA (fun r9 u0 H locs hp hP hD hS => ?_)
    have hp := hp.symm; subst hp
    refine lv_if_ne (tgt := 25) hx hb dX6_one_20 (by decide) (fun h6 => ?_) (fun h6 => ?_)
    ·
      rw [if_neg h6] at hE
      refine lv_aload_n hx hb dX6_one_25 rfl (lv_at hl 1 rfl) ?_
      refine lv_dup hx hb dX6_one_26 rfl ?_
      refine va_get (D := G.1) (ci := 6) (C := RX6) (T := TX6) (N := 48) hx hb hts inX6 hown hK.1 hP 0 mW_0 rfl 23 (by decide) (hts _ w_869) (fun _ h9 => h9) mF_23 dX6_one_27 ?_
      refine lv_iconst (v := 1) hx hb dX6_one_30 (by decide) ?_
      refine lv_iadd hx hb dX6_one_31 ?_
      refine va_put (D := G.1) (ci := 6) (v := .int ((R4.1 23) + 1)) (ty := .int) (C := RX6) (T := TX6) (N := 48) hx hb hts inX6 tyX6 tyX6_ok nmX6 hown hK.1 hP hD hS 0 mW_0 rfl 23 (by decide) (hts _ w_869) (fun _ h9 => h9) rfl (by decide +kernel) rfl rfl mF_l23 dX6_one_32 (fun H locs hP hD hS => ?_)
      rw [mW_f23] at hP hD
      refine lv_iconst (v := 1) hx hb dX6_one_35 (by decide) ?_
      obtain ⟨rfl, rfl⟩ := hE
      exact en_i F hS _ () (by rfl) rfl hP hD (Nat.le_refl _) (Nat.le_refl _) dX6_one_36
    ·
      rw [if_pos h6] at hE
      refine lv_iconst (v := 0) hx hb dX6_one_23 (by decide) ?_
      obtain ⟨rfl, rfl⟩ := hE
      exact en_i F hS _ () (by rfl) rfl hP hD (Nat.le_refl _) (Nat.le_refl _) dX6_one_24

theorem dX6_again_0 : decode cX6_again 0 = .ok (.aload_n 0, 1) := by decide +kernel
theorem dX6_again_1 : decode cX6_again 1 = .ok (.getfield 57, 3) := by decide +kernel
theorem dX6_again_4 : decode cX6_again 4 = .ok (.iconst 2, 1) := by decide +kernel
theorem dX6_again_5 : decode cX6_again 5 = .ok (.iload_n 1, 1) := by decide +kernel
theorem dX6_again_6 : decode cX6_again 6 = .ok (.imul, 1) := by decide +kernel
theorem dX6_again_7 : decode cX6_again 7 = .ok (.iaload, 1) := by decide +kernel
theorem dX6_again_8 : decode cX6_again 8 = .ok (.istore_n 2, 1) := by decide +kernel
theorem dX6_again_9 : decode cX6_again 9 = .ok (.iload_n 2, 1) := by decide +kernel
theorem dX6_again_10 : decode cX6_again 10 = .ok (.iconst (-1), 1) := by decide +kernel
theorem dX6_again_11 : decode cX6_again 11 = .ok (.if_icmp .ne 5, 3) := by decide +kernel
theorem dX6_again_14 : decode cX6_again 14 = .ok (.iconst 0, 1) := by decide +kernel
theorem dX6_again_15 : decode cX6_again 15 = .ok (.ireturn, 1) := by decide +kernel
theorem dX6_again_16 : decode cX6_again 16 = .ok (.aload_n 0, 1) := by decide +kernel
theorem dX6_again_17 : decode cX6_again 17 = .ok (.getfield 57, 3) := by decide +kernel
theorem dX6_again_20 : decode cX6_again 20 = .ok (.iconst 2, 1) := by decide +kernel
theorem dX6_again_21 : decode cX6_again 21 = .ok (.iload_n 1, 1) := by decide +kernel
theorem dX6_again_22 : decode cX6_again 22 = .ok (.imul, 1) := by decide +kernel
theorem dX6_again_23 : decode cX6_again 23 = .ok (.iconst 1, 1) := by decide +kernel
theorem dX6_again_24 : decode cX6_again 24 = .ok (.iadd, 1) := by decide +kernel
theorem dX6_again_25 : decode cX6_again 25 = .ok (.iaload, 1) := by decide +kernel
theorem dX6_again_26 : decode cX6_again 26 = .ok (.iload_n 2, 1) := by decide +kernel
theorem dX6_again_27 : decode cX6_again 27 = .ok (.isub, 1) := by decide +kernel
theorem dX6_again_28 : decode cX6_again 28 = .ok (.istore_n 3, 1) := by decide +kernel
theorem dX6_again_29 : decode cX6_again 29 = .ok (.iconst 0, 1) := by decide +kernel
theorem dX6_again_30 : decode cX6_again 30 = .ok (.istore 4, 2) := by decide +kernel
theorem dX6_again_32 : decode cX6_again 32 = .ok (.iload 4, 2) := by decide +kernel
theorem dX6_again_34 : decode cX6_again 34 = .ok (.iload_n 3, 1) := by decide +kernel
theorem dX6_again_35 : decode cX6_again 35 = .ok (.if_icmp .ge 48, 3) := by decide +kernel
theorem dX6_again_38 : decode cX6_again 38 = .ok (.aload_n 0, 1) := by decide +kernel
theorem dX6_again_39 : decode cX6_again 39 = .ok (.aload_n 0, 1) := by decide +kernel
theorem dX6_again_40 : decode cX6_again 40 = .ok (.getfield 217, 3) := by decide +kernel
theorem dX6_again_43 : decode cX6_again 43 = .ok (.iload 4, 2) := by decide +kernel
theorem dX6_again_45 : decode cX6_again 45 = .ok (.iadd, 1) := by decide +kernel
theorem dX6_again_46 : decode cX6_again 46 = .ok (.invokevirtual 214, 3) := by decide +kernel
theorem dX6_again_49 : decode cX6_again 49 = .ok (.aload_n 0, 1) := by decide +kernel
theorem dX6_again_50 : decode cX6_again 50 = .ok (.iload_n 2, 1) := by decide +kernel
theorem dX6_again_51 : decode cX6_again 51 = .ok (.iload 4, 2) := by decide +kernel
theorem dX6_again_53 : decode cX6_again 53 = .ok (.iadd, 1) := by decide +kernel
theorem dX6_again_54 : decode cX6_again 54 = .ok (.invokevirtual 214, 3) := by decide +kernel
theorem dX6_again_57 : decode cX6_again 57 = .ok (.if_icmp .ne 18, 3) := by decide +kernel
theorem dX6_again_60 : decode cX6_again 60 = .ok (.aload_n 0, 1) := by decide +kernel
theorem dX6_again_61 : decode cX6_again 61 = .ok (.aload_n 0, 1) := by decide +kernel
theorem dX6_again_62 : decode cX6_again 62 = .ok (.getfield 217, 3) := by decide +kernel
theorem dX6_again_65 : decode cX6_again 65 = .ok (.iload 4, 2) := by decide +kernel
theorem dX6_again_67 : decode cX6_again 67 = .ok (.iadd, 1) := by decide +kernel
theorem dX6_again_68 : decode cX6_again 68 = .ok (.invokevirtual 214, 3) := by decide +kernel
theorem dX6_again_71 : decode cX6_again 71 = .ok (.iconst (-1), 1) := by decide +kernel
theorem dX6_again_72 : decode cX6_again 72 = .ok (.if_icmp .ne 5, 3) := by decide +kernel
theorem dX6_again_75 : decode cX6_again 75 = .ok (.iconst 0, 1) := by decide +kernel
theorem dX6_again_76 : decode cX6_again 76 = .ok (.ireturn, 1) := by decide +kernel
theorem dX6_again_77 : decode cX6_again 77 = .ok (.iinc 4 1, 3) := by decide +kernel
theorem dX6_again_80 : decode cX6_again 80 = .ok (.goto (-48), 3) := by decide +kernel
theorem dX6_again_83 : decode cX6_again 83 = .ok (.aload_n 0, 1) := by decide +kernel
theorem dX6_again_84 : decode cX6_again 84 = .ok (.dup, 1) := by decide +kernel
theorem dX6_again_85 : decode cX6_again 85 = .ok (.getfield 217, 3) := by decide +kernel
theorem dX6_again_88 : decode cX6_again 88 = .ok (.iload_n 3, 1) := by decide +kernel
theorem dX6_again_89 : decode cX6_again 89 = .ok (.iadd, 1) := by decide +kernel
theorem dX6_again_90 : decode cX6_again 90 = .ok (.putfield 217, 3) := by decide +kernel
theorem dX6_again_93 : decode cX6_again 93 = .ok (.iconst 1, 1) := by decide +kernel
theorem dX6_again_94 : decode cX6_again 94 = .ok (.ireturn, 1) := by decide +kernel
def L_again_32 : Nat → RS → Int32 → Int32 → Int32 → Int32 → RS → Int32 → Prop
  | 0, _, _, _, _, _, _, _ => False
  | nf + 1, R, x1, x2, x3, x4, R', r => if x3 ≤ x4 then (R' = (mf R 23 ((R.1 23) + x3)) ∧ r = 1) else (∃ (R3 : RS) (r4 : Int32), E_character R ((R.1 23) + x4) R3 r4 ∧ (∃ (R5 : RS) (r6 : Int32), E_character R3 (x2 + x4) R5 r6 ∧ (if r4 = r6 then (∃ (R8 : RS) (r9 : Int32), E_character R5 ((R5.1 23) + x4) R8 r9 ∧ (if r9 = (-1) then (R' = R8 ∧ r = 0) else (L_again_32 nf R8 x1 x2 x3 (x4 + 1) R' r))) else (R' = R5 ∧ r = 0))))
set_option maxHeartbeats 4000000 in
set_option maxRecDepth 100000 in
theorem L_again_32_ok {l : Launch} {G : PG} {h : Nat} {q : Nat → Nat} {a1 : Int32} {R' : RS} {r : Int32} {p : Program} {e : Env} {s : State} {m : MethodId} {below : List Frame} {meth : Method} {c : Code} {A : Nat → Prop} (F : bF p s m meth c cX6_again 5 (some .boolean) ([.ref h, .int a1] : List Value).toArray yX6_again) (hK : pg_K G s) (hA : ∀ q, s.heap.size ≤ q → A q) : ∀ (nf : Nat) (R : RS) (x1 : Int32) (x2 : Int32) (x3 : Int32) (x4 : Int32) (H : Heap) (locs : List Loc) (ls : Array Slot), lv_has ls 5 [(4, .int x4), (3, .int x3), (2, .int x2), (0, .ref h), (1, .int x1)] → L_again_32 nf R x1 x2 x3 x4 R' r → va_P G.1 vwCl (mW G h q R) H → va_D A (mW G h q R) → va_S A s.heap H locs → W p l e { frames := 1, cells := 0, slots := 0, locals := 21 } s m ([.ref h, .int a1] : List Value).toArray below meth c H locs 0 0 (MQ below (va_Qi (fun (r9 : Int32) (_ : Unit) => r9 = r) (oB G A (fun (_ : Unit) => mW G h q R')) A) ([.ref h, .int a1] : List Value).toArray s 0 0 A) (F0 m 32 ls []) := by
  have hx := F.1.1; have hb := F.1.2.1; have hml := F.1.2.2.1; have hts := F.1.2.2.2.2
  have hown : s.vm.findClass RX6 = some m.cls := F.1.2.2.2.1
  intro nf
  induction nf with
  | zero => intro R x1 x2 x3 x4 H locs ls hl hE; exact hE.elim
  | succ nf ih =>
    intro R x1 x2 x3 x4 H locs ls hl hE hP hD hS
    unfold L_again_32 at hE
    refine lv_iload hx hb dX6_again_32 (lv_at hl 0 rfl) ?_
    refine lv_iload_n hx hb dX6_again_34 rfl (lv_at hl 1 rfl) ?_
    refine lv_icmp_ge (tgt := 83) hx hb dX6_again_35 (by decide) (fun h2 => ?_) (fun h2 => ?_)
    ·
      rw [if_pos h2] at hE
      refine lv_aload_n hx hb dX6_again_83 rfl (lv_at hl 3 rfl) ?_
      refine lv_dup hx hb dX6_again_84 rfl ?_
      refine va_get (D := G.1) (ci := 6) (C := RX6) (T := TX6) (N := 48) hx hb hts inX6 hown hK.1 hP 0 mW_0 rfl 23 (by decide) (hts _ w_869) (fun _ h9 => h9) mF_23 dX6_again_85 ?_
      refine lv_iload_n hx hb dX6_again_88 rfl (lv_at hl 1 rfl) ?_
      refine lv_iadd hx hb dX6_again_89 ?_
      refine va_put (D := G.1) (ci := 6) (v := .int ((R.1 23) + x3)) (ty := .int) (C := RX6) (T := TX6) (N := 48) hx hb hts inX6 tyX6 tyX6_ok nmX6 hown hK.1 hP hD hS 0 mW_0 rfl 23 (by decide) (hts _ w_869) (fun _ h9 => h9) rfl (by decide +kernel) rfl rfl mF_l23 dX6_again_90 (fun H locs hP hD hS => ?_)
      rw [mW_f23] at hP hD
      refine lv_iconst (v := 1) hx hb dX6_again_93 (by decide) ?_
      obtain ⟨rfl, rfl⟩ := hE
      exact en_i F hS _ () (by rfl) rfl hP hD (Nat.le_refl _) (Nat.le_refl _) dX6_again_94
    ·
      rw [if_neg h2] at hE
      refine lv_aload_n hx hb dX6_again_38 rfl (lv_at hl 3 rfl) ?_
      refine lv_aload_n hx hb dX6_again_39 rfl (lv_at hl 3 rfl) ?_
      refine va_get (D := G.1) (ci := 6) (C := RX6) (T := TX6) (N := 48) hx hb hts inX6 hown hK.1 hP 0 mW_0 rfl 23 (by decide) (hts _ w_869) (fun _ h9 => h9) mF_23 dX6_again_40 ?_
      refine lv_iload hx hb dX6_again_43 (lv_at hl 0 rfl) ?_
      refine lv_iadd hx hb dX6_again_45 ?_
      obtain ⟨R3, r4, hg, hE⟩ := hE
      refine kA_i (va_runV (As := [.int ((R.1 23) + x4)]) (rest := []) F.1 (e_character l G h q R ((R.1 23) + x4) R3 r4 hg _) (cwV 1 hts (aw_V w_1148 w_1150 ws_X6_character w_6 w_1151) rfl rfl rfl (by decide +kernel) ⟨by decide, by decide⟩) ⟨cS_blind, va_recv (q := (RX6, TX6, 48)) (ci := 6) (q0 := 0) hK.1 hP rfl mW_0, cS_pre hP hD hK⟩ rfl rfl hl.1 rfl (lv_room (Nat.le_of_ble_eq_true rfl)) dX6_again_46 ⟨Nat.le_refl _, Nat.le_refl _⟩) hD hS hA (fun r9 u0 H locs hp hP hD hS => ?_)
      have hp := hp.symm; subst hp
      refine lv_aload_n hx hb dX6_again_49 rfl (lv_at hl 3 rfl) ?_
      refine lv_iload_n hx hb dX6_again_50 rfl (lv_at hl 2 rfl) ?_
      refine lv_iload hx hb dX6_again_51 (lv_at hl 0 rfl) ?_
      refine lv_iadd hx hb dX6_again_53 ?_
      obtain ⟨R5, r6, hg, hE⟩ := hE
      refine kA_i (va_runV (As := [.int (x2 + x4)]) (rest := [.int r4]) F.1 (e_character l G h q R3 (x2 + x4) R5 r6 hg _) (cwV 1 hts (aw_V w_1148 w_1150 ws_X6_character w_6 w_1151) rfl rfl rfl (by decide +kernel) ⟨by decide, by decide⟩) ⟨cS_blind, va_recv (q := (RX6, TX6, 48)) (ci := 6) (q0 := 0) hK.1 hP rfl mW_0, cS_pre hP hD hK⟩ rfl rfl hl.1 rfl (lv_room (Nat.le_of_ble_eq_true rfl)) dX6_again_54 ⟨Nat.le_refl _, Nat.le_refl _⟩) hD hS hA (fun r9 u0 H locs hp hP hD hS => ?_)
      have hp := hp.symm; subst hp
      refine lv_icmp_ne (tgt := 75) hx hb dX6_again_57 (by decide) (fun h7 => ?_) (fun h7 => ?_)
      ·
        rw [if_neg h7] at hE
        refine lv_iconst (v := 0) hx hb dX6_again_75 (by decide) ?_
        obtain ⟨rfl, rfl⟩ := hE
        exact en_i F hS _ () (by rfl) rfl hP hD (Nat.le_refl _) (Nat.le_refl _) dX6_again_76
      ·
        rw [if_pos h7] at hE
        refine lv_aload_n hx hb dX6_again_60 rfl (lv_at hl 3 rfl) ?_
        refine lv_aload_n hx hb dX6_again_61 rfl (lv_at hl 3 rfl) ?_
        refine va_get (D := G.1) (ci := 6) (C := RX6) (T := TX6) (N := 48) hx hb hts inX6 hown hK.1 hP 0 mW_0 rfl 23 (by decide) (hts _ w_869) (fun _ h9 => h9) mF_23 dX6_again_62 ?_
        refine lv_iload hx hb dX6_again_65 (lv_at hl 0 rfl) ?_
        refine lv_iadd hx hb dX6_again_67 ?_
        obtain ⟨R8, r9, hg, hE⟩ := hE
        refine kA_i (va_runV (As := [.int ((R5.1 23) + x4)]) (rest := []) F.1 (e_character l G h q R5 ((R5.1 23) + x4) R8 r9 hg _) (cwV 1 hts (aw_V w_1148 w_1150 ws_X6_character w_6 w_1151) rfl rfl rfl (by decide +kernel) ⟨by decide, by decide⟩) ⟨cS_blind, va_recv (q := (RX6, TX6, 48)) (ci := 6) (q0 := 0) hK.1 hP rfl mW_0, cS_pre hP hD hK⟩ rfl rfl hl.1 rfl (lv_room (Nat.le_of_ble_eq_true rfl)) dX6_again_68 ⟨Nat.le_refl _, Nat.le_refl _⟩) hD hS hA (fun r9 u0 H locs hp hP hD hS => ?_)
        have hp := hp.symm; subst hp
        refine lv_iconst (v := (-1)) hx hb dX6_again_71 (by decide) ?_
        refine lv_icmp_ne (tgt := 77) hx hb dX6_again_72 (by decide) (fun h10 => ?_) (fun h10 => ?_)
        ·
          rw [if_neg h10] at hE
          refine lv_iinc (v := (x4 + 1)) (k := 0) hx hb dX6_again_77 hl rfl rfl (by decide) rfl (fun ls hl => ?_)
          have hl : lv_has ls 5 [(4, .int (x4 + 1)), (3, .int x3), (2, .int x2), (0, .ref h), (1, .int x1)] := hl
          refine lv_goto (tgt := 32) hx hb dX6_again_80 (by decide) ?_
          exact ih R8 x1 x2 x3 (x4 + 1) _ _ ls (lv_sub hl [0, 1, 2, 3, 4] rfl) hE hP hD hS
        ·
          rw [if_pos h10] at hE
          refine lv_iconst (v := 0) hx hb dX6_again_75 (by decide) ?_
          obtain ⟨rfl, rfl⟩ := hE
          exact en_i F hS _ () (by rfl) rfl hP hD (Nat.le_refl _) (Nat.le_refl _) dX6_again_76
def E_again (R : RS) (a1 : Int32) (R' : RS) (r : Int32) : Prop := vp_in (2 * a1) 10 ∧ (if (R.2.1 30 (2 * a1).toNatClampNeg) = (-1) then (R' = R ∧ r = 0) else (vp_in ((2 * a1) + 1) 10 ∧ (∃ nf : Nat, L_again_32 nf R a1 (R.2.1 30 (2 * a1).toNatClampNeg) ((R.2.1 30 ((2 * a1) + 1).toNatClampNeg) - (R.2.1 30 (2 * a1).toNatClampNeg)) 0 R' r)))
set_option maxHeartbeats 4000000 in
set_option maxRecDepth 100000 in
theorem e_again (l : Launch) (G : PG) (h : Nat) (q : Nat → Nat) (R : RS) (a1 : Int32) (R' : RS) (r : Int32) (hE : E_again R a1 R' r) : Ci l yX6_again (Cond.code yX6_again cX6_again 5 (some .boolean) :: aW) { frames := 1, cells := 0, slots := 0, locals := 21 } G (mW G h q R) [.ref h, .int a1] (fun (r9 : Int32) (_ : Unit) => r9 = r) (fun (_ : Unit) => mW G h q R') 0 0 := by
  refine ofB (y := yX6_again) (G := G) (cc := cX6_again) (maxL := 5) (ret := (some .boolean)) (Qc := fun A => va_Qi (fun (r9 : Int32) (_ : Unit) => r9 = r) (oB G A (fun (_ : Unit) => mW G h q R')) A) (by decide) rfl ?_
  intro p e s m below meth c A F hK hA hP hD
  have hS : va_S A s.heap s.heap [] := va_S.rf
  have hx := F.1.1; have hb := F.1.2.1; have hml := F.1.2.2.1; have hts := F.1.2.2.2.2
  have hown : s.vm.findClass RX6 = some m.cls := F.1.2.2.2.1
  have hl := lv_entry ([.ref h, .int a1]) (n := 5) (Nat.le_of_ble_eq_true rfl)
  rw [lg_entry_eq]
  generalize (lg_sl ([.ref h, .int a1]) ++ List.replicate (5 - (lg_sl ([.ref h, .int a1])).length) Slot.unset).toArray = ls at hl ⊢
  have hl : lv_has ls 5 [(0, .ref h), (1, .int a1)] := hl
  unfold E_again at hE
  refine lv_aload_n hx hb dX6_again_0 rfl (lv_at hl 0 rfl) ?_
  refine va_get (D := G.1) (ci := 6) (C := RX6) (T := TX6) (N := 48) hx hb hts inX6 hown hK.1 hP 0 mW_0 rfl 30 (by decide) (hts _ w_876) (fun _ h9 => h9) mF_30 dX6_again_1 ?_
  refine lv_iconst (v := 2) hx hb dX6_again_4 (by decide) ?_
  refine lv_iload_n hx hb dX6_again_5 rfl (lv_at hl 1 rfl) ?_
  refine lv_imul hx hb dX6_again_6 ?_
  obtain ⟨hin, hE⟩ := hE
  refine va_iald (D := G.1) hx hb hK.1 hP 16 0 mW_g30 rfl hin dX6_again_7 ?_
  refine lv_istore_n hx hb dX6_again_8 rfl hl (by decide) rfl (fun ls hl => ?_)
  have hl : lv_has ls 5 [(2, .int (R.2.1 30 (2 * a1).toNatClampNeg)), (0, .ref h), (1, .int a1)] := hl
  refine lv_iload_n hx hb dX6_again_9 rfl (lv_at hl 0 rfl) ?_
  refine lv_iconst (v := (-1)) hx hb dX6_again_10 (by decide) ?_
  refine lv_icmp_ne (tgt := 16) hx hb dX6_again_11 (by decide) (fun h1 => ?_) (fun h1 => ?_)
  ·
    rw [if_neg h1] at hE
    refine lv_aload_n hx hb dX6_again_16 rfl (lv_at hl 1 rfl) ?_
    refine va_get (D := G.1) (ci := 6) (C := RX6) (T := TX6) (N := 48) hx hb hts inX6 hown hK.1 hP 0 mW_0 rfl 30 (by decide) (hts _ w_876) (fun _ h9 => h9) mF_30 dX6_again_17 ?_
    refine lv_iconst (v := 2) hx hb dX6_again_20 (by decide) ?_
    refine lv_iload_n hx hb dX6_again_21 rfl (lv_at hl 2 rfl) ?_
    refine lv_imul hx hb dX6_again_22 ?_
    refine lv_iconst (v := 1) hx hb dX6_again_23 (by decide) ?_
    refine lv_iadd hx hb dX6_again_24 ?_
    obtain ⟨hin, hE⟩ := hE
    refine va_iald (D := G.1) hx hb hK.1 hP 16 0 mW_g30 rfl hin dX6_again_25 ?_
    refine lv_iload_n hx hb dX6_again_26 rfl (lv_at hl 0 rfl) ?_
    refine lv_isub hx hb dX6_again_27 ?_
    refine lv_istore_n hx hb dX6_again_28 rfl hl (by decide) rfl (fun ls hl => ?_)
    have hl : lv_has ls 5 [(3, .int ((R.2.1 30 ((2 * a1) + 1).toNatClampNeg) - (R.2.1 30 (2 * a1).toNatClampNeg))), (2, .int (R.2.1 30 (2 * a1).toNatClampNeg)), (0, .ref h), (1, .int a1)] := hl
    refine lv_iconst (v := 0) hx hb dX6_again_29 (by decide) ?_
    refine lv_istore hx hb dX6_again_30 hl (by decide) rfl (fun ls hl => ?_)
    have hl : lv_has ls 5 [(4, .int 0), (3, .int ((R.2.1 30 ((2 * a1) + 1).toNatClampNeg) - (R.2.1 30 (2 * a1).toNatClampNeg))), (2, .int (R.2.1 30 (2 * a1).toNatClampNeg)), (0, .ref h), (1, .int a1)] := hl
    obtain ⟨nf, hE⟩ := hE
    exact L_again_32_ok F hK hA nf R a1 (R.2.1 30 (2 * a1).toNatClampNeg) ((R.2.1 30 ((2 * a1) + 1).toNatClampNeg) - (R.2.1 30 (2 * a1).toNatClampNeg)) 0 _ _ ls (lv_sub hl [0, 1, 2, 3, 4] rfl) hE hP hD hS
  ·
    rw [if_pos h1] at hE
    refine lv_iconst (v := 0) hx hb dX6_again_14 (by decide) ?_
    obtain ⟨rfl, rfl⟩ := hE
    exact en_i F hS _ () (by rfl) rfl hP hD (Nat.le_refl _) (Nat.le_refl _) dX6_again_15

theorem dX6_notAhead_0 : decode cX6_notAhead 0 = .ok (.aload_n 0, 1) := by decide +kernel
theorem dX6_notAhead_1 : decode cX6_notAhead 1 = .ok (.getfield 211, 3) := by decide +kernel
theorem dX6_notAhead_4 : decode cX6_notAhead 4 = .ok (.istore_n 2, 1) := by decide +kernel
theorem dX6_notAhead_5 : decode cX6_notAhead 5 = .ok (.aload_n 0, 1) := by decide +kernel
theorem dX6_notAhead_6 : decode cX6_notAhead 6 = .ok (.iconst (-1), 1) := by decide +kernel
theorem dX6_notAhead_7 : decode cX6_notAhead 7 = .ok (.iconst (-1), 1) := by decide +kernel
theorem dX6_notAhead_8 : decode cX6_notAhead 8 = .ok (.aload_n 0, 1) := by decide +kernel
theorem dX6_notAhead_9 : decode cX6_notAhead 9 = .ok (.getfield 217, 3) := by decide +kernel
theorem dX6_notAhead_12 : decode cX6_notAhead 12 = .ok (.aload_n 0, 1) := by decide +kernel
theorem dX6_notAhead_13 : decode cX6_notAhead 13 = .ok (.getfield 227, 3) := by decide +kernel
theorem dX6_notAhead_16 : decode cX6_notAhead 16 = .ok (.invokevirtual 276, 3) := by decide +kernel
theorem dX6_notAhead_19 : decode cX6_notAhead 19 = .ok (.aload_n 0, 1) := by decide +kernel
theorem dX6_notAhead_20 : decode cX6_notAhead 20 = .ok (.iload_n 1, 1) := by decide +kernel
theorem dX6_notAhead_21 : decode cX6_notAhead 21 = .ok (.aload_n 0, 1) := by decide +kernel
theorem dX6_notAhead_22 : decode cX6_notAhead 22 = .ok (.bipush 11, 2) := by decide +kernel
theorem dX6_notAhead_24 : decode cX6_notAhead 24 = .ok (.iload_n 2, 1) := by decide +kernel
theorem dX6_notAhead_25 : decode cX6_notAhead 25 = .ok (.aload_n 0, 1) := by decide +kernel
theorem dX6_notAhead_26 : decode cX6_notAhead 26 = .ok (.getfield 217, 3) := by decide +kernel
theorem dX6_notAhead_29 : decode cX6_notAhead 29 = .ok (.aload_n 0, 1) := by decide +kernel
theorem dX6_notAhead_30 : decode cX6_notAhead 30 = .ok (.getfield 227, 3) := by decide +kernel
theorem dX6_notAhead_33 : decode cX6_notAhead 33 = .ok (.invokevirtual 223, 3) := by decide +kernel
theorem dX6_notAhead_36 : decode cX6_notAhead 36 = .ok (.invokevirtual 251, 3) := by decide +kernel
theorem dX6_notAhead_39 : decode cX6_notAhead 39 = .ok (.ireturn, 1) := by decide +kernel
def E_notAhead (R : RS) (a1 : Int32) (R' : RS) (r : Int32) : Prop := ∃ R1 : RS, E_otherWay R (-1) (-1) (R.1 23) (R.1 25) R1 0 ∧ (∃ (R3 : RS) (r4 : Int32), E_link R1 11 (R.1 27) (R1.1 23) (R1.1 25) R3 r4 ∧ (∃ (R5 : RS) (r6 : Int32), E_into R3 a1 r4 R5 r6 ∧ (narrow .boolean (.int r6) = .int r6 ∧ R' = R5 ∧ r = r6)))
set_option maxHeartbeats 4000000 in
set_option maxRecDepth 100000 in
theorem e_notAhead (l : Launch) (G : PG) (h : Nat) (q : Nat → Nat) (R : RS) (a1 : Int32) (R' : RS) (r : Int32) (hE : E_notAhead R a1 R' r) : Ci l yX6_notAhead (Cond.code yX6_notAhead cX6_notAhead 3 (some .boolean) :: aW) { frames := 1, cells := 0, slots := 0, locals := 25 } G (mW G h q R) [.ref h, .int a1] (fun (r9 : Int32) (_ : Unit) => r9 = r) (fun (_ : Unit) => mW G h q R') 0 0 := by
  refine ofB (y := yX6_notAhead) (G := G) (cc := cX6_notAhead) (maxL := 3) (ret := (some .boolean)) (Qc := fun A => va_Qi (fun (r9 : Int32) (_ : Unit) => r9 = r) (oB G A (fun (_ : Unit) => mW G h q R')) A) (by decide) rfl ?_
  intro p e s m below meth c A F hK hA hP hD
  have hS : va_S A s.heap s.heap [] := va_S.rf
  have hx := F.1.1; have hb := F.1.2.1; have hml := F.1.2.2.1; have hts := F.1.2.2.2.2
  have hown : s.vm.findClass RX6 = some m.cls := F.1.2.2.2.1
  have hl := lv_entry ([.ref h, .int a1]) (n := 3) (Nat.le_of_ble_eq_true rfl)
  rw [lg_entry_eq]
  generalize (lg_sl ([.ref h, .int a1]) ++ List.replicate (3 - (lg_sl ([.ref h, .int a1])).length) Slot.unset).toArray = ls at hl ⊢
  have hl : lv_has ls 3 [(0, .ref h), (1, .int a1)] := hl
  unfold E_notAhead at hE
  refine lv_aload_n hx hb dX6_notAhead_0 rfl (lv_at hl 0 rfl) ?_
  refine va_get (D := G.1) (ci := 6) (C := RX6) (T := TX6) (N := 48) hx hb hts inX6 hown hK.1 hP 0 mW_0 rfl 27 (by decide) (hts _ w_873) (fun _ h9 => h9) mF_27 dX6_notAhead_1 ?_
  refine lv_istore_n hx hb dX6_notAhead_4 rfl hl (by decide) rfl (fun ls hl => ?_)
  have hl : lv_has ls 3 [(2, .int (R.1 27)), (0, .ref h), (1, .int a1)] := hl
  refine lv_aload_n hx hb dX6_notAhead_5 rfl (lv_at hl 1 rfl) ?_
  refine lv_iconst (v := (-1)) hx hb dX6_notAhead_6 (by decide) ?_
  refine lv_iconst (v := (-1)) hx hb dX6_notAhead_7 (by decide) ?_
  refine lv_aload_n hx hb dX6_notAhead_8 rfl (lv_at hl 1 rfl) ?_
  refine va_get (D := G.1) (ci := 6) (C := RX6) (T := TX6) (N := 48) hx hb hts inX6 hown hK.1 hP 0 mW_0 rfl 23 (by decide) (hts _ w_869) (fun _ h9 => h9) mF_23 dX6_notAhead_9 ?_
  refine lv_aload_n hx hb dX6_notAhead_12 rfl (lv_at hl 1 rfl) ?_
  refine va_get (D := G.1) (ci := 6) (C := RX6) (T := TX6) (N := 48) hx hb hts inX6 hown hK.1 hP 0 mW_0 rfl 25 (by decide) (hts _ w_871) (fun _ h9 => h9) mF_25 dX6_notAhead_13 ?_
  obtain ⟨R1, hg, hE⟩ := hE
  refine kA_v (va_runV (As := [.int (-1), .int (-1), .int (R.1 23), .int (R.1 25)]) (rest := []) F.1 (e_otherWay l G h q R (-1) (-1) (R.1 23) (R.1 25) R1 0 hg _) (cwV 4 hts (aw_V w_1128 w_1130 ws_X6_otherWay w_6 w_1131) rfl rfl rfl (by decide +kernel) ⟨by decide, by decide⟩) ⟨cS_blind, va_recv (q := (RX6, TX6, 48)) (ci := 6) (q0 := 0) hK.1 hP rfl mW_0, cS_pre hP hD hK⟩ rfl rfl hl.1 rfl (lv_room (Nat.le_of_ble_eq_true rfl)) dX6_notAhead_16 ⟨Nat.le_refl _, Nat.le_refl _⟩) hD hS hA (fun u0 H locs hp hP hD hS => ?_)
  refine lv_aload_n hx hb dX6_notAhead_19 rfl (lv_at hl 1 rfl) ?_
  refine lv_iload_n hx hb dX6_notAhead_20 rfl (lv_at hl 2 rfl) ?_
  refine lv_aload_n hx hb dX6_notAhead_21 rfl (lv_at hl 1 rfl) ?_
  refine lv_bipush (v := 11) hx hb dX6_notAhead_22 (by decide) ?_
  refine lv_iload_n hx hb dX6_notAhead_24 rfl (lv_at hl 0 rfl) ?_
  refine lv_aload_n hx hb dX6_notAhead_25 rfl (lv_at hl 1 rfl) ?_
  refine va_get (D := G.1) (ci := 6) (C := RX6) (T := TX6) (N := 48) hx hb hts inX6 hown hK.1 hP 0 mW_0 rfl 23 (by decide) (hts _ w_869) (fun _ h9 => h9) mF_23 dX6_notAhead_26 ?_
  refine lv_aload_n hx hb dX6_notAhead_29 rfl (lv_at hl 1 rfl) ?_
  refine va_get (D := G.1) (ci := 6) (C := RX6) (T := TX6) (N := 48) hx hb hts inX6 hown hK.1 hP 0 mW_0 rfl 25 (by decide) (hts _ w_871) (fun _ h9 => h9) mF_25 dX6_notAhead_30 ?_
  obtain ⟨R3, r4, hg, hE⟩ := hE
  refine kA_i (va_runV (As := [.int 11, .int (R.1 27), .int (R1.1 23), .int (R1.1 25)]) (rest := [.int a1, .ref h]) F.1 (e_link l G h q R1 11 (R.1 27) (R1.1 23) (R1.1 25) R3 r4 hg _) (cwV 4 hts (aw_V w_1104 w_1106 ws_X6_link w_6 w_1107) rfl rfl rfl (by decide +kernel) ⟨by decide, by decide⟩) ⟨cS_blind, va_recv (q := (RX6, TX6, 48)) (ci := 6) (q0 := 0) hK.1 hP rfl mW_0, cS_pre hP hD hK⟩ rfl rfl hl.1 rfl (lv_room (Nat.le_of_ble_eq_true rfl)) dX6_notAhead_33 ⟨Nat.le_refl _, Nat.le_refl _⟩) hD hS hA (fun r9 u0 H locs hp hP hD hS => ?_)
  have hp := hp.symm; subst hp
  obtain ⟨R5, r6, hg, hE⟩ := hE
  refine kA_i (va_runV (As := [.int a1, .int r4]) (rest := []) F.1 (e_into l G h q R3 a1 r4 R5 r6 hg _) (cwV 2 hts (aw_V w_1136 w_1138 ws_X6_into w_6 w_1139) rfl rfl rfl (by decide +kernel) ⟨by decide, by decide⟩) ⟨cS_blind, va_recv (q := (RX6, TX6, 48)) (ci := 6) (q0 := 0) hK.1 hP rfl mW_0, cS_pre hP hD hK⟩ rfl rfl hl.1 rfl (lv_room (Nat.le_of_ble_eq_true rfl)) dX6_notAhead_36 ⟨Nat.le_refl _, Nat.le_refl _⟩) hD hS hA (fun r9 u0 H locs hp hP hD hS => ?_)
  have hp := hp.symm; subst hp
  obtain ⟨hn, rfl, rfl⟩ := hE
  exact en_i F hS _ () hn rfl hP hD (Nat.le_refl _) (Nat.le_refl _) dX6_notAhead_39

theorem dX6_before_0 : decode cX6_before 0 = .ok (.aload_n 0, 1) := by decide +kernel
theorem dX6_before_1 : decode cX6_before 1 = .ok (.iload_n 2, 1) := by decide +kernel
theorem dX6_before_2 : decode cX6_before 2 = .ok (.putfield 217, 3) := by decide +kernel
theorem dX6_before_5 : decode cX6_before 5 = .ok (.iload_n 2, 1) := by decide +kernel
theorem dX6_before_6 : decode cX6_before 6 = .ok (.ifCond .le 18, 3) := by decide +kernel
theorem dX6_before_9 : decode cX6_before 9 = .ok (.aload_n 0, 1) := by decide +kernel
theorem dX6_before_10 : decode cX6_before 10 = .ok (.iload_n 1, 1) := by decide +kernel
theorem dX6_before_11 : decode cX6_before 11 = .ok (.iload_n 2, 1) := by decide +kernel
theorem dX6_before_12 : decode cX6_before 12 = .ok (.iconst 1, 1) := by decide +kernel
theorem dX6_before_13 : decode cX6_before 13 = .ok (.isub, 1) := by decide +kernel
theorem dX6_before_14 : decode cX6_before 14 = .ok (.iload_n 2, 1) := by decide +kernel
theorem dX6_before_15 : decode cX6_before 15 = .ok (.iconst 1, 1) := by decide +kernel
theorem dX6_before_16 : decode cX6_before 16 = .ok (.isub, 1) := by decide +kernel
theorem dX6_before_17 : decode cX6_before 17 = .ok (.aload_n 0, 1) := by decide +kernel
theorem dX6_before_18 : decode cX6_before 18 = .ok (.getfield 227, 3) := by decide +kernel
theorem dX6_before_21 : decode cX6_before 21 = .ok (.invokevirtual 276, 3) := by decide +kernel
theorem dX6_before_24 : decode cX6_before 24 = .ok (.aload_n 0, 1) := by decide +kernel
theorem dX6_before_25 : decode cX6_before 25 = .ok (.aload_n 0, 1) := by decide +kernel
theorem dX6_before_26 : decode cX6_before 26 = .ok (.getfield 28, 3) := by decide +kernel
theorem dX6_before_29 : decode cX6_before 29 = .ok (.iload_n 1, 1) := by decide +kernel
theorem dX6_before_30 : decode cX6_before 30 = .ok (.iaload, 1) := by decide +kernel
theorem dX6_before_31 : decode cX6_before 31 = .ok (.putfield 230, 3) := by decide +kernel
theorem dX6_before_34 : decode cX6_before 34 = .ok (.return_, 1) := by decide +kernel
def E_before (R : RS) (a1 : Int32) (a2 : Int32) (R' : RS) (r : Int32) : Prop := if a2 ≤ 0 then (vp_in a1 96 ∧ (R' = (mf (mf R 23 a2) 24 (R.2.1 12 a1.toNatClampNeg)) ∧ r = 0)) else (∃ R2 : RS, E_otherWay (mf R 23 a2) a1 (a2 - 1) (a2 - 1) (R.1 25) R2 0 ∧ (vp_in a1 96 ∧ (R' = (mf R2 24 (R2.2.1 12 a1.toNatClampNeg)) ∧ r = 0)))
set_option maxHeartbeats 4000000 in
set_option maxRecDepth 100000 in
theorem e_before (l : Launch) (G : PG) (h : Nat) (q : Nat → Nat) (R : RS) (a1 : Int32) (a2 : Int32) (R' : RS) (r : Int32) (hE : E_before R a1 a2 R' r) : Cv l yX6_before (Cond.code yX6_before cX6_before 3 none :: aW) { frames := 1, cells := 0, slots := 0, locals := 25 } G (mW G h q R) [.ref h, .int a1, .int a2] (fun (_ : Unit) => True) (fun (_ : Unit) => mW G h q R') 0 0 := by
  refine ofB (y := yX6_before) (G := G) (cc := cX6_before) (maxL := 3) (ret := none) (Qc := fun A => va_Qv (fun (_ : Unit) => True) (oB G A (fun (_ : Unit) => mW G h q R')) A) (by decide) rfl ?_
  intro p e s m below meth c A F hK hA hP hD
  have hS : va_S A s.heap s.heap [] := va_S.rf
  have hx := F.1.1; have hb := F.1.2.1; have hml := F.1.2.2.1; have hts := F.1.2.2.2.2
  have hown : s.vm.findClass RX6 = some m.cls := F.1.2.2.2.1
  have hl := lv_entry ([.ref h, .int a1, .int a2]) (n := 3) (Nat.le_of_ble_eq_true rfl)
  rw [lg_entry_eq]
  generalize (lg_sl ([.ref h, .int a1, .int a2]) ++ List.replicate (3 - (lg_sl ([.ref h, .int a1, .int a2])).length) Slot.unset).toArray = ls at hl ⊢
  have hl : lv_has ls 3 [(0, .ref h), (1, .int a1), (2, .int a2)] := hl
  unfold E_before at hE
  refine lv_aload_n hx hb dX6_before_0 rfl (lv_at hl 0 rfl) ?_
  refine lv_iload_n hx hb dX6_before_1 rfl (lv_at hl 2 rfl) ?_
  refine va_put (D := G.1) (ci := 6) (v := .int a2) (ty := .int) (C := RX6) (T := TX6) (N := 48) hx hb hts inX6 tyX6 tyX6_ok nmX6 hown hK.1 hP hD hS 0 mW_0 rfl 23 (by decide) (hts _ w_869) (fun _ h9 => h9) rfl (by decide +kernel) rfl rfl mF_l23 dX6_before_2 (fun H locs hP hD hS => ?_)
  rw [mW_f23] at hP hD
  refine lv_iload_n hx hb dX6_before_5 rfl (lv_at hl 2 rfl) ?_
  refine lv_if_le (tgt := 24) hx hb dX6_before_6 (by decide) (fun h1 => ?_) (fun h1 => ?_)
  ·
    rw [if_pos h1] at hE
    refine lv_aload_n hx hb dX6_before_24 rfl (lv_at hl 0 rfl) ?_
    refine lv_aload_n hx hb dX6_before_25 rfl (lv_at hl 0 rfl) ?_
    refine va_get (D := G.1) (ci := 6) (C := RX6) (T := TX6) (N := 48) hx hb hts inX6 hown hK.1 hP 0 mW_0 rfl 12 (by decide) (hts _ w_858) (fun _ h9 => h9) mF_12 dX6_before_26 ?_
    refine lv_iload_n hx hb dX6_before_29 rfl (lv_at hl 1 rfl) ?_
    obtain ⟨hin, hE⟩ := hE
    refine va_iald (D := G.1) hx hb hK.1 hP 7 0 mW_g12 rfl hin dX6_before_30 ?_
    refine tp_i (R.2.1 12 a1.toNatClampNeg) rfl ?_
    refine va_put (D := G.1) (ci := 6) (v := .int (R.2.1 12 a1.toNatClampNeg)) (ty := .int) (C := RX6) (T := TX6) (N := 48) hx hb hts inX6 tyX6 tyX6_ok nmX6 hown hK.1 hP hD hS 0 mW_0 rfl 24 (by decide) (hts _ w_870) (fun _ h9 => h9) rfl (by decide +kernel) rfl rfl mF_l24 dX6_before_31 (fun H locs hP hD hS => ?_)
    rw [mW_f24] at hP hD
    obtain ⟨rfl, rfl⟩ := hE
    exact en_v F hS () trivial hP hD (Nat.le_refl _) (Nat.le_refl _) dX6_before_34
  ·
    rw [if_neg h1] at hE
    refine lv_aload_n hx hb dX6_before_9 rfl (lv_at hl 0 rfl) ?_
    refine lv_iload_n hx hb dX6_before_10 rfl (lv_at hl 1 rfl) ?_
    refine lv_iload_n hx hb dX6_before_11 rfl (lv_at hl 2 rfl) ?_
    refine lv_iconst (v := 1) hx hb dX6_before_12 (by decide) ?_
    refine lv_isub hx hb dX6_before_13 ?_
    refine lv_iload_n hx hb dX6_before_14 rfl (lv_at hl 2 rfl) ?_
    refine lv_iconst (v := 1) hx hb dX6_before_15 (by decide) ?_
    refine lv_isub hx hb dX6_before_16 ?_
    refine lv_aload_n hx hb dX6_before_17 rfl (lv_at hl 0 rfl) ?_
    refine va_get (D := G.1) (ci := 6) (C := RX6) (T := TX6) (N := 48) hx hb hts inX6 hown hK.1 hP 0 mW_0 rfl 25 (by decide) (hts _ w_871) (fun _ h9 => h9) mF_25 dX6_before_18 ?_
    refine tp_i (R.1 25) rfl ?_
    obtain ⟨R2, hg, hE⟩ := hE
    refine kA_v (va_runV (As := [.int a1, .int (a2 - 1), .int (a2 - 1), .int (R.1 25)]) (rest := []) F.1 (e_otherWay l G h q (mf R 23 a2) a1 (a2 - 1) (a2 - 1) (R.1 25) R2 0 hg _) (cwV 4 hts (aw_V w_1128 w_1130 ws_X6_otherWay w_6 w_1131) rfl rfl rfl (by decide +kernel) ⟨by decide, by decide⟩) ⟨cS_blind, va_recv (q := (RX6, TX6, 48)) (ci := 6) (q0 := 0) hK.1 hP rfl mW_0, cS_pre hP hD hK⟩ rfl rfl hl.1 rfl (lv_room (Nat.le_of_ble_eq_true rfl)) dX6_before_21 ⟨Nat.le_refl _, Nat.le_refl _⟩) hD hS hA (fun u0 H locs hp hP hD hS => ?_)
    refine lv_aload_n hx hb dX6_before_24 rfl (lv_at hl 0 rfl) ?_
    refine lv_aload_n hx hb dX6_before_25 rfl (lv_at hl 0 rfl) ?_
    refine va_get (D := G.1) (ci := 6) (C := RX6) (T := TX6) (N := 48) hx hb hts inX6 hown hK.1 hP 0 mW_0 rfl 12 (by decide) (hts _ w_858) (fun _ h9 => h9) mF_12 dX6_before_26 ?_
    refine lv_iload_n hx hb dX6_before_29 rfl (lv_at hl 1 rfl) ?_
    obtain ⟨hin, hE⟩ := hE
    refine va_iald (D := G.1) hx hb hK.1 hP 7 0 mW_g12 rfl hin dX6_before_30 ?_
    refine va_put (D := G.1) (ci := 6) (v := .int (R2.2.1 12 a1.toNatClampNeg)) (ty := .int) (C := RX6) (T := TX6) (N := 48) hx hb hts inX6 tyX6 tyX6_ok nmX6 hown hK.1 hP hD hS 0 mW_0 rfl 24 (by decide) (hts _ w_870) (fun _ h9 => h9) rfl (by decide +kernel) rfl rfl mF_l24 dX6_before_31 (fun H locs hP hD hS => ?_)
    rw [mW_f24] at hP hD
    obtain ⟨rfl, rfl⟩ := hE
    exact en_v F hS () trivial hP hD (Nat.le_refl _) (Nat.le_refl _) dX6_before_34

theorem dX6_look_0 : decode cX6_look 0 = .ok (.aload_n 0, 1) := by decide +kernel
theorem dX6_look_1 : decode cX6_look 1 = .ok (.getfield 211, 3) := by decide +kernel
theorem dX6_look_4 : decode cX6_look 4 = .ok (.istore_n 2, 1) := by decide +kernel
theorem dX6_look_5 : decode cX6_look 5 = .ok (.aload_n 0, 1) := by decide +kernel
theorem dX6_look_6 : decode cX6_look 6 = .ok (.getfield 16, 3) := by decide +kernel
theorem dX6_look_9 : decode cX6_look 9 = .ok (.iload_n 1, 1) := by decide +kernel
theorem dX6_look_10 : decode cX6_look 10 = .ok (.iaload, 1) := by decide +kernel
theorem dX6_look_11 : decode cX6_look 11 = .ok (.bipush 13, 2) := by decide +kernel
theorem dX6_look_13 : decode cX6_look 13 = .ok (.if_icmp .ne 17, 3) := by decide +kernel
theorem dX6_look_16 : decode cX6_look 16 = .ok (.aload_n 0, 1) := by decide +kernel
theorem dX6_look_17 : decode cX6_look 17 = .ok (.iconst (-1), 1) := by decide +kernel
theorem dX6_look_18 : decode cX6_look 18 = .ok (.iconst (-1), 1) := by decide +kernel
theorem dX6_look_19 : decode cX6_look 19 = .ok (.aload_n 0, 1) := by decide +kernel
theorem dX6_look_20 : decode cX6_look 20 = .ok (.getfield 217, 3) := by decide +kernel
theorem dX6_look_23 : decode cX6_look 23 = .ok (.aload_n 0, 1) := by decide +kernel
theorem dX6_look_24 : decode cX6_look 24 = .ok (.getfield 227, 3) := by decide +kernel
theorem dX6_look_27 : decode cX6_look 27 = .ok (.invokevirtual 276, 3) := by decide +kernel
theorem dX6_look_30 : decode cX6_look 30 = .ok (.aload_n 0, 1) := by decide +kernel
theorem dX6_look_31 : decode cX6_look 31 = .ok (.aload_n 0, 1) := by decide +kernel
theorem dX6_look_32 : decode cX6_look 32 = .ok (.aload_n 0, 1) := by decide +kernel
theorem dX6_look_33 : decode cX6_look 33 = .ok (.getfield 16, 3) := by decide +kernel
theorem dX6_look_36 : decode cX6_look 36 = .ok (.iload_n 1, 1) := by decide +kernel
theorem dX6_look_37 : decode cX6_look 37 = .ok (.iaload, 1) := by decide +kernel
theorem dX6_look_38 : decode cX6_look 38 = .ok (.iload_n 2, 1) := by decide +kernel
theorem dX6_look_39 : decode cX6_look 39 = .ok (.aload_n 0, 1) := by decide +kernel
theorem dX6_look_40 : decode cX6_look 40 = .ok (.getfield 217, 3) := by decide +kernel
theorem dX6_look_43 : decode cX6_look 43 = .ok (.aload_n 0, 1) := by decide +kernel
theorem dX6_look_44 : decode cX6_look 44 = .ok (.getfield 227, 3) := by decide +kernel
theorem dX6_look_47 : decode cX6_look 47 = .ok (.invokevirtual 223, 3) := by decide +kernel
theorem dX6_look_50 : decode cX6_look 50 = .ok (.putfield 227, 3) := by decide +kernel
theorem dX6_look_53 : decode cX6_look 53 = .ok (.aload_n 0, 1) := by decide +kernel
theorem dX6_look_54 : decode cX6_look 54 = .ok (.iload_n 1, 1) := by decide +kernel
theorem dX6_look_55 : decode cX6_look 55 = .ok (.aload_n 0, 1) := by decide +kernel
theorem dX6_look_56 : decode cX6_look 56 = .ok (.getfield 217, 3) := by decide +kernel
theorem dX6_look_59 : decode cX6_look 59 = .ok (.invokevirtual 248, 3) := by decide +kernel
theorem dX6_look_62 : decode cX6_look 62 = .ok (.iconst 1, 1) := by decide +kernel
theorem dX6_look_63 : decode cX6_look 63 = .ok (.ireturn, 1) := by decide +kernel
def E_look (R : RS) (a1 : Int32) (R' : RS) (r : Int32) : Prop := vp_in a1 96 ∧ (if (R.2.1 8 a1.toNatClampNeg) = 13 then (∃ R6 : RS, E_otherWay R (-1) (-1) (R.1 23) (R.1 25) R6 0 ∧ (vp_in a1 96 ∧ (∃ (R8 : RS) (r9 : Int32), E_link R6 (R6.2.1 8 a1.toNatClampNeg) (R.1 27) (R6.1 23) (R6.1 25) R8 r9 ∧ (∃ R10 : RS, E_before (mf R8 25 r9) a1 (R8.1 23) R10 0 ∧ (R' = R10 ∧ r = 1))))) else (vp_in a1 96 ∧ (∃ (R2 : RS) (r3 : Int32), E_link R (R.2.1 8 a1.toNatClampNeg) (R.1 27) (R.1 23) (R.1 25) R2 r3 ∧ (∃ R4 : RS, E_before (mf R2 25 r3) a1 (R2.1 23) R4 0 ∧ (R' = R4 ∧ r = 1)))))
set_option maxHeartbeats 4000000 in
set_option maxRecDepth 100000 in
theorem e_look (l : Launch) (G : PG) (h : Nat) (q : Nat → Nat) (R : RS) (a1 : Int32) (R' : RS) (r : Int32) (hE : E_look R a1 R' r) : Ci l yX6_look (Cond.code yX6_look cX6_look 3 (some .boolean) :: aW) { frames := 2, cells := 0, slots := 0, locals := 47 } G (mW G h q R) [.ref h, .int a1] (fun (r9 : Int32) (_ : Unit) => r9 = r) (fun (_ : Unit) => mW G h q R') 0 0 := by
  refine ofB (y := yX6_look) (G := G) (cc := cX6_look) (maxL := 3) (ret := (some .boolean)) (Qc := fun A => va_Qi (fun (r9 : Int32) (_ : Unit) => r9 = r) (oB G A (fun (_ : Unit) => mW G h q R')) A) (by decide) rfl ?_
  intro p e s m below meth c A F hK hA hP hD
  have hS : va_S A s.heap s.heap [] := va_S.rf
  have hx := F.1.1; have hb := F.1.2.1; have hml := F.1.2.2.1; have hts := F.1.2.2.2.2
  have hown : s.vm.findClass RX6 = some m.cls := F.1.2.2.2.1
  have hl := lv_entry ([.ref h, .int a1]) (n := 3) (Nat.le_of_ble_eq_true rfl)
  rw [lg_entry_eq]
  generalize (lg_sl ([.ref h, .int a1]) ++ List.replicate (3 - (lg_sl ([.ref h, .int a1])).length) Slot.unset).toArray = ls at hl ⊢
  have hl : lv_has ls 3 [(0, .ref h), (1, .int a1)] := hl
  unfold E_look at hE
  refine lv_aload_n hx hb dX6_look_0 rfl (lv_at hl 0 rfl) ?_
  refine va_get (D := G.1) (ci := 6) (C := RX6) (T := TX6) (N := 48) hx hb hts inX6 hown hK.1 hP 0 mW_0 rfl 27 (by decide) (hts _ w_873) (fun _ h9 => h9) mF_27 dX6_look_1 ?_
  refine lv_istore_n hx hb dX6_look_4 rfl hl (by decide) rfl (fun ls hl => ?_)
  have hl : lv_has ls 3 [(2, .int (R.1 27)), (0, .ref h), (1, .int a1)] := hl
  refine lv_aload_n hx hb dX6_look_5 rfl (lv_at hl 1 rfl) ?_
  refine va_get (D := G.1) (ci := 6) (C := RX6) (T := TX6) (N := 48) hx hb hts inX6 hown hK.1 hP 0 mW_0 rfl 8 (by decide) (hts _ w_854) (fun _ h9 => h9) mF_8 dX6_look_6 ?_
  refine lv_iload_n hx hb dX6_look_9 rfl (lv_at hl 2 rfl) ?_
  obtain ⟨hin, hE⟩ := hE
  refine va_iald (D := G.1) hx hb hK.1 hP 3 0 mW_g8 rfl hin dX6_look_10 ?_
  refine lv_bipush (v := 13) hx hb dX6_look_11 (by decide) ?_
  refine lv_icmp_ne (tgt := 30) hx hb dX6_look_13 (by decide) (fun h1 => ?_) (fun h1 => ?_)
  ·
    rw [if_neg h1] at hE
    refine lv_aload_n hx hb dX6_look_30 rfl (lv_at hl 1 rfl) ?_
    refine lv_aload_n hx hb dX6_look_31 rfl (lv_at hl 1 rfl) ?_
    refine lv_aload_n hx hb dX6_look_32 rfl (lv_at hl 1 rfl) ?_
    refine va_get (D := G.1) (ci := 6) (C := RX6) (T := TX6) (N := 48) hx hb hts inX6 hown hK.1 hP 0 mW_0 rfl 8 (by decide) (hts _ w_854) (fun _ h9 => h9) mF_8 dX6_look_33 ?_
    refine lv_iload_n hx hb dX6_look_36 rfl (lv_at hl 2 rfl) ?_
    obtain ⟨hin, hE⟩ := hE
    refine va_iald (D := G.1) hx hb hK.1 hP 3 0 mW_g8 rfl hin dX6_look_37 ?_
    refine lv_iload_n hx hb dX6_look_38 rfl (lv_at hl 0 rfl) ?_
    refine lv_aload_n hx hb dX6_look_39 rfl (lv_at hl 1 rfl) ?_
    refine va_get (D := G.1) (ci := 6) (C := RX6) (T := TX6) (N := 48) hx hb hts inX6 hown hK.1 hP 0 mW_0 rfl 23 (by decide) (hts _ w_869) (fun _ h9 => h9) mF_23 dX6_look_40 ?_
    refine lv_aload_n hx hb dX6_look_43 rfl (lv_at hl 1 rfl) ?_
    refine va_get (D := G.1) (ci := 6) (C := RX6) (T := TX6) (N := 48) hx hb hts inX6 hown hK.1 hP 0 mW_0 rfl 25 (by decide) (hts _ w_871) (fun _ h9 => h9) mF_25 dX6_look_44 ?_
    obtain ⟨R2, r3, hg, hE⟩ := hE
    refine kA_i (va_runV (As := [.int (R.2.1 8 a1.toNatClampNeg), .int (R.1 27), .int (R.1 23), .int (R.1 25)]) (rest := [.ref h]) F.1 (e_link l G h q R (R.2.1 8 a1.toNatClampNeg) (R.1 27) (R.1 23) (R.1 25) R2 r3 hg _) (cwV 4 hts (aw_V w_1104 w_1106 ws_X6_link w_6 w_1107) rfl rfl rfl (by decide +kernel) ⟨by decide, by decide⟩) ⟨cS_blind, va_recv (q := (RX6, TX6, 48)) (ci := 6) (q0 := 0) hK.1 hP rfl mW_0, cS_pre hP hD hK⟩ rfl rfl hl.1 rfl (lv_room (Nat.le_of_ble_eq_true rfl)) dX6_look_47 ⟨Nat.le_refl _, Nat.le_refl _⟩) hD hS hA (fun r9 u0 H locs hp hP hD hS => ?_)
    have hp := hp.symm; subst hp
    refine va_put (D := G.1) (ci := 6) (v := .int r3) (ty := .int) (C := RX6) (T := TX6) (N := 48) hx hb hts inX6 tyX6 tyX6_ok nmX6 hown hK.1 hP hD hS 0 mW_0 rfl 25 (by decide) (hts _ w_871) (fun _ h9 => h9) rfl (by decide +kernel) rfl rfl mF_l25 dX6_look_50 (fun H locs hP hD hS => ?_)
    rw [mW_f25] at hP hD
    refine lv_aload_n hx hb dX6_look_53 rfl (lv_at hl 1 rfl) ?_
    refine lv_iload_n hx hb dX6_look_54 rfl (lv_at hl 2 rfl) ?_
    refine lv_aload_n hx hb dX6_look_55 rfl (lv_at hl 1 rfl) ?_
    refine va_get (D := G.1) (ci := 6) (C := RX6) (T := TX6) (N := 48) hx hb hts inX6 hown hK.1 hP 0 mW_0 rfl 23 (by decide) (hts _ w_869) (fun _ h9 => h9) mF_23 dX6_look_56 ?_
    refine tp_i (R2.1 23) rfl ?_
    obtain ⟨R4, hg, hE⟩ := hE
    refine kA_v (va_runV (As := [.int a1, .int (R2.1 23)]) (rest := []) F.1 (e_before l G h q (mf R2 25 r3) a1 (R2.1 23) R4 0 hg _) (cwV 2 hts (aw_V w_1176 w_1178 ws_X6_before w_6 w_1179) rfl rfl rfl (by decide +kernel) ⟨by decide, by decide⟩) ⟨cS_blind, va_recv (q := (RX6, TX6, 48)) (ci := 6) (q0 := 0) hK.1 hP rfl mW_0, cS_pre hP hD hK⟩ rfl rfl hl.1 rfl (lv_room (Nat.le_of_ble_eq_true rfl)) dX6_look_59 ⟨Nat.le_refl _, Nat.le_refl _⟩) hD hS hA (fun u0 H locs hp hP hD hS => ?_)
    refine lv_iconst (v := 1) hx hb dX6_look_62 (by decide) ?_
    obtain ⟨rfl, rfl⟩ := hE
    exact en_i F hS _ () (by rfl) rfl hP hD (Nat.le_refl _) (Nat.le_refl _) dX6_look_63
  ·
    rw [if_pos h1] at hE
    refine lv_aload_n hx hb dX6_look_16 rfl (lv_at hl 1 rfl) ?_
    refine lv_iconst (v := (-1)) hx hb dX6_look_17 (by decide) ?_
    refine lv_iconst (v := (-1)) hx hb dX6_look_18 (by decide) ?_
    refine lv_aload_n hx hb dX6_look_19 rfl (lv_at hl 1 rfl) ?_
    refine va_get (D := G.1) (ci := 6) (C := RX6) (T := TX6) (N := 48) hx hb hts inX6 hown hK.1 hP 0 mW_0 rfl 23 (by decide) (hts _ w_869) (fun _ h9 => h9) mF_23 dX6_look_20 ?_
    refine lv_aload_n hx hb dX6_look_23 rfl (lv_at hl 1 rfl) ?_
    refine va_get (D := G.1) (ci := 6) (C := RX6) (T := TX6) (N := 48) hx hb hts inX6 hown hK.1 hP 0 mW_0 rfl 25 (by decide) (hts _ w_871) (fun _ h9 => h9) mF_25 dX6_look_24 ?_
    obtain ⟨R6, hg, hE⟩ := hE
    refine kA_v (va_runV (As := [.int (-1), .int (-1), .int (R.1 23), .int (R.1 25)]) (rest := []) F.1 (e_otherWay l G h q R (-1) (-1) (R.1 23) (R.1 25) R6 0 hg _) (cwV 4 hts (aw_V w_1128 w_1130 ws_X6_otherWay w_6 w_1131) rfl rfl rfl (by decide +kernel) ⟨by decide, by decide⟩) ⟨cS_blind, va_recv (q := (RX6, TX6, 48)) (ci := 6) (q0 := 0) hK.1 hP rfl mW_0, cS_pre hP hD hK⟩ rfl rfl hl.1 rfl (lv_room (Nat.le_of_ble_eq_true rfl)) dX6_look_27 ⟨Nat.le_refl _, Nat.le_refl _⟩) hD hS hA (fun u0 H locs hp hP hD hS => ?_)
    refine lv_aload_n hx hb dX6_look_30 rfl (lv_at hl 1 rfl) ?_
    refine lv_aload_n hx hb dX6_look_31 rfl (lv_at hl 1 rfl) ?_
    refine lv_aload_n hx hb dX6_look_32 rfl (lv_at hl 1 rfl) ?_
    refine va_get (D := G.1) (ci := 6) (C := RX6) (T := TX6) (N := 48) hx hb hts inX6 hown hK.1 hP 0 mW_0 rfl 8 (by decide) (hts _ w_854) (fun _ h9 => h9) mF_8 dX6_look_33 ?_
    refine lv_iload_n hx hb dX6_look_36 rfl (lv_at hl 2 rfl) ?_
    obtain ⟨hin, hE⟩ := hE
    refine va_iald (D := G.1) hx hb hK.1 hP 3 0 mW_g8 rfl hin dX6_look_37 ?_
    refine lv_iload_n hx hb dX6_look_38 rfl (lv_at hl 0 rfl) ?_
    refine lv_aload_n hx hb dX6_look_39 rfl (lv_at hl 1 rfl) ?_
    refine va_get (D := G.1) (ci := 6) (C := RX6) (T := TX6) (N := 48) hx hb hts inX6 hown hK.1 hP 0 mW_0 rfl 23 (by decide) (hts _ w_869) (fun _ h9 => h9) mF_23 dX6_look_40 ?_
    refine lv_aload_n hx hb dX6_look_43 rfl (lv_at hl 1 rfl) ?_
    refine va_get (D := G.1) (ci := 6) (C := RX6) (T := TX6) (N := 48) hx hb hts inX6 hown hK.1 hP 0 mW_0 rfl 25 (by decide) (hts _ w_871) (fun _ h9 => h9) mF_25 dX6_look_44 ?_
    obtain ⟨R8, r9, hg, hE⟩ := hE
    refine kA_i (va_runV (As := [.int (R6.2.1 8 a1.toNatClampNeg), .int (R.1 27), .int (R6.1 23), .int (R6.1 25)]) (rest := [.ref h]) F.1 (e_link l G h q R6 (R6.2.1 8 a1.toNatClampNeg) (R.1 27) (R6.1 23) (R6.1 25) R8 r9 hg _) (cwV 4 hts (aw_V w_1104 w_1106 ws_X6_link w_6 w_1107) rfl rfl rfl (by decide +kernel) ⟨by decide, by decide⟩) ⟨cS_blind, va_recv (q := (RX6, TX6, 48)) (ci := 6) (q0 := 0) hK.1 hP rfl mW_0, cS_pre hP hD hK⟩ rfl rfl hl.1 rfl (lv_room (Nat.le_of_ble_eq_true rfl)) dX6_look_47 ⟨Nat.le_refl _, Nat.le_refl _⟩) hD hS hA (fun r9 u0 H locs hp hP hD hS => ?_)
    have hp := hp.symm; subst hp
    refine va_put (D := G.1) (ci := 6) (v := .int r9) (ty := .int) (C := RX6) (T := TX6) (N := 48) hx hb hts inX6 tyX6 tyX6_ok nmX6 hown hK.1 hP hD hS 0 mW_0 rfl 25 (by decide) (hts _ w_871) (fun _ h9 => h9) rfl (by decide +kernel) rfl rfl mF_l25 dX6_look_50 (fun H locs hP hD hS => ?_)
    rw [mW_f25] at hP hD
    refine lv_aload_n hx hb dX6_look_53 rfl (lv_at hl 1 rfl) ?_
    refine lv_iload_n hx hb dX6_look_54 rfl (lv_at hl 2 rfl) ?_
    refine lv_aload_n hx hb dX6_look_55 rfl (lv_at hl 1 rfl) ?_
    refine va_get (D := G.1) (ci := 6) (C := RX6) (T := TX6) (N := 48) hx hb hts inX6 hown hK.1 hP 0 mW_0 rfl 23 (by decide) (hts _ w_869) (fun _ h9 => h9) mF_23 dX6_look_56 ?_
    refine tp_i (R8.1 23) rfl ?_
    obtain ⟨R10, hg, hE⟩ := hE
    refine kA_v (va_runV (As := [.int a1, .int (R8.1 23)]) (rest := []) F.1 (e_before l G h q (mf R8 25 r9) a1 (R8.1 23) R10 0 hg _) (cwV 2 hts (aw_V w_1176 w_1178 ws_X6_before w_6 w_1179) rfl rfl rfl (by decide +kernel) ⟨by decide, by decide⟩) ⟨cS_blind, va_recv (q := (RX6, TX6, 48)) (ci := 6) (q0 := 0) hK.1 hP rfl mW_0, cS_pre hP hD hK⟩ rfl rfl hl.1 rfl (lv_room (Nat.le_of_ble_eq_true rfl)) dX6_look_59 ⟨Nat.le_refl _, Nat.le_refl _⟩) hD hS hA (fun u0 H locs hp hP hD hS => ?_)
    refine lv_iconst (v := 1) hx hb dX6_look_62 (by decide) ?_
    obtain ⟨rfl, rfl⟩ := hE
    exact en_i F hS _ () (by rfl) rfl hP hD (Nat.le_refl _) (Nat.le_refl _) dX6_look_63

theorem dX6_goThrough_0 : decode cX6_goThrough 0 = .ok (.aload_n 0, 1) := by decide +kernel
theorem dX6_goThrough_1 : decode cX6_goThrough 1 = .ok (.aload_n 0, 1) := by decide +kernel
theorem dX6_goThrough_2 : decode cX6_goThrough 2 = .ok (.bipush 22, 2) := by decide +kernel
theorem dX6_goThrough_4 : decode cX6_goThrough 4 = .ok (.bipush 64, 2) := by decide +kernel
theorem dX6_goThrough_6 : decode cX6_goThrough 6 = .ok (.iload_n 1, 1) := by decide +kernel
theorem dX6_goThrough_7 : decode cX6_goThrough 7 = .ok (.imul, 1) := by decide +kernel
theorem dX6_goThrough_8 : decode cX6_goThrough 8 = .ok (.iload_n 2, 1) := by decide +kernel
theorem dX6_goThrough_9 : decode cX6_goThrough 9 = .ok (.iadd, 1) := by decide +kernel
theorem dX6_goThrough_10 : decode cX6_goThrough 10 = .ok (.iconst 1, 1) := by decide +kernel
theorem dX6_goThrough_11 : decode cX6_goThrough 11 = .ok (.iadd, 1) := by decide +kernel
theorem dX6_goThrough_12 : decode cX6_goThrough 12 = .ok (.aload_n 0, 1) := by decide +kernel
theorem dX6_goThrough_13 : decode cX6_goThrough 13 = .ok (.getfield 217, 3) := by decide +kernel
theorem dX6_goThrough_16 : decode cX6_goThrough 16 = .ok (.aload_n 0, 1) := by decide +kernel
theorem dX6_goThrough_17 : decode cX6_goThrough 17 = .ok (.getfield 227, 3) := by decide +kernel
theorem dX6_goThrough_20 : decode cX6_goThrough 20 = .ok (.invokevirtual 223, 3) := by decide +kernel
theorem dX6_goThrough_23 : decode cX6_goThrough 23 = .ok (.putfield 227, 3) := by decide +kernel
theorem dX6_goThrough_26 : decode cX6_goThrough 26 = .ok (.aload_n 0, 1) := by decide +kernel
theorem dX6_goThrough_27 : decode cX6_goThrough 27 = .ok (.aload_n 0, 1) := by decide +kernel
theorem dX6_goThrough_28 : decode cX6_goThrough 28 = .ok (.getfield 28, 3) := by decide +kernel
theorem dX6_goThrough_31 : decode cX6_goThrough 31 = .ok (.iload_n 1, 1) := by decide +kernel
theorem dX6_goThrough_32 : decode cX6_goThrough 32 = .ok (.iaload, 1) := by decide +kernel
theorem dX6_goThrough_33 : decode cX6_goThrough 33 = .ok (.putfield 230, 3) := by decide +kernel
theorem dX6_goThrough_36 : decode cX6_goThrough 36 = .ok (.return_, 1) := by decide +kernel
def E_goThrough (R : RS) (a1 : Int32) (a2 : Int32) (R' : RS) (r : Int32) : Prop := ∃ (R1 : RS) (r2 : Int32), E_link R 22 (((64 * a1) + a2) + 1) (R.1 23) (R.1 25) R1 r2 ∧ (vp_in a1 96 ∧ (R' = (mf (mf R1 25 r2) 24 (R1.2.1 12 a1.toNatClampNeg)) ∧ r = 0))
set_option maxHeartbeats 4000000 in
set_option maxRecDepth 100000 in
theorem e_goThrough (l : Launch) (G : PG) (h : Nat) (q : Nat → Nat) (R : RS) (a1 : Int32) (a2 : Int32) (R' : RS) (r : Int32) (hE : E_goThrough R a1 a2 R' r) : Cv l yX6_goThrough (Cond.code yX6_goThrough cX6_goThrough 3 none :: aW) { frames := 1, cells := 0, slots := 0, locals := 24 } G (mW G h q R) [.ref h, .int a1, .int a2] (fun (_ : Unit) => True) (fun (_ : Unit) => mW G h q R') 0 0 := by
  refine ofB (y := yX6_goThrough) (G := G) (cc := cX6_goThrough) (maxL := 3) (ret := none) (Qc := fun A => va_Qv (fun (_ : Unit) => True) (oB G A (fun (_ : Unit) => mW G h q R')) A) (by decide) rfl ?_
  intro p e s m below meth c A F hK hA hP hD
  have hS : va_S A s.heap s.heap [] := va_S.rf
  have hx := F.1.1; have hb := F.1.2.1; have hml := F.1.2.2.1; have hts := F.1.2.2.2.2
  have hown : s.vm.findClass RX6 = some m.cls := F.1.2.2.2.1
  have hl := lv_entry ([.ref h, .int a1, .int a2]) (n := 3) (Nat.le_of_ble_eq_true rfl)
  rw [lg_entry_eq]
  generalize (lg_sl ([.ref h, .int a1, .int a2]) ++ List.replicate (3 - (lg_sl ([.ref h, .int a1, .int a2])).length) Slot.unset).toArray = ls at hl ⊢
  have hl : lv_has ls 3 [(0, .ref h), (1, .int a1), (2, .int a2)] := hl
  unfold E_goThrough at hE
  refine lv_aload_n hx hb dX6_goThrough_0 rfl (lv_at hl 0 rfl) ?_
  refine lv_aload_n hx hb dX6_goThrough_1 rfl (lv_at hl 0 rfl) ?_
  refine lv_bipush (v := 22) hx hb dX6_goThrough_2 (by decide) ?_
  refine lv_bipush (v := 64) hx hb dX6_goThrough_4 (by decide) ?_
  refine lv_iload_n hx hb dX6_goThrough_6 rfl (lv_at hl 1 rfl) ?_
  refine lv_imul hx hb dX6_goThrough_7 ?_
  refine lv_iload_n hx hb dX6_goThrough_8 rfl (lv_at hl 2 rfl) ?_
  refine lv_iadd hx hb dX6_goThrough_9 ?_
  refine lv_iconst (v := 1) hx hb dX6_goThrough_10 (by decide) ?_
  refine lv_iadd hx hb dX6_goThrough_11 ?_
  refine lv_aload_n hx hb dX6_goThrough_12 rfl (lv_at hl 0 rfl) ?_
  refine va_get (D := G.1) (ci := 6) (C := RX6) (T := TX6) (N := 48) hx hb hts inX6 hown hK.1 hP 0 mW_0 rfl 23 (by decide) (hts _ w_869) (fun _ h9 => h9) mF_23 dX6_goThrough_13 ?_
  refine lv_aload_n hx hb dX6_goThrough_16 rfl (lv_at hl 0 rfl) ?_
  refine va_get (D := G.1) (ci := 6) (C := RX6) (T := TX6) (N := 48) hx hb hts inX6 hown hK.1 hP 0 mW_0 rfl 25 (by decide) (hts _ w_871) (fun _ h9 => h9) mF_25 dX6_goThrough_17 ?_
  obtain ⟨R1, r2, hg, hE⟩ := hE
  refine kA_i (va_runV (As := [.int 22, .int (((64 * a1) + a2) + 1), .int (R.1 23), .int (R.1 25)]) (rest := [.ref h]) F.1 (e_link l G h q R 22 (((64 * a1) + a2) + 1) (R.1 23) (R.1 25) R1 r2 hg _) (cwV 4 hts (aw_V w_1104 w_1106 ws_X6_link w_6 w_1107) rfl rfl rfl (by decide +kernel) ⟨by decide, by decide⟩) ⟨cS_blind, va_recv (q := (RX6, TX6, 48)) (ci := 6) (q0 := 0) hK.1 hP rfl mW_0, cS_pre hP hD hK⟩ rfl rfl hl.1 rfl (lv_room (Nat.le_of_ble_eq_true rfl)) dX6_goThrough_20 ⟨Nat.le_refl _, Nat.le_refl _⟩) hD hS hA (fun r9 u0 H locs hp hP hD hS => ?_)
  have hp := hp.symm; subst hp
  refine va_put (D := G.1) (ci := 6) (v := .int r2) (ty := .int) (C := RX6) (T := TX6) (N := 48) hx hb hts inX6 tyX6 tyX6_ok nmX6 hown hK.1 hP hD hS 0 mW_0 rfl 25 (by decide) (hts _ w_871) (fun _ h9 => h9) rfl (by decide +kernel) rfl rfl mF_l25 dX6_goThrough_23 (fun H locs hP hD hS => ?_)
  rw [mW_f25] at hP hD
  refine lv_aload_n hx hb dX6_goThrough_26 rfl (lv_at hl 0 rfl) ?_
  refine lv_aload_n hx hb dX6_goThrough_27 rfl (lv_at hl 0 rfl) ?_
  refine va_get (D := G.1) (ci := 6) (C := RX6) (T := TX6) (N := 48) hx hb hts inX6 hown hK.1 hP 0 mW_0 rfl 12 (by decide) (hts _ w_858) (fun _ h9 => h9) mF_12 dX6_goThrough_28 ?_
  refine lv_iload_n hx hb dX6_goThrough_31 rfl (lv_at hl 1 rfl) ?_
  obtain ⟨hin, hE⟩ := hE
  refine va_iald (D := G.1) hx hb hK.1 hP 7 0 mW_g12 rfl hin dX6_goThrough_32 ?_
  refine tp_i (R1.2.1 12 a1.toNatClampNeg) rfl ?_
  refine va_put (D := G.1) (ci := 6) (v := .int (R1.2.1 12 a1.toNatClampNeg)) (ty := .int) (C := RX6) (T := TX6) (N := 48) hx hb hts inX6 tyX6 tyX6_ok nmX6 hown hK.1 hP hD hS 0 mW_0 rfl 24 (by decide) (hts _ w_870) (fun _ h9 => h9) rfl (by decide +kernel) rfl rfl mF_l24 dX6_goThrough_33 (fun H locs hP hD hS => ?_)
  rw [mW_f24] at hP hD
  obtain ⟨rfl, rfl⟩ := hE
  exact en_v F hS () trivial hP hD (Nat.le_refl _) (Nat.le_refl _) dX6_goThrough_36

theorem dX6_turn_0 : decode cX6_turn 0 = .ok (.aload_n 0, 1) := by decide +kernel
theorem dX6_turn_1 : decode cX6_turn 1 = .ok (.iconst (-1), 1) := by decide +kernel
theorem dX6_turn_2 : decode cX6_turn 2 = .ok (.putfield 230, 3) := by decide +kernel
theorem dX6_turn_5 : decode cX6_turn 5 = .ok (.iload_n 2, 1) := by decide +kernel
theorem dX6_turn_6 : decode cX6_turn 6 = .ok (.aload_n 0, 1) := by decide +kernel
theorem dX6_turn_7 : decode cX6_turn 7 = .ok (.getfield 19, 3) := by decide +kernel
theorem dX6_turn_10 : decode cX6_turn 10 = .ok (.iload_n 1, 1) := by decide +kernel
theorem dX6_turn_11 : decode cX6_turn 11 = .ok (.iaload, 1) := by decide +kernel
theorem dX6_turn_12 : decode cX6_turn 12 = .ok (.if_icmp .ge 11, 3) := by decide +kernel
theorem dX6_turn_15 : decode cX6_turn 15 = .ok (.aload_n 0, 1) := by decide +kernel
theorem dX6_turn_16 : decode cX6_turn 16 = .ok (.iload_n 1, 1) := by decide +kernel
theorem dX6_turn_17 : decode cX6_turn 17 = .ok (.iload_n 2, 1) := by decide +kernel
theorem dX6_turn_18 : decode cX6_turn 18 = .ok (.invokevirtual 245, 3) := by decide +kernel
theorem dX6_turn_21 : decode cX6_turn 21 = .ok (.iconst 1, 1) := by decide +kernel
theorem dX6_turn_22 : decode cX6_turn 22 = .ok (.ireturn, 1) := by decide +kernel
theorem dX6_turn_23 : decode cX6_turn 23 = .ok (.aload_n 0, 1) := by decide +kernel
theorem dX6_turn_24 : decode cX6_turn 24 = .ok (.getfield 22, 3) := by decide +kernel
theorem dX6_turn_27 : decode cX6_turn 27 = .ok (.iload_n 1, 1) := by decide +kernel
theorem dX6_turn_28 : decode cX6_turn 28 = .ok (.iaload, 1) := by decide +kernel
theorem dX6_turn_29 : decode cX6_turn 29 = .ok (.iconst (-1), 1) := by decide +kernel
theorem dX6_turn_30 : decode cX6_turn 30 = .ok (.if_icmp .eq 13, 3) := by decide +kernel
theorem dX6_turn_33 : decode cX6_turn 33 = .ok (.iload_n 2, 1) := by decide +kernel
theorem dX6_turn_34 : decode cX6_turn 34 = .ok (.aload_n 0, 1) := by decide +kernel
theorem dX6_turn_35 : decode cX6_turn 35 = .ok (.getfield 22, 3) := by decide +kernel
theorem dX6_turn_38 : decode cX6_turn 38 = .ok (.iload_n 1, 1) := by decide +kernel
theorem dX6_turn_39 : decode cX6_turn 39 = .ok (.iaload, 1) := by decide +kernel
theorem dX6_turn_40 : decode cX6_turn 40 = .ok (.if_icmp .ge 19, 3) := by decide +kernel
theorem dX6_turn_43 : decode cX6_turn 43 = .ok (.iload_n 2, 1) := by decide +kernel
theorem dX6_turn_44 : decode cX6_turn 44 = .ok (.ifCond .eq 11, 3) := by decide +kernel
theorem dX6_turn_47 : decode cX6_turn 47 = .ok (.aload_n 0, 1) := by decide +kernel
theorem dX6_turn_48 : decode cX6_turn 48 = .ok (.getfield 217, 3) := by decide +kernel
theorem dX6_turn_51 : decode cX6_turn 51 = .ok (.iload_n 3, 1) := by decide +kernel
theorem dX6_turn_52 : decode cX6_turn 52 = .ok (.if_icmp .eq 7, 3) := by decide +kernel
theorem dX6_turn_55 : decode cX6_turn 55 = .ok (.iconst 1, 1) := by decide +kernel
theorem dX6_turn_56 : decode cX6_turn 56 = .ok (.goto 4, 3) := by decide +kernel
theorem dX6_turn_59 : decode cX6_turn 59 = .ok (.iconst 0, 1) := by decide +kernel
theorem dX6_turn_60 : decode cX6_turn 60 = .ok (.istore 4, 2) := by decide +kernel
theorem dX6_turn_62 : decode cX6_turn 62 = .ok (.iload 4, 2) := by decide +kernel
theorem dX6_turn_64 : decode cX6_turn 64 = .ok (.ifCond .ne 5, 3) := by decide +kernel
theorem dX6_turn_67 : decode cX6_turn 67 = .ok (.iconst 1, 1) := by decide +kernel
theorem dX6_turn_68 : decode cX6_turn 68 = .ok (.ireturn, 1) := by decide +kernel
theorem dX6_turn_69 : decode cX6_turn 69 = .ok (.aload_n 0, 1) := by decide +kernel
theorem dX6_turn_70 : decode cX6_turn 70 = .ok (.getfield 25, 3) := by decide +kernel
theorem dX6_turn_73 : decode cX6_turn 73 = .ok (.iload_n 1, 1) := by decide +kernel
theorem dX6_turn_74 : decode cX6_turn 74 = .ok (.iaload, 1) := by decide +kernel
theorem dX6_turn_75 : decode cX6_turn 75 = .ok (.iconst 1, 1) := by decide +kernel
theorem dX6_turn_76 : decode cX6_turn 76 = .ok (.if_icmp .ne 20, 3) := by decide +kernel
theorem dX6_turn_79 : decode cX6_turn 79 = .ok (.aload_n 0, 1) := by decide +kernel
theorem dX6_turn_80 : decode cX6_turn 80 = .ok (.iload_n 1, 1) := by decide +kernel
theorem dX6_turn_81 : decode cX6_turn 81 = .ok (.iload_n 2, 1) := by decide +kernel
theorem dX6_turn_82 : decode cX6_turn 82 = .ok (.aload_n 0, 1) := by decide +kernel
theorem dX6_turn_83 : decode cX6_turn 83 = .ok (.getfield 217, 3) := by decide +kernel
theorem dX6_turn_86 : decode cX6_turn 86 = .ok (.aload_n 0, 1) := by decide +kernel
theorem dX6_turn_87 : decode cX6_turn 87 = .ok (.getfield 227, 3) := by decide +kernel
theorem dX6_turn_90 : decode cX6_turn 90 = .ok (.invokevirtual 276, 3) := by decide +kernel
theorem dX6_turn_93 : decode cX6_turn 93 = .ok (.goto 23, 3) := by decide +kernel
theorem dX6_turn_96 : decode cX6_turn 96 = .ok (.aload_n 0, 1) := by decide +kernel
theorem dX6_turn_97 : decode cX6_turn 97 = .ok (.iconst (-1), 1) := by decide +kernel
theorem dX6_turn_98 : decode cX6_turn 98 = .ok (.iconst (-1), 1) := by decide +kernel
theorem dX6_turn_99 : decode cX6_turn 99 = .ok (.aload_n 0, 1) := by decide +kernel
theorem dX6_turn_100 : decode cX6_turn 100 = .ok (.getfield 217, 3) := by decide +kernel
theorem dX6_turn_103 : decode cX6_turn 103 = .ok (.aload_n 0, 1) := by decide +kernel
theorem dX6_turn_104 : decode cX6_turn 104 = .ok (.getfield 227, 3) := by decide +kernel
theorem dX6_turn_107 : decode cX6_turn 107 = .ok (.invokevirtual 276, 3) := by decide +kernel
theorem dX6_turn_110 : decode cX6_turn 110 = .ok (.aload_n 0, 1) := by decide +kernel
theorem dX6_turn_111 : decode cX6_turn 111 = .ok (.iload_n 1, 1) := by decide +kernel
theorem dX6_turn_112 : decode cX6_turn 112 = .ok (.iload_n 2, 1) := by decide +kernel
theorem dX6_turn_113 : decode cX6_turn 113 = .ok (.invokevirtual 245, 3) := by decide +kernel
theorem dX6_turn_116 : decode cX6_turn 116 = .ok (.iconst 1, 1) := by decide +kernel
theorem dX6_turn_117 : decode cX6_turn 117 = .ok (.ireturn, 1) := by decide +kernel
def E_turn (R : RS) (a1 : Int32) (a2 : Int32) (a3 : Int32) (R' : RS) (r : Int32) : Prop := vp_in a1 96 ∧ (if (R.2.1 9 a1.toNatClampNeg) ≤ a2 then (vp_in a1 96 ∧ (if (R.2.1 10 a1.toNatClampNeg) = (-1) then (if (if a2 = 0 then 1 else (if (R.1 23) = a3 then 0 else 1 : Int32) : Int32) = 0 then (R' = (mf R 24 (-1)) ∧ r = 1) else (vp_in a1 96 ∧ (if (R.2.1 11 a1.toNatClampNeg) = 1 then (∃ R12 : RS, E_otherWay (mf R 24 (-1)) a1 a2 (R.1 23) (R.1 25) R12 0 ∧ (R' = R12 ∧ r = 1)) else (∃ R8 : RS, E_otherWay (mf R 24 (-1)) (-1) (-1) (R.1 23) (R.1 25) R8 0 ∧ (∃ R10 : RS, E_goThrough R8 a1 a2 R10 0 ∧ (R' = R10 ∧ r = 1)))))) else (vp_in a1 96 ∧ (if (if (R.2.1 10 a1.toNatClampNeg) ≤ a2 then 0 else (if a2 = 0 then 1 else (if (R.1 23) = a3 then 0 else 1 : Int32) : Int32) : Int32) = 0 then (R' = (mf R 24 (-1)) ∧ r = 1) else (vp_in a1 96 ∧ (if (R.2.1 11 a1.toNatClampNeg) = 1 then (∃ R24 : RS, E_otherWay (mf R 24 (-1)) a1 a2 (R.1 23) (R.1 25) R24 0 ∧ (R' = R24 ∧ r = 1)) else (∃ R20 : RS, E_otherWay (mf R 24 (-1)) (-1) (-1) (R.1 23) (R.1 25) R20 0 ∧ (∃ R22 : RS, E_goThrough R20 a1 a2 R22 0 ∧ (R' = R22 ∧ r = 1))))))))) else (∃ R26 : RS, E_goThrough (mf R 24 (-1)) a1 a2 R26 0 ∧ (R' = R26 ∧ r = 1)))
set_option maxHeartbeats 4000000 in
set_option maxRecDepth 100000 in
theorem e_turn (l : Launch) (G : PG) (h : Nat) (q : Nat → Nat) (R : RS) (a1 : Int32) (a2 : Int32) (a3 : Int32) (R' : RS) (r : Int32) (hE : E_turn R a1 a2 a3 R' r) : Ci l yX6_turn (Cond.code yX6_turn cX6_turn 5 (some .boolean) :: aW) { frames := 2, cells := 0, slots := 0, locals := 46 } G (mW G h q R) [.ref h, .int a1, .int a2, .int a3] (fun (r9 : Int32) (_ : Unit) => r9 = r) (fun (_ : Unit) => mW G h q R') 0 0 := by
  refine ofB (y := yX6_turn) (G := G) (cc := cX6_turn) (maxL := 5) (ret := (some .boolean)) (Qc := fun A => va_Qi (fun (r9 : Int32) (_ : Unit) => r9 = r) (oB G A (fun (_ : Unit) => mW G h q R')) A) (by decide) rfl ?_
  intro p e s m below meth c A F hK hA hP hD
  have hS : va_S A s.heap s.heap [] := va_S.rf
  have hx := F.1.1; have hb := F.1.2.1; have hml := F.1.2.2.1; have hts := F.1.2.2.2.2
  have hown : s.vm.findClass RX6 = some m.cls := F.1.2.2.2.1
  have hl := lv_entry ([.ref h, .int a1, .int a2, .int a3]) (n := 5) (Nat.le_of_ble_eq_true rfl)
  rw [lg_entry_eq]
  generalize (lg_sl ([.ref h, .int a1, .int a2, .int a3]) ++ List.replicate (5 - (lg_sl ([.ref h, .int a1, .int a2, .int a3])).length) Slot.unset).toArray = ls at hl ⊢
  have hl : lv_has ls 5 [(0, .ref h), (1, .int a1), (2, .int a2), (3, .int a3)] := hl
  unfold E_turn at hE
  refine lv_aload_n hx hb dX6_turn_0 rfl (lv_at hl 0 rfl) ?_
  refine lv_iconst (v := (-1)) hx hb dX6_turn_1 (by decide) ?_
  refine va_put (D := G.1) (ci := 6) (v := .int (-1)) (ty := .int) (C := RX6) (T := TX6) (N := 48) hx hb hts inX6 tyX6 tyX6_ok nmX6 hown hK.1 hP hD hS 0 mW_0 rfl 24 (by decide) (hts _ w_870) (fun _ h9 => h9) rfl (by decide +kernel) rfl rfl mF_l24 dX6_turn_2 (fun H locs hP hD hS => ?_)
  rw [mW_f24] at hP hD
  refine lv_iload_n hx hb dX6_turn_5 rfl (lv_at hl 2 rfl) ?_
  refine lv_aload_n hx hb dX6_turn_6 rfl (lv_at hl 0 rfl) ?_
  refine va_get (D := G.1) (ci := 6) (C := RX6) (T := TX6) (N := 48) hx hb hts inX6 hown hK.1 hP 0 mW_0 rfl 9 (by decide) (hts _ w_855) (fun _ h9 => h9) mF_9 dX6_turn_7 ?_
  refine lv_iload_n hx hb dX6_turn_10 rfl (lv_at hl 1 rfl) ?_
  obtain ⟨hin, hE⟩ := hE
  refine va_iald (D := G.1) hx hb hK.1 hP 4 0 mW_g9 rfl hin dX6_turn_11 ?_
  refine tp_i (R.2.1 9 a1.toNatClampNeg) rfl ?_
  refine lv_icmp_ge (tgt := 23) hx hb dX6_turn_12 (by decide) (fun h1 => ?_) (fun h1 => ?_)
  ·
    rw [if_pos h1] at hE
    refine lv_aload_n hx hb dX6_turn_23 rfl (lv_at hl 0 rfl) ?_
    refine va_get (D := G.1) (ci := 6) (C := RX6) (T := TX6) (N := 48) hx hb hts inX6 hown hK.1 hP 0 mW_0 rfl 10 (by decide) (hts _ w_856) (fun _ h9 => h9) mF_10 dX6_turn_24 ?_
    refine lv_iload_n hx hb dX6_turn_27 rfl (lv_at hl 1 rfl) ?_
    obtain ⟨hin, hE⟩ := hE
    refine va_iald (D := G.1) hx hb hK.1 hP 5 0 mW_g10 rfl hin dX6_turn_28 ?_
    refine tp_i (R.2.1 10 a1.toNatClampNeg) rfl ?_
    refine lv_iconst (v := (-1)) hx hb dX6_turn_29 (by decide) ?_
    refine lv_icmp_eq (tgt := 43) hx hb dX6_turn_30 (by decide) (fun h2 => ?_) (fun h2 => ?_)
    ·
      rw [if_pos h2] at hE
      refine lv_iload_n hx hb dX6_turn_43 rfl (lv_at hl 2 rfl) ?_
      refine jn_v (v := (if a2 = 0 then 1 else (if (R.1 23) = a3 then 0 else 1 : Int32) : Int32)) (pcM := 60) (rest := []) (fun kM => ?_) ?_
      ·
        refine lv_if_eq (tgt := 55) hx hb dX6_turn_44 (by decide) (fun h4 => ?_) (fun h4 => ?_)
        ·
          refine lv_iconst (v := 1) hx hb dX6_turn_55 (by decide) ?_
          refine lv_goto (tgt := 60) hx hb dX6_turn_56 (by decide) ?_
          exact kM _ (by try rw [if_pos h4])
        ·
          refine lv_aload_n hx hb dX6_turn_47 rfl (lv_at hl 0 rfl) ?_
          refine va_get (D := G.1) (ci := 6) (C := RX6) (T := TX6) (N := 48) hx hb hts inX6 hown hK.1 hP 0 mW_0 rfl 23 (by decide) (hts _ w_869) (fun _ h9 => h9) mF_23 dX6_turn_48 ?_
          refine tp_i (R.1 23) rfl ?_
          refine lv_iload_n hx hb dX6_turn_51 rfl (lv_at hl 3 rfl) ?_
          refine lv_icmp_eq (tgt := 59) hx hb dX6_turn_52 (by decide) (fun h5 => ?_) (fun h5 => ?_)
          ·
            refine lv_iconst (v := 0) hx hb dX6_turn_59 (by decide) ?_
            exact kM _ (by try rw [if_neg h4]; try rw [if_pos h5])
          ·
            refine lv_iconst (v := 1) hx hb dX6_turn_55 (by decide) ?_
            refine lv_goto (tgt := 60) hx hb dX6_turn_56 (by decide) ?_
            exact kM _ (by try rw [if_neg h4]; try rw [if_neg h5])
      refine lv_istore hx hb dX6_turn_60 hl (by decide) rfl (fun ls hl => ?_)
      have hl : lv_has ls 5 [(4, .int (if a2 = 0 then 1 else (if (R.1 23) = a3 then 0 else 1 : Int32) : Int32)), (0, .ref h), (1, .int a1), (2, .int a2), (3, .int a3)] := hl
      refine lv_iload hx hb dX6_turn_62 (lv_at hl 0 rfl) ?_
      refine lv_if_ne (tgt := 69) hx hb dX6_turn_64 (by decide) (fun h6 => ?_) (fun h6 => ?_)
      ·
        rw [if_neg h6] at hE
        refine lv_aload_n hx hb dX6_turn_69 rfl (lv_at hl 1 rfl) ?_
        refine va_get (D := G.1) (ci := 6) (C := RX6) (T := TX6) (N := 48) hx hb hts inX6 hown hK.1 hP 0 mW_0 rfl 11 (by decide) (hts _ w_857) (fun _ h9 => h9) mF_11 dX6_turn_70 ?_
        refine lv_iload_n hx hb dX6_turn_73 rfl (lv_at hl 2 rfl) ?_
        obtain ⟨hin, hE⟩ := hE
        refine va_iald (D := G.1) hx hb hK.1 hP 6 0 mW_g11 rfl hin dX6_turn_74 ?_
        refine tp_i (R.2.1 11 a1.toNatClampNeg) rfl ?_
        refine lv_iconst (v := 1) hx hb dX6_turn_75 (by decide) ?_
        refine lv_icmp_ne (tgt := 96) hx hb dX6_turn_76 (by decide) (fun h7 => ?_) (fun h7 => ?_)
        ·
          rw [if_neg h7] at hE
          refine lv_aload_n hx hb dX6_turn_96 rfl (lv_at hl 1 rfl) ?_
          refine lv_iconst (v := (-1)) hx hb dX6_turn_97 (by decide) ?_
          refine lv_iconst (v := (-1)) hx hb dX6_turn_98 (by decide) ?_
          refine lv_aload_n hx hb dX6_turn_99 rfl (lv_at hl 1 rfl) ?_
          refine va_get (D := G.1) (ci := 6) (C := RX6) (T := TX6) (N := 48) hx hb hts inX6 hown hK.1 hP 0 mW_0 rfl 23 (by decide) (hts _ w_869) (fun _ h9 => h9) mF_23 dX6_turn_100 ?_
          refine tp_i (R.1 23) rfl ?_
          refine lv_aload_n hx hb dX6_turn_103 rfl (lv_at hl 1 rfl) ?_
          refine va_get (D := G.1) (ci := 6) (C := RX6) (T := TX6) (N := 48) hx hb hts inX6 hown hK.1 hP 0 mW_0 rfl 25 (by decide) (hts _ w_871) (fun _ h9 => h9) mF_25 dX6_turn_104 ?_
          refine tp_i (R.1 25) rfl ?_
          obtain ⟨R8, hg, hE⟩ := hE
          refine kA_v (va_runV (As := [.int (-1), .int (-1), .int (R.1 23), .int (R.1 25)]) (rest := []) F.1 (e_otherWay l G h q (mf R 24 (-1)) (-1) (-1) (R.1 23) (R.1 25) R8 0 hg _) (cwV 4 hts (aw_V w_1128 w_1130 ws_X6_otherWay w_6 w_1131) rfl rfl rfl (by decide +kernel) ⟨by decide, by decide⟩) ⟨cS_blind, va_recv (q := (RX6, TX6, 48)) (ci := 6) (q0 := 0) hK.1 hP rfl mW_0, cS_pre hP hD hK⟩ rfl rfl hl.1 rfl (lv_room (Nat.le_of_ble_eq_true rfl)) dX6_turn_107 ⟨Nat.le_refl _, Nat.le_refl _⟩) hD hS hA (fun u0 H locs hp hP hD hS => ?_)
          refine lv_aload_n hx hb dX6_turn_110 rfl (lv_at hl 1 rfl) ?_
          refine lv_iload_n hx hb dX6_turn_111 rfl (lv_at hl 2 rfl) ?_
          refine lv_iload_n hx hb dX6_turn_112 rfl (lv_at hl 3 rfl) ?_
          obtain ⟨R10, hg, hE⟩ := hE
          refine kA_v (va_runV (As := [.int a1, .int a2]) (rest := []) F.1 (e_goThrough l G h q R8 a1 a2 R10 0 hg _) (cwV 2 hts (aw_V w_1124 w_1126 ws_X6_goThrough w_6 w_1127) rfl rfl rfl (by decide +kernel) ⟨by decide, by decide⟩) ⟨cS_blind, va_recv (q := (RX6, TX6, 48)) (ci := 6) (q0 := 0) hK.1 hP rfl mW_0, cS_pre hP hD hK⟩ rfl rfl hl.1 rfl (lv_room (Nat.le_of_ble_eq_true rfl)) dX6_turn_113 ⟨Nat.le_refl _, Nat.le_refl _⟩) hD hS hA (fun u0 H locs hp hP hD hS => ?_)
          refine lv_iconst (v := 1) hx hb dX6_turn_116 (by decide) ?_
          obtain ⟨rfl, rfl⟩ := hE
          exact en_i F hS _ () (by rfl) rfl hP hD (Nat.le_refl _) (Nat.le_refl _) dX6_turn_117
        ·
          rw [if_pos h7] at hE
          refine lv_aload_n hx hb dX6_turn_79 rfl (lv_at hl 1 rfl) ?_
          refine lv_iload_n hx hb dX6_turn_80 rfl (lv_at hl 2 rfl) ?_
          refine lv_iload_n hx hb dX6_turn_81 rfl (lv_at hl 3 rfl) ?_
          refine lv_aload_n hx hb dX6_turn_82 rfl (lv_at hl 1 rfl) ?_
          refine va_get (D := G.1) (ci := 6) (C := RX6) (T := TX6) (N := 48) hx hb hts inX6 hown hK.1 hP 0 mW_0 rfl 23 (by decide) (hts _ w_869) (fun _ h9 => h9) mF_23 dX6_turn_83 ?_
          refine tp_i (R.1 23) rfl ?_
          refine lv_aload_n hx hb dX6_turn_86 rfl (lv_at hl 1 rfl) ?_
          refine va_get (D := G.1) (ci := 6) (C := RX6) (T := TX6) (N := 48) hx hb hts inX6 hown hK.1 hP 0 mW_0 rfl 25 (by decide) (hts _ w_871) (fun _ h9 => h9) mF_25 dX6_turn_87 ?_
          refine tp_i (R.1 25) rfl ?_
          obtain ⟨R12, hg, hE⟩ := hE
          refine kA_v (va_runV (As := [.int a1, .int a2, .int (R.1 23), .int (R.1 25)]) (rest := []) F.1 (e_otherWay l G h q (mf R 24 (-1)) a1 a2 (R.1 23) (R.1 25) R12 0 hg _) (cwV 4 hts (aw_V w_1128 w_1130 ws_X6_otherWay w_6 w_1131) rfl rfl rfl (by decide +kernel) ⟨by decide, by decide⟩) ⟨cS_blind, va_recv (q := (RX6, TX6, 48)) (ci := 6) (q0 := 0) hK.1 hP rfl mW_0, cS_pre hP hD hK⟩ rfl rfl hl.1 rfl (lv_room (Nat.le_of_ble_eq_true rfl)) dX6_turn_90 ⟨Nat.le_refl _, Nat.le_refl _⟩) hD hS hA (fun u0 H locs hp hP hD hS => ?_)
          refine lv_goto (tgt := 116) hx hb dX6_turn_93 (by decide) ?_
          refine lv_iconst (v := 1) hx hb dX6_turn_116 (by decide) ?_
          obtain ⟨rfl, rfl⟩ := hE
          exact en_i F hS _ () (by rfl) rfl hP hD (Nat.le_refl _) (Nat.le_refl _) dX6_turn_117
      ·
        rw [if_pos h6] at hE
        refine lv_iconst (v := 1) hx hb dX6_turn_67 (by decide) ?_
        obtain ⟨rfl, rfl⟩ := hE
        exact en_i F hS _ () (by rfl) rfl hP hD (Nat.le_refl _) (Nat.le_refl _) dX6_turn_68
    ·
      rw [if_neg h2] at hE
      refine lv_iload_n hx hb dX6_turn_33 rfl (lv_at hl 2 rfl) ?_
      refine lv_aload_n hx hb dX6_turn_34 rfl (lv_at hl 0 rfl) ?_
      refine va_get (D := G.1) (ci := 6) (C := RX6) (T := TX6) (N := 48) hx hb hts inX6 hown hK.1 hP 0 mW_0 rfl 10 (by decide) (hts _ w_856) (fun _ h9 => h9) mF_10 dX6_turn_35 ?_
      refine lv_iload_n hx hb dX6_turn_38 rfl (lv_at hl 1 rfl) ?_
      obtain ⟨hin, hE⟩ := hE
      refine va_iald (D := G.1) hx hb hK.1 hP 5 0 mW_g10 rfl hin dX6_turn_39 ?_
      refine tp_i (R.2.1 10 a1.toNatClampNeg) rfl ?_
      refine jn_v (v := (if (R.2.1 10 a1.toNatClampNeg) ≤ a2 then 0 else (if a2 = 0 then 1 else (if (R.1 23) = a3 then 0 else 1 : Int32) : Int32) : Int32)) (pcM := 60) (rest := []) (fun kM => ?_) ?_
      ·
        refine lv_icmp_ge (tgt := 59) hx hb dX6_turn_40 (by decide) (fun h15 => ?_) (fun h15 => ?_)
        ·
          refine lv_iconst (v := 0) hx hb dX6_turn_59 (by decide) ?_
          exact kM _ (by try rw [if_pos h15])
        ·
          refine lv_iload_n hx hb dX6_turn_43 rfl (lv_at hl 2 rfl) ?_
          refine lv_if_eq (tgt := 55) hx hb dX6_turn_44 (by decide) (fun h16 => ?_) (fun h16 => ?_)
          ·
            refine lv_iconst (v := 1) hx hb dX6_turn_55 (by decide) ?_
            refine lv_goto (tgt := 60) hx hb dX6_turn_56 (by decide) ?_
            exact kM _ (by try rw [if_neg h15]; try rw [if_pos h16])
          ·
            refine lv_aload_n hx hb dX6_turn_47 rfl (lv_at hl 0 rfl) ?_
            refine va_get (D := G.1) (ci := 6) (C := RX6) (T := TX6) (N := 48) hx hb hts inX6 hown hK.1 hP 0 mW_0 rfl 23 (by decide) (hts _ w_869) (fun _ h9 => h9) mF_23 dX6_turn_48 ?_
            refine tp_i (R.1 23) rfl ?_
            refine lv_iload_n hx hb dX6_turn_51 rfl (lv_at hl 3 rfl) ?_
            refine lv_icmp_eq (tgt := 59) hx hb dX6_turn_52 (by decide) (fun h17 => ?_) (fun h17 => ?_)
            ·
              refine lv_iconst (v := 0) hx hb dX6_turn_59 (by decide) ?_
              exact kM _ (by try rw [if_neg h15]; try rw [if_neg h16]; try rw [if_pos h17])
            ·
              refine lv_iconst (v := 1) hx hb dX6_turn_55 (by decide) ?_
              refine lv_goto (tgt := 60) hx hb dX6_turn_56 (by decide) ?_
              exact kM _ (by try rw [if_neg h15]; try rw [if_neg h16]; try rw [if_neg h17])
      refine lv_istore hx hb dX6_turn_60 hl (by decide) rfl (fun ls hl => ?_)
      have hl : lv_has ls 5 [(4, .int (if (R.2.1 10 a1.toNatClampNeg) ≤ a2 then 0 else (if a2 = 0 then 1 else (if (R.1 23) = a3 then 0 else 1 : Int32) : Int32) : Int32)), (0, .ref h), (1, .int a1), (2, .int a2), (3, .int a3)] := hl
      refine lv_iload hx hb dX6_turn_62 (lv_at hl 0 rfl) ?_
      refine lv_if_ne (tgt := 69) hx hb dX6_turn_64 (by decide) (fun h18 => ?_) (fun h18 => ?_)
      ·
        rw [if_neg h18] at hE
        refine lv_aload_n hx hb dX6_turn_69 rfl (lv_at hl 1 rfl) ?_
        refine va_get (D := G.1) (ci := 6) (C := RX6) (T := TX6) (N := 48) hx hb hts inX6 hown hK.1 hP 0 mW_0 rfl 11 (by decide) (hts _ w_857) (fun _ h9 => h9) mF_11 dX6_turn_70 ?_
        refine lv_iload_n hx hb dX6_turn_73 rfl (lv_at hl 2 rfl) ?_
        obtain ⟨hin, hE⟩ := hE
        refine va_iald (D := G.1) hx hb hK.1 hP 6 0 mW_g11 rfl hin dX6_turn_74 ?_
        refine tp_i (R.2.1 11 a1.toNatClampNeg) rfl ?_
        refine lv_iconst (v := 1) hx hb dX6_turn_75 (by decide) ?_
        refine lv_icmp_ne (tgt := 96) hx hb dX6_turn_76 (by decide) (fun h19 => ?_) (fun h19 => ?_)
        ·
          rw [if_neg h19] at hE
          refine lv_aload_n hx hb dX6_turn_96 rfl (lv_at hl 1 rfl) ?_
          refine lv_iconst (v := (-1)) hx hb dX6_turn_97 (by decide) ?_
          refine lv_iconst (v := (-1)) hx hb dX6_turn_98 (by decide) ?_
          refine lv_aload_n hx hb dX6_turn_99 rfl (lv_at hl 1 rfl) ?_
          refine va_get (D := G.1) (ci := 6) (C := RX6) (T := TX6) (N := 48) hx hb hts inX6 hown hK.1 hP 0 mW_0 rfl 23 (by decide) (hts _ w_869) (fun _ h9 => h9) mF_23 dX6_turn_100 ?_
          refine tp_i (R.1 23) rfl ?_
          refine lv_aload_n hx hb dX6_turn_103 rfl (lv_at hl 1 rfl) ?_
          refine va_get (D := G.1) (ci := 6) (C := RX6) (T := TX6) (N := 48) hx hb hts inX6 hown hK.1 hP 0 mW_0 rfl 25 (by decide) (hts _ w_871) (fun _ h9 => h9) mF_25 dX6_turn_104 ?_
          refine tp_i (R.1 25) rfl ?_
          obtain ⟨R20, hg, hE⟩ := hE
          refine kA_v (va_runV (As := [.int (-1), .int (-1), .int (R.1 23), .int (R.1 25)]) (rest := []) F.1 (e_otherWay l G h q (mf R 24 (-1)) (-1) (-1) (R.1 23) (R.1 25) R20 0 hg _) (cwV 4 hts (aw_V w_1128 w_1130 ws_X6_otherWay w_6 w_1131) rfl rfl rfl (by decide +kernel) ⟨by decide, by decide⟩) ⟨cS_blind, va_recv (q := (RX6, TX6, 48)) (ci := 6) (q0 := 0) hK.1 hP rfl mW_0, cS_pre hP hD hK⟩ rfl rfl hl.1 rfl (lv_room (Nat.le_of_ble_eq_true rfl)) dX6_turn_107 ⟨Nat.le_refl _, Nat.le_refl _⟩) hD hS hA (fun u0 H locs hp hP hD hS => ?_)
          refine lv_aload_n hx hb dX6_turn_110 rfl (lv_at hl 1 rfl) ?_
          refine lv_iload_n hx hb dX6_turn_111 rfl (lv_at hl 2 rfl) ?_
          refine lv_iload_n hx hb dX6_turn_112 rfl (lv_at hl 3 rfl) ?_
          obtain ⟨R22, hg, hE⟩ := hE
          refine kA_v (va_runV (As := [.int a1, .int a2]) (rest := []) F.1 (e_goThrough l G h q R20 a1 a2 R22 0 hg _) (cwV 2 hts (aw_V w_1124 w_1126 ws_X6_goThrough w_6 w_1127) rfl rfl rfl (by decide +kernel) ⟨by decide, by decide⟩) ⟨cS_blind, va_recv (q := (RX6, TX6, 48)) (ci := 6) (q0 := 0) hK.1 hP rfl mW_0, cS_pre hP hD hK⟩ rfl rfl hl.1 rfl (lv_room (Nat.le_of_ble_eq_true rfl)) dX6_turn_113 ⟨Nat.le_refl _, Nat.le_refl _⟩) hD hS hA (fun u0 H locs hp hP hD hS => ?_)
          refine lv_iconst (v := 1) hx hb dX6_turn_116 (by decide) ?_
          obtain ⟨rfl, rfl⟩ := hE
          exact en_i F hS _ () (by rfl) rfl hP hD (Nat.le_refl _) (Nat.le_refl _) dX6_turn_117
        ·
          rw [if_pos h19] at hE
          refine lv_aload_n hx hb dX6_turn_79 rfl (lv_at hl 1 rfl) ?_
          refine lv_iload_n hx hb dX6_turn_80 rfl (lv_at hl 2 rfl) ?_
          refine lv_iload_n hx hb dX6_turn_81 rfl (lv_at hl 3 rfl) ?_
          refine lv_aload_n hx hb dX6_turn_82 rfl (lv_at hl 1 rfl) ?_
          refine va_get (D := G.1) (ci := 6) (C := RX6) (T := TX6) (N := 48) hx hb hts inX6 hown hK.1 hP 0 mW_0 rfl 23 (by decide) (hts _ w_869) (fun _ h9 => h9) mF_23 dX6_turn_83 ?_
          refine tp_i (R.1 23) rfl ?_
          refine lv_aload_n hx hb dX6_turn_86 rfl (lv_at hl 1 rfl) ?_
          refine va_get (D := G.1) (ci := 6) (C := RX6) (T := TX6) (N := 48) hx hb hts inX6 hown hK.1 hP 0 mW_0 rfl 25 (by decide) (hts _ w_871) (fun _ h9 => h9) mF_25 dX6_turn_87 ?_
          refine tp_i (R.1 25) rfl ?_
          obtain ⟨R24, hg, hE⟩ := hE
          refine kA_v (va_runV (As := [.int a1, .int a2, .int (R.1 23), .int (R.1 25)]) (rest := []) F.1 (e_otherWay l G h q (mf R 24 (-1)) a1 a2 (R.1 23) (R.1 25) R24 0 hg _) (cwV 4 hts (aw_V w_1128 w_1130 ws_X6_otherWay w_6 w_1131) rfl rfl rfl (by decide +kernel) ⟨by decide, by decide⟩) ⟨cS_blind, va_recv (q := (RX6, TX6, 48)) (ci := 6) (q0 := 0) hK.1 hP rfl mW_0, cS_pre hP hD hK⟩ rfl rfl hl.1 rfl (lv_room (Nat.le_of_ble_eq_true rfl)) dX6_turn_90 ⟨Nat.le_refl _, Nat.le_refl _⟩) hD hS hA (fun u0 H locs hp hP hD hS => ?_)
          refine lv_goto (tgt := 116) hx hb dX6_turn_93 (by decide) ?_
          refine lv_iconst (v := 1) hx hb dX6_turn_116 (by decide) ?_
          obtain ⟨rfl, rfl⟩ := hE
          exact en_i F hS _ () (by rfl) rfl hP hD (Nat.le_refl _) (Nat.le_refl _) dX6_turn_117
      ·
        rw [if_pos h18] at hE
        refine lv_iconst (v := 1) hx hb dX6_turn_67 (by decide) ?_
        obtain ⟨rfl, rfl⟩ := hE
        exact en_i F hS _ () (by rfl) rfl hP hD (Nat.le_refl _) (Nat.le_refl _) dX6_turn_68
  ·
    rw [if_neg h1] at hE
    refine lv_aload_n hx hb dX6_turn_15 rfl (lv_at hl 0 rfl) ?_
    refine lv_iload_n hx hb dX6_turn_16 rfl (lv_at hl 1 rfl) ?_
    refine lv_iload_n hx hb dX6_turn_17 rfl (lv_at hl 2 rfl) ?_
    obtain ⟨R26, hg, hE⟩ := hE
    refine kA_v (va_runV (As := [.int a1, .int a2]) (rest := []) F.1 (e_goThrough l G h q (mf R 24 (-1)) a1 a2 R26 0 hg _) (cwV 2 hts (aw_V w_1124 w_1126 ws_X6_goThrough w_6 w_1127) rfl rfl rfl (by decide +kernel) ⟨by decide, by decide⟩) ⟨cS_blind, va_recv (q := (RX6, TX6, 48)) (ci := 6) (q0 := 0) hK.1 hP rfl mW_0, cS_pre hP hD hK⟩ rfl rfl hl.1 rfl (lv_room (Nat.le_of_ble_eq_true rfl)) dX6_turn_18 ⟨Nat.le_refl _, Nat.le_refl _⟩) hD hS hA (fun u0 H locs hp hP hD hS => ?_)
    refine lv_iconst (v := 1) hx hb dX6_turn_21 (by decide) ?_
    obtain ⟨rfl, rfl⟩ := hE
    exact en_i F hS _ () (by rfl) rfl hP hD (Nat.le_refl _) (Nat.le_refl _) dX6_turn_22

theorem dX6_beginLoop_0 : decode cX6_beginLoop 0 = .ok (.aload_n 0, 1) := by decide +kernel
theorem dX6_beginLoop_1 : decode cX6_beginLoop 1 = .ok (.getfield 25, 3) := by decide +kernel
theorem dX6_beginLoop_4 : decode cX6_beginLoop 4 = .ok (.iload_n 1, 1) := by decide +kernel
theorem dX6_beginLoop_5 : decode cX6_beginLoop 5 = .ok (.iaload, 1) := by decide +kernel
theorem dX6_beginLoop_6 : decode cX6_beginLoop 6 = .ok (.iconst 2, 1) := by decide +kernel
theorem dX6_beginLoop_7 : decode cX6_beginLoop 7 = .ok (.if_icmp .ne 25, 3) := by decide +kernel
theorem dX6_beginLoop_10 : decode cX6_beginLoop 10 = .ok (.aload_n 0, 1) := by decide +kernel
theorem dX6_beginLoop_11 : decode cX6_beginLoop 11 = .ok (.aload_n 0, 1) := by decide +kernel
theorem dX6_beginLoop_12 : decode cX6_beginLoop 12 = .ok (.bipush 14, 2) := by decide +kernel
theorem dX6_beginLoop_14 : decode cX6_beginLoop 14 = .ok (.aload_n 0, 1) := by decide +kernel
theorem dX6_beginLoop_15 : decode cX6_beginLoop 15 = .ok (.getfield 211, 3) := by decide +kernel
theorem dX6_beginLoop_18 : decode cX6_beginLoop 18 = .ok (.aload_n 0, 1) := by decide +kernel
theorem dX6_beginLoop_19 : decode cX6_beginLoop 19 = .ok (.getfield 217, 3) := by decide +kernel
theorem dX6_beginLoop_22 : decode cX6_beginLoop 22 = .ok (.aload_n 0, 1) := by decide +kernel
theorem dX6_beginLoop_23 : decode cX6_beginLoop 23 = .ok (.getfield 227, 3) := by decide +kernel
theorem dX6_beginLoop_26 : decode cX6_beginLoop 26 = .ok (.invokevirtual 223, 3) := by decide +kernel
theorem dX6_beginLoop_29 : decode cX6_beginLoop 29 = .ok (.putfield 227, 3) := by decide +kernel
theorem dX6_beginLoop_32 : decode cX6_beginLoop 32 = .ok (.aload_n 0, 1) := by decide +kernel
theorem dX6_beginLoop_33 : decode cX6_beginLoop 33 = .ok (.iload_n 1, 1) := by decide +kernel
theorem dX6_beginLoop_34 : decode cX6_beginLoop 34 = .ok (.iconst 0, 1) := by decide +kernel
theorem dX6_beginLoop_35 : decode cX6_beginLoop 35 = .ok (.iconst (-1), 1) := by decide +kernel
theorem dX6_beginLoop_36 : decode cX6_beginLoop 36 = .ok (.invokevirtual 286, 3) := by decide +kernel
theorem dX6_beginLoop_39 : decode cX6_beginLoop 39 = .ok (.ireturn, 1) := by decide +kernel
def E_beginLoop (R : RS) (a1 : Int32) (R' : RS) (r : Int32) : Prop := vp_in a1 96 ∧ (if (R.2.1 11 a1.toNatClampNeg) = 2 then (∃ (R4 : RS) (r5 : Int32), E_link R 14 (R.1 27) (R.1 23) (R.1 25) R4 r5 ∧ (∃ (R6 : RS) (r7 : Int32), E_turn (mf R4 25 r5) a1 0 (-1) R6 r7 ∧ (narrow .boolean (.int r7) = .int r7 ∧ R' = R6 ∧ r = r7))) else (∃ (R2 : RS) (r3 : Int32), E_turn R a1 0 (-1) R2 r3 ∧ (narrow .boolean (.int r3) = .int r3 ∧ R' = R2 ∧ r = r3)))
set_option maxHeartbeats 4000000 in
set_option maxRecDepth 100000 in
theorem e_beginLoop (l : Launch) (G : PG) (h : Nat) (q : Nat → Nat) (R : RS) (a1 : Int32) (R' : RS) (r : Int32) (hE : E_beginLoop R a1 R' r) : Ci l yX6_beginLoop (Cond.code yX6_beginLoop cX6_beginLoop 2 (some .boolean) :: aW) { frames := 3, cells := 0, slots := 0, locals := 70 } G (mW G h q R) [.ref h, .int a1] (fun (r9 : Int32) (_ : Unit) => r9 = r) (fun (_ : Unit) => mW G h q R') 0 0 := by
  refine ofB (y := yX6_beginLoop) (G := G) (cc := cX6_beginLoop) (maxL := 2) (ret := (some .boolean)) (Qc := fun A => va_Qi (fun (r9 : Int32) (_ : Unit) => r9 = r) (oB G A (fun (_ : Unit) => mW G h q R')) A) (by decide) rfl ?_
  intro p e s m below meth c A F hK hA hP hD
  have hS : va_S A s.heap s.heap [] := va_S.rf
  have hx := F.1.1; have hb := F.1.2.1; have hml := F.1.2.2.1; have hts := F.1.2.2.2.2
  have hown : s.vm.findClass RX6 = some m.cls := F.1.2.2.2.1
  have hl := lv_entry ([.ref h, .int a1]) (n := 2) (Nat.le_of_ble_eq_true rfl)
  rw [lg_entry_eq]
  generalize (lg_sl ([.ref h, .int a1]) ++ List.replicate (2 - (lg_sl ([.ref h, .int a1])).length) Slot.unset).toArray = ls at hl ⊢
  have hl : lv_has ls 2 [(0, .ref h), (1, .int a1)] := hl
  unfold E_beginLoop at hE
  refine lv_aload_n hx hb dX6_beginLoop_0 rfl (lv_at hl 0 rfl) ?_
  refine va_get (D := G.1) (ci := 6) (C := RX6) (T := TX6) (N := 48) hx hb hts inX6 hown hK.1 hP 0 mW_0 rfl 11 (by decide) (hts _ w_857) (fun _ h9 => h9) mF_11 dX6_beginLoop_1 ?_
  refine lv_iload_n hx hb dX6_beginLoop_4 rfl (lv_at hl 1 rfl) ?_
  obtain ⟨hin, hE⟩ := hE
  refine va_iald (D := G.1) hx hb hK.1 hP 6 0 mW_g11 rfl hin dX6_beginLoop_5 ?_
  refine lv_iconst (v := 2) hx hb dX6_beginLoop_6 (by decide) ?_
  refine lv_icmp_ne (tgt := 32) hx hb dX6_beginLoop_7 (by decide) (fun h1 => ?_) (fun h1 => ?_)
  ·
    rw [if_neg h1] at hE
    refine lv_aload_n hx hb dX6_beginLoop_32 rfl (lv_at hl 0 rfl) ?_
    refine lv_iload_n hx hb dX6_beginLoop_33 rfl (lv_at hl 1 rfl) ?_
    refine lv_iconst (v := 0) hx hb dX6_beginLoop_34 (by decide) ?_
    refine lv_iconst (v := (-1)) hx hb dX6_beginLoop_35 (by decide) ?_
    obtain ⟨R2, r3, hg, hE⟩ := hE
    refine kA_i (va_runV (As := [.int a1, .int 0, .int (-1)]) (rest := []) F.1 (e_turn l G h q R a1 0 (-1) R2 r3 hg _) (cwV 3 hts (aw_V w_1120 w_1122 ws_X6_turn w_6 w_1123) rfl rfl rfl (by decide +kernel) ⟨by decide, by decide⟩) ⟨cS_blind, va_recv (q := (RX6, TX6, 48)) (ci := 6) (q0 := 0) hK.1 hP rfl mW_0, cS_pre hP hD hK⟩ rfl rfl hl.1 rfl (lv_room (Nat.le_of_ble_eq_true rfl)) dX6_beginLoop_36 ⟨Nat.le_refl _, Nat.le_refl _⟩) hD hS hA (fun r9 u0 H locs hp hP hD hS => ?_)
    have hp := hp.symm; subst hp
    obtain ⟨hn, rfl, rfl⟩ := hE
    exact en_i F hS _ () hn rfl hP hD (Nat.le_refl _) (Nat.le_refl _) dX6_beginLoop_39
  ·
    rw [if_pos h1] at hE
    refine lv_aload_n hx hb dX6_beginLoop_10 rfl (lv_at hl 0 rfl) ?_
    refine lv_aload_n hx hb dX6_beginLoop_11 rfl (lv_at hl 0 rfl) ?_
    refine lv_bipush (v := 14) hx hb dX6_beginLoop_12 (by decide) ?_
    refine lv_aload_n hx hb dX6_beginLoop_14 rfl (lv_at hl 0 rfl) ?_
    refine va_get (D := G.1) (ci := 6) (C := RX6) (T := TX6) (N := 48) hx hb hts inX6 hown hK.1 hP 0 mW_0 rfl 27 (by decide) (hts _ w_873) (fun _ h9 => h9) mF_27 dX6_beginLoop_15 ?_
    refine lv_aload_n hx hb dX6_beginLoop_18 rfl (lv_at hl 0 rfl) ?_
    refine va_get (D := G.1) (ci := 6) (C := RX6) (T := TX6) (N := 48) hx hb hts inX6 hown hK.1 hP 0 mW_0 rfl 23 (by decide) (hts _ w_869) (fun _ h9 => h9) mF_23 dX6_beginLoop_19 ?_
    refine lv_aload_n hx hb dX6_beginLoop_22 rfl (lv_at hl 0 rfl) ?_
    refine va_get (D := G.1) (ci := 6) (C := RX6) (T := TX6) (N := 48) hx hb hts inX6 hown hK.1 hP 0 mW_0 rfl 25 (by decide) (hts _ w_871) (fun _ h9 => h9) mF_25 dX6_beginLoop_23 ?_
    obtain ⟨R4, r5, hg, hE⟩ := hE
    refine kA_i (va_runV (As := [.int 14, .int (R.1 27), .int (R.1 23), .int (R.1 25)]) (rest := [.ref h]) F.1 (e_link l G h q R 14 (R.1 27) (R.1 23) (R.1 25) R4 r5 hg _) (cwV 4 hts (aw_V w_1104 w_1106 ws_X6_link w_6 w_1107) rfl rfl rfl (by decide +kernel) ⟨by decide, by decide⟩) ⟨cS_blind, va_recv (q := (RX6, TX6, 48)) (ci := 6) (q0 := 0) hK.1 hP rfl mW_0, cS_pre hP hD hK⟩ rfl rfl hl.1 rfl (lv_room (Nat.le_of_ble_eq_true rfl)) dX6_beginLoop_26 ⟨Nat.le_refl _, Nat.le_refl _⟩) hD hS hA (fun r9 u0 H locs hp hP hD hS => ?_)
    have hp := hp.symm; subst hp
    refine va_put (D := G.1) (ci := 6) (v := .int r5) (ty := .int) (C := RX6) (T := TX6) (N := 48) hx hb hts inX6 tyX6 tyX6_ok nmX6 hown hK.1 hP hD hS 0 mW_0 rfl 25 (by decide) (hts _ w_871) (fun _ h9 => h9) rfl (by decide +kernel) rfl rfl mF_l25 dX6_beginLoop_29 (fun H locs hP hD hS => ?_)
    rw [mW_f25] at hP hD
    refine lv_aload_n hx hb dX6_beginLoop_32 rfl (lv_at hl 0 rfl) ?_
    refine lv_iload_n hx hb dX6_beginLoop_33 rfl (lv_at hl 1 rfl) ?_
    refine lv_iconst (v := 0) hx hb dX6_beginLoop_34 (by decide) ?_
    refine lv_iconst (v := (-1)) hx hb dX6_beginLoop_35 (by decide) ?_
    obtain ⟨R6, r7, hg, hE⟩ := hE
    refine kA_i (va_runV (As := [.int a1, .int 0, .int (-1)]) (rest := []) F.1 (e_turn l G h q (mf R4 25 r5) a1 0 (-1) R6 r7 hg _) (cwV 3 hts (aw_V w_1120 w_1122 ws_X6_turn w_6 w_1123) rfl rfl rfl (by decide +kernel) ⟨by decide, by decide⟩) ⟨cS_blind, va_recv (q := (RX6, TX6, 48)) (ci := 6) (q0 := 0) hK.1 hP rfl mW_0, cS_pre hP hD hK⟩ rfl rfl hl.1 rfl (lv_room (Nat.le_of_ble_eq_true rfl)) dX6_beginLoop_36 ⟨Nat.le_refl _, Nat.le_refl _⟩) hD hS hA (fun r9 u0 H locs hp hP hD hS => ?_)
    have hp := hp.symm; subst hp
    obtain ⟨hn, rfl, rfl⟩ := hE
    exact en_i F hS _ () hn rfl hP hD (Nat.le_refl _) (Nat.le_refl _) dX6_beginLoop_39

theorem dX6_keep_0 : decode cX6_keep 0 = .ok (.aload_n 0, 1) := by decide +kernel
theorem dX6_keep_1 : decode cX6_keep 1 = .ok (.iload_n 1, 1) := by decide +kernel
theorem dX6_keep_2 : decode cX6_keep 2 = .ok (.putfield 227, 3) := by decide +kernel
theorem dX6_keep_5 : decode cX6_keep 5 = .ok (.iconst 0, 1) := by decide +kernel
theorem dX6_keep_6 : decode cX6_keep 6 = .ok (.ireturn, 1) := by decide +kernel
def E_keep (R : RS) (a1 : Int32) (R' : RS) (r : Int32) : Prop := R' = (mf R 25 a1) ∧ r = 0
set_option maxHeartbeats 4000000 in
set_option maxRecDepth 100000 in
theorem e_keep (l : Launch) (G : PG) (h : Nat) (q : Nat → Nat) (R : RS) (a1 : Int32) (R' : RS) (r : Int32) (hE : E_keep R a1 R' r) : Ci l yX6_keep (Cond.code yX6_keep cX6_keep 2 (some .boolean) :: aW) { frames := 0, cells := 0, slots := 0, locals := 0 } G (mW G h q R) [.ref h, .int a1] (fun (r9 : Int32) (_ : Unit) => r9 = r) (fun (_ : Unit) => mW G h q R') 0 0 := by
  refine ofB (y := yX6_keep) (G := G) (cc := cX6_keep) (maxL := 2) (ret := (some .boolean)) (Qc := fun A => va_Qi (fun (r9 : Int32) (_ : Unit) => r9 = r) (oB G A (fun (_ : Unit) => mW G h q R')) A) (by decide) rfl ?_
  intro p e s m below meth c A F hK hA hP hD
  have hS : va_S A s.heap s.heap [] := va_S.rf
  have hx := F.1.1; have hb := F.1.2.1; have hml := F.1.2.2.1; have hts := F.1.2.2.2.2
  have hown : s.vm.findClass RX6 = some m.cls := F.1.2.2.2.1
  have hl := lv_entry ([.ref h, .int a1]) (n := 2) (Nat.le_of_ble_eq_true rfl)
  rw [lg_entry_eq]
  generalize (lg_sl ([.ref h, .int a1]) ++ List.replicate (2 - (lg_sl ([.ref h, .int a1])).length) Slot.unset).toArray = ls at hl ⊢
  have hl : lv_has ls 2 [(0, .ref h), (1, .int a1)] := hl
  unfold E_keep at hE
  refine lv_aload_n hx hb dX6_keep_0 rfl (lv_at hl 0 rfl) ?_
  refine lv_iload_n hx hb dX6_keep_1 rfl (lv_at hl 1 rfl) ?_
  refine va_put (D := G.1) (ci := 6) (v := .int a1) (ty := .int) (C := RX6) (T := TX6) (N := 48) hx hb hts inX6 tyX6 tyX6_ok nmX6 hown hK.1 hP hD hS 0 mW_0 rfl 25 (by decide) (hts _ w_871) (fun _ h9 => h9) rfl (by decide +kernel) rfl rfl mF_l25 dX6_keep_2 (fun H locs hP hD hS => ?_)
  rw [mW_f25] at hP hD
  refine lv_iconst (v := 0) hx hb dX6_keep_5 (by decide) ?_
  obtain ⟨rfl, rfl⟩ := hE
  exact en_i F hS _ () (by rfl) rfl hP hD (Nat.le_refl _) (Nat.le_refl _) dX6_keep_6

theorem dX6_goOn_0 : decode cX6_goOn 0 = .ok (.aload_n 0, 1) := by decide +kernel
theorem dX6_goOn_1 : decode cX6_goOn 1 = .ok (.getfield 227, 3) := by decide +kernel
theorem dX6_goOn_4 : decode cX6_goOn 4 = .ok (.istore_n 1, 1) := by decide +kernel
theorem dX6_goOn_5 : decode cX6_goOn 5 = .ok (.aload_n 0, 1) := by decide +kernel
theorem dX6_goOn_6 : decode cX6_goOn 6 = .ok (.aload_n 0, 1) := by decide +kernel
theorem dX6_goOn_7 : decode cX6_goOn 7 = .ok (.getfield 69, 3) := by decide +kernel
theorem dX6_goOn_10 : decode cX6_goOn 10 = .ok (.iload_n 1, 1) := by decide +kernel
theorem dX6_goOn_11 : decode cX6_goOn 11 = .ok (.iaload, 1) := by decide +kernel
theorem dX6_goOn_12 : decode cX6_goOn 12 = .ok (.putfield 227, 3) := by decide +kernel
theorem dX6_goOn_15 : decode cX6_goOn 15 = .ok (.aload_n 0, 1) := by decide +kernel
theorem dX6_goOn_16 : decode cX6_goOn 16 = .ok (.getfield 60, 3) := by decide +kernel
theorem dX6_goOn_19 : decode cX6_goOn 19 = .ok (.iload_n 1, 1) := by decide +kernel
theorem dX6_goOn_20 : decode cX6_goOn 20 = .ok (.iaload, 1) := by decide +kernel
theorem dX6_goOn_21 : decode cX6_goOn 21 = .ok (.tableswitch 230 10 23 #[196, 218, 230, 230, 184, 230, 230, 230, 230, 230, 104, 115, 155, 71], 71) := by decide +kernel
theorem dX6_goOn_92 : decode cX6_goOn 92 = .ok (.aload_n 0, 1) := by decide +kernel
theorem dX6_goOn_93 : decode cX6_goOn 93 = .ok (.getfield 220, 3) := by decide +kernel
theorem dX6_goOn_96 : decode cX6_goOn 96 = .ok (.iconst (-1), 1) := by decide +kernel
theorem dX6_goOn_97 : decode cX6_goOn 97 = .ok (.if_icmp .eq 22, 3) := by decide +kernel
theorem dX6_goOn_100 : decode cX6_goOn 100 = .ok (.aload_n 0, 1) := by decide +kernel
theorem dX6_goOn_101 : decode cX6_goOn 101 = .ok (.getfield 217, 3) := by decide +kernel
theorem dX6_goOn_104 : decode cX6_goOn 104 = .ok (.aload_n 0, 1) := by decide +kernel
theorem dX6_goOn_105 : decode cX6_goOn 105 = .ok (.getfield 220, 3) := by decide +kernel
theorem dX6_goOn_108 : decode cX6_goOn 108 = .ok (.if_icmp .eq 11, 3) := by decide +kernel
theorem dX6_goOn_111 : decode cX6_goOn 111 = .ok (.aload_n 0, 1) := by decide +kernel
theorem dX6_goOn_112 : decode cX6_goOn 112 = .ok (.iload_n 1, 1) := by decide +kernel
theorem dX6_goOn_113 : decode cX6_goOn 113 = .ok (.invokevirtual 290, 3) := by decide +kernel
theorem dX6_goOn_116 : decode cX6_goOn 116 = .ok (.ifCond .eq 7, 3) := by decide +kernel
theorem dX6_goOn_119 : decode cX6_goOn 119 = .ok (.iconst 1, 1) := by decide +kernel
theorem dX6_goOn_120 : decode cX6_goOn 120 = .ok (.goto 4, 3) := by decide +kernel
theorem dX6_goOn_123 : decode cX6_goOn 123 = .ok (.iconst 0, 1) := by decide +kernel
theorem dX6_goOn_124 : decode cX6_goOn 124 = .ok (.ireturn, 1) := by decide +kernel
theorem dX6_goOn_125 : decode cX6_goOn 125 = .ok (.aload_n 0, 1) := by decide +kernel
theorem dX6_goOn_126 : decode cX6_goOn 126 = .ok (.aload_n 0, 1) := by decide +kernel
theorem dX6_goOn_127 : decode cX6_goOn 127 = .ok (.getfield 63, 3) := by decide +kernel
theorem dX6_goOn_130 : decode cX6_goOn 130 = .ok (.iload_n 1, 1) := by decide +kernel
theorem dX6_goOn_131 : decode cX6_goOn 131 = .ok (.iaload, 1) := by decide +kernel
theorem dX6_goOn_132 : decode cX6_goOn 132 = .ok (.invokevirtual 280, 3) := by decide +kernel
theorem dX6_goOn_135 : decode cX6_goOn 135 = .ok (.ireturn, 1) := by decide +kernel
theorem dX6_goOn_136 : decode cX6_goOn 136 = .ok (.aload_n 0, 1) := by decide +kernel
theorem dX6_goOn_137 : decode cX6_goOn 137 = .ok (.getfield 57, 3) := by decide +kernel
theorem dX6_goOn_140 : decode cX6_goOn 140 = .ok (.iconst 2, 1) := by decide +kernel
theorem dX6_goOn_141 : decode cX6_goOn 141 = .ok (.aload_n 0, 1) := by decide +kernel
theorem dX6_goOn_142 : decode cX6_goOn 142 = .ok (.getfield 63, 3) := by decide +kernel
theorem dX6_goOn_145 : decode cX6_goOn 145 = .ok (.iload_n 1, 1) := by decide +kernel
theorem dX6_goOn_146 : decode cX6_goOn 146 = .ok (.iaload, 1) := by decide +kernel
theorem dX6_goOn_147 : decode cX6_goOn 147 = .ok (.imul, 1) := by decide +kernel
theorem dX6_goOn_148 : decode cX6_goOn 148 = .ok (.aload_n 0, 1) := by decide +kernel
theorem dX6_goOn_149 : decode cX6_goOn 149 = .ok (.getfield 66, 3) := by decide +kernel
theorem dX6_goOn_152 : decode cX6_goOn 152 = .ok (.iload_n 1, 1) := by decide +kernel
theorem dX6_goOn_153 : decode cX6_goOn 153 = .ok (.iaload, 1) := by decide +kernel
theorem dX6_goOn_154 : decode cX6_goOn 154 = .ok (.iastore, 1) := by decide +kernel
theorem dX6_goOn_155 : decode cX6_goOn 155 = .ok (.aload_n 0, 1) := by decide +kernel
theorem dX6_goOn_156 : decode cX6_goOn 156 = .ok (.getfield 57, 3) := by decide +kernel
theorem dX6_goOn_159 : decode cX6_goOn 159 = .ok (.iconst 2, 1) := by decide +kernel
theorem dX6_goOn_160 : decode cX6_goOn 160 = .ok (.aload_n 0, 1) := by decide +kernel
theorem dX6_goOn_161 : decode cX6_goOn 161 = .ok (.getfield 63, 3) := by decide +kernel
theorem dX6_goOn_164 : decode cX6_goOn 164 = .ok (.iload_n 1, 1) := by decide +kernel
theorem dX6_goOn_165 : decode cX6_goOn 165 = .ok (.iaload, 1) := by decide +kernel
theorem dX6_goOn_166 : decode cX6_goOn 166 = .ok (.imul, 1) := by decide +kernel
theorem dX6_goOn_167 : decode cX6_goOn 167 = .ok (.iconst 1, 1) := by decide +kernel
theorem dX6_goOn_168 : decode cX6_goOn 168 = .ok (.iadd, 1) := by decide +kernel
theorem dX6_goOn_169 : decode cX6_goOn 169 = .ok (.aload_n 0, 1) := by decide +kernel
theorem dX6_goOn_170 : decode cX6_goOn 170 = .ok (.getfield 217, 3) := by decide +kernel
theorem dX6_goOn_173 : decode cX6_goOn 173 = .ok (.iastore, 1) := by decide +kernel
theorem dX6_goOn_174 : decode cX6_goOn 174 = .ok (.iconst 1, 1) := by decide +kernel
theorem dX6_goOn_175 : decode cX6_goOn 175 = .ok (.ireturn, 1) := by decide +kernel
theorem dX6_goOn_176 : decode cX6_goOn 176 = .ok (.aload_n 0, 1) := by decide +kernel
theorem dX6_goOn_177 : decode cX6_goOn 177 = .ok (.aload_n 0, 1) := by decide +kernel
theorem dX6_goOn_178 : decode cX6_goOn 178 = .ok (.getfield 63, 3) := by decide +kernel
theorem dX6_goOn_181 : decode cX6_goOn 181 = .ok (.iload_n 1, 1) := by decide +kernel
theorem dX6_goOn_182 : decode cX6_goOn 182 = .ok (.iaload, 1) := by decide +kernel
theorem dX6_goOn_183 : decode cX6_goOn 183 = .ok (.bipush 64, 2) := by decide +kernel
theorem dX6_goOn_185 : decode cX6_goOn 185 = .ok (.idiv, 1) := by decide +kernel
theorem dX6_goOn_186 : decode cX6_goOn 186 = .ok (.aload_n 0, 1) := by decide +kernel
theorem dX6_goOn_187 : decode cX6_goOn 187 = .ok (.getfield 63, 3) := by decide +kernel
theorem dX6_goOn_190 : decode cX6_goOn 190 = .ok (.iload_n 1, 1) := by decide +kernel
theorem dX6_goOn_191 : decode cX6_goOn 191 = .ok (.iaload, 1) := by decide +kernel
theorem dX6_goOn_192 : decode cX6_goOn 192 = .ok (.bipush 64, 2) := by decide +kernel
theorem dX6_goOn_194 : decode cX6_goOn 194 = .ok (.irem, 1) := by decide +kernel
theorem dX6_goOn_195 : decode cX6_goOn 195 = .ok (.aload_n 0, 1) := by decide +kernel
theorem dX6_goOn_196 : decode cX6_goOn 196 = .ok (.getfield 66, 3) := by decide +kernel
theorem dX6_goOn_199 : decode cX6_goOn 199 = .ok (.iload_n 1, 1) := by decide +kernel
theorem dX6_goOn_200 : decode cX6_goOn 200 = .ok (.iaload, 1) := by decide +kernel
theorem dX6_goOn_201 : decode cX6_goOn 201 = .ok (.invokevirtual 286, 3) := by decide +kernel
theorem dX6_goOn_204 : decode cX6_goOn 204 = .ok (.ireturn, 1) := by decide +kernel
theorem dX6_goOn_205 : decode cX6_goOn 205 = .ok (.aload_n 0, 1) := by decide +kernel
theorem dX6_goOn_206 : decode cX6_goOn 206 = .ok (.aload_n 0, 1) := by decide +kernel
theorem dX6_goOn_207 : decode cX6_goOn 207 = .ok (.getfield 63, 3) := by decide +kernel
theorem dX6_goOn_210 : decode cX6_goOn 210 = .ok (.iload_n 1, 1) := by decide +kernel
theorem dX6_goOn_211 : decode cX6_goOn 211 = .ok (.iaload, 1) := by decide +kernel
theorem dX6_goOn_212 : decode cX6_goOn 212 = .ok (.putfield 211, 3) := by decide +kernel
theorem dX6_goOn_215 : decode cX6_goOn 215 = .ok (.iconst 1, 1) := by decide +kernel
theorem dX6_goOn_216 : decode cX6_goOn 216 = .ok (.ireturn, 1) := by decide +kernel
theorem dX6_goOn_217 : decode cX6_goOn 217 = .ok (.aload_n 0, 1) := by decide +kernel
theorem dX6_goOn_218 : decode cX6_goOn 218 = .ok (.aload_n 0, 1) := by decide +kernel
theorem dX6_goOn_219 : decode cX6_goOn 219 = .ok (.getfield 63, 3) := by decide +kernel
theorem dX6_goOn_222 : decode cX6_goOn 222 = .ok (.iload_n 1, 1) := by decide +kernel
theorem dX6_goOn_223 : decode cX6_goOn 223 = .ok (.iaload, 1) := by decide +kernel
theorem dX6_goOn_224 : decode cX6_goOn 224 = .ok (.putfield 211, 3) := by decide +kernel
theorem dX6_goOn_227 : decode cX6_goOn 227 = .ok (.aload_n 0, 1) := by decide +kernel
theorem dX6_goOn_228 : decode cX6_goOn 228 = .ok (.aload_n 0, 1) := by decide +kernel
theorem dX6_goOn_229 : decode cX6_goOn 229 = .ok (.getfield 66, 3) := by decide +kernel
theorem dX6_goOn_232 : decode cX6_goOn 232 = .ok (.iload_n 1, 1) := by decide +kernel
theorem dX6_goOn_233 : decode cX6_goOn 233 = .ok (.iaload, 1) := by decide +kernel
theorem dX6_goOn_234 : decode cX6_goOn 234 = .ok (.putfield 217, 3) := by decide +kernel
theorem dX6_goOn_237 : decode cX6_goOn 237 = .ok (.iconst 1, 1) := by decide +kernel
theorem dX6_goOn_238 : decode cX6_goOn 238 = .ok (.ireturn, 1) := by decide +kernel
theorem dX6_goOn_239 : decode cX6_goOn 239 = .ok (.aload_n 0, 1) := by decide +kernel
theorem dX6_goOn_240 : decode cX6_goOn 240 = .ok (.aload_n 0, 1) := by decide +kernel
theorem dX6_goOn_241 : decode cX6_goOn 241 = .ok (.getfield 63, 3) := by decide +kernel
theorem dX6_goOn_244 : decode cX6_goOn 244 = .ok (.iload_n 1, 1) := by decide +kernel
theorem dX6_goOn_245 : decode cX6_goOn 245 = .ok (.iaload, 1) := by decide +kernel
theorem dX6_goOn_246 : decode cX6_goOn 246 = .ok (.putfield 211, 3) := by decide +kernel
theorem dX6_goOn_249 : decode cX6_goOn 249 = .ok (.iconst 0, 1) := by decide +kernel
theorem dX6_goOn_250 : decode cX6_goOn 250 = .ok (.ireturn, 1) := by decide +kernel
theorem dX6_goOn_251 : decode cX6_goOn 251 = .ok (.aload_n 0, 1) := by decide +kernel
theorem dX6_goOn_252 : decode cX6_goOn 252 = .ok (.getfield 217, 3) := by decide +kernel
theorem dX6_goOn_255 : decode cX6_goOn 255 = .ok (.aload_n 0, 1) := by decide +kernel
theorem dX6_goOn_256 : decode cX6_goOn 256 = .ok (.getfield 66, 3) := by decide +kernel
theorem dX6_goOn_259 : decode cX6_goOn 259 = .ok (.iload_n 1, 1) := by decide +kernel
theorem dX6_goOn_260 : decode cX6_goOn 260 = .ok (.iaload, 1) := by decide +kernel
theorem dX6_goOn_261 : decode cX6_goOn 261 = .ok (.if_icmp .eq 5, 3) := by decide +kernel
theorem dX6_goOn_264 : decode cX6_goOn 264 = .ok (.iconst 0, 1) := by decide +kernel
theorem dX6_goOn_265 : decode cX6_goOn 265 = .ok (.ireturn, 1) := by decide +kernel
theorem dX6_goOn_266 : decode cX6_goOn 266 = .ok (.aload_n 0, 1) := by decide +kernel
theorem dX6_goOn_267 : decode cX6_goOn 267 = .ok (.aload_n 0, 1) := by decide +kernel
theorem dX6_goOn_268 : decode cX6_goOn 268 = .ok (.getfield 63, 3) := by decide +kernel
theorem dX6_goOn_271 : decode cX6_goOn 271 = .ok (.iload_n 1, 1) := by decide +kernel
theorem dX6_goOn_272 : decode cX6_goOn 272 = .ok (.iaload, 1) := by decide +kernel
theorem dX6_goOn_273 : decode cX6_goOn 273 = .ok (.putfield 211, 3) := by decide +kernel
theorem dX6_goOn_276 : decode cX6_goOn 276 = .ok (.aload_n 0, 1) := by decide +kernel
theorem dX6_goOn_277 : decode cX6_goOn 277 = .ok (.getfield 60, 3) := by decide +kernel
theorem dX6_goOn_280 : decode cX6_goOn 280 = .ok (.iload_n 1, 1) := by decide +kernel
theorem dX6_goOn_281 : decode cX6_goOn 281 = .ok (.iaload, 1) := by decide +kernel
theorem dX6_goOn_282 : decode cX6_goOn 282 = .ok (.bipush 12, 2) := by decide +kernel
theorem dX6_goOn_284 : decode cX6_goOn 284 = .ok (.if_icmp .ne 7, 3) := by decide +kernel
theorem dX6_goOn_287 : decode cX6_goOn 287 = .ok (.iconst 1, 1) := by decide +kernel
theorem dX6_goOn_288 : decode cX6_goOn 288 = .ok (.goto 4, 3) := by decide +kernel
theorem dX6_goOn_291 : decode cX6_goOn 291 = .ok (.iconst 0, 1) := by decide +kernel
theorem dX6_goOn_292 : decode cX6_goOn 292 = .ok (.ireturn, 1) := by decide +kernel
def E_goOn (R : RS)  (R' : RS) (r : Int32) : Prop := vp_in (R.1 25) 1000 ∧ (vp_in (R.1 25) 1000 ∧ (if (R.2.1 31 (R.1 25).toNatClampNeg) = 10 then (vp_in (R.1 25) 1000 ∧ (vp_in (R.1 25) 1000 ∧ (R' = (mf (mf (mf R 25 (R.2.1 34 (R.1 25).toNatClampNeg)) 27 (R.2.1 32 (R.1 25).toNatClampNeg)) 23 (R.2.1 33 (R.1 25).toNatClampNeg)) ∧ r = 1))) else (if (R.2.1 31 (R.1 25).toNatClampNeg) = 11 then (vp_in (R.1 25) 1000 ∧ (R' = (mf (mf R 25 (R.2.1 34 (R.1 25).toNatClampNeg)) 27 (R.2.1 32 (R.1 25).toNatClampNeg)) ∧ r = 0)) else (if (R.2.1 31 (R.1 25).toNatClampNeg) = 12 then (vp_in (R.1 25) 1000 ∧ (if (R.1 23) = (R.2.1 33 (R.1 25).toNatClampNeg) then (vp_in (R.1 25) 1000 ∧ (vp_in (R.1 25) 1000 ∧ (narrow .boolean (.int (if (R.2.1 31 (R.1 25).toNatClampNeg) = 12 then 1 else 0 : Int32)) = .int (if (R.2.1 31 (R.1 25).toNatClampNeg) = 12 then 1 else 0 : Int32) ∧ R' = (mf (mf R 25 (R.2.1 34 (R.1 25).toNatClampNeg)) 27 (R.2.1 32 (R.1 25).toNatClampNeg)) ∧ r = (if (R.2.1 31 (R.1 25).toNatClampNeg) = 12 then 1 else 0 : Int32)))) else (R' = (mf R 25 (R.2.1 34 (R.1 25).toNatClampNeg)) ∧ r = 0))) else (if (R.2.1 31 (R.1 25).toNatClampNeg) = 13 then (vp_in (R.1 25) 1000 ∧ (if (R.1 23) = (R.2.1 33 (R.1 25).toNatClampNeg) then (vp_in (R.1 25) 1000 ∧ (vp_in (R.1 25) 1000 ∧ (narrow .boolean (.int (if (R.2.1 31 (R.1 25).toNatClampNeg) = 12 then 1 else 0 : Int32)) = .int (if (R.2.1 31 (R.1 25).toNatClampNeg) = 12 then 1 else 0 : Int32) ∧ R' = (mf (mf R 25 (R.2.1 34 (R.1 25).toNatClampNeg)) 27 (R.2.1 32 (R.1 25).toNatClampNeg)) ∧ r = (if (R.2.1 31 (R.1 25).toNatClampNeg) = 12 then 1 else 0 : Int32)))) else (R' = (mf R 25 (R.2.1 34 (R.1 25).toNatClampNeg)) ∧ r = 0))) else (if (R.2.1 31 (R.1 25).toNatClampNeg) = 14 then (vp_in (R.1 25) 1000 ∧ (R' = (mf (mf R 25 (R.2.1 34 (R.1 25).toNatClampNeg)) 27 (R.2.1 32 (R.1 25).toNatClampNeg)) ∧ r = 1)) else (if (R.2.1 31 (R.1 25).toNatClampNeg) = 15 then (vp_in (R.1 25) 1000 ∧ (if (R.1 23) = (R.2.1 33 (R.1 25).toNatClampNeg) then (vp_in (R.1 25) 1000 ∧ (vp_in (R.1 25) 1000 ∧ (narrow .boolean (.int (if (R.2.1 31 (R.1 25).toNatClampNeg) = 12 then 1 else 0 : Int32)) = .int (if (R.2.1 31 (R.1 25).toNatClampNeg) = 12 then 1 else 0 : Int32) ∧ R' = (mf (mf R 25 (R.2.1 34 (R.1 25).toNatClampNeg)) 27 (R.2.1 32 (R.1 25).toNatClampNeg)) ∧ r = (if (R.2.1 31 (R.1 25).toNatClampNeg) = 12 then 1 else 0 : Int32)))) else (R' = (mf R 25 (R.2.1 34 (R.1 25).toNatClampNeg)) ∧ r = 0))) else (if (R.2.1 31 (R.1 25).toNatClampNeg) = 16 then (vp_in (R.1 25) 1000 ∧ (if (R.1 23) = (R.2.1 33 (R.1 25).toNatClampNeg) then (vp_in (R.1 25) 1000 ∧ (vp_in (R.1 25) 1000 ∧ (narrow .boolean (.int (if (R.2.1 31 (R.1 25).toNatClampNeg) = 12 then 1 else 0 : Int32)) = .int (if (R.2.1 31 (R.1 25).toNatClampNeg) = 12 then 1 else 0 : Int32) ∧ R' = (mf (mf R 25 (R.2.1 34 (R.1 25).toNatClampNeg)) 27 (R.2.1 32 (R.1 25).toNatClampNeg)) ∧ r = (if (R.2.1 31 (R.1 25).toNatClampNeg) = 12 then 1 else 0 : Int32)))) else (R' = (mf R 25 (R.2.1 34 (R.1 25).toNatClampNeg)) ∧ r = 0))) else (if (R.2.1 31 (R.1 25).toNatClampNeg) = 17 then (vp_in (R.1 25) 1000 ∧ (if (R.1 23) = (R.2.1 33 (R.1 25).toNatClampNeg) then (vp_in (R.1 25) 1000 ∧ (vp_in (R.1 25) 1000 ∧ (narrow .boolean (.int (if (R.2.1 31 (R.1 25).toNatClampNeg) = 12 then 1 else 0 : Int32)) = .int (if (R.2.1 31 (R.1 25).toNatClampNeg) = 12 then 1 else 0 : Int32) ∧ R' = (mf (mf R 25 (R.2.1 34 (R.1 25).toNatClampNeg)) 27 (R.2.1 32 (R.1 25).toNatClampNeg)) ∧ r = (if (R.2.1 31 (R.1 25).toNatClampNeg) = 12 then 1 else 0 : Int32)))) else (R' = (mf R 25 (R.2.1 34 (R.1 25).toNatClampNeg)) ∧ r = 0))) else (if (R.2.1 31 (R.1 25).toNatClampNeg) = 18 then (vp_in (R.1 25) 1000 ∧ (if (R.1 23) = (R.2.1 33 (R.1 25).toNatClampNeg) then (vp_in (R.1 25) 1000 ∧ (vp_in (R.1 25) 1000 ∧ (narrow .boolean (.int (if (R.2.1 31 (R.1 25).toNatClampNeg) = 12 then 1 else 0 : Int32)) = .int (if (R.2.1 31 (R.1 25).toNatClampNeg) = 12 then 1 else 0 : Int32) ∧ R' = (mf (mf R 25 (R.2.1 34 (R.1 25).toNatClampNeg)) 27 (R.2.1 32 (R.1 25).toNatClampNeg)) ∧ r = (if (R.2.1 31 (R.1 25).toNatClampNeg) = 12 then 1 else 0 : Int32)))) else (R' = (mf R 25 (R.2.1 34 (R.1 25).toNatClampNeg)) ∧ r = 0))) else (if (R.2.1 31 (R.1 25).toNatClampNeg) = 19 then (vp_in (R.1 25) 1000 ∧ (if (R.1 23) = (R.2.1 33 (R.1 25).toNatClampNeg) then (vp_in (R.1 25) 1000 ∧ (vp_in (R.1 25) 1000 ∧ (narrow .boolean (.int (if (R.2.1 31 (R.1 25).toNatClampNeg) = 12 then 1 else 0 : Int32)) = .int (if (R.2.1 31 (R.1 25).toNatClampNeg) = 12 then 1 else 0 : Int32) ∧ R' = (mf (mf R 25 (R.2.1 34 (R.1 25).toNatClampNeg)) 27 (R.2.1 32 (R.1 25).toNatClampNeg)) ∧ r = (if (R.2.1 31 (R.1 25).toNatClampNeg) = 12 then 1 else 0 : Int32)))) else (R' = (mf R 25 (R.2.1 34 (R.1 25).toNatClampNeg)) ∧ r = 0))) else (if (R.2.1 31 (R.1 25).toNatClampNeg) = 20 then (vp_in (R.1 25) 1000 ∧ (∃ (R33 : RS) (r34 : Int32), E_pieces (mf R 25 (R.2.1 34 (R.1 25).toNatClampNeg)) (R.2.1 32 (R.1 25).toNatClampNeg) R33 r34 ∧ (narrow .boolean (.int r34) = .int r34 ∧ R' = R33 ∧ r = r34))) else (if (R.2.1 31 (R.1 25).toNatClampNeg) = 21 then (vp_in (R.1 25) 1000 ∧ (vp_in (R.1 25) 1000 ∧ (vp_in (2 * (R.2.1 32 (R.1 25).toNatClampNeg)) 10 ∧ (vp_in (R.1 25) 1000 ∧ (vp_in ((2 * (R.2.1 32 (R.1 25).toNatClampNeg)) + 1) 10 ∧ (R' = (ma (ma (mf R 25 (R.2.1 34 (R.1 25).toNatClampNeg)) 30 ((2 * (R.2.1 32 (R.1 25).toNatClampNeg)).toNatClampNeg) (R.2.1 33 (R.1 25).toNatClampNeg)) 30 (((2 * (R.2.1 32 (R.1 25).toNatClampNeg)) + 1).toNatClampNeg) (R.1 23)) ∧ r = 1)))))) else (if (R.2.1 31 (R.1 25).toNatClampNeg) = 22 then (vp_in (R.1 25) 1000 ∧ (vp_in (R.1 25) 1000 ∧ (vp_in (R.1 25) 1000 ∧ (∃ (R37 : RS) (r38 : Int32), E_turn (mf R 25 (R.2.1 34 (R.1 25).toNatClampNeg)) ((R.2.1 32 (R.1 25).toNatClampNeg) / 64) ((R.2.1 32 (R.1 25).toNatClampNeg) - (R.2.1 32 (R.1 25).toNatClampNeg) / 64 * 64) (R.2.1 33 (R.1 25).toNatClampNeg) R37 r38 ∧ (narrow .boolean (.int r38) = .int r38 ∧ R' = R37 ∧ r = r38))))) else (if (R.2.1 31 (R.1 25).toNatClampNeg) = 23 then (if (R.1 28) = (-1) then (R' = (mf R 25 (R.2.1 34 (R.1 25).toNatClampNeg)) ∧ r = 1) else (if (R.1 23) = (R.1 28) then (R' = (mf R 25 (R.2.1 34 (R.1 25).toNatClampNeg)) ∧ r = 1) else (∃ (R42 : RS) (r43 : Int32), E_keep (mf R 25 (R.2.1 34 (R.1 25).toNatClampNeg)) (R.1 25) R42 r43 ∧ (narrow .boolean (.int (if r43 = 0 then 0 else 1 : Int32)) = .int (if r43 = 0 then 0 else 1 : Int32) ∧ R' = R42 ∧ r = (if r43 = 0 then 0 else 1 : Int32))))) else (vp_in (R.1 25) 1000 ∧ (if (R.1 23) = (R.2.1 33 (R.1 25).toNatClampNeg) then (vp_in (R.1 25) 1000 ∧ (vp_in (R.1 25) 1000 ∧ (narrow .boolean (.int (if (R.2.1 31 (R.1 25).toNatClampNeg) = 12 then 1 else 0 : Int32)) = .int (if (R.2.1 31 (R.1 25).toNatClampNeg) = 12 then 1 else 0 : Int32) ∧ R' = (mf (mf R 25 (R.2.1 34 (R.1 25).toNatClampNeg)) 27 (R.2.1 32 (R.1 25).toNatClampNeg)) ∧ r = (if (R.2.1 31 (R.1 25).toNatClampNeg) = 12 then 1 else 0 : Int32)))) else (R' = (mf R 25 (R.2.1 34 (R.1 25).toNatClampNeg)) ∧ r = 0))))))))))))))))))
set_option maxHeartbeats 4000000 in
set_option maxRecDepth 100000 in
theorem e_goOn (l : Launch) (G : PG) (h : Nat) (q : Nat → Nat) (R : RS)  (R' : RS) (r : Int32) (hE : E_goOn R R' r) : Ci l yX6_goOn (Cond.code yX6_goOn cX6_goOn 2 (some .boolean) :: aW) { frames := 3, cells := 0, slots := 0, locals := 70 } G (mW G h q R) [.ref h] (fun (r9 : Int32) (_ : Unit) => r9 = r) (fun (_ : Unit) => mW G h q R') 0 0 := by
  refine ofB (y := yX6_goOn) (G := G) (cc := cX6_goOn) (maxL := 2) (ret := (some .boolean)) (Qc := fun A => va_Qi (fun (r9 : Int32) (_ : Unit) => r9 = r) (oB G A (fun (_ : Unit) => mW G h q R')) A) (by decide) rfl ?_
  intro p e s m below meth c A F hK hA hP hD
  have hS : va_S A s.heap s.heap [] := va_S.rf
  have hx := F.1.1; have hb := F.1.2.1; have hml := F.1.2.2.1; have hts := F.1.2.2.2.2
  have hown : s.vm.findClass RX6 = some m.cls := F.1.2.2.2.1
  have hl := lv_entry ([.ref h]) (n := 2) (Nat.le_of_ble_eq_true rfl)
  rw [lg_entry_eq]
  generalize (lg_sl ([.ref h]) ++ List.replicate (2 - (lg_sl ([.ref h])).length) Slot.unset).toArray = ls at hl ⊢
  have hl : lv_has ls 2 [(0, .ref h)] := hl
  unfold E_goOn at hE
  refine lv_aload_n hx hb dX6_goOn_0 rfl (lv_at hl 0 rfl) ?_
  refine va_get (D := G.1) (ci := 6) (C := RX6) (T := TX6) (N := 48) hx hb hts inX6 hown hK.1 hP 0 mW_0 rfl 25 (by decide) (hts _ w_871) (fun _ h9 => h9) mF_25 dX6_goOn_1 ?_
  refine lv_istore_n hx hb dX6_goOn_4 rfl hl (by decide) rfl (fun ls hl => ?_)
  have hl : lv_has ls 2 [(1, .int (R.1 25)), (0, .ref h)] := hl
  refine lv_aload_n hx hb dX6_goOn_5 rfl (lv_at hl 1 rfl) ?_
  refine lv_aload_n hx hb dX6_goOn_6 rfl (lv_at hl 1 rfl) ?_
  refine va_get (D := G.1) (ci := 6) (C := RX6) (T := TX6) (N := 48) hx hb hts inX6 hown hK.1 hP 0 mW_0 rfl 34 (by decide) (hts _ w_880) (fun _ h9 => h9) mF_34 dX6_goOn_7 ?_
  refine lv_iload_n hx hb dX6_goOn_10 rfl (lv_at hl 0 rfl) ?_
  obtain ⟨hin, hE⟩ := hE
  refine va_iald (D := G.1) hx hb hK.1 hP 20 0 mW_g34 rfl hin dX6_goOn_11 ?_
  refine va_put (D := G.1) (ci := 6) (v := .int (R.2.1 34 (R.1 25).toNatClampNeg)) (ty := .int) (C := RX6) (T := TX6) (N := 48) hx hb hts inX6 tyX6 tyX6_ok nmX6 hown hK.1 hP hD hS 0 mW_0 rfl 25 (by decide) (hts _ w_871) (fun _ h9 => h9) rfl (by decide +kernel) rfl rfl mF_l25 dX6_goOn_12 (fun H locs hP hD hS => ?_)
  rw [mW_f25] at hP hD
  refine lv_aload_n hx hb dX6_goOn_15 rfl (lv_at hl 1 rfl) ?_
  refine va_get (D := G.1) (ci := 6) (C := RX6) (T := TX6) (N := 48) hx hb hts inX6 hown hK.1 hP 0 mW_0 rfl 31 (by decide) (hts _ w_877) (fun _ h9 => h9) mF_31 dX6_goOn_16 ?_
  refine lv_iload_n hx hb dX6_goOn_19 rfl (lv_at hl 0 rfl) ?_
  obtain ⟨hin, hE⟩ := hE
  refine va_iald (D := G.1) hx hb hK.1 hP 17 0 mW_g31 rfl hin dX6_goOn_20 ?_
  refine tp_i (R.2.1 31 (R.1 25).toNatClampNeg) rfl ?_
  by_cases h1 : (R.2.1 31 (R.1 25).toNatClampNeg) = 10
  ·
    rw [if_pos h1] at hE
    refine tp_i 10 h1 ?_
    refine lv_tableIn (tgt := 217) hx hb dX6_goOn_21 (by decide) (by decide) rfl (by decide) ?_
    refine lv_aload_n hx hb dX6_goOn_217 rfl (lv_at hl 1 rfl) ?_
    refine lv_aload_n hx hb dX6_goOn_218 rfl (lv_at hl 1 rfl) ?_
    refine va_get (D := G.1) (ci := 6) (C := RX6) (T := TX6) (N := 48) hx hb hts inX6 hown hK.1 hP 0 mW_0 rfl 32 (by decide) (hts _ w_878) (fun _ h9 => h9) mF_32 dX6_goOn_219 ?_
    refine lv_iload_n hx hb dX6_goOn_222 rfl (lv_at hl 0 rfl) ?_
    obtain ⟨hin, hE⟩ := hE
    refine va_iald (D := G.1) hx hb hK.1 hP 18 0 mW_g32 rfl hin dX6_goOn_223 ?_
    refine tp_i (R.2.1 32 (R.1 25).toNatClampNeg) rfl ?_
    refine va_put (D := G.1) (ci := 6) (v := .int (R.2.1 32 (R.1 25).toNatClampNeg)) (ty := .int) (C := RX6) (T := TX6) (N := 48) hx hb hts inX6 tyX6 tyX6_ok nmX6 hown hK.1 hP hD hS 0 mW_0 rfl 27 (by decide) (hts _ w_873) (fun _ h9 => h9) rfl (by decide +kernel) rfl rfl mF_l27 dX6_goOn_224 (fun H locs hP hD hS => ?_)
    rw [mW_f27] at hP hD
    refine lv_aload_n hx hb dX6_goOn_227 rfl (lv_at hl 1 rfl) ?_
    refine lv_aload_n hx hb dX6_goOn_228 rfl (lv_at hl 1 rfl) ?_
    refine va_get (D := G.1) (ci := 6) (C := RX6) (T := TX6) (N := 48) hx hb hts inX6 hown hK.1 hP 0 mW_0 rfl 33 (by decide) (hts _ w_879) (fun _ h9 => h9) mF_33 dX6_goOn_229 ?_
    refine lv_iload_n hx hb dX6_goOn_232 rfl (lv_at hl 0 rfl) ?_
    obtain ⟨hin, hE⟩ := hE
    refine va_iald (D := G.1) hx hb hK.1 hP 19 0 mW_g33 rfl hin dX6_goOn_233 ?_
    refine tp_i (R.2.1 33 (R.1 25).toNatClampNeg) rfl ?_
    refine va_put (D := G.1) (ci := 6) (v := .int (R.2.1 33 (R.1 25).toNatClampNeg)) (ty := .int) (C := RX6) (T := TX6) (N := 48) hx hb hts inX6 tyX6 tyX6_ok nmX6 hown hK.1 hP hD hS 0 mW_0 rfl 23 (by decide) (hts _ w_869) (fun _ h9 => h9) rfl (by decide +kernel) rfl rfl mF_l23 dX6_goOn_234 (fun H locs hP hD hS => ?_)
    rw [mW_f23] at hP hD
    refine lv_iconst (v := 1) hx hb dX6_goOn_237 (by decide) ?_
    obtain ⟨rfl, rfl⟩ := hE
    exact en_i F hS _ () (by rfl) rfl hP hD (Nat.le_refl _) (Nat.le_refl _) dX6_goOn_238
  rw [if_neg h1] at hE
  by_cases h2 : (R.2.1 31 (R.1 25).toNatClampNeg) = 11
  ·
    rw [if_pos h2] at hE
    refine tp_i 11 h2 ?_
    refine lv_tableIn (tgt := 239) hx hb dX6_goOn_21 (by decide) (by decide) rfl (by decide) ?_
    refine lv_aload_n hx hb dX6_goOn_239 rfl (lv_at hl 1 rfl) ?_
    refine lv_aload_n hx hb dX6_goOn_240 rfl (lv_at hl 1 rfl) ?_
    refine va_get (D := G.1) (ci := 6) (C := RX6) (T := TX6) (N := 48) hx hb hts inX6 hown hK.1 hP 0 mW_0 rfl 32 (by decide) (hts _ w_878) (fun _ h9 => h9) mF_32 dX6_goOn_241 ?_
    refine lv_iload_n hx hb dX6_goOn_244 rfl (lv_at hl 0 rfl) ?_
    obtain ⟨hin, hE⟩ := hE
    refine va_iald (D := G.1) hx hb hK.1 hP 18 0 mW_g32 rfl hin dX6_goOn_245 ?_
    refine tp_i (R.2.1 32 (R.1 25).toNatClampNeg) rfl ?_
    refine va_put (D := G.1) (ci := 6) (v := .int (R.2.1 32 (R.1 25).toNatClampNeg)) (ty := .int) (C := RX6) (T := TX6) (N := 48) hx hb hts inX6 tyX6 tyX6_ok nmX6 hown hK.1 hP hD hS 0 mW_0 rfl 27 (by decide) (hts _ w_873) (fun _ h9 => h9) rfl (by decide +kernel) rfl rfl mF_l27 dX6_goOn_246 (fun H locs hP hD hS => ?_)
    rw [mW_f27] at hP hD
    refine lv_iconst (v := 0) hx hb dX6_goOn_249 (by decide) ?_
    obtain ⟨rfl, rfl⟩ := hE
    exact en_i F hS _ () (by rfl) rfl hP hD (Nat.le_refl _) (Nat.le_refl _) dX6_goOn_250
  rw [if_neg h2] at hE
  by_cases h3 : (R.2.1 31 (R.1 25).toNatClampNeg) = 12
  ·
    rw [if_pos h3] at hE
    refine tp_i 12 h3 ?_
    refine lv_tableIn (tgt := 251) hx hb dX6_goOn_21 (by decide) (by decide) rfl (by decide) ?_
    refine lv_aload_n hx hb dX6_goOn_251 rfl (lv_at hl 1 rfl) ?_
    refine va_get (D := G.1) (ci := 6) (C := RX6) (T := TX6) (N := 48) hx hb hts inX6 hown hK.1 hP 0 mW_0 rfl 23 (by decide) (hts _ w_869) (fun _ h9 => h9) mF_23 dX6_goOn_252 ?_
    refine tp_i (R.1 23) rfl ?_
    refine lv_aload_n hx hb dX6_goOn_255 rfl (lv_at hl 1 rfl) ?_
    refine va_get (D := G.1) (ci := 6) (C := RX6) (T := TX6) (N := 48) hx hb hts inX6 hown hK.1 hP 0 mW_0 rfl 33 (by decide) (hts _ w_879) (fun _ h9 => h9) mF_33 dX6_goOn_256 ?_
    refine lv_iload_n hx hb dX6_goOn_259 rfl (lv_at hl 0 rfl) ?_
    obtain ⟨hin, hE⟩ := hE
    refine va_iald (D := G.1) hx hb hK.1 hP 19 0 mW_g33 rfl hin dX6_goOn_260 ?_
    refine tp_i (R.2.1 33 (R.1 25).toNatClampNeg) rfl ?_
    refine lv_icmp_eq (tgt := 266) hx hb dX6_goOn_261 (by decide) (fun h4 => ?_) (fun h4 => ?_)
    ·
      rw [if_pos h4] at hE
      refine lv_aload_n hx hb dX6_goOn_266 rfl (lv_at hl 1 rfl) ?_
      refine lv_aload_n hx hb dX6_goOn_267 rfl (lv_at hl 1 rfl) ?_
      refine va_get (D := G.1) (ci := 6) (C := RX6) (T := TX6) (N := 48) hx hb hts inX6 hown hK.1 hP 0 mW_0 rfl 32 (by decide) (hts _ w_878) (fun _ h9 => h9) mF_32 dX6_goOn_268 ?_
      refine lv_iload_n hx hb dX6_goOn_271 rfl (lv_at hl 0 rfl) ?_
      obtain ⟨hin, hE⟩ := hE
      refine va_iald (D := G.1) hx hb hK.1 hP 18 0 mW_g32 rfl hin dX6_goOn_272 ?_
      refine tp_i (R.2.1 32 (R.1 25).toNatClampNeg) rfl ?_
      refine va_put (D := G.1) (ci := 6) (v := .int (R.2.1 32 (R.1 25).toNatClampNeg)) (ty := .int) (C := RX6) (T := TX6) (N := 48) hx hb hts inX6 tyX6 tyX6_ok nmX6 hown hK.1 hP hD hS 0 mW_0 rfl 27 (by decide) (hts _ w_873) (fun _ h9 => h9) rfl (by decide +kernel) rfl rfl mF_l27 dX6_goOn_273 (fun H locs hP hD hS => ?_)
      rw [mW_f27] at hP hD
      refine lv_aload_n hx hb dX6_goOn_276 rfl (lv_at hl 1 rfl) ?_
      refine va_get (D := G.1) (ci := 6) (C := RX6) (T := TX6) (N := 48) hx hb hts inX6 hown hK.1 hP 0 mW_0 rfl 31 (by decide) (hts _ w_877) (fun _ h9 => h9) mF_31 dX6_goOn_277 ?_
      refine lv_iload_n hx hb dX6_goOn_280 rfl (lv_at hl 0 rfl) ?_
      obtain ⟨hin, hE⟩ := hE
      refine va_iald (D := G.1) hx hb hK.1 hP 17 0 mW_g31 rfl hin dX6_goOn_281 ?_
      refine tp_i (R.2.1 31 (R.1 25).toNatClampNeg) rfl ?_
      refine lv_bipush (v := 12) hx hb dX6_goOn_282 (by decide) ?_
      refine jn_v (v := (if (R.2.1 31 (R.1 25).toNatClampNeg) = 12 then 1 else 0 : Int32)) (pcM := 292) (rest := []) (fun kM => ?_) ?_
      ·
        refine lv_icmp_ne (tgt := 291) hx hb dX6_goOn_284 (by decide) (fun h6 => ?_) (fun h6 => ?_)
        ·
          refine lv_iconst (v := 0) hx hb dX6_goOn_291 (by decide) ?_
          exact kM _ (by try rw [if_neg h6])
        ·
          refine lv_iconst (v := 1) hx hb dX6_goOn_287 (by decide) ?_
          refine lv_goto (tgt := 292) hx hb dX6_goOn_288 (by decide) ?_
          exact kM _ (by try rw [if_pos h6])
      obtain ⟨hn, rfl, rfl⟩ := hE
      exact en_i F hS _ () hn rfl hP hD (Nat.le_refl _) (Nat.le_refl _) dX6_goOn_292
    ·
      rw [if_neg h4] at hE
      refine lv_iconst (v := 0) hx hb dX6_goOn_264 (by decide) ?_
      obtain ⟨rfl, rfl⟩ := hE
      exact en_i F hS _ () (by rfl) rfl hP hD (Nat.le_refl _) (Nat.le_refl _) dX6_goOn_265
  rw [if_neg h3] at hE
  by_cases h7 : (R.2.1 31 (R.1 25).toNatClampNeg) = 13
  ·
    rw [if_pos h7] at hE
    refine tp_i 13 h7 ?_
    refine lv_tableIn (tgt := 251) hx hb dX6_goOn_21 (by decide) (by decide) rfl (by decide) ?_
    refine lv_aload_n hx hb dX6_goOn_251 rfl (lv_at hl 1 rfl) ?_
    refine va_get (D := G.1) (ci := 6) (C := RX6) (T := TX6) (N := 48) hx hb hts inX6 hown hK.1 hP 0 mW_0 rfl 23 (by decide) (hts _ w_869) (fun _ h9 => h9) mF_23 dX6_goOn_252 ?_
    refine tp_i (R.1 23) rfl ?_
    refine lv_aload_n hx hb dX6_goOn_255 rfl (lv_at hl 1 rfl) ?_
    refine va_get (D := G.1) (ci := 6) (C := RX6) (T := TX6) (N := 48) hx hb hts inX6 hown hK.1 hP 0 mW_0 rfl 33 (by decide) (hts _ w_879) (fun _ h9 => h9) mF_33 dX6_goOn_256 ?_
    refine lv_iload_n hx hb dX6_goOn_259 rfl (lv_at hl 0 rfl) ?_
    obtain ⟨hin, hE⟩ := hE
    refine va_iald (D := G.1) hx hb hK.1 hP 19 0 mW_g33 rfl hin dX6_goOn_260 ?_
    refine tp_i (R.2.1 33 (R.1 25).toNatClampNeg) rfl ?_
    refine lv_icmp_eq (tgt := 266) hx hb dX6_goOn_261 (by decide) (fun h8 => ?_) (fun h8 => ?_)
    ·
      rw [if_pos h8] at hE
      refine lv_aload_n hx hb dX6_goOn_266 rfl (lv_at hl 1 rfl) ?_
      refine lv_aload_n hx hb dX6_goOn_267 rfl (lv_at hl 1 rfl) ?_
      refine va_get (D := G.1) (ci := 6) (C := RX6) (T := TX6) (N := 48) hx hb hts inX6 hown hK.1 hP 0 mW_0 rfl 32 (by decide) (hts _ w_878) (fun _ h9 => h9) mF_32 dX6_goOn_268 ?_
      refine lv_iload_n hx hb dX6_goOn_271 rfl (lv_at hl 0 rfl) ?_
      obtain ⟨hin, hE⟩ := hE
      refine va_iald (D := G.1) hx hb hK.1 hP 18 0 mW_g32 rfl hin dX6_goOn_272 ?_
      refine tp_i (R.2.1 32 (R.1 25).toNatClampNeg) rfl ?_
      refine va_put (D := G.1) (ci := 6) (v := .int (R.2.1 32 (R.1 25).toNatClampNeg)) (ty := .int) (C := RX6) (T := TX6) (N := 48) hx hb hts inX6 tyX6 tyX6_ok nmX6 hown hK.1 hP hD hS 0 mW_0 rfl 27 (by decide) (hts _ w_873) (fun _ h9 => h9) rfl (by decide +kernel) rfl rfl mF_l27 dX6_goOn_273 (fun H locs hP hD hS => ?_)
      rw [mW_f27] at hP hD
      refine lv_aload_n hx hb dX6_goOn_276 rfl (lv_at hl 1 rfl) ?_
      refine va_get (D := G.1) (ci := 6) (C := RX6) (T := TX6) (N := 48) hx hb hts inX6 hown hK.1 hP 0 mW_0 rfl 31 (by decide) (hts _ w_877) (fun _ h9 => h9) mF_31 dX6_goOn_277 ?_
      refine lv_iload_n hx hb dX6_goOn_280 rfl (lv_at hl 0 rfl) ?_
      obtain ⟨hin, hE⟩ := hE
      refine va_iald (D := G.1) hx hb hK.1 hP 17 0 mW_g31 rfl hin dX6_goOn_281 ?_
      refine tp_i (R.2.1 31 (R.1 25).toNatClampNeg) rfl ?_
      refine lv_bipush (v := 12) hx hb dX6_goOn_282 (by decide) ?_
      refine jn_v (v := (if (R.2.1 31 (R.1 25).toNatClampNeg) = 12 then 1 else 0 : Int32)) (pcM := 292) (rest := []) (fun kM => ?_) ?_
      ·
        refine lv_icmp_ne (tgt := 291) hx hb dX6_goOn_284 (by decide) (fun h10 => ?_) (fun h10 => ?_)
        ·
          refine lv_iconst (v := 0) hx hb dX6_goOn_291 (by decide) ?_
          exact kM _ (by try rw [if_neg h10])
        ·
          refine lv_iconst (v := 1) hx hb dX6_goOn_287 (by decide) ?_
          refine lv_goto (tgt := 292) hx hb dX6_goOn_288 (by decide) ?_
          exact kM _ (by try rw [if_pos h10])
      obtain ⟨hn, rfl, rfl⟩ := hE
      exact en_i F hS _ () hn rfl hP hD (Nat.le_refl _) (Nat.le_refl _) dX6_goOn_292
    ·
      rw [if_neg h8] at hE
      refine lv_iconst (v := 0) hx hb dX6_goOn_264 (by decide) ?_
      obtain ⟨rfl, rfl⟩ := hE
      exact en_i F hS _ () (by rfl) rfl hP hD (Nat.le_refl _) (Nat.le_refl _) dX6_goOn_265
  rw [if_neg h7] at hE
  by_cases h11 : (R.2.1 31 (R.1 25).toNatClampNeg) = 14
  ·
    rw [if_pos h11] at hE
    refine tp_i 14 h11 ?_
    refine lv_tableIn (tgt := 205) hx hb dX6_goOn_21 (by decide) (by decide) rfl (by decide) ?_
    refine lv_aload_n hx hb dX6_goOn_205 rfl (lv_at hl 1 rfl) ?_
    refine lv_aload_n hx hb dX6_goOn_206 rfl (lv_at hl 1 rfl) ?_
    refine va_get (D := G.1) (ci := 6) (C := RX6) (T := TX6) (N := 48) hx hb hts inX6 hown hK.1 hP 0 mW_0 rfl 32 (by decide) (hts _ w_878) (fun _ h9 => h9) mF_32 dX6_goOn_207 ?_
    refine lv_iload_n hx hb dX6_goOn_210 rfl (lv_at hl 0 rfl) ?_
    obtain ⟨hin, hE⟩ := hE
    refine va_iald (D := G.1) hx hb hK.1 hP 18 0 mW_g32 rfl hin dX6_goOn_211 ?_
    refine tp_i (R.2.1 32 (R.1 25).toNatClampNeg) rfl ?_
    refine va_put (D := G.1) (ci := 6) (v := .int (R.2.1 32 (R.1 25).toNatClampNeg)) (ty := .int) (C := RX6) (T := TX6) (N := 48) hx hb hts inX6 tyX6 tyX6_ok nmX6 hown hK.1 hP hD hS 0 mW_0 rfl 27 (by decide) (hts _ w_873) (fun _ h9 => h9) rfl (by decide +kernel) rfl rfl mF_l27 dX6_goOn_212 (fun H locs hP hD hS => ?_)
    rw [mW_f27] at hP hD
    refine lv_iconst (v := 1) hx hb dX6_goOn_215 (by decide) ?_
    obtain ⟨rfl, rfl⟩ := hE
    exact en_i F hS _ () (by rfl) rfl hP hD (Nat.le_refl _) (Nat.le_refl _) dX6_goOn_216
  rw [if_neg h11] at hE
  by_cases h12 : (R.2.1 31 (R.1 25).toNatClampNeg) = 15
  ·
    rw [if_pos h12] at hE
    refine tp_i 15 h12 ?_
    refine lv_tableIn (tgt := 251) hx hb dX6_goOn_21 (by decide) (by decide) rfl (by decide) ?_
    refine lv_aload_n hx hb dX6_goOn_251 rfl (lv_at hl 1 rfl) ?_
    refine va_get (D := G.1) (ci := 6) (C := RX6) (T := TX6) (N := 48) hx hb hts inX6 hown hK.1 hP 0 mW_0 rfl 23 (by decide) (hts _ w_869) (fun _ h9 => h9) mF_23 dX6_goOn_252 ?_
    refine tp_i (R.1 23) rfl ?_
    refine lv_aload_n hx hb dX6_goOn_255 rfl (lv_at hl 1 rfl) ?_
    refine va_get (D := G.1) (ci := 6) (C := RX6) (T := TX6) (N := 48) hx hb hts inX6 hown hK.1 hP 0 mW_0 rfl 33 (by decide) (hts _ w_879) (fun _ h9 => h9) mF_33 dX6_goOn_256 ?_
    refine lv_iload_n hx hb dX6_goOn_259 rfl (lv_at hl 0 rfl) ?_
    obtain ⟨hin, hE⟩ := hE
    refine va_iald (D := G.1) hx hb hK.1 hP 19 0 mW_g33 rfl hin dX6_goOn_260 ?_
    refine tp_i (R.2.1 33 (R.1 25).toNatClampNeg) rfl ?_
    refine lv_icmp_eq (tgt := 266) hx hb dX6_goOn_261 (by decide) (fun h13 => ?_) (fun h13 => ?_)
    ·
      rw [if_pos h13] at hE
      refine lv_aload_n hx hb dX6_goOn_266 rfl (lv_at hl 1 rfl) ?_
      refine lv_aload_n hx hb dX6_goOn_267 rfl (lv_at hl 1 rfl) ?_
      refine va_get (D := G.1) (ci := 6) (C := RX6) (T := TX6) (N := 48) hx hb hts inX6 hown hK.1 hP 0 mW_0 rfl 32 (by decide) (hts _ w_878) (fun _ h9 => h9) mF_32 dX6_goOn_268 ?_
      refine lv_iload_n hx hb dX6_goOn_271 rfl (lv_at hl 0 rfl) ?_
      obtain ⟨hin, hE⟩ := hE
      refine va_iald (D := G.1) hx hb hK.1 hP 18 0 mW_g32 rfl hin dX6_goOn_272 ?_
      refine tp_i (R.2.1 32 (R.1 25).toNatClampNeg) rfl ?_
      refine va_put (D := G.1) (ci := 6) (v := .int (R.2.1 32 (R.1 25).toNatClampNeg)) (ty := .int) (C := RX6) (T := TX6) (N := 48) hx hb hts inX6 tyX6 tyX6_ok nmX6 hown hK.1 hP hD hS 0 mW_0 rfl 27 (by decide) (hts _ w_873) (fun _ h9 => h9) rfl (by decide +kernel) rfl rfl mF_l27 dX6_goOn_273 (fun H locs hP hD hS => ?_)
      rw [mW_f27] at hP hD
      refine lv_aload_n hx hb dX6_goOn_276 rfl (lv_at hl 1 rfl) ?_
      refine va_get (D := G.1) (ci := 6) (C := RX6) (T := TX6) (N := 48) hx hb hts inX6 hown hK.1 hP 0 mW_0 rfl 31 (by decide) (hts _ w_877) (fun _ h9 => h9) mF_31 dX6_goOn_277 ?_
      refine lv_iload_n hx hb dX6_goOn_280 rfl (lv_at hl 0 rfl) ?_
      obtain ⟨hin, hE⟩ := hE
      refine va_iald (D := G.1) hx hb hK.1 hP 17 0 mW_g31 rfl hin dX6_goOn_281 ?_
      refine tp_i (R.2.1 31 (R.1 25).toNatClampNeg) rfl ?_
      refine lv_bipush (v := 12) hx hb dX6_goOn_282 (by decide) ?_
      refine jn_v (v := (if (R.2.1 31 (R.1 25).toNatClampNeg) = 12 then 1 else 0 : Int32)) (pcM := 292) (rest := []) (fun kM => ?_) ?_
      ·
        refine lv_icmp_ne (tgt := 291) hx hb dX6_goOn_284 (by decide) (fun h15 => ?_) (fun h15 => ?_)
        ·
          refine lv_iconst (v := 0) hx hb dX6_goOn_291 (by decide) ?_
          exact kM _ (by try rw [if_neg h15])
        ·
          refine lv_iconst (v := 1) hx hb dX6_goOn_287 (by decide) ?_
          refine lv_goto (tgt := 292) hx hb dX6_goOn_288 (by decide) ?_
          exact kM _ (by try rw [if_pos h15])
      obtain ⟨hn, rfl, rfl⟩ := hE
      exact en_i F hS _ () hn rfl hP hD (Nat.le_refl _) (Nat.le_refl _) dX6_goOn_292
    ·
      rw [if_neg h13] at hE
      refine lv_iconst (v := 0) hx hb dX6_goOn_264 (by decide) ?_
      obtain ⟨rfl, rfl⟩ := hE
      exact en_i F hS _ () (by rfl) rfl hP hD (Nat.le_refl _) (Nat.le_refl _) dX6_goOn_265
  rw [if_neg h12] at hE
  by_cases h16 : (R.2.1 31 (R.1 25).toNatClampNeg) = 16
  ·
    rw [if_pos h16] at hE
    refine tp_i 16 h16 ?_
    refine lv_tableIn (tgt := 251) hx hb dX6_goOn_21 (by decide) (by decide) rfl (by decide) ?_
    refine lv_aload_n hx hb dX6_goOn_251 rfl (lv_at hl 1 rfl) ?_
    refine va_get (D := G.1) (ci := 6) (C := RX6) (T := TX6) (N := 48) hx hb hts inX6 hown hK.1 hP 0 mW_0 rfl 23 (by decide) (hts _ w_869) (fun _ h9 => h9) mF_23 dX6_goOn_252 ?_
    refine tp_i (R.1 23) rfl ?_
    refine lv_aload_n hx hb dX6_goOn_255 rfl (lv_at hl 1 rfl) ?_
    refine va_get (D := G.1) (ci := 6) (C := RX6) (T := TX6) (N := 48) hx hb hts inX6 hown hK.1 hP 0 mW_0 rfl 33 (by decide) (hts _ w_879) (fun _ h9 => h9) mF_33 dX6_goOn_256 ?_
    refine lv_iload_n hx hb dX6_goOn_259 rfl (lv_at hl 0 rfl) ?_
    obtain ⟨hin, hE⟩ := hE
    refine va_iald (D := G.1) hx hb hK.1 hP 19 0 mW_g33 rfl hin dX6_goOn_260 ?_
    refine tp_i (R.2.1 33 (R.1 25).toNatClampNeg) rfl ?_
    refine lv_icmp_eq (tgt := 266) hx hb dX6_goOn_261 (by decide) (fun h17 => ?_) (fun h17 => ?_)
    ·
      rw [if_pos h17] at hE
      refine lv_aload_n hx hb dX6_goOn_266 rfl (lv_at hl 1 rfl) ?_
      refine lv_aload_n hx hb dX6_goOn_267 rfl (lv_at hl 1 rfl) ?_
      refine va_get (D := G.1) (ci := 6) (C := RX6) (T := TX6) (N := 48) hx hb hts inX6 hown hK.1 hP 0 mW_0 rfl 32 (by decide) (hts _ w_878) (fun _ h9 => h9) mF_32 dX6_goOn_268 ?_
      refine lv_iload_n hx hb dX6_goOn_271 rfl (lv_at hl 0 rfl) ?_
      obtain ⟨hin, hE⟩ := hE
      refine va_iald (D := G.1) hx hb hK.1 hP 18 0 mW_g32 rfl hin dX6_goOn_272 ?_
      refine tp_i (R.2.1 32 (R.1 25).toNatClampNeg) rfl ?_
      refine va_put (D := G.1) (ci := 6) (v := .int (R.2.1 32 (R.1 25).toNatClampNeg)) (ty := .int) (C := RX6) (T := TX6) (N := 48) hx hb hts inX6 tyX6 tyX6_ok nmX6 hown hK.1 hP hD hS 0 mW_0 rfl 27 (by decide) (hts _ w_873) (fun _ h9 => h9) rfl (by decide +kernel) rfl rfl mF_l27 dX6_goOn_273 (fun H locs hP hD hS => ?_)
      rw [mW_f27] at hP hD
      refine lv_aload_n hx hb dX6_goOn_276 rfl (lv_at hl 1 rfl) ?_
      refine va_get (D := G.1) (ci := 6) (C := RX6) (T := TX6) (N := 48) hx hb hts inX6 hown hK.1 hP 0 mW_0 rfl 31 (by decide) (hts _ w_877) (fun _ h9 => h9) mF_31 dX6_goOn_277 ?_
      refine lv_iload_n hx hb dX6_goOn_280 rfl (lv_at hl 0 rfl) ?_
      obtain ⟨hin, hE⟩ := hE
      refine va_iald (D := G.1) hx hb hK.1 hP 17 0 mW_g31 rfl hin dX6_goOn_281 ?_
      refine tp_i (R.2.1 31 (R.1 25).toNatClampNeg) rfl ?_
      refine lv_bipush (v := 12) hx hb dX6_goOn_282 (by decide) ?_
      refine jn_v (v := (if (R.2.1 31 (R.1 25).toNatClampNeg) = 12 then 1 else 0 : Int32)) (pcM := 292) (rest := []) (fun kM => ?_) ?_
      ·
        refine lv_icmp_ne (tgt := 291) hx hb dX6_goOn_284 (by decide) (fun h19 => ?_) (fun h19 => ?_)
        ·
          refine lv_iconst (v := 0) hx hb dX6_goOn_291 (by decide) ?_
          exact kM _ (by try rw [if_neg h19])
        ·
          refine lv_iconst (v := 1) hx hb dX6_goOn_287 (by decide) ?_
          refine lv_goto (tgt := 292) hx hb dX6_goOn_288 (by decide) ?_
          exact kM _ (by try rw [if_pos h19])
      obtain ⟨hn, rfl, rfl⟩ := hE
      exact en_i F hS _ () hn rfl hP hD (Nat.le_refl _) (Nat.le_refl _) dX6_goOn_292
    ·
      rw [if_neg h17] at hE
      refine lv_iconst (v := 0) hx hb dX6_goOn_264 (by decide) ?_
      obtain ⟨rfl, rfl⟩ := hE
      exact en_i F hS _ () (by rfl) rfl hP hD (Nat.le_refl _) (Nat.le_refl _) dX6_goOn_265
  rw [if_neg h16] at hE
  by_cases h20 : (R.2.1 31 (R.1 25).toNatClampNeg) = 17
  ·
    rw [if_pos h20] at hE
    refine tp_i 17 h20 ?_
    refine lv_tableIn (tgt := 251) hx hb dX6_goOn_21 (by decide) (by decide) rfl (by decide) ?_
    refine lv_aload_n hx hb dX6_goOn_251 rfl (lv_at hl 1 rfl) ?_
    refine va_get (D := G.1) (ci := 6) (C := RX6) (T := TX6) (N := 48) hx hb hts inX6 hown hK.1 hP 0 mW_0 rfl 23 (by decide) (hts _ w_869) (fun _ h9 => h9) mF_23 dX6_goOn_252 ?_
    refine tp_i (R.1 23) rfl ?_
    refine lv_aload_n hx hb dX6_goOn_255 rfl (lv_at hl 1 rfl) ?_
    refine va_get (D := G.1) (ci := 6) (C := RX6) (T := TX6) (N := 48) hx hb hts inX6 hown hK.1 hP 0 mW_0 rfl 33 (by decide) (hts _ w_879) (fun _ h9 => h9) mF_33 dX6_goOn_256 ?_
    refine lv_iload_n hx hb dX6_goOn_259 rfl (lv_at hl 0 rfl) ?_
    obtain ⟨hin, hE⟩ := hE
    refine va_iald (D := G.1) hx hb hK.1 hP 19 0 mW_g33 rfl hin dX6_goOn_260 ?_
    refine tp_i (R.2.1 33 (R.1 25).toNatClampNeg) rfl ?_
    refine lv_icmp_eq (tgt := 266) hx hb dX6_goOn_261 (by decide) (fun h21 => ?_) (fun h21 => ?_)
    ·
      rw [if_pos h21] at hE
      refine lv_aload_n hx hb dX6_goOn_266 rfl (lv_at hl 1 rfl) ?_
      refine lv_aload_n hx hb dX6_goOn_267 rfl (lv_at hl 1 rfl) ?_
      refine va_get (D := G.1) (ci := 6) (C := RX6) (T := TX6) (N := 48) hx hb hts inX6 hown hK.1 hP 0 mW_0 rfl 32 (by decide) (hts _ w_878) (fun _ h9 => h9) mF_32 dX6_goOn_268 ?_
      refine lv_iload_n hx hb dX6_goOn_271 rfl (lv_at hl 0 rfl) ?_
      obtain ⟨hin, hE⟩ := hE
      refine va_iald (D := G.1) hx hb hK.1 hP 18 0 mW_g32 rfl hin dX6_goOn_272 ?_
      refine tp_i (R.2.1 32 (R.1 25).toNatClampNeg) rfl ?_
      refine va_put (D := G.1) (ci := 6) (v := .int (R.2.1 32 (R.1 25).toNatClampNeg)) (ty := .int) (C := RX6) (T := TX6) (N := 48) hx hb hts inX6 tyX6 tyX6_ok nmX6 hown hK.1 hP hD hS 0 mW_0 rfl 27 (by decide) (hts _ w_873) (fun _ h9 => h9) rfl (by decide +kernel) rfl rfl mF_l27 dX6_goOn_273 (fun H locs hP hD hS => ?_)
      rw [mW_f27] at hP hD
      refine lv_aload_n hx hb dX6_goOn_276 rfl (lv_at hl 1 rfl) ?_
      refine va_get (D := G.1) (ci := 6) (C := RX6) (T := TX6) (N := 48) hx hb hts inX6 hown hK.1 hP 0 mW_0 rfl 31 (by decide) (hts _ w_877) (fun _ h9 => h9) mF_31 dX6_goOn_277 ?_
      refine lv_iload_n hx hb dX6_goOn_280 rfl (lv_at hl 0 rfl) ?_
      obtain ⟨hin, hE⟩ := hE
      refine va_iald (D := G.1) hx hb hK.1 hP 17 0 mW_g31 rfl hin dX6_goOn_281 ?_
      refine tp_i (R.2.1 31 (R.1 25).toNatClampNeg) rfl ?_
      refine lv_bipush (v := 12) hx hb dX6_goOn_282 (by decide) ?_
      refine jn_v (v := (if (R.2.1 31 (R.1 25).toNatClampNeg) = 12 then 1 else 0 : Int32)) (pcM := 292) (rest := []) (fun kM => ?_) ?_
      ·
        refine lv_icmp_ne (tgt := 291) hx hb dX6_goOn_284 (by decide) (fun h23 => ?_) (fun h23 => ?_)
        ·
          refine lv_iconst (v := 0) hx hb dX6_goOn_291 (by decide) ?_
          exact kM _ (by try rw [if_neg h23])
        ·
          refine lv_iconst (v := 1) hx hb dX6_goOn_287 (by decide) ?_
          refine lv_goto (tgt := 292) hx hb dX6_goOn_288 (by decide) ?_
          exact kM _ (by try rw [if_pos h23])
      obtain ⟨hn, rfl, rfl⟩ := hE
      exact en_i F hS _ () hn rfl hP hD (Nat.le_refl _) (Nat.le_refl _) dX6_goOn_292
    ·
      rw [if_neg h21] at hE
      refine lv_iconst (v := 0) hx hb dX6_goOn_264 (by decide) ?_
      obtain ⟨rfl, rfl⟩ := hE
      exact en_i F hS _ () (by rfl) rfl hP hD (Nat.le_refl _) (Nat.le_refl _) dX6_goOn_265
  rw [if_neg h20] at hE
  by_cases h24 : (R.2.1 31 (R.1 25).toNatClampNeg) = 18
  ·
    rw [if_pos h24] at hE
    refine tp_i 18 h24 ?_
    refine lv_tableIn (tgt := 251) hx hb dX6_goOn_21 (by decide) (by decide) rfl (by decide) ?_
    refine lv_aload_n hx hb dX6_goOn_251 rfl (lv_at hl 1 rfl) ?_
    refine va_get (D := G.1) (ci := 6) (C := RX6) (T := TX6) (N := 48) hx hb hts inX6 hown hK.1 hP 0 mW_0 rfl 23 (by decide) (hts _ w_869) (fun _ h9 => h9) mF_23 dX6_goOn_252 ?_
    refine tp_i (R.1 23) rfl ?_
    refine lv_aload_n hx hb dX6_goOn_255 rfl (lv_at hl 1 rfl) ?_
    refine va_get (D := G.1) (ci := 6) (C := RX6) (T := TX6) (N := 48) hx hb hts inX6 hown hK.1 hP 0 mW_0 rfl 33 (by decide) (hts _ w_879) (fun _ h9 => h9) mF_33 dX6_goOn_256 ?_
    refine lv_iload_n hx hb dX6_goOn_259 rfl (lv_at hl 0 rfl) ?_
    obtain ⟨hin, hE⟩ := hE
    refine va_iald (D := G.1) hx hb hK.1 hP 19 0 mW_g33 rfl hin dX6_goOn_260 ?_
    refine tp_i (R.2.1 33 (R.1 25).toNatClampNeg) rfl ?_
    refine lv_icmp_eq (tgt := 266) hx hb dX6_goOn_261 (by decide) (fun h25 => ?_) (fun h25 => ?_)
    ·
      rw [if_pos h25] at hE
      refine lv_aload_n hx hb dX6_goOn_266 rfl (lv_at hl 1 rfl) ?_
      refine lv_aload_n hx hb dX6_goOn_267 rfl (lv_at hl 1 rfl) ?_
      refine va_get (D := G.1) (ci := 6) (C := RX6) (T := TX6) (N := 48) hx hb hts inX6 hown hK.1 hP 0 mW_0 rfl 32 (by decide) (hts _ w_878) (fun _ h9 => h9) mF_32 dX6_goOn_268 ?_
      refine lv_iload_n hx hb dX6_goOn_271 rfl (lv_at hl 0 rfl) ?_
      obtain ⟨hin, hE⟩ := hE
      refine va_iald (D := G.1) hx hb hK.1 hP 18 0 mW_g32 rfl hin dX6_goOn_272 ?_
      refine tp_i (R.2.1 32 (R.1 25).toNatClampNeg) rfl ?_
      refine va_put (D := G.1) (ci := 6) (v := .int (R.2.1 32 (R.1 25).toNatClampNeg)) (ty := .int) (C := RX6) (T := TX6) (N := 48) hx hb hts inX6 tyX6 tyX6_ok nmX6 hown hK.1 hP hD hS 0 mW_0 rfl 27 (by decide) (hts _ w_873) (fun _ h9 => h9) rfl (by decide +kernel) rfl rfl mF_l27 dX6_goOn_273 (fun H locs hP hD hS => ?_)
      rw [mW_f27] at hP hD
      refine lv_aload_n hx hb dX6_goOn_276 rfl (lv_at hl 1 rfl) ?_
      refine va_get (D := G.1) (ci := 6) (C := RX6) (T := TX6) (N := 48) hx hb hts inX6 hown hK.1 hP 0 mW_0 rfl 31 (by decide) (hts _ w_877) (fun _ h9 => h9) mF_31 dX6_goOn_277 ?_
      refine lv_iload_n hx hb dX6_goOn_280 rfl (lv_at hl 0 rfl) ?_
      obtain ⟨hin, hE⟩ := hE
      refine va_iald (D := G.1) hx hb hK.1 hP 17 0 mW_g31 rfl hin dX6_goOn_281 ?_
      refine tp_i (R.2.1 31 (R.1 25).toNatClampNeg) rfl ?_
      refine lv_bipush (v := 12) hx hb dX6_goOn_282 (by decide) ?_
      refine jn_v (v := (if (R.2.1 31 (R.1 25).toNatClampNeg) = 12 then 1 else 0 : Int32)) (pcM := 292) (rest := []) (fun kM => ?_) ?_
      ·
        refine lv_icmp_ne (tgt := 291) hx hb dX6_goOn_284 (by decide) (fun h27 => ?_) (fun h27 => ?_)
        ·
          refine lv_iconst (v := 0) hx hb dX6_goOn_291 (by decide) ?_
          exact kM _ (by try rw [if_neg h27])
        ·
          refine lv_iconst (v := 1) hx hb dX6_goOn_287 (by decide) ?_
          refine lv_goto (tgt := 292) hx hb dX6_goOn_288 (by decide) ?_
          exact kM _ (by try rw [if_pos h27])
      obtain ⟨hn, rfl, rfl⟩ := hE
      exact en_i F hS _ () hn rfl hP hD (Nat.le_refl _) (Nat.le_refl _) dX6_goOn_292
    ·
      rw [if_neg h25] at hE
      refine lv_iconst (v := 0) hx hb dX6_goOn_264 (by decide) ?_
      obtain ⟨rfl, rfl⟩ := hE
      exact en_i F hS _ () (by rfl) rfl hP hD (Nat.le_refl _) (Nat.le_refl _) dX6_goOn_265
  rw [if_neg h24] at hE
  by_cases h28 : (R.2.1 31 (R.1 25).toNatClampNeg) = 19
  ·
    rw [if_pos h28] at hE
    refine tp_i 19 h28 ?_
    refine lv_tableIn (tgt := 251) hx hb dX6_goOn_21 (by decide) (by decide) rfl (by decide) ?_
    refine lv_aload_n hx hb dX6_goOn_251 rfl (lv_at hl 1 rfl) ?_
    refine va_get (D := G.1) (ci := 6) (C := RX6) (T := TX6) (N := 48) hx hb hts inX6 hown hK.1 hP 0 mW_0 rfl 23 (by decide) (hts _ w_869) (fun _ h9 => h9) mF_23 dX6_goOn_252 ?_
    refine tp_i (R.1 23) rfl ?_
    refine lv_aload_n hx hb dX6_goOn_255 rfl (lv_at hl 1 rfl) ?_
    refine va_get (D := G.1) (ci := 6) (C := RX6) (T := TX6) (N := 48) hx hb hts inX6 hown hK.1 hP 0 mW_0 rfl 33 (by decide) (hts _ w_879) (fun _ h9 => h9) mF_33 dX6_goOn_256 ?_
    refine lv_iload_n hx hb dX6_goOn_259 rfl (lv_at hl 0 rfl) ?_
    obtain ⟨hin, hE⟩ := hE
    refine va_iald (D := G.1) hx hb hK.1 hP 19 0 mW_g33 rfl hin dX6_goOn_260 ?_
    refine tp_i (R.2.1 33 (R.1 25).toNatClampNeg) rfl ?_
    refine lv_icmp_eq (tgt := 266) hx hb dX6_goOn_261 (by decide) (fun h29 => ?_) (fun h29 => ?_)
    ·
      rw [if_pos h29] at hE
      refine lv_aload_n hx hb dX6_goOn_266 rfl (lv_at hl 1 rfl) ?_
      refine lv_aload_n hx hb dX6_goOn_267 rfl (lv_at hl 1 rfl) ?_
      refine va_get (D := G.1) (ci := 6) (C := RX6) (T := TX6) (N := 48) hx hb hts inX6 hown hK.1 hP 0 mW_0 rfl 32 (by decide) (hts _ w_878) (fun _ h9 => h9) mF_32 dX6_goOn_268 ?_
      refine lv_iload_n hx hb dX6_goOn_271 rfl (lv_at hl 0 rfl) ?_
      obtain ⟨hin, hE⟩ := hE
      refine va_iald (D := G.1) hx hb hK.1 hP 18 0 mW_g32 rfl hin dX6_goOn_272 ?_
      refine tp_i (R.2.1 32 (R.1 25).toNatClampNeg) rfl ?_
      refine va_put (D := G.1) (ci := 6) (v := .int (R.2.1 32 (R.1 25).toNatClampNeg)) (ty := .int) (C := RX6) (T := TX6) (N := 48) hx hb hts inX6 tyX6 tyX6_ok nmX6 hown hK.1 hP hD hS 0 mW_0 rfl 27 (by decide) (hts _ w_873) (fun _ h9 => h9) rfl (by decide +kernel) rfl rfl mF_l27 dX6_goOn_273 (fun H locs hP hD hS => ?_)
      rw [mW_f27] at hP hD
      refine lv_aload_n hx hb dX6_goOn_276 rfl (lv_at hl 1 rfl) ?_
      refine va_get (D := G.1) (ci := 6) (C := RX6) (T := TX6) (N := 48) hx hb hts inX6 hown hK.1 hP 0 mW_0 rfl 31 (by decide) (hts _ w_877) (fun _ h9 => h9) mF_31 dX6_goOn_277 ?_
      refine lv_iload_n hx hb dX6_goOn_280 rfl (lv_at hl 0 rfl) ?_
      obtain ⟨hin, hE⟩ := hE
      refine va_iald (D := G.1) hx hb hK.1 hP 17 0 mW_g31 rfl hin dX6_goOn_281 ?_
      refine tp_i (R.2.1 31 (R.1 25).toNatClampNeg) rfl ?_
      refine lv_bipush (v := 12) hx hb dX6_goOn_282 (by decide) ?_
      refine jn_v (v := (if (R.2.1 31 (R.1 25).toNatClampNeg) = 12 then 1 else 0 : Int32)) (pcM := 292) (rest := []) (fun kM => ?_) ?_
      ·
        refine lv_icmp_ne (tgt := 291) hx hb dX6_goOn_284 (by decide) (fun h31 => ?_) (fun h31 => ?_)
        ·
          refine lv_iconst (v := 0) hx hb dX6_goOn_291 (by decide) ?_
          exact kM _ (by try rw [if_neg h31])
        ·
          refine lv_iconst (v := 1) hx hb dX6_goOn_287 (by decide) ?_
          refine lv_goto (tgt := 292) hx hb dX6_goOn_288 (by decide) ?_
          exact kM _ (by try rw [if_pos h31])
      obtain ⟨hn, rfl, rfl⟩ := hE
      exact en_i F hS _ () hn rfl hP hD (Nat.le_refl _) (Nat.le_refl _) dX6_goOn_292
    ·
      rw [if_neg h29] at hE
      refine lv_iconst (v := 0) hx hb dX6_goOn_264 (by decide) ?_
      obtain ⟨rfl, rfl⟩ := hE
      exact en_i F hS _ () (by rfl) rfl hP hD (Nat.le_refl _) (Nat.le_refl _) dX6_goOn_265
  rw [if_neg h28] at hE
  by_cases h32 : (R.2.1 31 (R.1 25).toNatClampNeg) = 20
  ·
    rw [if_pos h32] at hE
    refine tp_i 20 h32 ?_
    refine lv_tableIn (tgt := 125) hx hb dX6_goOn_21 (by decide) (by decide) rfl (by decide) ?_
    refine lv_aload_n hx hb dX6_goOn_125 rfl (lv_at hl 1 rfl) ?_
    refine lv_aload_n hx hb dX6_goOn_126 rfl (lv_at hl 1 rfl) ?_
    refine va_get (D := G.1) (ci := 6) (C := RX6) (T := TX6) (N := 48) hx hb hts inX6 hown hK.1 hP 0 mW_0 rfl 32 (by decide) (hts _ w_878) (fun _ h9 => h9) mF_32 dX6_goOn_127 ?_
    refine lv_iload_n hx hb dX6_goOn_130 rfl (lv_at hl 0 rfl) ?_
    obtain ⟨hin, hE⟩ := hE
    refine va_iald (D := G.1) hx hb hK.1 hP 18 0 mW_g32 rfl hin dX6_goOn_131 ?_
    refine tp_i (R.2.1 32 (R.1 25).toNatClampNeg) rfl ?_
    obtain ⟨R33, r34, hg, hE⟩ := hE
    refine kA_i (va_runV (As := [.int (R.2.1 32 (R.1 25).toNatClampNeg)]) (rest := []) F.1 (e_pieces l G h q (mf R 25 (R.2.1 34 (R.1 25).toNatClampNeg)) (R.2.1 32 (R.1 25).toNatClampNeg) R33 r34 hg _) (cwV 1 hts (aw_V w_1116 w_1118 ws_X6_pieces w_6 w_1119) rfl rfl rfl (by decide +kernel) ⟨by decide, by decide⟩) ⟨cS_blind, va_recv (q := (RX6, TX6, 48)) (ci := 6) (q0 := 0) hK.1 hP rfl mW_0, cS_pre hP hD hK⟩ rfl rfl hl.1 rfl (lv_room (Nat.le_of_ble_eq_true rfl)) dX6_goOn_132 ⟨Nat.le_refl _, Nat.le_refl _⟩) hD hS hA (fun r9 u0 H locs hp hP hD hS => ?_)
    have hp := hp.symm; subst hp
    obtain ⟨hn, rfl, rfl⟩ := hE
    exact en_i F hS _ () hn rfl hP hD (Nat.le_refl _) (Nat.le_refl _) dX6_goOn_135
  rw [if_neg h32] at hE
  by_cases h35 : (R.2.1 31 (R.1 25).toNatClampNeg) = 21
  ·
    rw [if_pos h35] at hE
    refine tp_i 21 h35 ?_
    refine lv_tableIn (tgt := 136) hx hb dX6_goOn_21 (by decide) (by decide) rfl (by decide) ?_
    refine lv_aload_n hx hb dX6_goOn_136 rfl (lv_at hl 1 rfl) ?_
    refine va_get (D := G.1) (ci := 6) (C := RX6) (T := TX6) (N := 48) hx hb hts inX6 hown hK.1 hP 0 mW_0 rfl 30 (by decide) (hts _ w_876) (fun _ h9 => h9) mF_30 dX6_goOn_137 ?_
    refine lv_iconst (v := 2) hx hb dX6_goOn_140 (by decide) ?_
    refine lv_aload_n hx hb dX6_goOn_141 rfl (lv_at hl 1 rfl) ?_
    refine va_get (D := G.1) (ci := 6) (C := RX6) (T := TX6) (N := 48) hx hb hts inX6 hown hK.1 hP 0 mW_0 rfl 32 (by decide) (hts _ w_878) (fun _ h9 => h9) mF_32 dX6_goOn_142 ?_
    refine lv_iload_n hx hb dX6_goOn_145 rfl (lv_at hl 0 rfl) ?_
    obtain ⟨hin, hE⟩ := hE
    refine va_iald (D := G.1) hx hb hK.1 hP 18 0 mW_g32 rfl hin dX6_goOn_146 ?_
    refine tp_i (R.2.1 32 (R.1 25).toNatClampNeg) rfl ?_
    refine lv_imul hx hb dX6_goOn_147 ?_
    refine lv_aload_n hx hb dX6_goOn_148 rfl (lv_at hl 1 rfl) ?_
    refine va_get (D := G.1) (ci := 6) (C := RX6) (T := TX6) (N := 48) hx hb hts inX6 hown hK.1 hP 0 mW_0 rfl 33 (by decide) (hts _ w_879) (fun _ h9 => h9) mF_33 dX6_goOn_149 ?_
    refine lv_iload_n hx hb dX6_goOn_152 rfl (lv_at hl 0 rfl) ?_
    obtain ⟨hin, hE⟩ := hE
    refine va_iald (D := G.1) hx hb hK.1 hP 19 0 mW_g33 rfl hin dX6_goOn_153 ?_
    refine tp_i (R.2.1 33 (R.1 25).toNatClampNeg) rfl ?_
    obtain ⟨hin, hE⟩ := hE
    refine va_iast (D := G.1) hx hb hK.1 hP hD hS 16 0 mW_g30 rfl hin dX6_goOn_154 (fun H locs hP hD hS => ?_)
    rw [mW_a30] at hP hD
    refine lv_aload_n hx hb dX6_goOn_155 rfl (lv_at hl 1 rfl) ?_
    refine va_get (D := G.1) (ci := 6) (C := RX6) (T := TX6) (N := 48) hx hb hts inX6 hown hK.1 hP 0 mW_0 rfl 30 (by decide) (hts _ w_876) (fun _ h9 => h9) mF_30 dX6_goOn_156 ?_
    refine lv_iconst (v := 2) hx hb dX6_goOn_159 (by decide) ?_
    refine lv_aload_n hx hb dX6_goOn_160 rfl (lv_at hl 1 rfl) ?_
    refine va_get (D := G.1) (ci := 6) (C := RX6) (T := TX6) (N := 48) hx hb hts inX6 hown hK.1 hP 0 mW_0 rfl 32 (by decide) (hts _ w_878) (fun _ h9 => h9) mF_32 dX6_goOn_161 ?_
    refine lv_iload_n hx hb dX6_goOn_164 rfl (lv_at hl 0 rfl) ?_
    obtain ⟨hin, hE⟩ := hE
    refine va_iald (D := G.1) hx hb hK.1 hP 18 0 mW_g32 rfl hin dX6_goOn_165 ?_
    refine tp_i (R.2.1 32 (R.1 25).toNatClampNeg) rfl ?_
    refine lv_imul hx hb dX6_goOn_166 ?_
    refine lv_iconst (v := 1) hx hb dX6_goOn_167 (by decide) ?_
    refine lv_iadd hx hb dX6_goOn_168 ?_
    refine lv_aload_n hx hb dX6_goOn_169 rfl (lv_at hl 1 rfl) ?_
    refine va_get (D := G.1) (ci := 6) (C := RX6) (T := TX6) (N := 48) hx hb hts inX6 hown hK.1 hP 0 mW_0 rfl 23 (by decide) (hts _ w_869) (fun _ h9 => h9) mF_23 dX6_goOn_170 ?_
    refine tp_i (R.1 23) rfl ?_
    obtain ⟨hin, hE⟩ := hE
    refine va_iast (D := G.1) hx hb hK.1 hP hD hS 16 0 mW_g30 rfl hin dX6_goOn_173 (fun H locs hP hD hS => ?_)
    rw [mW_a30] at hP hD
    refine lv_iconst (v := 1) hx hb dX6_goOn_174 (by decide) ?_
    obtain ⟨rfl, rfl⟩ := hE
    exact en_i F hS _ () (by rfl) rfl hP hD (Nat.le_refl _) (Nat.le_refl _) dX6_goOn_175
  rw [if_neg h35] at hE
  by_cases h36 : (R.2.1 31 (R.1 25).toNatClampNeg) = 22
  ·
    rw [if_pos h36] at hE
    refine tp_i 22 h36 ?_
    refine lv_tableIn (tgt := 176) hx hb dX6_goOn_21 (by decide) (by decide) rfl (by decide) ?_
    refine lv_aload_n hx hb dX6_goOn_176 rfl (lv_at hl 1 rfl) ?_
    refine lv_aload_n hx hb dX6_goOn_177 rfl (lv_at hl 1 rfl) ?_
    refine va_get (D := G.1) (ci := 6) (C := RX6) (T := TX6) (N := 48) hx hb hts inX6 hown hK.1 hP 0 mW_0 rfl 32 (by decide) (hts _ w_878) (fun _ h9 => h9) mF_32 dX6_goOn_178 ?_
    refine lv_iload_n hx hb dX6_goOn_181 rfl (lv_at hl 0 rfl) ?_
    obtain ⟨hin, hE⟩ := hE
    refine va_iald (D := G.1) hx hb hK.1 hP 18 0 mW_g32 rfl hin dX6_goOn_182 ?_
    refine tp_i (R.2.1 32 (R.1 25).toNatClampNeg) rfl ?_
    refine lv_bipush (v := 64) hx hb dX6_goOn_183 (by decide) ?_
    refine lv_idiv hx hb dX6_goOn_185 (by decide) ?_
    refine lv_aload_n hx hb dX6_goOn_186 rfl (lv_at hl 1 rfl) ?_
    refine va_get (D := G.1) (ci := 6) (C := RX6) (T := TX6) (N := 48) hx hb hts inX6 hown hK.1 hP 0 mW_0 rfl 32 (by decide) (hts _ w_878) (fun _ h9 => h9) mF_32 dX6_goOn_187 ?_
    refine lv_iload_n hx hb dX6_goOn_190 rfl (lv_at hl 0 rfl) ?_
    obtain ⟨hin, hE⟩ := hE
    refine va_iald (D := G.1) hx hb hK.1 hP 18 0 mW_g32 rfl hin dX6_goOn_191 ?_
    refine tp_i (R.2.1 32 (R.1 25).toNatClampNeg) rfl ?_
    refine lv_bipush (v := 64) hx hb dX6_goOn_192 (by decide) ?_
    refine lv_irem hx hb dX6_goOn_194 (by decide) ?_
    refine lv_aload_n hx hb dX6_goOn_195 rfl (lv_at hl 1 rfl) ?_
    refine va_get (D := G.1) (ci := 6) (C := RX6) (T := TX6) (N := 48) hx hb hts inX6 hown hK.1 hP 0 mW_0 rfl 33 (by decide) (hts _ w_879) (fun _ h9 => h9) mF_33 dX6_goOn_196 ?_
    refine lv_iload_n hx hb dX6_goOn_199 rfl (lv_at hl 0 rfl) ?_
    obtain ⟨hin, hE⟩ := hE
    refine va_iald (D := G.1) hx hb hK.1 hP 19 0 mW_g33 rfl hin dX6_goOn_200 ?_
    refine tp_i (R.2.1 33 (R.1 25).toNatClampNeg) rfl ?_
    obtain ⟨R37, r38, hg, hE⟩ := hE
    refine kA_i (va_runV (As := [.int ((R.2.1 32 (R.1 25).toNatClampNeg) / 64), .int ((R.2.1 32 (R.1 25).toNatClampNeg) - (R.2.1 32 (R.1 25).toNatClampNeg) / 64 * 64), .int (R.2.1 33 (R.1 25).toNatClampNeg)]) (rest := []) F.1 (e_turn l G h q (mf R 25 (R.2.1 34 (R.1 25).toNatClampNeg)) ((R.2.1 32 (R.1 25).toNatClampNeg) / 64) ((R.2.1 32 (R.1 25).toNatClampNeg) - (R.2.1 32 (R.1 25).toNatClampNeg) / 64 * 64) (R.2.1 33 (R.1 25).toNatClampNeg) R37 r38 hg _) (cwV 3 hts (aw_V w_1120 w_1122 ws_X6_turn w_6 w_1123) rfl rfl rfl (by decide +kernel) ⟨by decide, by decide⟩) ⟨cS_blind, va_recv (q := (RX6, TX6, 48)) (ci := 6) (q0 := 0) hK.1 hP rfl mW_0, cS_pre hP hD hK⟩ rfl rfl hl.1 rfl (lv_room (Nat.le_of_ble_eq_true rfl)) dX6_goOn_201 ⟨Nat.le_refl _, Nat.le_refl _⟩) hD hS hA (fun r9 u0 H locs hp hP hD hS => ?_)
    have hp := hp.symm; subst hp
    obtain ⟨hn, rfl, rfl⟩ := hE
    exact en_i F hS _ () hn rfl hP hD (Nat.le_refl _) (Nat.le_refl _) dX6_goOn_204
  rw [if_neg h36] at hE
  by_cases h39 : (R.2.1 31 (R.1 25).toNatClampNeg) = 23
  ·
    rw [if_pos h39] at hE
    refine tp_i 23 h39 ?_
    refine lv_tableIn (tgt := 92) hx hb dX6_goOn_21 (by decide) (by decide) rfl (by decide) ?_
    refine lv_aload_n hx hb dX6_goOn_92 rfl (lv_at hl 1 rfl) ?_
    refine va_get (D := G.1) (ci := 6) (C := RX6) (T := TX6) (N := 48) hx hb hts inX6 hown hK.1 hP 0 mW_0 rfl 28 (by decide) (hts _ w_874) (fun _ h9 => h9) mF_28 dX6_goOn_93 ?_
    refine tp_i (R.1 28) rfl ?_
    refine lv_iconst (v := (-1)) hx hb dX6_goOn_96 (by decide) ?_
    refine lv_icmp_eq (tgt := 119) hx hb dX6_goOn_97 (by decide) (fun h40 => ?_) (fun h40 => ?_)
    ·
      rw [if_pos h40] at hE
      refine lv_iconst (v := 1) hx hb dX6_goOn_119 (by decide) ?_
      refine lv_goto (tgt := 124) hx hb dX6_goOn_120 (by decide) ?_
      obtain ⟨rfl, rfl⟩ := hE
      exact en_i F hS _ () (by rfl) rfl hP hD (Nat.le_refl _) (Nat.le_refl _) dX6_goOn_124
    ·
      rw [if_neg h40] at hE
      refine lv_aload_n hx hb dX6_goOn_100 rfl (lv_at hl 1 rfl) ?_
      refine va_get (D := G.1) (ci := 6) (C := RX6) (T := TX6) (N := 48) hx hb hts inX6 hown hK.1 hP 0 mW_0 rfl 23 (by decide) (hts _ w_869) (fun _ h9 => h9) mF_23 dX6_goOn_101 ?_
      refine tp_i (R.1 23) rfl ?_
      refine lv_aload_n hx hb dX6_goOn_104 rfl (lv_at hl 1 rfl) ?_
      refine va_get (D := G.1) (ci := 6) (C := RX6) (T := TX6) (N := 48) hx hb hts inX6 hown hK.1 hP 0 mW_0 rfl 28 (by decide) (hts _ w_874) (fun _ h9 => h9) mF_28 dX6_goOn_105 ?_
      refine tp_i (R.1 28) rfl ?_
      refine lv_icmp_eq (tgt := 119) hx hb dX6_goOn_108 (by decide) (fun h41 => ?_) (fun h41 => ?_)
      ·
        rw [if_pos h41] at hE
        refine lv_iconst (v := 1) hx hb dX6_goOn_119 (by decide) ?_
        refine lv_goto (tgt := 124) hx hb dX6_goOn_120 (by decide) ?_
        obtain ⟨rfl, rfl⟩ := hE
        exact en_i F hS _ () (by rfl) rfl hP hD (Nat.le_refl _) (Nat.le_refl _) dX6_goOn_124
      ·
        rw [if_neg h41] at hE
        refine lv_aload_n hx hb dX6_goOn_111 rfl (lv_at hl 1 rfl) ?_
        refine lv_iload_n hx hb dX6_goOn_112 rfl (lv_at hl 0 rfl) ?_
        obtain ⟨R42, r43, hg, hE⟩ := hE
        refine kA_i (va_runV (As := [.int (R.1 25)]) (rest := []) F.1 (e_keep l G h q (mf R 25 (R.2.1 34 (R.1 25).toNatClampNeg)) (R.1 25) R42 r43 hg _) (cwV 1 hts (aw_V w_1112 w_1114 ws_X6_keep w_6 w_1115) rfl rfl rfl (by decide +kernel) ⟨by decide, by decide⟩) ⟨cS_blind, va_recv (q := (RX6, TX6, 48)) (ci := 6) (q0 := 0) hK.1 hP rfl mW_0, cS_pre hP hD hK⟩ rfl rfl hl.1 rfl (lv_room (Nat.le_of_ble_eq_true rfl)) dX6_goOn_113 ⟨Nat.le_refl _, Nat.le_refl _⟩) hD hS hA (fun r9 u0 H locs hp hP hD hS => ?_)
        have hp := hp.symm; subst hp
        refine jn_v (v := (if r43 = 0 then 0 else 1 : Int32)) (pcM := 124) (rest := []) (fun kM => ?_) ?_
        ·
          refine lv_if_eq (tgt := 123) hx hb dX6_goOn_116 (by decide) (fun h45 => ?_) (fun h45 => ?_)
          ·
            refine lv_iconst (v := 0) hx hb dX6_goOn_123 (by decide) ?_
            exact kM _ (by try rw [if_pos h45])
          ·
            refine lv_iconst (v := 1) hx hb dX6_goOn_119 (by decide) ?_
            refine lv_goto (tgt := 124) hx hb dX6_goOn_120 (by decide) ?_
            exact kM _ (by try rw [if_neg h45])
        obtain ⟨hn, rfl, rfl⟩ := hE
        exact en_i F hS _ () hn rfl hP hD (Nat.le_refl _) (Nat.le_refl _) dX6_goOn_124
  rw [if_neg h39] at hE
  refine lv_tableOut (tgt := 251) hx hb dX6_goOn_21 (sw_out (lo := 10) (hi := 23) (by decide) (by decide) (fun k h1 h2 => by rcases (show k = 10 ∨ k = 11 ∨ k = 12 ∨ k = 13 ∨ k = 14 ∨ k = 15 ∨ k = 16 ∨ k = 17 ∨ k = 18 ∨ k = 19 ∨ k = 20 ∨ k = 21 ∨ k = 22 ∨ k = 23 by omega) with rfl | rfl | rfl | rfl | rfl | rfl | rfl | rfl | rfl | rfl | rfl | rfl | rfl | rfl <;> assumption)) (by decide) ?_
  refine lv_aload_n hx hb dX6_goOn_251 rfl (lv_at hl 1 rfl) ?_
  refine va_get (D := G.1) (ci := 6) (C := RX6) (T := TX6) (N := 48) hx hb hts inX6 hown hK.1 hP 0 mW_0 rfl 23 (by decide) (hts _ w_869) (fun _ h9 => h9) mF_23 dX6_goOn_252 ?_
  refine tp_i (R.1 23) rfl ?_
  refine lv_aload_n hx hb dX6_goOn_255 rfl (lv_at hl 1 rfl) ?_
  refine va_get (D := G.1) (ci := 6) (C := RX6) (T := TX6) (N := 48) hx hb hts inX6 hown hK.1 hP 0 mW_0 rfl 33 (by decide) (hts _ w_879) (fun _ h9 => h9) mF_33 dX6_goOn_256 ?_
  refine lv_iload_n hx hb dX6_goOn_259 rfl (lv_at hl 0 rfl) ?_
  obtain ⟨hin, hE⟩ := hE
  refine va_iald (D := G.1) hx hb hK.1 hP 19 0 mW_g33 rfl hin dX6_goOn_260 ?_
  refine tp_i (R.2.1 33 (R.1 25).toNatClampNeg) rfl ?_
  refine lv_icmp_eq (tgt := 266) hx hb dX6_goOn_261 (by decide) (fun h46 => ?_) (fun h46 => ?_)
  ·
    rw [if_pos h46] at hE
    refine lv_aload_n hx hb dX6_goOn_266 rfl (lv_at hl 1 rfl) ?_
    refine lv_aload_n hx hb dX6_goOn_267 rfl (lv_at hl 1 rfl) ?_
    refine va_get (D := G.1) (ci := 6) (C := RX6) (T := TX6) (N := 48) hx hb hts inX6 hown hK.1 hP 0 mW_0 rfl 32 (by decide) (hts _ w_878) (fun _ h9 => h9) mF_32 dX6_goOn_268 ?_
    refine lv_iload_n hx hb dX6_goOn_271 rfl (lv_at hl 0 rfl) ?_
    obtain ⟨hin, hE⟩ := hE
    refine va_iald (D := G.1) hx hb hK.1 hP 18 0 mW_g32 rfl hin dX6_goOn_272 ?_
    refine tp_i (R.2.1 32 (R.1 25).toNatClampNeg) rfl ?_
    refine va_put (D := G.1) (ci := 6) (v := .int (R.2.1 32 (R.1 25).toNatClampNeg)) (ty := .int) (C := RX6) (T := TX6) (N := 48) hx hb hts inX6 tyX6 tyX6_ok nmX6 hown hK.1 hP hD hS 0 mW_0 rfl 27 (by decide) (hts _ w_873) (fun _ h9 => h9) rfl (by decide +kernel) rfl rfl mF_l27 dX6_goOn_273 (fun H locs hP hD hS => ?_)
    rw [mW_f27] at hP hD
    refine lv_aload_n hx hb dX6_goOn_276 rfl (lv_at hl 1 rfl) ?_
    refine va_get (D := G.1) (ci := 6) (C := RX6) (T := TX6) (N := 48) hx hb hts inX6 hown hK.1 hP 0 mW_0 rfl 31 (by decide) (hts _ w_877) (fun _ h9 => h9) mF_31 dX6_goOn_277 ?_
    refine lv_iload_n hx hb dX6_goOn_280 rfl (lv_at hl 0 rfl) ?_
    obtain ⟨hin, hE⟩ := hE
    refine va_iald (D := G.1) hx hb hK.1 hP 17 0 mW_g31 rfl hin dX6_goOn_281 ?_
    refine tp_i (R.2.1 31 (R.1 25).toNatClampNeg) rfl ?_
    refine lv_bipush (v := 12) hx hb dX6_goOn_282 (by decide) ?_
    refine jn_v (v := (if (R.2.1 31 (R.1 25).toNatClampNeg) = 12 then 1 else 0 : Int32)) (pcM := 292) (rest := []) (fun kM => ?_) ?_
    ·
      refine lv_icmp_ne (tgt := 291) hx hb dX6_goOn_284 (by decide) (fun h48 => ?_) (fun h48 => ?_)
      ·
        refine lv_iconst (v := 0) hx hb dX6_goOn_291 (by decide) ?_
        exact kM _ (by try rw [if_neg h48])
      ·
        refine lv_iconst (v := 1) hx hb dX6_goOn_287 (by decide) ?_
        refine lv_goto (tgt := 292) hx hb dX6_goOn_288 (by decide) ?_
        exact kM _ (by try rw [if_pos h48])
    obtain ⟨hn, rfl, rfl⟩ := hE
    exact en_i F hS _ () hn rfl hP hD (Nat.le_refl _) (Nat.le_refl _) dX6_goOn_292
  ·
    rw [if_neg h46] at hE
    refine lv_iconst (v := 0) hx hb dX6_goOn_264 (by decide) ?_
    obtain ⟨rfl, rfl⟩ := hE
    exact en_i F hS _ () (by rfl) rfl hP hD (Nat.le_refl _) (Nat.le_refl _) dX6_goOn_265

theorem dX6_back_0 : decode cX6_back 0 = .ok (.aload_n 0, 1) := by decide +kernel
theorem dX6_back_1 : decode cX6_back 1 = .ok (.getfield 211, 3) := by decide +kernel
theorem dX6_back_4 : decode cX6_back 4 = .ok (.ifCond .ne 9, 3) := by decide +kernel
theorem dX6_back_7 : decode cX6_back 7 = .ok (.aload_n 0, 1) := by decide +kernel
theorem dX6_back_8 : decode cX6_back 8 = .ok (.iconst 0, 1) := by decide +kernel
theorem dX6_back_9 : decode cX6_back 9 = .ok (.putfield 233, 3) := by decide +kernel
theorem dX6_back_12 : decode cX6_back 12 = .ok (.return_, 1) := by decide +kernel
theorem dX6_back_13 : decode cX6_back 13 = .ok (.aload_n 0, 1) := by decide +kernel
theorem dX6_back_14 : decode cX6_back 14 = .ok (.dup, 1) := by decide +kernel
theorem dX6_back_15 : decode cX6_back 15 = .ok (.getfield 211, 3) := by decide +kernel
theorem dX6_back_18 : decode cX6_back 18 = .ok (.iconst 1, 1) := by decide +kernel
theorem dX6_back_19 : decode cX6_back 19 = .ok (.isub, 1) := by decide +kernel
theorem dX6_back_20 : decode cX6_back 20 = .ok (.putfield 211, 3) := by decide +kernel
theorem dX6_back_23 : decode cX6_back 23 = .ok (.aload_n 0, 1) := by decide +kernel
theorem dX6_back_24 : decode cX6_back 24 = .ok (.aload_n 0, 1) := by decide +kernel
theorem dX6_back_25 : decode cX6_back 25 = .ok (.getfield 78, 3) := by decide +kernel
theorem dX6_back_28 : decode cX6_back 28 = .ok (.aload_n 0, 1) := by decide +kernel
theorem dX6_back_29 : decode cX6_back 29 = .ok (.getfield 211, 3) := by decide +kernel
theorem dX6_back_32 : decode cX6_back 32 = .ok (.iaload, 1) := by decide +kernel
theorem dX6_back_33 : decode cX6_back 33 = .ok (.putfield 217, 3) := by decide +kernel
theorem dX6_back_36 : decode cX6_back 36 = .ok (.aload_n 0, 1) := by decide +kernel
theorem dX6_back_37 : decode cX6_back 37 = .ok (.aload_n 0, 1) := by decide +kernel
theorem dX6_back_38 : decode cX6_back 38 = .ok (.getfield 81, 3) := by decide +kernel
theorem dX6_back_41 : decode cX6_back 41 = .ok (.aload_n 0, 1) := by decide +kernel
theorem dX6_back_42 : decode cX6_back 42 = .ok (.getfield 211, 3) := by decide +kernel
theorem dX6_back_45 : decode cX6_back 45 = .ok (.iaload, 1) := by decide +kernel
theorem dX6_back_46 : decode cX6_back 46 = .ok (.putfield 227, 3) := by decide +kernel
theorem dX6_back_49 : decode cX6_back 49 = .ok (.aload_n 0, 1) := by decide +kernel
theorem dX6_back_50 : decode cX6_back 50 = .ok (.aload_n 0, 1) := by decide +kernel
theorem dX6_back_51 : decode cX6_back 51 = .ok (.getfield 84, 3) := by decide +kernel
theorem dX6_back_54 : decode cX6_back 54 = .ok (.aload_n 0, 1) := by decide +kernel
theorem dX6_back_55 : decode cX6_back 55 = .ok (.getfield 211, 3) := by decide +kernel
theorem dX6_back_58 : decode cX6_back 58 = .ok (.iaload, 1) := by decide +kernel
theorem dX6_back_59 : decode cX6_back 59 = .ok (.putfield 208, 3) := by decide +kernel
theorem dX6_back_62 : decode cX6_back 62 = .ok (.iconst 0, 1) := by decide +kernel
theorem dX6_back_63 : decode cX6_back 63 = .ok (.istore_n 1, 1) := by decide +kernel
theorem dX6_back_64 : decode cX6_back 64 = .ok (.iload_n 1, 1) := by decide +kernel
theorem dX6_back_65 : decode cX6_back 65 = .ok (.bipush 10, 2) := by decide +kernel
theorem dX6_back_67 : decode cX6_back 67 = .ok (.if_icmp .ge 29, 3) := by decide +kernel
theorem dX6_back_70 : decode cX6_back 70 = .ok (.aload_n 0, 1) := by decide +kernel
theorem dX6_back_71 : decode cX6_back 71 = .ok (.getfield 57, 3) := by decide +kernel
theorem dX6_back_74 : decode cX6_back 74 = .ok (.iload_n 1, 1) := by decide +kernel
theorem dX6_back_75 : decode cX6_back 75 = .ok (.aload_n 0, 1) := by decide +kernel
theorem dX6_back_76 : decode cX6_back 76 = .ok (.getfield 87, 3) := by decide +kernel
theorem dX6_back_79 : decode cX6_back 79 = .ok (.bipush 10, 2) := by decide +kernel
theorem dX6_back_81 : decode cX6_back 81 = .ok (.aload_n 0, 1) := by decide +kernel
theorem dX6_back_82 : decode cX6_back 82 = .ok (.getfield 211, 3) := by decide +kernel
theorem dX6_back_85 : decode cX6_back 85 = .ok (.imul, 1) := by decide +kernel
theorem dX6_back_86 : decode cX6_back 86 = .ok (.iload_n 1, 1) := by decide +kernel
theorem dX6_back_87 : decode cX6_back 87 = .ok (.iadd, 1) := by decide +kernel
theorem dX6_back_88 : decode cX6_back 88 = .ok (.iaload, 1) := by decide +kernel
theorem dX6_back_89 : decode cX6_back 89 = .ok (.iastore, 1) := by decide +kernel
theorem dX6_back_90 : decode cX6_back 90 = .ok (.iinc 1 1, 3) := by decide +kernel
theorem dX6_back_93 : decode cX6_back 93 = .ok (.goto (-29), 3) := by decide +kernel
theorem dX6_back_96 : decode cX6_back 96 = .ok (.aload_n 0, 1) := by decide +kernel
theorem dX6_back_97 : decode cX6_back 97 = .ok (.aload_n 0, 1) := by decide +kernel
theorem dX6_back_98 : decode cX6_back 98 = .ok (.getfield 72, 3) := by decide +kernel
theorem dX6_back_101 : decode cX6_back 101 = .ok (.aload_n 0, 1) := by decide +kernel
theorem dX6_back_102 : decode cX6_back 102 = .ok (.getfield 211, 3) := by decide +kernel
theorem dX6_back_105 : decode cX6_back 105 = .ok (.iaload, 1) := by decide +kernel
theorem dX6_back_106 : decode cX6_back 106 = .ok (.putfield 230, 3) := by decide +kernel
theorem dX6_back_109 : decode cX6_back 109 = .ok (.aload_n 0, 1) := by decide +kernel
theorem dX6_back_110 : decode cX6_back 110 = .ok (.getfield 75, 3) := by decide +kernel
theorem dX6_back_113 : decode cX6_back 113 = .ok (.aload_n 0, 1) := by decide +kernel
theorem dX6_back_114 : decode cX6_back 114 = .ok (.getfield 211, 3) := by decide +kernel
theorem dX6_back_117 : decode cX6_back 117 = .ok (.iaload, 1) := by decide +kernel
theorem dX6_back_118 : decode cX6_back 118 = .ok (.istore_n 1, 1) := by decide +kernel
theorem dX6_back_119 : decode cX6_back 119 = .ok (.aload_n 0, 1) := by decide +kernel
theorem dX6_back_120 : decode cX6_back 120 = .ok (.getfield 230, 3) := by decide +kernel
theorem dX6_back_123 : decode cX6_back 123 = .ok (.iconst (-1), 1) := by decide +kernel
theorem dX6_back_124 : decode cX6_back 124 = .ok (.if_icmp .eq 8, 3) := by decide +kernel
theorem dX6_back_127 : decode cX6_back 127 = .ok (.iload_n 1, 1) := by decide +kernel
theorem dX6_back_128 : decode cX6_back 128 = .ok (.iconst (-1), 1) := by decide +kernel
theorem dX6_back_129 : decode cX6_back 129 = .ok (.if_icmp .ne 4, 3) := by decide +kernel
theorem dX6_back_132 : decode cX6_back 132 = .ok (.return_, 1) := by decide +kernel
theorem dX6_back_133 : decode cX6_back 133 = .ok (.aload_n 0, 1) := by decide +kernel
theorem dX6_back_134 : decode cX6_back 134 = .ok (.getfield 16, 3) := by decide +kernel
theorem dX6_back_137 : decode cX6_back 137 = .ok (.aload_n 0, 1) := by decide +kernel
theorem dX6_back_138 : decode cX6_back 138 = .ok (.getfield 230, 3) := by decide +kernel
theorem dX6_back_141 : decode cX6_back 141 = .ok (.iaload, 1) := by decide +kernel
theorem dX6_back_142 : decode cX6_back 142 = .ok (.bipush 15, 2) := by decide +kernel
theorem dX6_back_144 : decode cX6_back 144 = .ok (.if_icmp .ne 15, 3) := by decide +kernel
theorem dX6_back_147 : decode cX6_back 147 = .ok (.aload_n 0, 1) := by decide +kernel
theorem dX6_back_148 : decode cX6_back 148 = .ok (.aload_n 0, 1) := by decide +kernel
theorem dX6_back_149 : decode cX6_back 149 = .ok (.getfield 230, 3) := by decide +kernel
theorem dX6_back_152 : decode cX6_back 152 = .ok (.iload_n 1, 1) := by decide +kernel
theorem dX6_back_153 : decode cX6_back 153 = .ok (.invokevirtual 245, 3) := by decide +kernel
theorem dX6_back_156 : decode cX6_back 156 = .ok (.goto 12, 3) := by decide +kernel
theorem dX6_back_159 : decode cX6_back 159 = .ok (.aload_n 0, 1) := by decide +kernel
theorem dX6_back_160 : decode cX6_back 160 = .ok (.aload_n 0, 1) := by decide +kernel
theorem dX6_back_161 : decode cX6_back 161 = .ok (.getfield 230, 3) := by decide +kernel
theorem dX6_back_164 : decode cX6_back 164 = .ok (.iload_n 1, 1) := by decide +kernel
theorem dX6_back_165 : decode cX6_back 165 = .ok (.invokevirtual 248, 3) := by decide +kernel
theorem dX6_back_168 : decode cX6_back 168 = .ok (.return_, 1) := by decide +kernel
def L_back_64 : Nat → RS → Int32 → RS → Int32 → Prop
  | 0, _, _, _, _ => False
  | nf + 1, R, x1, R', r => if 10 ≤ x1 then (vp_in (R.1 27) 500 ∧ (vp_in (R.1 27) 500 ∧ (if (R.2.1 35 (R.1 27).toNatClampNeg) = (-1) then (R' = (mf R 24 (R.2.1 35 (R.1 27).toNatClampNeg)) ∧ r = 0) else (if (R.2.1 36 (R.1 27).toNatClampNeg) = (-1) then (R' = (mf R 24 (R.2.1 35 (R.1 27).toNatClampNeg)) ∧ r = 0) else (vp_in (R.2.1 35 (R.1 27).toNatClampNeg) 96 ∧ (if (R.2.1 8 (R.2.1 35 (R.1 27).toNatClampNeg).toNatClampNeg) = 15 then (∃ R8 : RS, E_goThrough (mf R 24 (R.2.1 35 (R.1 27).toNatClampNeg)) (R.2.1 35 (R.1 27).toNatClampNeg) (R.2.1 36 (R.1 27).toNatClampNeg) R8 0 ∧ (R' = R8 ∧ r = 0)) else (∃ R6 : RS, E_before (mf R 24 (R.2.1 35 (R.1 27).toNatClampNeg)) (R.2.1 35 (R.1 27).toNatClampNeg) (R.2.1 36 (R.1 27).toNatClampNeg) R6 0 ∧ (R' = R6 ∧ r = 0)))))))) else (vp_in ((10 * (R.1 27)) + x1) 5000 ∧ (vp_in x1 10 ∧ (L_back_64 nf (ma R 30 x1.toNatClampNeg (R.2.1 40 ((10 * (R.1 27)) + x1).toNatClampNeg)) (x1 + 1) R' r)))
set_option maxHeartbeats 4000000 in
set_option maxRecDepth 100000 in
theorem L_back_64_ok {l : Launch} {G : PG} {h : Nat} {q : Nat → Nat} {R' : RS} {r : Int32} {p : Program} {e : Env} {s : State} {m : MethodId} {below : List Frame} {meth : Method} {c : Code} {A : Nat → Prop} (F : bF p s m meth c cX6_back 2 none ([.ref h] : List Value).toArray yX6_back) (hK : pg_K G s) (hA : ∀ q, s.heap.size ≤ q → A q) : ∀ (nf : Nat) (R : RS) (x1 : Int32) (H : Heap) (locs : List Loc) (ls : Array Slot), lv_has ls 2 [(1, .int x1), (0, .ref h)] → L_back_64 nf R x1 R' r → va_P G.1 vwCl (mW G h q R) H → va_D A (mW G h q R) → va_S A s.heap H locs → W p l e { frames := 2, cells := 0, slots := 0, locals := 47 } s m ([.ref h] : List Value).toArray below meth c H locs 0 0 (MQ below (va_Qv (fun (_ : Unit) => True) (oB G A (fun (_ : Unit) => mW G h q R')) A) ([.ref h] : List Value).toArray s 0 0 A) (F0 m 64 ls []) := by
  have hx := F.1.1; have hb := F.1.2.1; have hml := F.1.2.2.1; have hts := F.1.2.2.2.2
  have hown : s.vm.findClass RX6 = some m.cls := F.1.2.2.2.1
  intro nf
  induction nf with
  | zero => intro R x1 H locs ls hl hE; exact hE.elim
  | succ nf ih =>
    intro R x1 H locs ls hl hE hP hD hS
    unfold L_back_64 at hE
    refine lv_iload_n hx hb dX6_back_64 rfl (lv_at hl 0 rfl) ?_
    refine lv_bipush (v := 10) hx hb dX6_back_65 (by decide) ?_
    refine lv_icmp_ge (tgt := 96) hx hb dX6_back_67 (by decide) (fun h2 => ?_) (fun h2 => ?_)
    ·
      rw [if_pos h2] at hE
      refine lv_aload_n hx hb dX6_back_96 rfl (lv_at hl 1 rfl) ?_
      refine lv_aload_n hx hb dX6_back_97 rfl (lv_at hl 1 rfl) ?_
      refine va_get (D := G.1) (ci := 6) (C := RX6) (T := TX6) (N := 48) hx hb hts inX6 hown hK.1 hP 0 mW_0 rfl 35 (by decide) (hts _ w_881) (fun _ h9 => h9) mF_35 dX6_back_98 ?_
      refine lv_aload_n hx hb dX6_back_101 rfl (lv_at hl 1 rfl) ?_
      refine va_get (D := G.1) (ci := 6) (C := RX6) (T := TX6) (N := 48) hx hb hts inX6 hown hK.1 hP 0 mW_0 rfl 27 (by decide) (hts _ w_873) (fun _ h9 => h9) mF_27 dX6_back_102 ?_
      obtain ⟨hin, hE⟩ := hE
      refine va_iald (D := G.1) hx hb hK.1 hP 21 0 mW_g35 rfl hin dX6_back_105 ?_
      refine va_put (D := G.1) (ci := 6) (v := .int (R.2.1 35 (R.1 27).toNatClampNeg)) (ty := .int) (C := RX6) (T := TX6) (N := 48) hx hb hts inX6 tyX6 tyX6_ok nmX6 hown hK.1 hP hD hS 0 mW_0 rfl 24 (by decide) (hts _ w_870) (fun _ h9 => h9) rfl (by decide +kernel) rfl rfl mF_l24 dX6_back_106 (fun H locs hP hD hS => ?_)
      rw [mW_f24] at hP hD
      refine lv_aload_n hx hb dX6_back_109 rfl (lv_at hl 1 rfl) ?_
      refine va_get (D := G.1) (ci := 6) (C := RX6) (T := TX6) (N := 48) hx hb hts inX6 hown hK.1 hP 0 mW_0 rfl 36 (by decide) (hts _ w_882) (fun _ h9 => h9) mF_36 dX6_back_110 ?_
      refine lv_aload_n hx hb dX6_back_113 rfl (lv_at hl 1 rfl) ?_
      refine va_get (D := G.1) (ci := 6) (C := RX6) (T := TX6) (N := 48) hx hb hts inX6 hown hK.1 hP 0 mW_0 rfl 27 (by decide) (hts _ w_873) (fun _ h9 => h9) mF_27 dX6_back_114 ?_
      refine tp_i (R.1 27) rfl ?_
      obtain ⟨hin, hE⟩ := hE
      refine va_iald (D := G.1) hx hb hK.1 hP 22 0 mW_g36 rfl hin dX6_back_117 ?_
      refine tp_i (R.2.1 36 (R.1 27).toNatClampNeg) rfl ?_
      refine lv_istore_n hx hb dX6_back_118 rfl hl (by decide) rfl (fun ls hl => ?_)
      have hl : lv_has ls 2 [(1, .int (R.2.1 36 (R.1 27).toNatClampNeg)), (0, .ref h)] := hl
      refine lv_aload_n hx hb dX6_back_119 rfl (lv_at hl 1 rfl) ?_
      refine va_get (D := G.1) (ci := 6) (C := RX6) (T := TX6) (N := 48) hx hb hts inX6 hown hK.1 hP 0 mW_0 rfl 24 (by decide) (hts _ w_870) (fun _ h9 => h9) mF_24 dX6_back_120 ?_
      refine tp_i (R.2.1 35 (R.1 27).toNatClampNeg) rfl ?_
      refine lv_iconst (v := (-1)) hx hb dX6_back_123 (by decide) ?_
      refine lv_icmp_eq (tgt := 132) hx hb dX6_back_124 (by decide) (fun h3 => ?_) (fun h3 => ?_)
      ·
        rw [if_pos h3] at hE
        obtain ⟨rfl, rfl⟩ := hE
        exact en_v F hS () trivial hP hD (Nat.le_refl _) (Nat.le_refl _) dX6_back_132
      ·
        rw [if_neg h3] at hE
        refine lv_iload_n hx hb dX6_back_127 rfl (lv_at hl 0 rfl) ?_
        refine lv_iconst (v := (-1)) hx hb dX6_back_128 (by decide) ?_
        refine lv_icmp_ne (tgt := 133) hx hb dX6_back_129 (by decide) (fun h4 => ?_) (fun h4 => ?_)
        ·
          rw [if_neg h4] at hE
          refine lv_aload_n hx hb dX6_back_133 rfl (lv_at hl 1 rfl) ?_
          refine va_get (D := G.1) (ci := 6) (C := RX6) (T := TX6) (N := 48) hx hb hts inX6 hown hK.1 hP 0 mW_0 rfl 8 (by decide) (hts _ w_854) (fun _ h9 => h9) mF_8 dX6_back_134 ?_
          refine lv_aload_n hx hb dX6_back_137 rfl (lv_at hl 1 rfl) ?_
          refine va_get (D := G.1) (ci := 6) (C := RX6) (T := TX6) (N := 48) hx hb hts inX6 hown hK.1 hP 0 mW_0 rfl 24 (by decide) (hts _ w_870) (fun _ h9 => h9) mF_24 dX6_back_138 ?_
          refine tp_i (R.2.1 35 (R.1 27).toNatClampNeg) rfl ?_
          obtain ⟨hin, hE⟩ := hE
          refine va_iald (D := G.1) hx hb hK.1 hP 3 0 mW_g8 rfl hin dX6_back_141 ?_
          refine tp_i (R.2.1 8 (R.2.1 35 (R.1 27).toNatClampNeg).toNatClampNeg) rfl ?_
          refine lv_bipush (v := 15) hx hb dX6_back_142 (by decide) ?_
          refine lv_icmp_ne (tgt := 159) hx hb dX6_back_144 (by decide) (fun h5 => ?_) (fun h5 => ?_)
          ·
            rw [if_neg h5] at hE
            refine lv_aload_n hx hb dX6_back_159 rfl (lv_at hl 1 rfl) ?_
            refine lv_aload_n hx hb dX6_back_160 rfl (lv_at hl 1 rfl) ?_
            refine va_get (D := G.1) (ci := 6) (C := RX6) (T := TX6) (N := 48) hx hb hts inX6 hown hK.1 hP 0 mW_0 rfl 24 (by decide) (hts _ w_870) (fun _ h9 => h9) mF_24 dX6_back_161 ?_
            refine tp_i (R.2.1 35 (R.1 27).toNatClampNeg) rfl ?_
            refine lv_iload_n hx hb dX6_back_164 rfl (lv_at hl 0 rfl) ?_
            obtain ⟨R6, hg, hE⟩ := hE
            refine kA_v (va_runV (As := [.int (R.2.1 35 (R.1 27).toNatClampNeg), .int (R.2.1 36 (R.1 27).toNatClampNeg)]) (rest := []) F.1 (e_before l G h q (mf R 24 (R.2.1 35 (R.1 27).toNatClampNeg)) (R.2.1 35 (R.1 27).toNatClampNeg) (R.2.1 36 (R.1 27).toNatClampNeg) R6 0 hg _) (cwV 2 hts (aw_V w_1176 w_1178 ws_X6_before w_6 w_1179) rfl rfl rfl (by decide +kernel) ⟨by decide, by decide⟩) ⟨cS_blind, va_recv (q := (RX6, TX6, 48)) (ci := 6) (q0 := 0) hK.1 hP rfl mW_0, cS_pre hP hD hK⟩ rfl rfl hl.1 rfl (lv_room (Nat.le_of_ble_eq_true rfl)) dX6_back_165 ⟨Nat.le_refl _, Nat.le_refl _⟩) hD hS hA (fun u0 H locs hp hP hD hS => ?_)
            obtain ⟨rfl, rfl⟩ := hE
            exact en_v F hS () trivial hP hD (Nat.le_refl _) (Nat.le_refl _) dX6_back_168
          ·
            rw [if_pos h5] at hE
            refine lv_aload_n hx hb dX6_back_147 rfl (lv_at hl 1 rfl) ?_
            refine lv_aload_n hx hb dX6_back_148 rfl (lv_at hl 1 rfl) ?_
            refine va_get (D := G.1) (ci := 6) (C := RX6) (T := TX6) (N := 48) hx hb hts inX6 hown hK.1 hP 0 mW_0 rfl 24 (by decide) (hts _ w_870) (fun _ h9 => h9) mF_24 dX6_back_149 ?_
            refine tp_i (R.2.1 35 (R.1 27).toNatClampNeg) rfl ?_
            refine lv_iload_n hx hb dX6_back_152 rfl (lv_at hl 0 rfl) ?_
            obtain ⟨R8, hg, hE⟩ := hE
            refine kA_v (va_runV (As := [.int (R.2.1 35 (R.1 27).toNatClampNeg), .int (R.2.1 36 (R.1 27).toNatClampNeg)]) (rest := []) F.1 (e_goThrough l G h q (mf R 24 (R.2.1 35 (R.1 27).toNatClampNeg)) (R.2.1 35 (R.1 27).toNatClampNeg) (R.2.1 36 (R.1 27).toNatClampNeg) R8 0 hg _) (cwV 2 hts (aw_V w_1124 w_1126 ws_X6_goThrough w_6 w_1127) rfl rfl rfl (by decide +kernel) ⟨by decide, by decide⟩) ⟨cS_blind, va_recv (q := (RX6, TX6, 48)) (ci := 6) (q0 := 0) hK.1 hP rfl mW_0, cS_pre hP hD hK⟩ rfl rfl hl.1 rfl (lv_room (Nat.le_of_ble_eq_true rfl)) dX6_back_153 ⟨Nat.le_refl _, Nat.le_refl _⟩) hD hS hA (fun u0 H locs hp hP hD hS => ?_)
            refine lv_goto (tgt := 168) hx hb dX6_back_156 (by decide) ?_
            obtain ⟨rfl, rfl⟩ := hE
            exact en_v F hS () trivial hP hD (Nat.le_refl _) (Nat.le_refl _) dX6_back_168
        ·
          rw [if_pos h4] at hE
          obtain ⟨rfl, rfl⟩ := hE
          exact en_v F hS () trivial hP hD (Nat.le_refl _) (Nat.le_refl _) dX6_back_132
    ·
      rw [if_neg h2] at hE
      refine lv_aload_n hx hb dX6_back_70 rfl (lv_at hl 1 rfl) ?_
      refine va_get (D := G.1) (ci := 6) (C := RX6) (T := TX6) (N := 48) hx hb hts inX6 hown hK.1 hP 0 mW_0 rfl 30 (by decide) (hts _ w_876) (fun _ h9 => h9) mF_30 dX6_back_71 ?_
      refine lv_iload_n hx hb dX6_back_74 rfl (lv_at hl 0 rfl) ?_
      refine lv_aload_n hx hb dX6_back_75 rfl (lv_at hl 1 rfl) ?_
      refine va_get (D := G.1) (ci := 6) (C := RX6) (T := TX6) (N := 48) hx hb hts inX6 hown hK.1 hP 0 mW_0 rfl 40 (by decide) (hts _ w_886) (fun _ h9 => h9) mF_40 dX6_back_76 ?_
      refine lv_bipush (v := 10) hx hb dX6_back_79 (by decide) ?_
      refine lv_aload_n hx hb dX6_back_81 rfl (lv_at hl 1 rfl) ?_
      refine va_get (D := G.1) (ci := 6) (C := RX6) (T := TX6) (N := 48) hx hb hts inX6 hown hK.1 hP 0 mW_0 rfl 27 (by decide) (hts _ w_873) (fun _ h9 => h9) mF_27 dX6_back_82 ?_
      refine lv_imul hx hb dX6_back_85 ?_
      refine lv_iload_n hx hb dX6_back_86 rfl (lv_at hl 0 rfl) ?_
      refine lv_iadd hx hb dX6_back_87 ?_
      obtain ⟨hin, hE⟩ := hE
      refine va_iald (D := G.1) hx hb hK.1 hP 26 0 mW_g40 rfl hin dX6_back_88 ?_
      obtain ⟨hin, hE⟩ := hE
      refine va_iast (D := G.1) hx hb hK.1 hP hD hS 16 0 mW_g30 rfl hin dX6_back_89 (fun H locs hP hD hS => ?_)
      rw [mW_a30] at hP hD
      refine lv_iinc (v := (x1 + 1)) (k := 0) hx hb dX6_back_90 hl rfl rfl (by decide) rfl (fun ls hl => ?_)
      have hl : lv_has ls 2 [(1, .int (x1 + 1)), (0, .ref h)] := hl
      refine lv_goto (tgt := 64) hx hb dX6_back_93 (by decide) ?_
      exact ih (ma R 30 x1.toNatClampNeg (R.2.1 40 ((10 * (R.1 27)) + x1).toNatClampNeg)) (x1 + 1) _ _ ls (lv_sub hl [0, 1] rfl) hE hP hD hS
def E_back (R : RS)  (R' : RS) (r : Int32) : Prop := if (R.1 27) = 0 then (R' = (mf R 29 0) ∧ r = 0) else (vp_in ((R.1 27) - 1) 500 ∧ (vp_in ((R.1 27) - 1) 500 ∧ (vp_in ((R.1 27) - 1) 500 ∧ (∃ nf : Nat, L_back_64 nf (mf (mf (mf (mf R 27 ((R.1 27) - 1)) 23 (R.2.1 37 ((R.1 27) - 1).toNatClampNeg)) 25 (R.2.1 38 ((R.1 27) - 1).toNatClampNeg)) 26 (R.2.1 39 ((R.1 27) - 1).toNatClampNeg)) 0 R' r))))
set_option maxHeartbeats 4000000 in
set_option maxRecDepth 100000 in
theorem e_back (l : Launch) (G : PG) (h : Nat) (q : Nat → Nat) (R : RS)  (R' : RS) (r : Int32) (hE : E_back R R' r) : Cv l yX6_back (Cond.code yX6_back cX6_back 2 none :: aW) { frames := 2, cells := 0, slots := 0, locals := 47 } G (mW G h q R) [.ref h] (fun (_ : Unit) => True) (fun (_ : Unit) => mW G h q R') 0 0 := by
  refine ofB (y := yX6_back) (G := G) (cc := cX6_back) (maxL := 2) (ret := none) (Qc := fun A => va_Qv (fun (_ : Unit) => True) (oB G A (fun (_ : Unit) => mW G h q R')) A) (by decide) rfl ?_
  intro p e s m below meth c A F hK hA hP hD
  have hS : va_S A s.heap s.heap [] := va_S.rf
  have hx := F.1.1; have hb := F.1.2.1; have hml := F.1.2.2.1; have hts := F.1.2.2.2.2
  have hown : s.vm.findClass RX6 = some m.cls := F.1.2.2.2.1
  have hl := lv_entry ([.ref h]) (n := 2) (Nat.le_of_ble_eq_true rfl)
  rw [lg_entry_eq]
  generalize (lg_sl ([.ref h]) ++ List.replicate (2 - (lg_sl ([.ref h])).length) Slot.unset).toArray = ls at hl ⊢
  have hl : lv_has ls 2 [(0, .ref h)] := hl
  unfold E_back at hE
  refine lv_aload_n hx hb dX6_back_0 rfl (lv_at hl 0 rfl) ?_
  refine va_get (D := G.1) (ci := 6) (C := RX6) (T := TX6) (N := 48) hx hb hts inX6 hown hK.1 hP 0 mW_0 rfl 27 (by decide) (hts _ w_873) (fun _ h9 => h9) mF_27 dX6_back_1 ?_
  refine lv_if_ne (tgt := 13) hx hb dX6_back_4 (by decide) (fun h1 => ?_) (fun h1 => ?_)
  ·
    rw [if_neg h1] at hE
    refine lv_aload_n hx hb dX6_back_13 rfl (lv_at hl 0 rfl) ?_
    refine lv_dup hx hb dX6_back_14 rfl ?_
    refine va_get (D := G.1) (ci := 6) (C := RX6) (T := TX6) (N := 48) hx hb hts inX6 hown hK.1 hP 0 mW_0 rfl 27 (by decide) (hts _ w_873) (fun _ h9 => h9) mF_27 dX6_back_15 ?_
    refine lv_iconst (v := 1) hx hb dX6_back_18 (by decide) ?_
    refine lv_isub hx hb dX6_back_19 ?_
    refine va_put (D := G.1) (ci := 6) (v := .int ((R.1 27) - 1)) (ty := .int) (C := RX6) (T := TX6) (N := 48) hx hb hts inX6 tyX6 tyX6_ok nmX6 hown hK.1 hP hD hS 0 mW_0 rfl 27 (by decide) (hts _ w_873) (fun _ h9 => h9) rfl (by decide +kernel) rfl rfl mF_l27 dX6_back_20 (fun H locs hP hD hS => ?_)
    rw [mW_f27] at hP hD
    refine lv_aload_n hx hb dX6_back_23 rfl (lv_at hl 0 rfl) ?_
    refine lv_aload_n hx hb dX6_back_24 rfl (lv_at hl 0 rfl) ?_
    refine va_get (D := G.1) (ci := 6) (C := RX6) (T := TX6) (N := 48) hx hb hts inX6 hown hK.1 hP 0 mW_0 rfl 37 (by decide) (hts _ w_883) (fun _ h9 => h9) mF_37 dX6_back_25 ?_
    refine lv_aload_n hx hb dX6_back_28 rfl (lv_at hl 0 rfl) ?_
    refine va_get (D := G.1) (ci := 6) (C := RX6) (T := TX6) (N := 48) hx hb hts inX6 hown hK.1 hP 0 mW_0 rfl 27 (by decide) (hts _ w_873) (fun _ h9 => h9) mF_27 dX6_back_29 ?_
    refine tp_i ((R.1 27) - 1) rfl ?_
    obtain ⟨hin, hE⟩ := hE
    refine va_iald (D := G.1) hx hb hK.1 hP 23 0 mW_g37 rfl hin dX6_back_32 ?_
    refine tp_i (R.2.1 37 ((R.1 27) - 1).toNatClampNeg) rfl ?_
    refine va_put (D := G.1) (ci := 6) (v := .int (R.2.1 37 ((R.1 27) - 1).toNatClampNeg)) (ty := .int) (C := RX6) (T := TX6) (N := 48) hx hb hts inX6 tyX6 tyX6_ok nmX6 hown hK.1 hP hD hS 0 mW_0 rfl 23 (by decide) (hts _ w_869) (fun _ h9 => h9) rfl (by decide +kernel) rfl rfl mF_l23 dX6_back_33 (fun H locs hP hD hS => ?_)
    rw [mW_f23] at hP hD
    refine lv_aload_n hx hb dX6_back_36 rfl (lv_at hl 0 rfl) ?_
    refine lv_aload_n hx hb dX6_back_37 rfl (lv_at hl 0 rfl) ?_
    refine va_get (D := G.1) (ci := 6) (C := RX6) (T := TX6) (N := 48) hx hb hts inX6 hown hK.1 hP 0 mW_0 rfl 38 (by decide) (hts _ w_884) (fun _ h9 => h9) mF_38 dX6_back_38 ?_
    refine lv_aload_n hx hb dX6_back_41 rfl (lv_at hl 0 rfl) ?_
    refine va_get (D := G.1) (ci := 6) (C := RX6) (T := TX6) (N := 48) hx hb hts inX6 hown hK.1 hP 0 mW_0 rfl 27 (by decide) (hts _ w_873) (fun _ h9 => h9) mF_27 dX6_back_42 ?_
    refine tp_i ((R.1 27) - 1) rfl ?_
    obtain ⟨hin, hE⟩ := hE
    refine va_iald (D := G.1) hx hb hK.1 hP 24 0 mW_g38 rfl hin dX6_back_45 ?_
    refine tp_i (R.2.1 38 ((R.1 27) - 1).toNatClampNeg) rfl ?_
    refine va_put (D := G.1) (ci := 6) (v := .int (R.2.1 38 ((R.1 27) - 1).toNatClampNeg)) (ty := .int) (C := RX6) (T := TX6) (N := 48) hx hb hts inX6 tyX6 tyX6_ok nmX6 hown hK.1 hP hD hS 0 mW_0 rfl 25 (by decide) (hts _ w_871) (fun _ h9 => h9) rfl (by decide +kernel) rfl rfl mF_l25 dX6_back_46 (fun H locs hP hD hS => ?_)
    rw [mW_f25] at hP hD
    refine lv_aload_n hx hb dX6_back_49 rfl (lv_at hl 0 rfl) ?_
    refine lv_aload_n hx hb dX6_back_50 rfl (lv_at hl 0 rfl) ?_
    refine va_get (D := G.1) (ci := 6) (C := RX6) (T := TX6) (N := 48) hx hb hts inX6 hown hK.1 hP 0 mW_0 rfl 39 (by decide) (hts _ w_885) (fun _ h9 => h9) mF_39 dX6_back_51 ?_
    refine lv_aload_n hx hb dX6_back_54 rfl (lv_at hl 0 rfl) ?_
    refine va_get (D := G.1) (ci := 6) (C := RX6) (T := TX6) (N := 48) hx hb hts inX6 hown hK.1 hP 0 mW_0 rfl 27 (by decide) (hts _ w_873) (fun _ h9 => h9) mF_27 dX6_back_55 ?_
    refine tp_i ((R.1 27) - 1) rfl ?_
    obtain ⟨hin, hE⟩ := hE
    refine va_iald (D := G.1) hx hb hK.1 hP 25 0 mW_g39 rfl hin dX6_back_58 ?_
    refine tp_i (R.2.1 39 ((R.1 27) - 1).toNatClampNeg) rfl ?_
    refine va_put (D := G.1) (ci := 6) (v := .int (R.2.1 39 ((R.1 27) - 1).toNatClampNeg)) (ty := .int) (C := RX6) (T := TX6) (N := 48) hx hb hts inX6 tyX6 tyX6_ok nmX6 hown hK.1 hP hD hS 0 mW_0 rfl 26 (by decide) (hts _ w_872) (fun _ h9 => h9) rfl (by decide +kernel) rfl rfl mF_l26 dX6_back_59 (fun H locs hP hD hS => ?_)
    rw [mW_f26] at hP hD
    refine lv_iconst (v := 0) hx hb dX6_back_62 (by decide) ?_
    refine lv_istore_n hx hb dX6_back_63 rfl hl (by decide) rfl (fun ls hl => ?_)
    have hl : lv_has ls 2 [(1, .int 0), (0, .ref h)] := hl
    obtain ⟨nf, hE⟩ := hE
    exact L_back_64_ok F hK hA nf (mf (mf (mf (mf R 27 ((R.1 27) - 1)) 23 (R.2.1 37 ((R.1 27) - 1).toNatClampNeg)) 25 (R.2.1 38 ((R.1 27) - 1).toNatClampNeg)) 26 (R.2.1 39 ((R.1 27) - 1).toNatClampNeg)) 0 _ _ ls (lv_sub hl [0, 1] rfl) hE hP hD hS
  ·
    rw [if_pos h1] at hE
    refine lv_aload_n hx hb dX6_back_7 rfl (lv_at hl 0 rfl) ?_
    refine lv_iconst (v := 0) hx hb dX6_back_8 (by decide) ?_
    refine va_put (D := G.1) (ci := 6) (v := .int 0) (ty := .boolean) (C := RX6) (T := TX6) (N := 48) hx hb hts inX6 tyX6 tyX6_ok nmX6 hown hK.1 hP hD hS 0 mW_0 rfl 29 (by decide) (hts _ w_875) (fun _ h9 => h9) rfl (by decide +kernel) rfl rfl mF_l29 dX6_back_9 (fun H locs hP hD hS => ?_)
    rw [mW_f29] at hP hD
    obtain ⟨rfl, rfl⟩ := hE
    exact en_v F hS () trivial hP hD (Nat.le_refl _) (Nat.le_refl _) dX6_back_12

theorem dX6_enter_0 : decode cX6_enter 0 = .ok (.aload_n 0, 1) := by decide +kernel
theorem dX6_enter_1 : decode cX6_enter 1 = .ok (.iconst (-1), 1) := by decide +kernel
theorem dX6_enter_2 : decode cX6_enter 2 = .ok (.putfield 230, 3) := by decide +kernel
theorem dX6_enter_5 : decode cX6_enter 5 = .ok (.aload_n 0, 1) := by decide +kernel
theorem dX6_enter_6 : decode cX6_enter 6 = .ok (.getfield 16, 3) := by decide +kernel
theorem dX6_enter_9 : decode cX6_enter 9 = .ok (.iload_n 1, 1) := by decide +kernel
theorem dX6_enter_10 : decode cX6_enter 10 = .ok (.iaload, 1) := by decide +kernel
theorem dX6_enter_11 : decode cX6_enter 11 = .ok (.tableswitch 272 0 15 #[77, 87, 93, 99, 112, 131, 158, 185, 196, 222, 232, 266, 272, 272, 232, 260], 77) := by decide +kernel
theorem dX6_enter_88 : decode cX6_enter 88 = .ok (.aload_n 0, 1) := by decide +kernel
theorem dX6_enter_89 : decode cX6_enter 89 = .ok (.iload_n 1, 1) := by decide +kernel
theorem dX6_enter_90 : decode cX6_enter 90 = .ok (.aload_n 0, 1) := by decide +kernel
theorem dX6_enter_91 : decode cX6_enter 91 = .ok (.getfield 227, 3) := by decide +kernel
theorem dX6_enter_94 : decode cX6_enter 94 = .ok (.invokevirtual 251, 3) := by decide +kernel
theorem dX6_enter_97 : decode cX6_enter 97 = .ok (.ireturn, 1) := by decide +kernel
theorem dX6_enter_98 : decode cX6_enter 98 = .ok (.aload_n 0, 1) := by decide +kernel
theorem dX6_enter_99 : decode cX6_enter 99 = .ok (.iload_n 1, 1) := by decide +kernel
theorem dX6_enter_100 : decode cX6_enter 100 = .ok (.invokevirtual 255, 3) := by decide +kernel
theorem dX6_enter_103 : decode cX6_enter 103 = .ok (.ireturn, 1) := by decide +kernel
theorem dX6_enter_104 : decode cX6_enter 104 = .ok (.aload_n 0, 1) := by decide +kernel
theorem dX6_enter_105 : decode cX6_enter 105 = .ok (.iload_n 1, 1) := by decide +kernel
theorem dX6_enter_106 : decode cX6_enter 106 = .ok (.invokevirtual 258, 3) := by decide +kernel
theorem dX6_enter_109 : decode cX6_enter 109 = .ok (.ireturn, 1) := by decide +kernel
theorem dX6_enter_110 : decode cX6_enter 110 = .ok (.aload_n 0, 1) := by decide +kernel
theorem dX6_enter_111 : decode cX6_enter 111 = .ok (.getfield 217, 3) := by decide +kernel
theorem dX6_enter_114 : decode cX6_enter 114 = .ok (.ifCond .ne 7, 3) := by decide +kernel
theorem dX6_enter_117 : decode cX6_enter 117 = .ok (.iconst 1, 1) := by decide +kernel
theorem dX6_enter_118 : decode cX6_enter 118 = .ok (.goto 4, 3) := by decide +kernel
theorem dX6_enter_121 : decode cX6_enter 121 = .ok (.iconst 0, 1) := by decide +kernel
theorem dX6_enter_122 : decode cX6_enter 122 = .ok (.ireturn, 1) := by decide +kernel
theorem dX6_enter_123 : decode cX6_enter 123 = .ok (.aload_n 0, 1) := by decide +kernel
theorem dX6_enter_124 : decode cX6_enter 124 = .ok (.getfield 217, 3) := by decide +kernel
theorem dX6_enter_127 : decode cX6_enter 127 = .ok (.aload_n 0, 1) := by decide +kernel
theorem dX6_enter_128 : decode cX6_enter 128 = .ok (.getfield 13, 3) := by decide +kernel
theorem dX6_enter_131 : decode cX6_enter 131 = .ok (.iconst 1, 1) := by decide +kernel
theorem dX6_enter_132 : decode cX6_enter 132 = .ok (.iaload, 1) := by decide +kernel
theorem dX6_enter_133 : decode cX6_enter 133 = .ok (.if_icmp .ne 7, 3) := by decide +kernel
theorem dX6_enter_136 : decode cX6_enter 136 = .ok (.iconst 1, 1) := by decide +kernel
theorem dX6_enter_137 : decode cX6_enter 137 = .ok (.goto 4, 3) := by decide +kernel
theorem dX6_enter_140 : decode cX6_enter 140 = .ok (.iconst 0, 1) := by decide +kernel
theorem dX6_enter_141 : decode cX6_enter 141 = .ok (.ireturn, 1) := by decide +kernel
theorem dX6_enter_142 : decode cX6_enter 142 = .ok (.aload_n 0, 1) := by decide +kernel
theorem dX6_enter_143 : decode cX6_enter 143 = .ok (.aload_n 0, 1) := by decide +kernel
theorem dX6_enter_144 : decode cX6_enter 144 = .ok (.getfield 217, 3) := by decide +kernel
theorem dX6_enter_147 : decode cX6_enter 147 = .ok (.iconst 1, 1) := by decide +kernel
theorem dX6_enter_148 : decode cX6_enter 148 = .ok (.isub, 1) := by decide +kernel
theorem dX6_enter_149 : decode cX6_enter 149 = .ok (.invokevirtual 261, 3) := by decide +kernel
theorem dX6_enter_152 : decode cX6_enter 152 = .ok (.aload_n 0, 1) := by decide +kernel
theorem dX6_enter_153 : decode cX6_enter 153 = .ok (.aload_n 0, 1) := by decide +kernel
theorem dX6_enter_154 : decode cX6_enter 154 = .ok (.getfield 217, 3) := by decide +kernel
theorem dX6_enter_157 : decode cX6_enter 157 = .ok (.invokevirtual 261, 3) := by decide +kernel
theorem dX6_enter_160 : decode cX6_enter 160 = .ok (.if_icmp .eq 7, 3) := by decide +kernel
theorem dX6_enter_163 : decode cX6_enter 163 = .ok (.iconst 1, 1) := by decide +kernel
theorem dX6_enter_164 : decode cX6_enter 164 = .ok (.goto 4, 3) := by decide +kernel
theorem dX6_enter_167 : decode cX6_enter 167 = .ok (.iconst 0, 1) := by decide +kernel
theorem dX6_enter_168 : decode cX6_enter 168 = .ok (.ireturn, 1) := by decide +kernel
theorem dX6_enter_169 : decode cX6_enter 169 = .ok (.aload_n 0, 1) := by decide +kernel
theorem dX6_enter_170 : decode cX6_enter 170 = .ok (.aload_n 0, 1) := by decide +kernel
theorem dX6_enter_171 : decode cX6_enter 171 = .ok (.getfield 217, 3) := by decide +kernel
theorem dX6_enter_174 : decode cX6_enter 174 = .ok (.iconst 1, 1) := by decide +kernel
theorem dX6_enter_175 : decode cX6_enter 175 = .ok (.isub, 1) := by decide +kernel
theorem dX6_enter_176 : decode cX6_enter 176 = .ok (.invokevirtual 261, 3) := by decide +kernel
theorem dX6_enter_179 : decode cX6_enter 179 = .ok (.aload_n 0, 1) := by decide +kernel
theorem dX6_enter_180 : decode cX6_enter 180 = .ok (.aload_n 0, 1) := by decide +kernel
theorem dX6_enter_181 : decode cX6_enter 181 = .ok (.getfield 217, 3) := by decide +kernel
theorem dX6_enter_184 : decode cX6_enter 184 = .ok (.invokevirtual 261, 3) := by decide +kernel
theorem dX6_enter_187 : decode cX6_enter 187 = .ok (.if_icmp .ne 7, 3) := by decide +kernel
theorem dX6_enter_190 : decode cX6_enter 190 = .ok (.iconst 1, 1) := by decide +kernel
theorem dX6_enter_191 : decode cX6_enter 191 = .ok (.goto 4, 3) := by decide +kernel
theorem dX6_enter_194 : decode cX6_enter 194 = .ok (.iconst 0, 1) := by decide +kernel
theorem dX6_enter_195 : decode cX6_enter 195 = .ok (.ireturn, 1) := by decide +kernel
theorem dX6_enter_196 : decode cX6_enter 196 = .ok (.aload_n 0, 1) := by decide +kernel
theorem dX6_enter_197 : decode cX6_enter 197 = .ok (.aload_n 0, 1) := by decide +kernel
theorem dX6_enter_198 : decode cX6_enter 198 = .ok (.getfield 19, 3) := by decide +kernel
theorem dX6_enter_201 : decode cX6_enter 201 = .ok (.iload_n 1, 1) := by decide +kernel
theorem dX6_enter_202 : decode cX6_enter 202 = .ok (.iaload, 1) := by decide +kernel
theorem dX6_enter_203 : decode cX6_enter 203 = .ok (.invokevirtual 264, 3) := by decide +kernel
theorem dX6_enter_206 : decode cX6_enter 206 = .ok (.ireturn, 1) := by decide +kernel
theorem dX6_enter_207 : decode cX6_enter 207 = .ok (.aload_n 0, 1) := by decide +kernel
theorem dX6_enter_208 : decode cX6_enter 208 = .ok (.iload_n 1, 1) := by decide +kernel
theorem dX6_enter_209 : decode cX6_enter 209 = .ok (.aload_n 0, 1) := by decide +kernel
theorem dX6_enter_210 : decode cX6_enter 210 = .ok (.bipush 21, 2) := by decide +kernel
theorem dX6_enter_212 : decode cX6_enter 212 = .ok (.aload_n 0, 1) := by decide +kernel
theorem dX6_enter_213 : decode cX6_enter 213 = .ok (.getfield 19, 3) := by decide +kernel
theorem dX6_enter_216 : decode cX6_enter 216 = .ok (.iload_n 1, 1) := by decide +kernel
theorem dX6_enter_217 : decode cX6_enter 217 = .ok (.iaload, 1) := by decide +kernel
theorem dX6_enter_218 : decode cX6_enter 218 = .ok (.aload_n 0, 1) := by decide +kernel
theorem dX6_enter_219 : decode cX6_enter 219 = .ok (.getfield 217, 3) := by decide +kernel
theorem dX6_enter_222 : decode cX6_enter 222 = .ok (.aload_n 0, 1) := by decide +kernel
theorem dX6_enter_223 : decode cX6_enter 223 = .ok (.getfield 227, 3) := by decide +kernel
theorem dX6_enter_226 : decode cX6_enter 226 = .ok (.invokevirtual 223, 3) := by decide +kernel
theorem dX6_enter_229 : decode cX6_enter 229 = .ok (.invokevirtual 251, 3) := by decide +kernel
theorem dX6_enter_232 : decode cX6_enter 232 = .ok (.ireturn, 1) := by decide +kernel
theorem dX6_enter_233 : decode cX6_enter 233 = .ok (.aload_n 0, 1) := by decide +kernel
theorem dX6_enter_234 : decode cX6_enter 234 = .ok (.iload_n 1, 1) := by decide +kernel
theorem dX6_enter_235 : decode cX6_enter 235 = .ok (.aload_n 0, 1) := by decide +kernel
theorem dX6_enter_236 : decode cX6_enter 236 = .ok (.getfield 227, 3) := by decide +kernel
theorem dX6_enter_239 : decode cX6_enter 239 = .ok (.invokevirtual 251, 3) := by decide +kernel
theorem dX6_enter_242 : decode cX6_enter 242 = .ok (.ireturn, 1) := by decide +kernel
theorem dX6_enter_243 : decode cX6_enter 243 = .ok (.aload_n 0, 1) := by decide +kernel
theorem dX6_enter_244 : decode cX6_enter 244 = .ok (.iload_n 1, 1) := by decide +kernel
theorem dX6_enter_245 : decode cX6_enter 245 = .ok (.aload_n 0, 1) := by decide +kernel
theorem dX6_enter_246 : decode cX6_enter 246 = .ok (.aload_n 0, 1) := by decide +kernel
theorem dX6_enter_247 : decode cX6_enter 247 = .ok (.getfield 16, 3) := by decide +kernel
theorem dX6_enter_250 : decode cX6_enter 250 = .ok (.iload_n 1, 1) := by decide +kernel
theorem dX6_enter_251 : decode cX6_enter 251 = .ok (.iaload, 1) := by decide +kernel
theorem dX6_enter_252 : decode cX6_enter 252 = .ok (.aload_n 0, 1) := by decide +kernel
theorem dX6_enter_253 : decode cX6_enter 253 = .ok (.getfield 211, 3) := by decide +kernel
theorem dX6_enter_256 : decode cX6_enter 256 = .ok (.aload_n 0, 1) := by decide +kernel
theorem dX6_enter_257 : decode cX6_enter 257 = .ok (.getfield 217, 3) := by decide +kernel
theorem dX6_enter_260 : decode cX6_enter 260 = .ok (.aload_n 0, 1) := by decide +kernel
theorem dX6_enter_261 : decode cX6_enter 261 = .ok (.getfield 227, 3) := by decide +kernel
theorem dX6_enter_264 : decode cX6_enter 264 = .ok (.invokevirtual 223, 3) := by decide +kernel
theorem dX6_enter_267 : decode cX6_enter 267 = .ok (.invokevirtual 251, 3) := by decide +kernel
theorem dX6_enter_270 : decode cX6_enter 270 = .ok (.ireturn, 1) := by decide +kernel
theorem dX6_enter_271 : decode cX6_enter 271 = .ok (.aload_n 0, 1) := by decide +kernel
theorem dX6_enter_272 : decode cX6_enter 272 = .ok (.iload_n 1, 1) := by decide +kernel
theorem dX6_enter_273 : decode cX6_enter 273 = .ok (.invokevirtual 267, 3) := by decide +kernel
theorem dX6_enter_276 : decode cX6_enter 276 = .ok (.ireturn, 1) := by decide +kernel
theorem dX6_enter_277 : decode cX6_enter 277 = .ok (.aload_n 0, 1) := by decide +kernel
theorem dX6_enter_278 : decode cX6_enter 278 = .ok (.iload_n 1, 1) := by decide +kernel
theorem dX6_enter_279 : decode cX6_enter 279 = .ok (.invokevirtual 270, 3) := by decide +kernel
theorem dX6_enter_282 : decode cX6_enter 282 = .ok (.ireturn, 1) := by decide +kernel
theorem dX6_enter_283 : decode cX6_enter 283 = .ok (.aload_n 0, 1) := by decide +kernel
theorem dX6_enter_284 : decode cX6_enter 284 = .ok (.iload_n 1, 1) := by decide +kernel
theorem dX6_enter_285 : decode cX6_enter 285 = .ok (.invokevirtual 273, 3) := by decide +kernel
theorem dX6_enter_288 : decode cX6_enter 288 = .ok (.ireturn, 1) := by decide +kernel
def E_enter (R : RS) (a1 : Int32) (R' : RS) (r : Int32) : Prop := vp_in a1 96 ∧ (if (R.2.1 8 a1.toNatClampNeg) = 0 then (∃ (R2 : RS) (r3 : Int32), E_into (mf R 24 (-1)) a1 (R.1 25) R2 r3 ∧ (narrow .boolean (.int r3) = .int r3 ∧ R' = R2 ∧ r = r3)) else (if (R.2.1 8 a1.toNatClampNeg) = 1 then (∃ (R5 : RS) (r6 : Int32), E_begin (mf R 24 (-1)) a1 R5 r6 ∧ (narrow .boolean (.int r6) = .int r6 ∧ R' = R5 ∧ r = r6)) else (if (R.2.1 8 a1.toNatClampNeg) = 2 then (∃ (R8 : RS) (r9 : Int32), E_one (mf R 24 (-1)) a1 R8 r9 ∧ (narrow .boolean (.int r9) = .int r9 ∧ R' = R8 ∧ r = r9)) else (if (R.2.1 8 a1.toNatClampNeg) = 3 then (narrow .boolean (.int (if (R.1 23) = 0 then 1 else 0 : Int32)) = .int (if (R.1 23) = 0 then 1 else 0 : Int32) ∧ R' = (mf R 24 (-1)) ∧ r = (if (R.1 23) = 0 then 1 else 0 : Int32)) else (if (R.2.1 8 a1.toNatClampNeg) = 4 then (vp_in 1 3 ∧ (narrow .boolean (.int (if (R.1 23) = (R.2.1 2 (1 : Int32).toNatClampNeg) then 1 else 0 : Int32)) = .int (if (R.1 23) = (R.2.1 2 (1 : Int32).toNatClampNeg) then 1 else 0 : Int32) ∧ R' = (mf R 24 (-1)) ∧ r = (if (R.1 23) = (R.2.1 2 (1 : Int32).toNatClampNeg) then 1 else 0 : Int32))) else (if (R.2.1 8 a1.toNatClampNeg) = 5 then (∃ (R17 : RS) (r18 : Int32), E_isWordAt (mf R 24 (-1)) ((R.1 23) - 1) R17 r18 ∧ (∃ (R19 : RS) (r20 : Int32), E_isWordAt R17 (R17.1 23) R19 r20 ∧ (narrow .boolean (.int (if r18 = r20 then 0 else 1 : Int32)) = .int (if r18 = r20 then 0 else 1 : Int32) ∧ R' = R19 ∧ r = (if r18 = r20 then 0 else 1 : Int32)))) else (if (R.2.1 8 a1.toNatClampNeg) = 6 then (∃ (R24 : RS) (r25 : Int32), E_isWordAt (mf R 24 (-1)) ((R.1 23) - 1) R24 r25 ∧ (∃ (R26 : RS) (r27 : Int32), E_isWordAt R24 (R24.1 23) R26 r27 ∧ (narrow .boolean (.int (if r25 = r27 then 1 else 0 : Int32)) = .int (if r25 = r27 then 1 else 0 : Int32) ∧ R' = R26 ∧ r = (if r25 = r27 then 1 else 0 : Int32)))) else (if (R.2.1 8 a1.toNatClampNeg) = 7 then (vp_in a1 96 ∧ (∃ (R31 : RS) (r32 : Int32), E_again (mf R 24 (-1)) (R.2.1 9 a1.toNatClampNeg) R31 r32 ∧ (narrow .boolean (.int r32) = .int r32 ∧ R' = R31 ∧ r = r32))) else (if (R.2.1 8 a1.toNatClampNeg) = 8 then (vp_in a1 96 ∧ (∃ (R34 : RS) (r35 : Int32), E_link (mf R 24 (-1)) 21 (R.2.1 9 a1.toNatClampNeg) (R.1 23) (R.1 25) R34 r35 ∧ (∃ (R36 : RS) (r37 : Int32), E_into R34 a1 r35 R36 r37 ∧ (narrow .boolean (.int r37) = .int r37 ∧ R' = R36 ∧ r = r37)))) else (if (R.2.1 8 a1.toNatClampNeg) = 9 then (∃ (R39 : RS) (r40 : Int32), E_into (mf R 24 (-1)) a1 (R.1 25) R39 r40 ∧ (narrow .boolean (.int r40) = .int r40 ∧ R' = R39 ∧ r = r40)) else (if (R.2.1 8 a1.toNatClampNeg) = 10 then (vp_in a1 96 ∧ (∃ (R42 : RS) (r43 : Int32), E_link (mf R 24 (-1)) (R.2.1 8 a1.toNatClampNeg) (R.1 27) (R.1 23) (R.1 25) R42 r43 ∧ (∃ (R44 : RS) (r45 : Int32), E_into R42 a1 r43 R44 r45 ∧ (narrow .boolean (.int r45) = .int r45 ∧ R' = R44 ∧ r = r45)))) else (if (R.2.1 8 a1.toNatClampNeg) = 11 then (∃ (R47 : RS) (r48 : Int32), E_notAhead (mf R 24 (-1)) a1 R47 r48 ∧ (narrow .boolean (.int r48) = .int r48 ∧ R' = R47 ∧ r = r48)) else (if (R.2.1 8 a1.toNatClampNeg) = 12 then (∃ (R50 : RS) (r51 : Int32), E_look (mf R 24 (-1)) a1 R50 r51 ∧ (narrow .boolean (.int r51) = .int r51 ∧ R' = R50 ∧ r = r51)) else (if (R.2.1 8 a1.toNatClampNeg) = 13 then (∃ (R53 : RS) (r54 : Int32), E_look (mf R 24 (-1)) a1 R53 r54 ∧ (narrow .boolean (.int r54) = .int r54 ∧ R' = R53 ∧ r = r54)) else (if (R.2.1 8 a1.toNatClampNeg) = 14 then (vp_in a1 96 ∧ (∃ (R56 : RS) (r57 : Int32), E_link (mf R 24 (-1)) (R.2.1 8 a1.toNatClampNeg) (R.1 27) (R.1 23) (R.1 25) R56 r57 ∧ (∃ (R58 : RS) (r59 : Int32), E_into R56 a1 r57 R58 r59 ∧ (narrow .boolean (.int r59) = .int r59 ∧ R' = R58 ∧ r = r59)))) else (if (R.2.1 8 a1.toNatClampNeg) = 15 then (∃ (R61 : RS) (r62 : Int32), E_beginLoop (mf R 24 (-1)) a1 R61 r62 ∧ (narrow .boolean (.int r62) = .int r62 ∧ R' = R61 ∧ r = r62)) else (∃ (R63 : RS) (r64 : Int32), E_look (mf R 24 (-1)) a1 R63 r64 ∧ (narrow .boolean (.int r64) = .int r64 ∧ R' = R63 ∧ r = r64))))))))))))))))))
set_option maxHeartbeats 4000000 in
set_option maxRecDepth 100000 in
theorem e_enter (l : Launch) (G : PG) (h : Nat) (q : Nat → Nat) (R : RS) (a1 : Int32) (R' : RS) (r : Int32) (hE : E_enter R a1 R' r) : Ci l yX6_enter (Cond.code yX6_enter cX6_enter 2 (some .boolean) :: aW) { frames := 4, cells := 0, slots := 0, locals := 91 } G (mW G h q R) [.ref h, .int a1] (fun (r9 : Int32) (_ : Unit) => r9 = r) (fun (_ : Unit) => mW G h q R') 0 0 := by
  refine ofB (y := yX6_enter) (G := G) (cc := cX6_enter) (maxL := 2) (ret := (some .boolean)) (Qc := fun A => va_Qi (fun (r9 : Int32) (_ : Unit) => r9 = r) (oB G A (fun (_ : Unit) => mW G h q R')) A) (by decide) rfl ?_
  intro p e s m below meth c A F hK hA hP hD
  have hS : va_S A s.heap s.heap [] := va_S.rf
  have hx := F.1.1; have hb := F.1.2.1; have hml := F.1.2.2.1; have hts := F.1.2.2.2.2
  have hown : s.vm.findClass RX6 = some m.cls := F.1.2.2.2.1
  have hl := lv_entry ([.ref h, .int a1]) (n := 2) (Nat.le_of_ble_eq_true rfl)
  rw [lg_entry_eq]
  generalize (lg_sl ([.ref h, .int a1]) ++ List.replicate (2 - (lg_sl ([.ref h, .int a1])).length) Slot.unset).toArray = ls at hl ⊢
  have hl : lv_has ls 2 [(0, .ref h), (1, .int a1)] := hl
  unfold E_enter at hE
  refine lv_aload_n hx hb dX6_enter_0 rfl (lv_at hl 0 rfl) ?_
  refine lv_iconst (v := (-1)) hx hb dX6_enter_1 (by decide) ?_
  refine va_put (D := G.1) (ci := 6) (v := .int (-1)) (ty := .int) (C := RX6) (T := TX6) (N := 48) hx hb hts inX6 tyX6 tyX6_ok nmX6 hown hK.1 hP hD hS 0 mW_0 rfl 24 (by decide) (hts _ w_870) (fun _ h9 => h9) rfl (by decide +kernel) rfl rfl mF_l24 dX6_enter_2 (fun H locs hP hD hS => ?_)
  rw [mW_f24] at hP hD
  refine lv_aload_n hx hb dX6_enter_5 rfl (lv_at hl 0 rfl) ?_
  refine va_get (D := G.1) (ci := 6) (C := RX6) (T := TX6) (N := 48) hx hb hts inX6 hown hK.1 hP 0 mW_0 rfl 8 (by decide) (hts _ w_854) (fun _ h9 => h9) mF_8 dX6_enter_6 ?_
  refine lv_iload_n hx hb dX6_enter_9 rfl (lv_at hl 1 rfl) ?_
  obtain ⟨hin, hE⟩ := hE
  refine va_iald (D := G.1) hx hb hK.1 hP 3 0 mW_g8 rfl hin dX6_enter_10 ?_
  refine tp_i (R.2.1 8 a1.toNatClampNeg) rfl ?_
  by_cases h1 : (R.2.1 8 a1.toNatClampNeg) = 0
  ·
    rw [if_pos h1] at hE
    refine tp_i 0 h1 ?_
    refine lv_tableIn (tgt := 88) hx hb dX6_enter_11 (by decide) (by decide) rfl (by decide) ?_
    refine lv_aload_n hx hb dX6_enter_88 rfl (lv_at hl 0 rfl) ?_
    refine lv_iload_n hx hb dX6_enter_89 rfl (lv_at hl 1 rfl) ?_
    refine lv_aload_n hx hb dX6_enter_90 rfl (lv_at hl 0 rfl) ?_
    refine va_get (D := G.1) (ci := 6) (C := RX6) (T := TX6) (N := 48) hx hb hts inX6 hown hK.1 hP 0 mW_0 rfl 25 (by decide) (hts _ w_871) (fun _ h9 => h9) mF_25 dX6_enter_91 ?_
    refine tp_i (R.1 25) rfl ?_
    obtain ⟨R2, r3, hg, hE⟩ := hE
    refine kA_i (va_runV (As := [.int a1, .int (R.1 25)]) (rest := []) F.1 (e_into l G h q (mf R 24 (-1)) a1 (R.1 25) R2 r3 hg _) (cwV 2 hts (aw_V w_1136 w_1138 ws_X6_into w_6 w_1139) rfl rfl rfl (by decide +kernel) ⟨by decide, by decide⟩) ⟨cS_blind, va_recv (q := (RX6, TX6, 48)) (ci := 6) (q0 := 0) hK.1 hP rfl mW_0, cS_pre hP hD hK⟩ rfl rfl hl.1 rfl (lv_room (Nat.le_of_ble_eq_true rfl)) dX6_enter_94 ⟨Nat.le_refl _, Nat.le_refl _⟩) hD hS hA (fun r9 u0 H locs hp hP hD hS => ?_)
    have hp := hp.symm; subst hp
    obtain ⟨hn, rfl, rfl⟩ := hE
    exact en_i F hS _ () hn rfl hP hD (Nat.le_refl _) (Nat.le_refl _) dX6_enter_97
  rw [if_neg h1] at hE
  by_cases h4 : (R.2.1 8 a1.toNatClampNeg) = 1
  ·
    rw [if_pos h4] at hE
    refine tp_i 1 h4 ?_
    refine lv_tableIn (tgt := 98) hx hb dX6_enter_11 (by decide) (by decide) rfl (by decide) ?_
    refine lv_aload_n hx hb dX6_enter_98 rfl (lv_at hl 0 rfl) ?_
    refine lv_iload_n hx hb dX6_enter_99 rfl (lv_at hl 1 rfl) ?_
    obtain ⟨R5, r6, hg, hE⟩ := hE
    refine kA_i (va_runV (As := [.int a1]) (rest := []) F.1 (e_begin l G h q (mf R 24 (-1)) a1 R5 r6 hg _) (cwV 1 hts (aw_V w_1140 w_1142 ws_X6_begin w_6 w_1143) rfl rfl rfl (by decide +kernel) ⟨by decide, by decide⟩) ⟨cS_blind, va_recv (q := (RX6, TX6, 48)) (ci := 6) (q0 := 0) hK.1 hP rfl mW_0, cS_pre hP hD hK⟩ rfl rfl hl.1 rfl (lv_room (Nat.le_of_ble_eq_true rfl)) dX6_enter_100 ⟨Nat.le_refl _, Nat.le_refl _⟩) hD hS hA (fun r9 u0 H locs hp hP hD hS => ?_)
    have hp := hp.symm; subst hp
    obtain ⟨hn, rfl, rfl⟩ := hE
    exact en_i F hS _ () hn rfl hP hD (Nat.le_refl _) (Nat.le_refl _) dX6_enter_103
  rw [if_neg h4] at hE
  by_cases h7 : (R.2.1 8 a1.toNatClampNeg) = 2
  ·
    rw [if_pos h7] at hE
    refine tp_i 2 h7 ?_
    refine lv_tableIn (tgt := 104) hx hb dX6_enter_11 (by decide) (by decide) rfl (by decide) ?_
    refine lv_aload_n hx hb dX6_enter_104 rfl (lv_at hl 0 rfl) ?_
    refine lv_iload_n hx hb dX6_enter_105 rfl (lv_at hl 1 rfl) ?_
    obtain ⟨R8, r9, hg, hE⟩ := hE
    refine kA_i (va_runV (As := [.int a1]) (rest := []) F.1 (e_one l G h q (mf R 24 (-1)) a1 R8 r9 hg _) (cwV 1 hts (aw_V w_1144 w_1146 ws_X6_one w_6 w_1147) rfl rfl rfl (by decide +kernel) ⟨by decide, by decide⟩) ⟨cS_blind, va_recv (q := (RX6, TX6, 48)) (ci := 6) (q0 := 0) hK.1 hP rfl mW_0, cS_pre hP hD hK⟩ rfl rfl hl.1 rfl (lv_room (Nat.le_of_ble_eq_true rfl)) dX6_enter_106 ⟨Nat.le_refl _, Nat.le_refl _⟩) hD hS hA (fun r9 u0 H locs hp hP hD hS => ?_)
    have hp := hp.symm; subst hp
    obtain ⟨hn, rfl, rfl⟩ := hE
    exact en_i F hS _ () hn rfl hP hD (Nat.le_refl _) (Nat.le_refl _) dX6_enter_109
  rw [if_neg h7] at hE
  by_cases h10 : (R.2.1 8 a1.toNatClampNeg) = 3
  ·
    rw [if_pos h10] at hE
    refine tp_i 3 h10 ?_
    refine lv_tableIn (tgt := 110) hx hb dX6_enter_11 (by decide) (by decide) rfl (by decide) ?_
    refine lv_aload_n hx hb dX6_enter_110 rfl (lv_at hl 0 rfl) ?_
    refine va_get (D := G.1) (ci := 6) (C := RX6) (T := TX6) (N := 48) hx hb hts inX6 hown hK.1 hP 0 mW_0 rfl 23 (by decide) (hts _ w_869) (fun _ h9 => h9) mF_23 dX6_enter_111 ?_
    refine tp_i (R.1 23) rfl ?_
    refine jn_v (v := (if (R.1 23) = 0 then 1 else 0 : Int32)) (pcM := 122) (rest := []) (fun kM => ?_) ?_
    ·
      refine lv_if_ne (tgt := 121) hx hb dX6_enter_114 (by decide) (fun h12 => ?_) (fun h12 => ?_)
      ·
        refine lv_iconst (v := 0) hx hb dX6_enter_121 (by decide) ?_
        exact kM _ (by try rw [if_neg h12])
      ·
        refine lv_iconst (v := 1) hx hb dX6_enter_117 (by decide) ?_
        refine lv_goto (tgt := 122) hx hb dX6_enter_118 (by decide) ?_
        exact kM _ (by try rw [if_pos h12])
    obtain ⟨hn, rfl, rfl⟩ := hE
    exact en_i F hS _ () hn rfl hP hD (Nat.le_refl _) (Nat.le_refl _) dX6_enter_122
  rw [if_neg h10] at hE
  by_cases h13 : (R.2.1 8 a1.toNatClampNeg) = 4
  ·
    rw [if_pos h13] at hE
    refine tp_i 4 h13 ?_
    refine lv_tableIn (tgt := 123) hx hb dX6_enter_11 (by decide) (by decide) rfl (by decide) ?_
    refine lv_aload_n hx hb dX6_enter_123 rfl (lv_at hl 0 rfl) ?_
    refine va_get (D := G.1) (ci := 6) (C := RX6) (T := TX6) (N := 48) hx hb hts inX6 hown hK.1 hP 0 mW_0 rfl 23 (by decide) (hts _ w_869) (fun _ h9 => h9) mF_23 dX6_enter_124 ?_
    refine tp_i (R.1 23) rfl ?_
    refine lv_aload_n hx hb dX6_enter_127 rfl (lv_at hl 0 rfl) ?_
    refine va_get (D := G.1) (ci := 6) (C := RX6) (T := TX6) (N := 48) hx hb hts inX6 hown hK.1 hP 0 mW_0 rfl 2 (by decide) (hts _ w_848) (fun _ h9 => h9) mF_2 dX6_enter_128 ?_
    refine lv_iconst (v := 1) hx hb dX6_enter_131 (by decide) ?_
    obtain ⟨hin, hE⟩ := hE
    refine va_iald (D := G.1) hx hb hK.1 hP 2 0 mW_g2 rfl hin dX6_enter_132 ?_
    refine tp_i (R.2.1 2 (1 : Int32).toNatClampNeg) rfl ?_
    refine jn_v (v := (if (R.1 23) = (R.2.1 2 (1 : Int32).toNatClampNeg) then 1 else 0 : Int32)) (pcM := 141) (rest := []) (fun kM => ?_) ?_
    ·
      refine lv_icmp_ne (tgt := 140) hx hb dX6_enter_133 (by decide) (fun h15 => ?_) (fun h15 => ?_)
      ·
        refine lv_iconst (v := 0) hx hb dX6_enter_140 (by decide) ?_
        exact kM _ (by try rw [if_neg h15])
      ·
        refine lv_iconst (v := 1) hx hb dX6_enter_136 (by decide) ?_
        refine lv_goto (tgt := 141) hx hb dX6_enter_137 (by decide) ?_
        exact kM _ (by try rw [if_pos h15])
    obtain ⟨hn, rfl, rfl⟩ := hE
    exact en_i F hS _ () hn rfl hP hD (Nat.le_refl _) (Nat.le_refl _) dX6_enter_141
  rw [if_neg h13] at hE
  by_cases h16 : (R.2.1 8 a1.toNatClampNeg) = 5
  ·
    rw [if_pos h16] at hE
    refine tp_i 5 h16 ?_
    refine lv_tableIn (tgt := 142) hx hb dX6_enter_11 (by decide) (by decide) rfl (by decide) ?_
    refine lv_aload_n hx hb dX6_enter_142 rfl (lv_at hl 0 rfl) ?_
    refine lv_aload_n hx hb dX6_enter_143 rfl (lv_at hl 0 rfl) ?_
    refine va_get (D := G.1) (ci := 6) (C := RX6) (T := TX6) (N := 48) hx hb hts inX6 hown hK.1 hP 0 mW_0 rfl 23 (by decide) (hts _ w_869) (fun _ h9 => h9) mF_23 dX6_enter_144 ?_
    refine tp_i (R.1 23) rfl ?_
    refine lv_iconst (v := 1) hx hb dX6_enter_147 (by decide) ?_
    refine lv_isub hx hb dX6_enter_148 ?_
    obtain ⟨R17, r18, hg, hE⟩ := hE
    refine kA_i (va_runV (As := [.int ((R.1 23) - 1)]) (rest := []) F.1 (e_isWordAt l G h q (mf R 24 (-1)) ((R.1 23) - 1) R17 r18 hg _) (cwV 1 hts (aw_V w_1156 w_1158 ws_X6_isWordAt w_6 w_1159) rfl rfl rfl (by decide +kernel) ⟨by decide, by decide⟩) ⟨cS_blind, va_recv (q := (RX6, TX6, 48)) (ci := 6) (q0 := 0) hK.1 hP rfl mW_0, cS_pre hP hD hK⟩ rfl rfl hl.1 rfl (lv_room (Nat.le_of_ble_eq_true rfl)) dX6_enter_149 ⟨Nat.le_refl _, Nat.le_refl _⟩) hD hS hA (fun r9 u0 H locs hp hP hD hS => ?_)
    have hp := hp.symm; subst hp
    refine lv_aload_n hx hb dX6_enter_152 rfl (lv_at hl 0 rfl) ?_
    refine lv_aload_n hx hb dX6_enter_153 rfl (lv_at hl 0 rfl) ?_
    refine va_get (D := G.1) (ci := 6) (C := RX6) (T := TX6) (N := 48) hx hb hts inX6 hown hK.1 hP 0 mW_0 rfl 23 (by decide) (hts _ w_869) (fun _ h9 => h9) mF_23 dX6_enter_154 ?_
    obtain ⟨R19, r20, hg, hE⟩ := hE
    refine kA_i (va_runV (As := [.int (R17.1 23)]) (rest := [.int r18]) F.1 (e_isWordAt l G h q R17 (R17.1 23) R19 r20 hg _) (cwV 1 hts (aw_V w_1156 w_1158 ws_X6_isWordAt w_6 w_1159) rfl rfl rfl (by decide +kernel) ⟨by decide, by decide⟩) ⟨cS_blind, va_recv (q := (RX6, TX6, 48)) (ci := 6) (q0 := 0) hK.1 hP rfl mW_0, cS_pre hP hD hK⟩ rfl rfl hl.1 rfl (lv_room (Nat.le_of_ble_eq_true rfl)) dX6_enter_157 ⟨Nat.le_refl _, Nat.le_refl _⟩) hD hS hA (fun r9 u0 H locs hp hP hD hS => ?_)
    have hp := hp.symm; subst hp
    refine jn_v (v := (if r18 = r20 then 0 else 1 : Int32)) (pcM := 168) (rest := []) (fun kM => ?_) ?_
    ·
      refine lv_icmp_eq (tgt := 167) hx hb dX6_enter_160 (by decide) (fun h22 => ?_) (fun h22 => ?_)
      ·
        refine lv_iconst (v := 0) hx hb dX6_enter_167 (by decide) ?_
        exact kM _ (by try rw [if_pos h22])
      ·
        refine lv_iconst (v := 1) hx hb dX6_enter_163 (by decide) ?_
        refine lv_goto (tgt := 168) hx hb dX6_enter_164 (by decide) ?_
        exact kM _ (by try rw [if_neg h22])
    obtain ⟨hn, rfl, rfl⟩ := hE
    exact en_i F hS _ () hn rfl hP hD (Nat.le_refl _) (Nat.le_refl _) dX6_enter_168
  rw [if_neg h16] at hE
  by_cases h23 : (R.2.1 8 a1.toNatClampNeg) = 6
  ·
    rw [if_pos h23] at hE
    refine tp_i 6 h23 ?_
    refine lv_tableIn (tgt := 169) hx hb dX6_enter_11 (by decide) (by decide) rfl (by decide) ?_
    refine lv_aload_n hx hb dX6_enter_169 rfl (lv_at hl 0 rfl) ?_
    refine lv_aload_n hx hb dX6_enter_170 rfl (lv_at hl 0 rfl) ?_
    refine va_get (D := G.1) (ci := 6) (C := RX6) (T := TX6) (N := 48) hx hb hts inX6 hown hK.1 hP 0 mW_0 rfl 23 (by decide) (hts _ w_869) (fun _ h9 => h9) mF_23 dX6_enter_171 ?_
    refine tp_i (R.1 23) rfl ?_
    refine lv_iconst (v := 1) hx hb dX6_enter_174 (by decide) ?_
    refine lv_isub hx hb dX6_enter_175 ?_
    obtain ⟨R24, r25, hg, hE⟩ := hE
    refine kA_i (va_runV (As := [.int ((R.1 23) - 1)]) (rest := []) F.1 (e_isWordAt l G h q (mf R 24 (-1)) ((R.1 23) - 1) R24 r25 hg _) (cwV 1 hts (aw_V w_1156 w_1158 ws_X6_isWordAt w_6 w_1159) rfl rfl rfl (by decide +kernel) ⟨by decide, by decide⟩) ⟨cS_blind, va_recv (q := (RX6, TX6, 48)) (ci := 6) (q0 := 0) hK.1 hP rfl mW_0, cS_pre hP hD hK⟩ rfl rfl hl.1 rfl (lv_room (Nat.le_of_ble_eq_true rfl)) dX6_enter_176 ⟨Nat.le_refl _, Nat.le_refl _⟩) hD hS hA (fun r9 u0 H locs hp hP hD hS => ?_)
    have hp := hp.symm; subst hp
    refine lv_aload_n hx hb dX6_enter_179 rfl (lv_at hl 0 rfl) ?_
    refine lv_aload_n hx hb dX6_enter_180 rfl (lv_at hl 0 rfl) ?_
    refine va_get (D := G.1) (ci := 6) (C := RX6) (T := TX6) (N := 48) hx hb hts inX6 hown hK.1 hP 0 mW_0 rfl 23 (by decide) (hts _ w_869) (fun _ h9 => h9) mF_23 dX6_enter_181 ?_
    obtain ⟨R26, r27, hg, hE⟩ := hE
    refine kA_i (va_runV (As := [.int (R24.1 23)]) (rest := [.int r25]) F.1 (e_isWordAt l G h q R24 (R24.1 23) R26 r27 hg _) (cwV 1 hts (aw_V w_1156 w_1158 ws_X6_isWordAt w_6 w_1159) rfl rfl rfl (by decide +kernel) ⟨by decide, by decide⟩) ⟨cS_blind, va_recv (q := (RX6, TX6, 48)) (ci := 6) (q0 := 0) hK.1 hP rfl mW_0, cS_pre hP hD hK⟩ rfl rfl hl.1 rfl (lv_room (Nat.le_of_ble_eq_true rfl)) dX6_enter_184 ⟨Nat.le_refl _, Nat.le_refl _⟩) hD hS hA (fun r9 u0 H locs hp hP hD hS => ?_)
    have hp := hp.symm; subst hp
    refine jn_v (v := (if r25 = r27 then 1 else 0 : Int32)) (pcM := 195) (rest := []) (fun kM => ?_) ?_
    ·
      refine lv_icmp_ne (tgt := 194) hx hb dX6_enter_187 (by decide) (fun h29 => ?_) (fun h29 => ?_)
      ·
        refine lv_iconst (v := 0) hx hb dX6_enter_194 (by decide) ?_
        exact kM _ (by try rw [if_neg h29])
      ·
        refine lv_iconst (v := 1) hx hb dX6_enter_190 (by decide) ?_
        refine lv_goto (tgt := 195) hx hb dX6_enter_191 (by decide) ?_
        exact kM _ (by try rw [if_pos h29])
    obtain ⟨hn, rfl, rfl⟩ := hE
    exact en_i F hS _ () hn rfl hP hD (Nat.le_refl _) (Nat.le_refl _) dX6_enter_195
  rw [if_neg h23] at hE
  by_cases h30 : (R.2.1 8 a1.toNatClampNeg) = 7
  ·
    rw [if_pos h30] at hE
    refine tp_i 7 h30 ?_
    refine lv_tableIn (tgt := 196) hx hb dX6_enter_11 (by decide) (by decide) rfl (by decide) ?_
    refine lv_aload_n hx hb dX6_enter_196 rfl (lv_at hl 0 rfl) ?_
    refine lv_aload_n hx hb dX6_enter_197 rfl (lv_at hl 0 rfl) ?_
    refine va_get (D := G.1) (ci := 6) (C := RX6) (T := TX6) (N := 48) hx hb hts inX6 hown hK.1 hP 0 mW_0 rfl 9 (by decide) (hts _ w_855) (fun _ h9 => h9) mF_9 dX6_enter_198 ?_
    refine lv_iload_n hx hb dX6_enter_201 rfl (lv_at hl 1 rfl) ?_
    obtain ⟨hin, hE⟩ := hE
    refine va_iald (D := G.1) hx hb hK.1 hP 4 0 mW_g9 rfl hin dX6_enter_202 ?_
    refine tp_i (R.2.1 9 a1.toNatClampNeg) rfl ?_
    obtain ⟨R31, r32, hg, hE⟩ := hE
    refine kA_i (va_runV (As := [.int (R.2.1 9 a1.toNatClampNeg)]) (rest := []) F.1 (e_again l G h q (mf R 24 (-1)) (R.2.1 9 a1.toNatClampNeg) R31 r32 hg _) (cwV 1 hts (aw_V w_1160 w_1162 ws_X6_again w_6 w_1163) rfl rfl rfl (by decide +kernel) ⟨by decide, by decide⟩) ⟨cS_blind, va_recv (q := (RX6, TX6, 48)) (ci := 6) (q0 := 0) hK.1 hP rfl mW_0, cS_pre hP hD hK⟩ rfl rfl hl.1 rfl (lv_room (Nat.le_of_ble_eq_true rfl)) dX6_enter_203 ⟨Nat.le_refl _, Nat.le_refl _⟩) hD hS hA (fun r9 u0 H locs hp hP hD hS => ?_)
    have hp := hp.symm; subst hp
    obtain ⟨hn, rfl, rfl⟩ := hE
    exact en_i F hS _ () hn rfl hP hD (Nat.le_refl _) (Nat.le_refl _) dX6_enter_206
  rw [if_neg h30] at hE
  by_cases h33 : (R.2.1 8 a1.toNatClampNeg) = 8
  ·
    rw [if_pos h33] at hE
    refine tp_i 8 h33 ?_
    refine lv_tableIn (tgt := 207) hx hb dX6_enter_11 (by decide) (by decide) rfl (by decide) ?_
    refine lv_aload_n hx hb dX6_enter_207 rfl (lv_at hl 0 rfl) ?_
    refine lv_iload_n hx hb dX6_enter_208 rfl (lv_at hl 1 rfl) ?_
    refine lv_aload_n hx hb dX6_enter_209 rfl (lv_at hl 0 rfl) ?_
    refine lv_bipush (v := 21) hx hb dX6_enter_210 (by decide) ?_
    refine lv_aload_n hx hb dX6_enter_212 rfl (lv_at hl 0 rfl) ?_
    refine va_get (D := G.1) (ci := 6) (C := RX6) (T := TX6) (N := 48) hx hb hts inX6 hown hK.1 hP 0 mW_0 rfl 9 (by decide) (hts _ w_855) (fun _ h9 => h9) mF_9 dX6_enter_213 ?_
    refine lv_iload_n hx hb dX6_enter_216 rfl (lv_at hl 1 rfl) ?_
    obtain ⟨hin, hE⟩ := hE
    refine va_iald (D := G.1) hx hb hK.1 hP 4 0 mW_g9 rfl hin dX6_enter_217 ?_
    refine tp_i (R.2.1 9 a1.toNatClampNeg) rfl ?_
    refine lv_aload_n hx hb dX6_enter_218 rfl (lv_at hl 0 rfl) ?_
    refine va_get (D := G.1) (ci := 6) (C := RX6) (T := TX6) (N := 48) hx hb hts inX6 hown hK.1 hP 0 mW_0 rfl 23 (by decide) (hts _ w_869) (fun _ h9 => h9) mF_23 dX6_enter_219 ?_
    refine tp_i (R.1 23) rfl ?_
    refine lv_aload_n hx hb dX6_enter_222 rfl (lv_at hl 0 rfl) ?_
    refine va_get (D := G.1) (ci := 6) (C := RX6) (T := TX6) (N := 48) hx hb hts inX6 hown hK.1 hP 0 mW_0 rfl 25 (by decide) (hts _ w_871) (fun _ h9 => h9) mF_25 dX6_enter_223 ?_
    refine tp_i (R.1 25) rfl ?_
    obtain ⟨R34, r35, hg, hE⟩ := hE
    refine kA_i (va_runV (As := [.int 21, .int (R.2.1 9 a1.toNatClampNeg), .int (R.1 23), .int (R.1 25)]) (rest := [.int a1, .ref h]) F.1 (e_link l G h q (mf R 24 (-1)) 21 (R.2.1 9 a1.toNatClampNeg) (R.1 23) (R.1 25) R34 r35 hg _) (cwV 4 hts (aw_V w_1104 w_1106 ws_X6_link w_6 w_1107) rfl rfl rfl (by decide +kernel) ⟨by decide, by decide⟩) ⟨cS_blind, va_recv (q := (RX6, TX6, 48)) (ci := 6) (q0 := 0) hK.1 hP rfl mW_0, cS_pre hP hD hK⟩ rfl rfl hl.1 rfl (lv_room (Nat.le_of_ble_eq_true rfl)) dX6_enter_226 ⟨Nat.le_refl _, Nat.le_refl _⟩) hD hS hA (fun r9 u0 H locs hp hP hD hS => ?_)
    have hp := hp.symm; subst hp
    obtain ⟨R36, r37, hg, hE⟩ := hE
    refine kA_i (va_runV (As := [.int a1, .int r35]) (rest := []) F.1 (e_into l G h q R34 a1 r35 R36 r37 hg _) (cwV 2 hts (aw_V w_1136 w_1138 ws_X6_into w_6 w_1139) rfl rfl rfl (by decide +kernel) ⟨by decide, by decide⟩) ⟨cS_blind, va_recv (q := (RX6, TX6, 48)) (ci := 6) (q0 := 0) hK.1 hP rfl mW_0, cS_pre hP hD hK⟩ rfl rfl hl.1 rfl (lv_room (Nat.le_of_ble_eq_true rfl)) dX6_enter_229 ⟨Nat.le_refl _, Nat.le_refl _⟩) hD hS hA (fun r9 u0 H locs hp hP hD hS => ?_)
    have hp := hp.symm; subst hp
    obtain ⟨hn, rfl, rfl⟩ := hE
    exact en_i F hS _ () hn rfl hP hD (Nat.le_refl _) (Nat.le_refl _) dX6_enter_232
  rw [if_neg h33] at hE
  by_cases h38 : (R.2.1 8 a1.toNatClampNeg) = 9
  ·
    rw [if_pos h38] at hE
    refine tp_i 9 h38 ?_
    refine lv_tableIn (tgt := 233) hx hb dX6_enter_11 (by decide) (by decide) rfl (by decide) ?_
    refine lv_aload_n hx hb dX6_enter_233 rfl (lv_at hl 0 rfl) ?_
    refine lv_iload_n hx hb dX6_enter_234 rfl (lv_at hl 1 rfl) ?_
    refine lv_aload_n hx hb dX6_enter_235 rfl (lv_at hl 0 rfl) ?_
    refine va_get (D := G.1) (ci := 6) (C := RX6) (T := TX6) (N := 48) hx hb hts inX6 hown hK.1 hP 0 mW_0 rfl 25 (by decide) (hts _ w_871) (fun _ h9 => h9) mF_25 dX6_enter_236 ?_
    refine tp_i (R.1 25) rfl ?_
    obtain ⟨R39, r40, hg, hE⟩ := hE
    refine kA_i (va_runV (As := [.int a1, .int (R.1 25)]) (rest := []) F.1 (e_into l G h q (mf R 24 (-1)) a1 (R.1 25) R39 r40 hg _) (cwV 2 hts (aw_V w_1136 w_1138 ws_X6_into w_6 w_1139) rfl rfl rfl (by decide +kernel) ⟨by decide, by decide⟩) ⟨cS_blind, va_recv (q := (RX6, TX6, 48)) (ci := 6) (q0 := 0) hK.1 hP rfl mW_0, cS_pre hP hD hK⟩ rfl rfl hl.1 rfl (lv_room (Nat.le_of_ble_eq_true rfl)) dX6_enter_239 ⟨Nat.le_refl _, Nat.le_refl _⟩) hD hS hA (fun r9 u0 H locs hp hP hD hS => ?_)
    have hp := hp.symm; subst hp
    obtain ⟨hn, rfl, rfl⟩ := hE
    exact en_i F hS _ () hn rfl hP hD (Nat.le_refl _) (Nat.le_refl _) dX6_enter_242
  rw [if_neg h38] at hE
  by_cases h41 : (R.2.1 8 a1.toNatClampNeg) = 10
  ·
    rw [if_pos h41] at hE
    refine tp_i 10 h41 ?_
    refine lv_tableIn (tgt := 243) hx hb dX6_enter_11 (by decide) (by decide) rfl (by decide) ?_
    refine lv_aload_n hx hb dX6_enter_243 rfl (lv_at hl 0 rfl) ?_
    refine lv_iload_n hx hb dX6_enter_244 rfl (lv_at hl 1 rfl) ?_
    refine lv_aload_n hx hb dX6_enter_245 rfl (lv_at hl 0 rfl) ?_
    refine lv_aload_n hx hb dX6_enter_246 rfl (lv_at hl 0 rfl) ?_
    refine va_get (D := G.1) (ci := 6) (C := RX6) (T := TX6) (N := 48) hx hb hts inX6 hown hK.1 hP 0 mW_0 rfl 8 (by decide) (hts _ w_854) (fun _ h9 => h9) mF_8 dX6_enter_247 ?_
    refine lv_iload_n hx hb dX6_enter_250 rfl (lv_at hl 1 rfl) ?_
    obtain ⟨hin, hE⟩ := hE
    refine va_iald (D := G.1) hx hb hK.1 hP 3 0 mW_g8 rfl hin dX6_enter_251 ?_
    refine tp_i (R.2.1 8 a1.toNatClampNeg) rfl ?_
    refine lv_aload_n hx hb dX6_enter_252 rfl (lv_at hl 0 rfl) ?_
    refine va_get (D := G.1) (ci := 6) (C := RX6) (T := TX6) (N := 48) hx hb hts inX6 hown hK.1 hP 0 mW_0 rfl 27 (by decide) (hts _ w_873) (fun _ h9 => h9) mF_27 dX6_enter_253 ?_
    refine tp_i (R.1 27) rfl ?_
    refine lv_aload_n hx hb dX6_enter_256 rfl (lv_at hl 0 rfl) ?_
    refine va_get (D := G.1) (ci := 6) (C := RX6) (T := TX6) (N := 48) hx hb hts inX6 hown hK.1 hP 0 mW_0 rfl 23 (by decide) (hts _ w_869) (fun _ h9 => h9) mF_23 dX6_enter_257 ?_
    refine tp_i (R.1 23) rfl ?_
    refine lv_aload_n hx hb dX6_enter_260 rfl (lv_at hl 0 rfl) ?_
    refine va_get (D := G.1) (ci := 6) (C := RX6) (T := TX6) (N := 48) hx hb hts inX6 hown hK.1 hP 0 mW_0 rfl 25 (by decide) (hts _ w_871) (fun _ h9 => h9) mF_25 dX6_enter_261 ?_
    refine tp_i (R.1 25) rfl ?_
    obtain ⟨R42, r43, hg, hE⟩ := hE
    refine kA_i (va_runV (As := [.int (R.2.1 8 a1.toNatClampNeg), .int (R.1 27), .int (R.1 23), .int (R.1 25)]) (rest := [.int a1, .ref h]) F.1 (e_link l G h q (mf R 24 (-1)) (R.2.1 8 a1.toNatClampNeg) (R.1 27) (R.1 23) (R.1 25) R42 r43 hg _) (cwV 4 hts (aw_V w_1104 w_1106 ws_X6_link w_6 w_1107) rfl rfl rfl (by decide +kernel) ⟨by decide, by decide⟩) ⟨cS_blind, va_recv (q := (RX6, TX6, 48)) (ci := 6) (q0 := 0) hK.1 hP rfl mW_0, cS_pre hP hD hK⟩ rfl rfl hl.1 rfl (lv_room (Nat.le_of_ble_eq_true rfl)) dX6_enter_264 ⟨Nat.le_refl _, Nat.le_refl _⟩) hD hS hA (fun r9 u0 H locs hp hP hD hS => ?_)
    have hp := hp.symm; subst hp
    obtain ⟨R44, r45, hg, hE⟩ := hE
    refine kA_i (va_runV (As := [.int a1, .int r43]) (rest := []) F.1 (e_into l G h q R42 a1 r43 R44 r45 hg _) (cwV 2 hts (aw_V w_1136 w_1138 ws_X6_into w_6 w_1139) rfl rfl rfl (by decide +kernel) ⟨by decide, by decide⟩) ⟨cS_blind, va_recv (q := (RX6, TX6, 48)) (ci := 6) (q0 := 0) hK.1 hP rfl mW_0, cS_pre hP hD hK⟩ rfl rfl hl.1 rfl (lv_room (Nat.le_of_ble_eq_true rfl)) dX6_enter_267 ⟨Nat.le_refl _, Nat.le_refl _⟩) hD hS hA (fun r9 u0 H locs hp hP hD hS => ?_)
    have hp := hp.symm; subst hp
    obtain ⟨hn, rfl, rfl⟩ := hE
    exact en_i F hS _ () hn rfl hP hD (Nat.le_refl _) (Nat.le_refl _) dX6_enter_270
  rw [if_neg h41] at hE
  by_cases h46 : (R.2.1 8 a1.toNatClampNeg) = 11
  ·
    rw [if_pos h46] at hE
    refine tp_i 11 h46 ?_
    refine lv_tableIn (tgt := 277) hx hb dX6_enter_11 (by decide) (by decide) rfl (by decide) ?_
    refine lv_aload_n hx hb dX6_enter_277 rfl (lv_at hl 0 rfl) ?_
    refine lv_iload_n hx hb dX6_enter_278 rfl (lv_at hl 1 rfl) ?_
    obtain ⟨R47, r48, hg, hE⟩ := hE
    refine kA_i (va_runV (As := [.int a1]) (rest := []) F.1 (e_notAhead l G h q (mf R 24 (-1)) a1 R47 r48 hg _) (cwV 1 hts (aw_V w_1168 w_1170 ws_X6_notAhead w_6 w_1171) rfl rfl rfl (by decide +kernel) ⟨by decide, by decide⟩) ⟨cS_blind, va_recv (q := (RX6, TX6, 48)) (ci := 6) (q0 := 0) hK.1 hP rfl mW_0, cS_pre hP hD hK⟩ rfl rfl hl.1 rfl (lv_room (Nat.le_of_ble_eq_true rfl)) dX6_enter_279 ⟨Nat.le_refl _, Nat.le_refl _⟩) hD hS hA (fun r9 u0 H locs hp hP hD hS => ?_)
    have hp := hp.symm; subst hp
    obtain ⟨hn, rfl, rfl⟩ := hE
    exact en_i F hS _ () hn rfl hP hD (Nat.le_refl _) (Nat.le_refl _) dX6_enter_282
  rw [if_neg h46] at hE
  by_cases h49 : (R.2.1 8 a1.toNatClampNeg) = 12
  ·
    rw [if_pos h49] at hE
    refine tp_i 12 h49 ?_
    refine lv_tableIn (tgt := 283) hx hb dX6_enter_11 (by decide) (by decide) rfl (by decide) ?_
    refine lv_aload_n hx hb dX6_enter_283 rfl (lv_at hl 0 rfl) ?_
    refine lv_iload_n hx hb dX6_enter_284 rfl (lv_at hl 1 rfl) ?_
    obtain ⟨R50, r51, hg, hE⟩ := hE
    refine kA_i (va_runV (As := [.int a1]) (rest := []) F.1 (e_look l G h q (mf R 24 (-1)) a1 R50 r51 hg _) (cwV 1 hts (aw_V w_1172 w_1174 ws_X6_look w_6 w_1175) rfl rfl rfl (by decide +kernel) ⟨by decide, by decide⟩) ⟨cS_blind, va_recv (q := (RX6, TX6, 48)) (ci := 6) (q0 := 0) hK.1 hP rfl mW_0, cS_pre hP hD hK⟩ rfl rfl hl.1 rfl (lv_room (Nat.le_of_ble_eq_true rfl)) dX6_enter_285 ⟨Nat.le_refl _, Nat.le_refl _⟩) hD hS hA (fun r9 u0 H locs hp hP hD hS => ?_)
    have hp := hp.symm; subst hp
    obtain ⟨hn, rfl, rfl⟩ := hE
    exact en_i F hS _ () hn rfl hP hD (Nat.le_refl _) (Nat.le_refl _) dX6_enter_288
  rw [if_neg h49] at hE
  by_cases h52 : (R.2.1 8 a1.toNatClampNeg) = 13
  ·
    rw [if_pos h52] at hE
    refine tp_i 13 h52 ?_
    refine lv_tableIn (tgt := 283) hx hb dX6_enter_11 (by decide) (by decide) rfl (by decide) ?_
    refine lv_aload_n hx hb dX6_enter_283 rfl (lv_at hl 0 rfl) ?_
    refine lv_iload_n hx hb dX6_enter_284 rfl (lv_at hl 1 rfl) ?_
    obtain ⟨R53, r54, hg, hE⟩ := hE
    refine kA_i (va_runV (As := [.int a1]) (rest := []) F.1 (e_look l G h q (mf R 24 (-1)) a1 R53 r54 hg _) (cwV 1 hts (aw_V w_1172 w_1174 ws_X6_look w_6 w_1175) rfl rfl rfl (by decide +kernel) ⟨by decide, by decide⟩) ⟨cS_blind, va_recv (q := (RX6, TX6, 48)) (ci := 6) (q0 := 0) hK.1 hP rfl mW_0, cS_pre hP hD hK⟩ rfl rfl hl.1 rfl (lv_room (Nat.le_of_ble_eq_true rfl)) dX6_enter_285 ⟨Nat.le_refl _, Nat.le_refl _⟩) hD hS hA (fun r9 u0 H locs hp hP hD hS => ?_)
    have hp := hp.symm; subst hp
    obtain ⟨hn, rfl, rfl⟩ := hE
    exact en_i F hS _ () hn rfl hP hD (Nat.le_refl _) (Nat.le_refl _) dX6_enter_288
  rw [if_neg h52] at hE
  by_cases h55 : (R.2.1 8 a1.toNatClampNeg) = 14
  ·
    rw [if_pos h55] at hE
    refine tp_i 14 h55 ?_
    refine lv_tableIn (tgt := 243) hx hb dX6_enter_11 (by decide) (by decide) rfl (by decide) ?_
    refine lv_aload_n hx hb dX6_enter_243 rfl (lv_at hl 0 rfl) ?_
    refine lv_iload_n hx hb dX6_enter_244 rfl (lv_at hl 1 rfl) ?_
    refine lv_aload_n hx hb dX6_enter_245 rfl (lv_at hl 0 rfl) ?_
    refine lv_aload_n hx hb dX6_enter_246 rfl (lv_at hl 0 rfl) ?_
    refine va_get (D := G.1) (ci := 6) (C := RX6) (T := TX6) (N := 48) hx hb hts inX6 hown hK.1 hP 0 mW_0 rfl 8 (by decide) (hts _ w_854) (fun _ h9 => h9) mF_8 dX6_enter_247 ?_
    refine lv_iload_n hx hb dX6_enter_250 rfl (lv_at hl 1 rfl) ?_
    obtain ⟨hin, hE⟩ := hE
    refine va_iald (D := G.1) hx hb hK.1 hP 3 0 mW_g8 rfl hin dX6_enter_251 ?_
    refine tp_i (R.2.1 8 a1.toNatClampNeg) rfl ?_
    refine lv_aload_n hx hb dX6_enter_252 rfl (lv_at hl 0 rfl) ?_
    refine va_get (D := G.1) (ci := 6) (C := RX6) (T := TX6) (N := 48) hx hb hts inX6 hown hK.1 hP 0 mW_0 rfl 27 (by decide) (hts _ w_873) (fun _ h9 => h9) mF_27 dX6_enter_253 ?_
    refine tp_i (R.1 27) rfl ?_
    refine lv_aload_n hx hb dX6_enter_256 rfl (lv_at hl 0 rfl) ?_
    refine va_get (D := G.1) (ci := 6) (C := RX6) (T := TX6) (N := 48) hx hb hts inX6 hown hK.1 hP 0 mW_0 rfl 23 (by decide) (hts _ w_869) (fun _ h9 => h9) mF_23 dX6_enter_257 ?_
    refine tp_i (R.1 23) rfl ?_
    refine lv_aload_n hx hb dX6_enter_260 rfl (lv_at hl 0 rfl) ?_
    refine va_get (D := G.1) (ci := 6) (C := RX6) (T := TX6) (N := 48) hx hb hts inX6 hown hK.1 hP 0 mW_0 rfl 25 (by decide) (hts _ w_871) (fun _ h9 => h9) mF_25 dX6_enter_261 ?_
    refine tp_i (R.1 25) rfl ?_
    obtain ⟨R56, r57, hg, hE⟩ := hE
    refine kA_i (va_runV (As := [.int (R.2.1 8 a1.toNatClampNeg), .int (R.1 27), .int (R.1 23), .int (R.1 25)]) (rest := [.int a1, .ref h]) F.1 (e_link l G h q (mf R 24 (-1)) (R.2.1 8 a1.toNatClampNeg) (R.1 27) (R.1 23) (R.1 25) R56 r57 hg _) (cwV 4 hts (aw_V w_1104 w_1106 ws_X6_link w_6 w_1107) rfl rfl rfl (by decide +kernel) ⟨by decide, by decide⟩) ⟨cS_blind, va_recv (q := (RX6, TX6, 48)) (ci := 6) (q0 := 0) hK.1 hP rfl mW_0, cS_pre hP hD hK⟩ rfl rfl hl.1 rfl (lv_room (Nat.le_of_ble_eq_true rfl)) dX6_enter_264 ⟨Nat.le_refl _, Nat.le_refl _⟩) hD hS hA (fun r9 u0 H locs hp hP hD hS => ?_)
    have hp := hp.symm; subst hp
    obtain ⟨R58, r59, hg, hE⟩ := hE
    refine kA_i (va_runV (As := [.int a1, .int r57]) (rest := []) F.1 (e_into l G h q R56 a1 r57 R58 r59 hg _) (cwV 2 hts (aw_V w_1136 w_1138 ws_X6_into w_6 w_1139) rfl rfl rfl (by decide +kernel) ⟨by decide, by decide⟩) ⟨cS_blind, va_recv (q := (RX6, TX6, 48)) (ci := 6) (q0 := 0) hK.1 hP rfl mW_0, cS_pre hP hD hK⟩ rfl rfl hl.1 rfl (lv_room (Nat.le_of_ble_eq_true rfl)) dX6_enter_267 ⟨Nat.le_refl _, Nat.le_refl _⟩) hD hS hA (fun r9 u0 H locs hp hP hD hS => ?_)
    have hp := hp.symm; subst hp
    obtain ⟨hn, rfl, rfl⟩ := hE
    exact en_i F hS _ () hn rfl hP hD (Nat.le_refl _) (Nat.le_refl _) dX6_enter_270
  rw [if_neg h55] at hE
  by_cases h60 : (R.2.1 8 a1.toNatClampNeg) = 15
  ·
    rw [if_pos h60] at hE
    refine tp_i 15 h60 ?_
    refine lv_tableIn (tgt := 271) hx hb dX6_enter_11 (by decide) (by decide) rfl (by decide) ?_
    refine lv_aload_n hx hb dX6_enter_271 rfl (lv_at hl 0 rfl) ?_
    refine lv_iload_n hx hb dX6_enter_272 rfl (lv_at hl 1 rfl) ?_
    obtain ⟨R61, r62, hg, hE⟩ := hE
    refine kA_i (va_runV (As := [.int a1]) (rest := []) F.1 (e_beginLoop l G h q (mf R 24 (-1)) a1 R61 r62 hg _) (cwV 1 hts (aw_V w_1164 w_1166 ws_X6_beginLoop w_6 w_1167) rfl rfl rfl (by decide +kernel) ⟨by decide, by decide⟩) ⟨cS_blind, va_recv (q := (RX6, TX6, 48)) (ci := 6) (q0 := 0) hK.1 hP rfl mW_0, cS_pre hP hD hK⟩ rfl rfl hl.1 rfl (lv_room (Nat.le_of_ble_eq_true rfl)) dX6_enter_273 ⟨Nat.le_refl _, Nat.le_refl _⟩) hD hS hA (fun r9 u0 H locs hp hP hD hS => ?_)
    have hp := hp.symm; subst hp
    obtain ⟨hn, rfl, rfl⟩ := hE
    exact en_i F hS _ () hn rfl hP hD (Nat.le_refl _) (Nat.le_refl _) dX6_enter_276
  rw [if_neg h60] at hE
  refine lv_tableOut (tgt := 283) hx hb dX6_enter_11 (sw_out (lo := 0) (hi := 15) (by decide) (by decide) (fun k h1 h2 => by rcases (show k = 0 ∨ k = 1 ∨ k = 2 ∨ k = 3 ∨ k = 4 ∨ k = 5 ∨ k = 6 ∨ k = 7 ∨ k = 8 ∨ k = 9 ∨ k = 10 ∨ k = 11 ∨ k = 12 ∨ k = 13 ∨ k = 14 ∨ k = 15 by omega) with rfl | rfl | rfl | rfl | rfl | rfl | rfl | rfl | rfl | rfl | rfl | rfl | rfl | rfl | rfl | rfl <;> assumption)) (by decide) ?_
  refine lv_aload_n hx hb dX6_enter_283 rfl (lv_at hl 0 rfl) ?_
  refine lv_iload_n hx hb dX6_enter_284 rfl (lv_at hl 1 rfl) ?_
  obtain ⟨R63, r64, hg, hE⟩ := hE
  refine kA_i (va_runV (As := [.int a1]) (rest := []) F.1 (e_look l G h q (mf R 24 (-1)) a1 R63 r64 hg _) (cwV 1 hts (aw_V w_1172 w_1174 ws_X6_look w_6 w_1175) rfl rfl rfl (by decide +kernel) ⟨by decide, by decide⟩) ⟨cS_blind, va_recv (q := (RX6, TX6, 48)) (ci := 6) (q0 := 0) hK.1 hP rfl mW_0, cS_pre hP hD hK⟩ rfl rfl hl.1 rfl (lv_room (Nat.le_of_ble_eq_true rfl)) dX6_enter_285 ⟨Nat.le_refl _, Nat.le_refl _⟩) hD hS hA (fun r9 u0 H locs hp hP hD hS => ?_)
  have hp := hp.symm; subst hp
  obtain ⟨hn, rfl, rfl⟩ := hE
  exact en_i F hS _ () hn rfl hP hD (Nat.le_refl _) (Nat.le_refl _) dX6_enter_288

theorem dX6_run_0 : decode cX6_run 0 = .ok (.aload_n 0, 1) := by decide +kernel
theorem dX6_run_1 : decode cX6_run 1 = .ok (.iload_n 1, 1) := by decide +kernel
theorem dX6_run_2 : decode cX6_run 2 = .ok (.putfield 217, 3) := by decide +kernel
theorem dX6_run_5 : decode cX6_run 5 = .ok (.aload_n 0, 1) := by decide +kernel
theorem dX6_run_6 : decode cX6_run 6 = .ok (.iconst 0, 1) := by decide +kernel
theorem dX6_run_7 : decode cX6_run 7 = .ok (.putfield 208, 3) := by decide +kernel
theorem dX6_run_10 : decode cX6_run 10 = .ok (.aload_n 0, 1) := by decide +kernel
theorem dX6_run_11 : decode cX6_run 11 = .ok (.iconst 0, 1) := by decide +kernel
theorem dX6_run_12 : decode cX6_run 12 = .ok (.putfield 211, 3) := by decide +kernel
theorem dX6_run_15 : decode cX6_run 15 = .ok (.aload_n 0, 1) := by decide +kernel
theorem dX6_run_16 : decode cX6_run 16 = .ok (.iload_n 2, 1) := by decide +kernel
theorem dX6_run_17 : decode cX6_run 17 = .ok (.ifCond .eq 12, 3) := by decide +kernel
theorem dX6_run_20 : decode cX6_run 20 = .ok (.aload_n 0, 1) := by decide +kernel
theorem dX6_run_21 : decode cX6_run 21 = .ok (.getfield 13, 3) := by decide +kernel
theorem dX6_run_24 : decode cX6_run 24 = .ok (.iconst 1, 1) := by decide +kernel
theorem dX6_run_25 : decode cX6_run 25 = .ok (.iaload, 1) := by decide +kernel
theorem dX6_run_26 : decode cX6_run 26 = .ok (.goto 4, 3) := by decide +kernel
theorem dX6_run_29 : decode cX6_run 29 = .ok (.iconst (-1), 1) := by decide +kernel
theorem dX6_run_30 : decode cX6_run 30 = .ok (.putfield 220, 3) := by decide +kernel
theorem dX6_run_33 : decode cX6_run 33 = .ok (.iconst 0, 1) := by decide +kernel
theorem dX6_run_34 : decode cX6_run 34 = .ok (.istore_n 3, 1) := by decide +kernel
theorem dX6_run_35 : decode cX6_run 35 = .ok (.iload_n 3, 1) := by decide +kernel
theorem dX6_run_36 : decode cX6_run 36 = .ok (.bipush 10, 2) := by decide +kernel
theorem dX6_run_38 : decode cX6_run 38 = .ok (.if_icmp .ge 16, 3) := by decide +kernel
theorem dX6_run_41 : decode cX6_run 41 = .ok (.aload_n 0, 1) := by decide +kernel
theorem dX6_run_42 : decode cX6_run 42 = .ok (.getfield 57, 3) := by decide +kernel
theorem dX6_run_45 : decode cX6_run 45 = .ok (.iload_n 3, 1) := by decide +kernel
theorem dX6_run_46 : decode cX6_run 46 = .ok (.iconst (-1), 1) := by decide +kernel
theorem dX6_run_47 : decode cX6_run 47 = .ok (.iastore, 1) := by decide +kernel
theorem dX6_run_48 : decode cX6_run 48 = .ok (.iinc 3 1, 3) := by decide +kernel
theorem dX6_run_51 : decode cX6_run 51 = .ok (.goto (-16), 3) := by decide +kernel
theorem dX6_run_54 : decode cX6_run 54 = .ok (.aload_n 0, 1) := by decide +kernel
theorem dX6_run_55 : decode cX6_run 55 = .ok (.aload_n 0, 1) := by decide +kernel
theorem dX6_run_56 : decode cX6_run 56 = .ok (.bipush 23, 2) := by decide +kernel
theorem dX6_run_58 : decode cX6_run 58 = .ok (.iconst 0, 1) := by decide +kernel
theorem dX6_run_59 : decode cX6_run 59 = .ok (.iconst 0, 1) := by decide +kernel
theorem dX6_run_60 : decode cX6_run 60 = .ok (.iconst (-1), 1) := by decide +kernel
theorem dX6_run_61 : decode cX6_run 61 = .ok (.invokevirtual 223, 3) := by decide +kernel
theorem dX6_run_64 : decode cX6_run 64 = .ok (.putfield 227, 3) := by decide +kernel
theorem dX6_run_67 : decode cX6_run 67 = .ok (.aload_n 0, 1) := by decide +kernel
theorem dX6_run_68 : decode cX6_run 68 = .ok (.aload_n 0, 1) := by decide +kernel
theorem dX6_run_69 : decode cX6_run 69 = .ok (.getfield 117, 3) := by decide +kernel
theorem dX6_run_72 : decode cX6_run 72 = .ok (.putfield 230, 3) := by decide +kernel
theorem dX6_run_75 : decode cX6_run 75 = .ok (.aload_n 0, 1) := by decide +kernel
theorem dX6_run_76 : decode cX6_run 76 = .ok (.iconst 1, 1) := by decide +kernel
theorem dX6_run_77 : decode cX6_run 77 = .ok (.putfield 233, 3) := by decide +kernel
theorem dX6_run_80 : decode cX6_run 80 = .ok (.aload_n 0, 1) := by decide +kernel
theorem dX6_run_81 : decode cX6_run 81 = .ok (.getfield 233, 3) := by decide +kernel
theorem dX6_run_84 : decode cX6_run 84 = .ok (.ifCond .eq 46, 3) := by decide +kernel
theorem dX6_run_87 : decode cX6_run 87 = .ok (.aload_n 0, 1) := by decide +kernel
theorem dX6_run_88 : decode cX6_run 88 = .ok (.getfield 227, 3) := by decide +kernel
theorem dX6_run_91 : decode cX6_run 91 = .ok (.iconst (-1), 1) := by decide +kernel
theorem dX6_run_92 : decode cX6_run 92 = .ok (.if_icmp .eq 38, 3) := by decide +kernel
theorem dX6_run_95 : decode cX6_run 95 = .ok (.aload_n 0, 1) := by decide +kernel
theorem dX6_run_96 : decode cX6_run 96 = .ok (.getfield 230, 3) := by decide +kernel
theorem dX6_run_99 : decode cX6_run 99 = .ok (.iconst (-1), 1) := by decide +kernel
theorem dX6_run_100 : decode cX6_run 100 = .ok (.if_icmp .ne 10, 3) := by decide +kernel
theorem dX6_run_103 : decode cX6_run 103 = .ok (.aload_n 0, 1) := by decide +kernel
theorem dX6_run_104 : decode cX6_run 104 = .ok (.invokevirtual 236, 3) := by decide +kernel
theorem dX6_run_107 : decode cX6_run 107 = .ok (.goto 11, 3) := by decide +kernel
theorem dX6_run_110 : decode cX6_run 110 = .ok (.aload_n 0, 1) := by decide +kernel
theorem dX6_run_111 : decode cX6_run 111 = .ok (.aload_n 0, 1) := by decide +kernel
theorem dX6_run_112 : decode cX6_run 112 = .ok (.getfield 230, 3) := by decide +kernel
theorem dX6_run_115 : decode cX6_run 115 = .ok (.invokevirtual 239, 3) := by decide +kernel
theorem dX6_run_118 : decode cX6_run 118 = .ok (.istore_n 3, 1) := by decide +kernel
theorem dX6_run_119 : decode cX6_run 119 = .ok (.iload_n 3, 1) := by decide +kernel
theorem dX6_run_120 : decode cX6_run 120 = .ok (.ifCond .ne 7, 3) := by decide +kernel
theorem dX6_run_123 : decode cX6_run 123 = .ok (.aload_n 0, 1) := by decide +kernel
theorem dX6_run_124 : decode cX6_run 124 = .ok (.invokevirtual 242, 3) := by decide +kernel
theorem dX6_run_127 : decode cX6_run 127 = .ok (.goto (-47), 3) := by decide +kernel
theorem dX6_run_130 : decode cX6_run 130 = .ok (.aload_n 0, 1) := by decide +kernel
theorem dX6_run_131 : decode cX6_run 131 = .ok (.getfield 233, 3) := by decide +kernel
theorem dX6_run_134 : decode cX6_run 134 = .ok (.ifCond .ne 5, 3) := by decide +kernel
theorem dX6_run_137 : decode cX6_run 137 = .ok (.iconst 0, 1) := by decide +kernel
theorem dX6_run_138 : decode cX6_run 138 = .ok (.ireturn, 1) := by decide +kernel
theorem dX6_run_139 : decode cX6_run 139 = .ok (.aload_n 0, 1) := by decide +kernel
theorem dX6_run_140 : decode cX6_run 140 = .ok (.getfield 57, 3) := by decide +kernel
theorem dX6_run_143 : decode cX6_run 143 = .ok (.iconst 0, 1) := by decide +kernel
theorem dX6_run_144 : decode cX6_run 144 = .ok (.iload_n 1, 1) := by decide +kernel
theorem dX6_run_145 : decode cX6_run 145 = .ok (.iastore, 1) := by decide +kernel
theorem dX6_run_146 : decode cX6_run 146 = .ok (.aload_n 0, 1) := by decide +kernel
theorem dX6_run_147 : decode cX6_run 147 = .ok (.getfield 57, 3) := by decide +kernel
theorem dX6_run_150 : decode cX6_run 150 = .ok (.iconst 1, 1) := by decide +kernel
theorem dX6_run_151 : decode cX6_run 151 = .ok (.aload_n 0, 1) := by decide +kernel
theorem dX6_run_152 : decode cX6_run 152 = .ok (.getfield 217, 3) := by decide +kernel
theorem dX6_run_155 : decode cX6_run 155 = .ok (.iastore, 1) := by decide +kernel
theorem dX6_run_156 : decode cX6_run 156 = .ok (.iconst 1, 1) := by decide +kernel
theorem dX6_run_157 : decode cX6_run 157 = .ok (.ireturn, 1) := by decide +kernel
def L_run_80 : Nat → RS → Int32 → Int32 → Int32 → RS → Int32 → Prop
  | 0, _, _, _, _, _, _ => False
  | nf + 1, R, x1, x2, x3, R', r => if (R.1 29) = 0 then (if (R.1 29) = 0 then (R' = R ∧ r = 0) else (vp_in 0 10 ∧ (vp_in 1 10 ∧ (R' = (ma (ma R 30 ((0 : Int32).toNatClampNeg) x1) 30 ((1 : Int32).toNatClampNeg) (R.1 23)) ∧ r = 1)))) else (if (R.1 25) = (-1) then (if (R.1 29) = 0 then (R' = R ∧ r = 0) else (vp_in 0 10 ∧ (vp_in 1 10 ∧ (R' = (ma (ma R 30 ((0 : Int32).toNatClampNeg) x1) 30 ((1 : Int32).toNatClampNeg) (R.1 23)) ∧ r = 1)))) else (if (R.1 24) = (-1) then (∃ (R15 : RS) (r16 : Int32), E_goOn R R15 r16 ∧ (if r16 = 0 then (∃ R18 : RS, E_back R15 R18 0 ∧ (L_run_80 nf R18 x1 x2 r16 R' r)) else (L_run_80 nf R15 x1 x2 r16 R' r))) else (∃ (R10 : RS) (r11 : Int32), E_enter R (R.1 24) R10 r11 ∧ (if r11 = 0 then (∃ R13 : RS, E_back R10 R13 0 ∧ (L_run_80 nf R13 x1 x2 r11 R' r)) else (L_run_80 nf R10 x1 x2 r11 R' r)))))
set_option maxHeartbeats 4000000 in
set_option maxRecDepth 100000 in
theorem L_run_80_ok {l : Launch} {G : PG} {h : Nat} {q : Nat → Nat} {a1 : Int32} {a2 : Int32} {R' : RS} {r : Int32} {p : Program} {e : Env} {s : State} {m : MethodId} {below : List Frame} {meth : Method} {c : Code} {A : Nat → Prop} (F : bF p s m meth c cX6_run 4 (some .boolean) ([.ref h, .int a1, .int a2] : List Value).toArray yX6_run) (hK : pg_K G s) (hA : ∀ q, s.heap.size ≤ q → A q) : ∀ (nf : Nat) (R : RS) (x1 : Int32) (x2 : Int32) (x3 : Int32) (H : Heap) (locs : List Loc) (ls : Array Slot), lv_has ls 4 [(3, .int x3), (0, .ref h), (1, .int x1), (2, .int x2)] → L_run_80 nf R x1 x2 x3 R' r → va_P G.1 vwCl (mW G h q R) H → va_D A (mW G h q R) → va_S A s.heap H locs → W p l e { frames := 5, cells := 0, slots := 0, locals := 112 } s m ([.ref h, .int a1, .int a2] : List Value).toArray below meth c H locs 0 0 (MQ below (va_Qi (fun (r9 : Int32) (_ : Unit) => r9 = r) (oB G A (fun (_ : Unit) => mW G h q R')) A) ([.ref h, .int a1, .int a2] : List Value).toArray s 0 0 A) (F0 m 80 ls []) := by
  have hx := F.1.1; have hb := F.1.2.1; have hml := F.1.2.2.1; have hts := F.1.2.2.2.2
  have hown : s.vm.findClass RX6 = some m.cls := F.1.2.2.2.1
  intro nf
  induction nf with
  | zero => intro R x1 x2 x3 H locs ls hl hE; exact hE.elim
  | succ nf ih =>
    intro R x1 x2 x3 H locs ls hl hE hP hD hS
    unfold L_run_80 at hE
    refine lv_aload_n hx hb dX6_run_80 rfl (lv_at hl 1 rfl) ?_
    refine va_get (D := G.1) (ci := 6) (C := RX6) (T := TX6) (N := 48) hx hb hts inX6 hown hK.1 hP 0 mW_0 rfl 29 (by decide) (hts _ w_875) (fun _ h9 => h9) mF_29 dX6_run_81 ?_
    refine lv_if_eq (tgt := 130) hx hb dX6_run_84 (by decide) (fun h5 => ?_) (fun h5 => ?_)
    ·
      rw [if_pos h5] at hE
      refine lv_aload_n hx hb dX6_run_130 rfl (lv_at hl 1 rfl) ?_
      refine va_get (D := G.1) (ci := 6) (C := RX6) (T := TX6) (N := 48) hx hb hts inX6 hown hK.1 hP 0 mW_0 rfl 29 (by decide) (hts _ w_875) (fun _ h9 => h9) mF_29 dX6_run_131 ?_
      refine lv_if_ne (tgt := 139) hx hb dX6_run_134 (by decide) (fun h6 => ?_) (fun h6 => ?_)
      ·
        rw [if_neg h6] at hE
        refine lv_aload_n hx hb dX6_run_139 rfl (lv_at hl 1 rfl) ?_
        refine va_get (D := G.1) (ci := 6) (C := RX6) (T := TX6) (N := 48) hx hb hts inX6 hown hK.1 hP 0 mW_0 rfl 30 (by decide) (hts _ w_876) (fun _ h9 => h9) mF_30 dX6_run_140 ?_
        refine lv_iconst (v := 0) hx hb dX6_run_143 (by decide) ?_
        refine lv_iload_n hx hb dX6_run_144 rfl (lv_at hl 2 rfl) ?_
        obtain ⟨hin, hE⟩ := hE
        refine va_iast (D := G.1) hx hb hK.1 hP hD hS 16 0 mW_g30 rfl hin dX6_run_145 (fun H locs hP hD hS => ?_)
        rw [mW_a30] at hP hD
        refine lv_aload_n hx hb dX6_run_146 rfl (lv_at hl 1 rfl) ?_
        refine va_get (D := G.1) (ci := 6) (C := RX6) (T := TX6) (N := 48) hx hb hts inX6 hown hK.1 hP 0 mW_0 rfl 30 (by decide) (hts _ w_876) (fun _ h9 => h9) mF_30 dX6_run_147 ?_
        refine lv_iconst (v := 1) hx hb dX6_run_150 (by decide) ?_
        refine lv_aload_n hx hb dX6_run_151 rfl (lv_at hl 1 rfl) ?_
        refine va_get (D := G.1) (ci := 6) (C := RX6) (T := TX6) (N := 48) hx hb hts inX6 hown hK.1 hP 0 mW_0 rfl 23 (by decide) (hts _ w_869) (fun _ h9 => h9) mF_23 dX6_run_152 ?_
        refine tp_i (R.1 23) rfl ?_
        obtain ⟨hin, hE⟩ := hE
        refine va_iast (D := G.1) hx hb hK.1 hP hD hS 16 0 mW_g30 rfl hin dX6_run_155 (fun H locs hP hD hS => ?_)
        rw [mW_a30] at hP hD
        refine lv_iconst (v := 1) hx hb dX6_run_156 (by decide) ?_
        obtain ⟨rfl, rfl⟩ := hE
        exact en_i F hS _ () (by rfl) rfl hP hD (Nat.le_refl _) (Nat.le_refl _) dX6_run_157
      ·
        rw [if_pos h6] at hE
        refine lv_iconst (v := 0) hx hb dX6_run_137 (by decide) ?_
        obtain ⟨rfl, rfl⟩ := hE
        exact en_i F hS _ () (by rfl) rfl hP hD (Nat.le_refl _) (Nat.le_refl _) dX6_run_138
    ·
      rw [if_neg h5] at hE
      refine lv_aload_n hx hb dX6_run_87 rfl (lv_at hl 1 rfl) ?_
      refine va_get (D := G.1) (ci := 6) (C := RX6) (T := TX6) (N := 48) hx hb hts inX6 hown hK.1 hP 0 mW_0 rfl 25 (by decide) (hts _ w_871) (fun _ h9 => h9) mF_25 dX6_run_88 ?_
      refine lv_iconst (v := (-1)) hx hb dX6_run_91 (by decide) ?_
      refine lv_icmp_eq (tgt := 130) hx hb dX6_run_92 (by decide) (fun h7 => ?_) (fun h7 => ?_)
      ·
        rw [if_pos h7] at hE
        refine lv_aload_n hx hb dX6_run_130 rfl (lv_at hl 1 rfl) ?_
        refine va_get (D := G.1) (ci := 6) (C := RX6) (T := TX6) (N := 48) hx hb hts inX6 hown hK.1 hP 0 mW_0 rfl 29 (by decide) (hts _ w_875) (fun _ h9 => h9) mF_29 dX6_run_131 ?_
        refine lv_if_ne (tgt := 139) hx hb dX6_run_134 (by decide) (fun h8 => ?_) (fun h8 => ?_)
        ·
          rw [if_neg h8] at hE
          refine lv_aload_n hx hb dX6_run_139 rfl (lv_at hl 1 rfl) ?_
          refine va_get (D := G.1) (ci := 6) (C := RX6) (T := TX6) (N := 48) hx hb hts inX6 hown hK.1 hP 0 mW_0 rfl 30 (by decide) (hts _ w_876) (fun _ h9 => h9) mF_30 dX6_run_140 ?_
          refine lv_iconst (v := 0) hx hb dX6_run_143 (by decide) ?_
          refine lv_iload_n hx hb dX6_run_144 rfl (lv_at hl 2 rfl) ?_
          obtain ⟨hin, hE⟩ := hE
          refine va_iast (D := G.1) hx hb hK.1 hP hD hS 16 0 mW_g30 rfl hin dX6_run_145 (fun H locs hP hD hS => ?_)
          rw [mW_a30] at hP hD
          refine lv_aload_n hx hb dX6_run_146 rfl (lv_at hl 1 rfl) ?_
          refine va_get (D := G.1) (ci := 6) (C := RX6) (T := TX6) (N := 48) hx hb hts inX6 hown hK.1 hP 0 mW_0 rfl 30 (by decide) (hts _ w_876) (fun _ h9 => h9) mF_30 dX6_run_147 ?_
          refine lv_iconst (v := 1) hx hb dX6_run_150 (by decide) ?_
          refine lv_aload_n hx hb dX6_run_151 rfl (lv_at hl 1 rfl) ?_
          refine va_get (D := G.1) (ci := 6) (C := RX6) (T := TX6) (N := 48) hx hb hts inX6 hown hK.1 hP 0 mW_0 rfl 23 (by decide) (hts _ w_869) (fun _ h9 => h9) mF_23 dX6_run_152 ?_
          refine tp_i (R.1 23) rfl ?_
          obtain ⟨hin, hE⟩ := hE
          refine va_iast (D := G.1) hx hb hK.1 hP hD hS 16 0 mW_g30 rfl hin dX6_run_155 (fun H locs hP hD hS => ?_)
          rw [mW_a30] at hP hD
          refine lv_iconst (v := 1) hx hb dX6_run_156 (by decide) ?_
          obtain ⟨rfl, rfl⟩ := hE
          exact en_i F hS _ () (by rfl) rfl hP hD (Nat.le_refl _) (Nat.le_refl _) dX6_run_157
        ·
          rw [if_pos h8] at hE
          refine lv_iconst (v := 0) hx hb dX6_run_137 (by decide) ?_
          obtain ⟨rfl, rfl⟩ := hE
          exact en_i F hS _ () (by rfl) rfl hP hD (Nat.le_refl _) (Nat.le_refl _) dX6_run_138
      ·
        rw [if_neg h7] at hE
        refine lv_aload_n hx hb dX6_run_95 rfl (lv_at hl 1 rfl) ?_
        refine va_get (D := G.1) (ci := 6) (C := RX6) (T := TX6) (N := 48) hx hb hts inX6 hown hK.1 hP 0 mW_0 rfl 24 (by decide) (hts _ w_870) (fun _ h9 => h9) mF_24 dX6_run_96 ?_
        refine lv_iconst (v := (-1)) hx hb dX6_run_99 (by decide) ?_
        refine lv_icmp_ne (tgt := 110) hx hb dX6_run_100 (by decide) (fun h9 => ?_) (fun h9 => ?_)
        ·
          rw [if_neg h9] at hE
          refine lv_aload_n hx hb dX6_run_110 rfl (lv_at hl 1 rfl) ?_
          refine lv_aload_n hx hb dX6_run_111 rfl (lv_at hl 1 rfl) ?_
          refine va_get (D := G.1) (ci := 6) (C := RX6) (T := TX6) (N := 48) hx hb hts inX6 hown hK.1 hP 0 mW_0 rfl 24 (by decide) (hts _ w_870) (fun _ h9 => h9) mF_24 dX6_run_112 ?_
          obtain ⟨R10, r11, hg, hE⟩ := hE
          refine kA_i (va_runV (As := [.int (R.1 24)]) (rest := []) F.1 (e_enter l G h q R (R.1 24) R10 r11 hg _) (cwV 1 hts (aw_V w_1132 w_1134 ws_X6_enter w_6 w_1135) rfl rfl rfl (by decide +kernel) ⟨by decide, by decide⟩) ⟨cS_blind, va_recv (q := (RX6, TX6, 48)) (ci := 6) (q0 := 0) hK.1 hP rfl mW_0, cS_pre hP hD hK⟩ rfl rfl hl.1 rfl (lv_room (Nat.le_of_ble_eq_true rfl)) dX6_run_115 ⟨Nat.le_refl _, Nat.le_refl _⟩) hD hS hA (fun r9 u0 H locs hp hP hD hS => ?_)
          have hp := hp.symm; subst hp
          refine lv_istore_n hx hb dX6_run_118 rfl hl (by decide) rfl (fun ls hl => ?_)
          have hl : lv_has ls 4 [(3, .int r11), (0, .ref h), (1, .int x1), (2, .int x2)] := hl
          refine lv_iload_n hx hb dX6_run_119 rfl (lv_at hl 0 rfl) ?_
          refine lv_if_ne (tgt := 127) hx hb dX6_run_120 (by decide) (fun h12 => ?_) (fun h12 => ?_)
          ·
            rw [if_neg h12] at hE
            refine lv_goto (tgt := 80) hx hb dX6_run_127 (by decide) ?_
            exact ih R10 x1 x2 r11 _ _ ls (lv_sub hl [0, 1, 2, 3] rfl) hE hP hD hS
          ·
            rw [if_pos h12] at hE
            refine lv_aload_n hx hb dX6_run_123 rfl (lv_at hl 1 rfl) ?_
            obtain ⟨R13, hg, hE⟩ := hE
            refine kA_v (va_runV (As := []) (rest := []) F.1 (e_back l G h q R10 R13 0 hg _) (cwV 0 hts (aw_V w_1180 w_1182 ws_X6_back w_6 w_1183) rfl rfl rfl (by decide +kernel) ⟨by decide, by decide⟩) ⟨cS_blind, va_recv (q := (RX6, TX6, 48)) (ci := 6) (q0 := 0) hK.1 hP rfl mW_0, cS_pre hP hD hK⟩ rfl rfl hl.1 rfl (lv_room (Nat.le_of_ble_eq_true rfl)) dX6_run_124 ⟨Nat.le_refl _, Nat.le_refl _⟩) hD hS hA (fun u0 H locs hp hP hD hS => ?_)
            refine lv_goto (tgt := 80) hx hb dX6_run_127 (by decide) ?_
            exact ih R13 x1 x2 r11 _ _ ls (lv_sub hl [0, 1, 2, 3] rfl) hE hP hD hS
        ·
          rw [if_pos h9] at hE
          refine lv_aload_n hx hb dX6_run_103 rfl (lv_at hl 1 rfl) ?_
          obtain ⟨R15, r16, hg, hE⟩ := hE
          refine kA_i (va_runV (As := []) (rest := []) F.1 (e_goOn l G h q R R15 r16 hg _) (cwV 0 hts (aw_V w_1108 w_1110 ws_X6_goOn w_6 w_1111) rfl rfl rfl (by decide +kernel) ⟨by decide, by decide⟩) ⟨cS_blind, va_recv (q := (RX6, TX6, 48)) (ci := 6) (q0 := 0) hK.1 hP rfl mW_0, cS_pre hP hD hK⟩ rfl rfl hl.1 rfl (lv_room (Nat.le_of_ble_eq_true rfl)) dX6_run_104 ⟨Nat.le_refl _, Nat.le_refl _⟩) hD hS hA (fun r9 u0 H locs hp hP hD hS => ?_)
          have hp := hp.symm; subst hp
          refine lv_goto (tgt := 118) hx hb dX6_run_107 (by decide) ?_
          refine lv_istore_n hx hb dX6_run_118 rfl hl (by decide) rfl (fun ls hl => ?_)
          have hl : lv_has ls 4 [(3, .int r16), (0, .ref h), (1, .int x1), (2, .int x2)] := hl
          refine lv_iload_n hx hb dX6_run_119 rfl (lv_at hl 0 rfl) ?_
          refine lv_if_ne (tgt := 127) hx hb dX6_run_120 (by decide) (fun h17 => ?_) (fun h17 => ?_)
          ·
            rw [if_neg h17] at hE
            refine lv_goto (tgt := 80) hx hb dX6_run_127 (by decide) ?_
            exact ih R15 x1 x2 r16 _ _ ls (lv_sub hl [0, 1, 2, 3] rfl) hE hP hD hS
          ·
            rw [if_pos h17] at hE
            refine lv_aload_n hx hb dX6_run_123 rfl (lv_at hl 1 rfl) ?_
            obtain ⟨R18, hg, hE⟩ := hE
            refine kA_v (va_runV (As := []) (rest := []) F.1 (e_back l G h q R15 R18 0 hg _) (cwV 0 hts (aw_V w_1180 w_1182 ws_X6_back w_6 w_1183) rfl rfl rfl (by decide +kernel) ⟨by decide, by decide⟩) ⟨cS_blind, va_recv (q := (RX6, TX6, 48)) (ci := 6) (q0 := 0) hK.1 hP rfl mW_0, cS_pre hP hD hK⟩ rfl rfl hl.1 rfl (lv_room (Nat.le_of_ble_eq_true rfl)) dX6_run_124 ⟨Nat.le_refl _, Nat.le_refl _⟩) hD hS hA (fun u0 H locs hp hP hD hS => ?_)
            refine lv_goto (tgt := 80) hx hb dX6_run_127 (by decide) ?_
            exact ih R18 x1 x2 r16 _ _ ls (lv_sub hl [0, 1, 2, 3] rfl) hE hP hD hS
def L_run_35 : Nat → RS → Int32 → Int32 → Int32 → RS → Int32 → Prop
  | 0, _, _, _, _, _, _ => False
  | nf + 1, R, x1, x2, x3, R', r => if 10 ≤ x3 then (∃ (R3 : RS) (r4 : Int32), E_link R 23 0 0 (-1) R3 r4 ∧ (∃ nf : Nat, L_run_80 nf (mf (mf (mf R3 25 r4) 24 (R3.1 3)) 29 1) x1 x2 x3 R' r)) else (vp_in x3 10 ∧ (L_run_35 nf (ma R 30 x3.toNatClampNeg (-1)) x1 x2 (x3 + 1) R' r))
set_option maxHeartbeats 4000000 in
set_option maxRecDepth 100000 in
theorem L_run_35_ok {l : Launch} {G : PG} {h : Nat} {q : Nat → Nat} {a1 : Int32} {a2 : Int32} {R' : RS} {r : Int32} {p : Program} {e : Env} {s : State} {m : MethodId} {below : List Frame} {meth : Method} {c : Code} {A : Nat → Prop} (F : bF p s m meth c cX6_run 4 (some .boolean) ([.ref h, .int a1, .int a2] : List Value).toArray yX6_run) (hK : pg_K G s) (hA : ∀ q, s.heap.size ≤ q → A q) : ∀ (nf : Nat) (R : RS) (x1 : Int32) (x2 : Int32) (x3 : Int32) (H : Heap) (locs : List Loc) (ls : Array Slot), lv_has ls 4 [(3, .int x3), (0, .ref h), (1, .int x1), (2, .int x2)] → L_run_35 nf R x1 x2 x3 R' r → va_P G.1 vwCl (mW G h q R) H → va_D A (mW G h q R) → va_S A s.heap H locs → W p l e { frames := 5, cells := 0, slots := 0, locals := 112 } s m ([.ref h, .int a1, .int a2] : List Value).toArray below meth c H locs 0 0 (MQ below (va_Qi (fun (r9 : Int32) (_ : Unit) => r9 = r) (oB G A (fun (_ : Unit) => mW G h q R')) A) ([.ref h, .int a1, .int a2] : List Value).toArray s 0 0 A) (F0 m 35 ls []) := by
  have hx := F.1.1; have hb := F.1.2.1; have hml := F.1.2.2.1; have hts := F.1.2.2.2.2
  have hown : s.vm.findClass RX6 = some m.cls := F.1.2.2.2.1
  intro nf
  induction nf with
  | zero => intro R x1 x2 x3 H locs ls hl hE; exact hE.elim
  | succ nf ih =>
    intro R x1 x2 x3 H locs ls hl hE hP hD hS
    unfold L_run_35 at hE
    refine lv_iload_n hx hb dX6_run_35 rfl (lv_at hl 0 rfl) ?_
    refine lv_bipush (v := 10) hx hb dX6_run_36 (by decide) ?_
    refine lv_icmp_ge (tgt := 54) hx hb dX6_run_38 (by decide) (fun h2 => ?_) (fun h2 => ?_)
    ·
      rw [if_pos h2] at hE
      refine lv_aload_n hx hb dX6_run_54 rfl (lv_at hl 1 rfl) ?_
      refine lv_aload_n hx hb dX6_run_55 rfl (lv_at hl 1 rfl) ?_
      refine lv_bipush (v := 23) hx hb dX6_run_56 (by decide) ?_
      refine lv_iconst (v := 0) hx hb dX6_run_58 (by decide) ?_
      refine lv_iconst (v := 0) hx hb dX6_run_59 (by decide) ?_
      refine lv_iconst (v := (-1)) hx hb dX6_run_60 (by decide) ?_
      obtain ⟨R3, r4, hg, hE⟩ := hE
      refine kA_i (va_runV (As := [.int 23, .int 0, .int 0, .int (-1)]) (rest := [.ref h]) F.1 (e_link l G h q R 23 0 0 (-1) R3 r4 hg _) (cwV 4 hts (aw_V w_1104 w_1106 ws_X6_link w_6 w_1107) rfl rfl rfl (by decide +kernel) ⟨by decide, by decide⟩) ⟨cS_blind, va_recv (q := (RX6, TX6, 48)) (ci := 6) (q0 := 0) hK.1 hP rfl mW_0, cS_pre hP hD hK⟩ rfl rfl hl.1 rfl (lv_room (Nat.le_of_ble_eq_true rfl)) dX6_run_61 ⟨Nat.le_refl _, Nat.le_refl _⟩) hD hS hA (fun r9 u0 H locs hp hP hD hS => ?_)
      have hp := hp.symm; subst hp
      refine va_put (D := G.1) (ci := 6) (v := .int r4) (ty := .int) (C := RX6) (T := TX6) (N := 48) hx hb hts inX6 tyX6 tyX6_ok nmX6 hown hK.1 hP hD hS 0 mW_0 rfl 25 (by decide) (hts _ w_871) (fun _ h9 => h9) rfl (by decide +kernel) rfl rfl mF_l25 dX6_run_64 (fun H locs hP hD hS => ?_)
      rw [mW_f25] at hP hD
      refine lv_aload_n hx hb dX6_run_67 rfl (lv_at hl 1 rfl) ?_
      refine lv_aload_n hx hb dX6_run_68 rfl (lv_at hl 1 rfl) ?_
      refine va_get (D := G.1) (ci := 6) (C := RX6) (T := TX6) (N := 48) hx hb hts inX6 hown hK.1 hP 0 mW_0 rfl 3 (by decide) (hts _ w_849) (fun _ h9 => h9) mF_3 dX6_run_69 ?_
      refine tp_i (R3.1 3) rfl ?_
      refine va_put (D := G.1) (ci := 6) (v := .int (R3.1 3)) (ty := .int) (C := RX6) (T := TX6) (N := 48) hx hb hts inX6 tyX6 tyX6_ok nmX6 hown hK.1 hP hD hS 0 mW_0 rfl 24 (by decide) (hts _ w_870) (fun _ h9 => h9) rfl (by decide +kernel) rfl rfl mF_l24 dX6_run_72 (fun H locs hP hD hS => ?_)
      rw [mW_f24] at hP hD
      refine lv_aload_n hx hb dX6_run_75 rfl (lv_at hl 1 rfl) ?_
      refine lv_iconst (v := 1) hx hb dX6_run_76 (by decide) ?_
      refine va_put (D := G.1) (ci := 6) (v := .int 1) (ty := .boolean) (C := RX6) (T := TX6) (N := 48) hx hb hts inX6 tyX6 tyX6_ok nmX6 hown hK.1 hP hD hS 0 mW_0 rfl 29 (by decide) (hts _ w_875) (fun _ h9 => h9) rfl (by decide +kernel) rfl rfl mF_l29 dX6_run_77 (fun H locs hP hD hS => ?_)
      rw [mW_f29] at hP hD
      obtain ⟨nf, hE⟩ := hE
      exact L_run_80_ok F hK hA nf (mf (mf (mf R3 25 r4) 24 (R3.1 3)) 29 1) x1 x2 x3 _ _ ls (lv_sub hl [0, 1, 2, 3] rfl) hE hP hD hS
    ·
      rw [if_neg h2] at hE
      refine lv_aload_n hx hb dX6_run_41 rfl (lv_at hl 1 rfl) ?_
      refine va_get (D := G.1) (ci := 6) (C := RX6) (T := TX6) (N := 48) hx hb hts inX6 hown hK.1 hP 0 mW_0 rfl 30 (by decide) (hts _ w_876) (fun _ h9 => h9) mF_30 dX6_run_42 ?_
      refine lv_iload_n hx hb dX6_run_45 rfl (lv_at hl 0 rfl) ?_
      refine lv_iconst (v := (-1)) hx hb dX6_run_46 (by decide) ?_
      obtain ⟨hin, hE⟩ := hE
      refine va_iast (D := G.1) hx hb hK.1 hP hD hS 16 0 mW_g30 rfl hin dX6_run_47 (fun H locs hP hD hS => ?_)
      rw [mW_a30] at hP hD
      refine lv_iinc (v := (x3 + 1)) (k := 0) hx hb dX6_run_48 hl rfl rfl (by decide) rfl (fun ls hl => ?_)
      have hl : lv_has ls 4 [(3, .int (x3 + 1)), (0, .ref h), (1, .int x1), (2, .int x2)] := hl
      refine lv_goto (tgt := 35) hx hb dX6_run_51 (by decide) ?_
      exact ih (ma R 30 x3.toNatClampNeg (-1)) x1 x2 (x3 + 1) _ _ ls (lv_sub hl [0, 1, 2, 3] rfl) hE hP hD hS
def E_run (R : RS) (a1 : Int32) (a2 : Int32) (R' : RS) (r : Int32) : Prop := if a2 = 0 then (∃ nf : Nat, L_run_35 nf (mf (mf (mf (mf R 23 a1) 26 0) 27 0) 28 (-1)) a1 a2 0 R' r) else (vp_in 1 3 ∧ (∃ nf : Nat, L_run_35 nf (mf (mf (mf (mf R 23 a1) 26 0) 27 0) 28 (R.2.1 2 (1 : Int32).toNatClampNeg)) a1 a2 0 R' r))
set_option maxHeartbeats 4000000 in
set_option maxRecDepth 100000 in
theorem e_run (l : Launch) (G : PG) (h : Nat) (q : Nat → Nat) (R : RS) (a1 : Int32) (a2 : Int32) (R' : RS) (r : Int32) (hE : E_run R a1 a2 R' r) : Ci l yX6_run (Cond.code yX6_run cX6_run 4 (some .boolean) :: aW) { frames := 5, cells := 0, slots := 0, locals := 112 } G (mW G h q R) [.ref h, .int a1, .int a2] (fun (r9 : Int32) (_ : Unit) => r9 = r) (fun (_ : Unit) => mW G h q R') 0 0 := by
  refine ofB (y := yX6_run) (G := G) (cc := cX6_run) (maxL := 4) (ret := (some .boolean)) (Qc := fun A => va_Qi (fun (r9 : Int32) (_ : Unit) => r9 = r) (oB G A (fun (_ : Unit) => mW G h q R')) A) (by decide) rfl ?_
  intro p e s m below meth c A F hK hA hP hD
  have hS : va_S A s.heap s.heap [] := va_S.rf
  have hx := F.1.1; have hb := F.1.2.1; have hml := F.1.2.2.1; have hts := F.1.2.2.2.2
  have hown : s.vm.findClass RX6 = some m.cls := F.1.2.2.2.1
  have hl := lv_entry ([.ref h, .int a1, .int a2]) (n := 4) (Nat.le_of_ble_eq_true rfl)
  rw [lg_entry_eq]
  generalize (lg_sl ([.ref h, .int a1, .int a2]) ++ List.replicate (4 - (lg_sl ([.ref h, .int a1, .int a2])).length) Slot.unset).toArray = ls at hl ⊢
  have hl : lv_has ls 4 [(0, .ref h), (1, .int a1), (2, .int a2)] := hl
  unfold E_run at hE
  refine lv_aload_n hx hb dX6_run_0 rfl (lv_at hl 0 rfl) ?_
  refine lv_iload_n hx hb dX6_run_1 rfl (lv_at hl 1 rfl) ?_
  refine va_put (D := G.1) (ci := 6) (v := .int a1) (ty := .int) (C := RX6) (T := TX6) (N := 48) hx hb hts inX6 tyX6 tyX6_ok nmX6 hown hK.1 hP hD hS 0 mW_0 rfl 23 (by decide) (hts _ w_869) (fun _ h9 => h9) rfl (by decide +kernel) rfl rfl mF_l23 dX6_run_2 (fun H locs hP hD hS => ?_)
  rw [mW_f23] at hP hD
  refine lv_aload_n hx hb dX6_run_5 rfl (lv_at hl 0 rfl) ?_
  refine lv_iconst (v := 0) hx hb dX6_run_6 (by decide) ?_
  refine va_put (D := G.1) (ci := 6) (v := .int 0) (ty := .int) (C := RX6) (T := TX6) (N := 48) hx hb hts inX6 tyX6 tyX6_ok nmX6 hown hK.1 hP hD hS 0 mW_0 rfl 26 (by decide) (hts _ w_872) (fun _ h9 => h9) rfl (by decide +kernel) rfl rfl mF_l26 dX6_run_7 (fun H locs hP hD hS => ?_)
  rw [mW_f26] at hP hD
  refine lv_aload_n hx hb dX6_run_10 rfl (lv_at hl 0 rfl) ?_
  refine lv_iconst (v := 0) hx hb dX6_run_11 (by decide) ?_
  refine va_put (D := G.1) (ci := 6) (v := .int 0) (ty := .int) (C := RX6) (T := TX6) (N := 48) hx hb hts inX6 tyX6 tyX6_ok nmX6 hown hK.1 hP hD hS 0 mW_0 rfl 27 (by decide) (hts _ w_873) (fun _ h9 => h9) rfl (by decide +kernel) rfl rfl mF_l27 dX6_run_12 (fun H locs hP hD hS => ?_)
  rw [mW_f27] at hP hD
  refine lv_aload_n hx hb dX6_run_15 rfl (lv_at hl 0 rfl) ?_
  refine lv_iload_n hx hb dX6_run_16 rfl (lv_at hl 2 rfl) ?_
  refine lv_if_eq (tgt := 29) hx hb dX6_run_17 (by decide) (fun h1 => ?_) (fun h1 => ?_)
  ·
    rw [if_pos h1] at hE
    refine lv_iconst (v := (-1)) hx hb dX6_run_29 (by decide) ?_
    refine va_put (D := G.1) (ci := 6) (v := .int (-1)) (ty := .int) (C := RX6) (T := TX6) (N := 48) hx hb hts inX6 tyX6 tyX6_ok nmX6 hown hK.1 hP hD hS 0 mW_0 rfl 28 (by decide) (hts _ w_874) (fun _ h9 => h9) rfl (by decide +kernel) rfl rfl mF_l28 dX6_run_30 (fun H locs hP hD hS => ?_)
    rw [mW_f28] at hP hD
    refine lv_iconst (v := 0) hx hb dX6_run_33 (by decide) ?_
    refine lv_istore_n hx hb dX6_run_34 rfl hl (by decide) rfl (fun ls hl => ?_)
    have hl : lv_has ls 4 [(3, .int 0), (0, .ref h), (1, .int a1), (2, .int a2)] := hl
    obtain ⟨nf, hE⟩ := hE
    exact L_run_35_ok F hK hA nf (mf (mf (mf (mf R 23 a1) 26 0) 27 0) 28 (-1)) a1 a2 0 _ _ ls (lv_sub hl [0, 1, 2, 3] rfl) hE hP hD hS
  ·
    rw [if_neg h1] at hE
    refine lv_aload_n hx hb dX6_run_20 rfl (lv_at hl 0 rfl) ?_
    refine va_get (D := G.1) (ci := 6) (C := RX6) (T := TX6) (N := 48) hx hb hts inX6 hown hK.1 hP 0 mW_0 rfl 2 (by decide) (hts _ w_848) (fun _ h9 => h9) mF_2 dX6_run_21 ?_
    refine lv_iconst (v := 1) hx hb dX6_run_24 (by decide) ?_
    obtain ⟨hin, hE⟩ := hE
    refine va_iald (D := G.1) hx hb hK.1 hP 2 0 mW_g2 rfl hin dX6_run_25 ?_
    refine tp_i (R.2.1 2 (1 : Int32).toNatClampNeg) rfl ?_
    refine lv_goto (tgt := 30) hx hb dX6_run_26 (by decide) ?_
    refine va_put (D := G.1) (ci := 6) (v := .int (R.2.1 2 (1 : Int32).toNatClampNeg)) (ty := .int) (C := RX6) (T := TX6) (N := 48) hx hb hts inX6 tyX6 tyX6_ok nmX6 hown hK.1 hP hD hS 0 mW_0 rfl 28 (by decide) (hts _ w_874) (fun _ h9 => h9) rfl (by decide +kernel) rfl rfl mF_l28 dX6_run_30 (fun H locs hP hD hS => ?_)
    rw [mW_f28] at hP hD
    refine lv_iconst (v := 0) hx hb dX6_run_33 (by decide) ?_
    refine lv_istore_n hx hb dX6_run_34 rfl hl (by decide) rfl (fun ls hl => ?_)
    have hl : lv_has ls 4 [(3, .int 0), (0, .ref h), (1, .int a1), (2, .int a2)] := hl
    obtain ⟨nf, hE⟩ := hE
    exact L_run_35_ok F hK hA nf (mf (mf (mf (mf R 23 a1) 26 0) 27 0) 28 (R.2.1 2 (1 : Int32).toNatClampNeg)) a1 a2 0 _ _ ls (lv_sub hl [0, 1, 2, 3] rfl) hE hP hD hS
