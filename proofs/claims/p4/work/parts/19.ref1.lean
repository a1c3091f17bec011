/-! the reference as one state: ints by slot, int arrays by slot and place, long arrays likewise -/
abbrev RS : Type := (Nat → Int32) × (Nat → Nat → Int32) × (Nat → Nat → Int64)
def mf (R : RS) (k : Nat) (x : Int32) : RS := (upd R.1 k x, R.2)
def ma (R : RS) (k i : Nat) (x : Int32) : RS := (R.1, va_up R.2.1 k (upd (R.2.1 k) i x), R.2.2)
def ml (R : RS) (k i : Nat) (x : Int64) : RS := (R.1, R.2.1, va_up R.2.2 k (vp_updL (R.2.2 k) i x))
def mF (q : Nat → Nat) (R : RS) : List Value := [.int (R.1 0), .ref (q 1), .ref (q 2), .int (R.1 3), .int (R.1 4), .int (R.1 5), .int (R.1 6), .int (R.1 7), .ref (q 8), .ref (q 9), .ref (q 10), .ref (q 11), .ref (q 12), .ref (q 13), .ref (q 14), .ref (q 15), .int (R.1 16), .int (R.1 17), .ref (q 18), .ref (q 19), .ref (q 20), .ref (q 21), .ref (q 22), .int (R.1 23), .int (R.1 24), .int (R.1 25), .int (R.1 26), .int (R.1 27), .int (R.1 28), .int (R.1 29), .ref (q 30), .ref (q 31), .ref (q 32), .ref (q 33), .ref (q 34), .ref (q 35), .ref (q 36), .ref (q 37), .ref (q 38), .ref (q 39), .ref (q 40), .int (R.1 41), .ref (q 42), .int (R.1 43), .ref (q 44), .int (R.1 45), .ref (q 46), .ref (q 47)]
def mW (G : PG) (h : Nat) (q : Nat → Nat) (R : RS) : va_W := [(h, .inr (6, mF q R)), (q 1, .inl (G.2 0, 42, .inl (R.2.1 1))), (q 2, .inl (G.2 0, 3, .inl (R.2.1 2))), (q 8, .inl (G.2 0, 96, .inl (R.2.1 8))), (q 9, .inl (G.2 0, 96, .inl (R.2.1 9))), (q 10, .inl (G.2 0, 96, .inl (R.2.1 10))), (q 11, .inl (G.2 0, 96, .inl (R.2.1 11))), (q 12, .inl (G.2 0, 96, .inl (R.2.1 12))), (q 13, .inl (G.2 0, 96, .inl (R.2.1 13))), (q 14, .inl (G.2 1, 96, .inr (.inl (R.2.2 14)))), (q 15, .inl (G.2 1, 96, .inr (.inl (R.2.2 15)))), (q 18, .inl (G.2 0, 6, .inl (R.2.1 18))), (q 19, .inl (G.2 0, 6, .inl (R.2.1 19))), (q 20, .inl (G.2 0, 6, .inl (R.2.1 20))), (q 21, .inl (G.2 0, 6, .inl (R.2.1 21))), (q 22, .inl (G.2 3, 6, .inl (R.2.1 22))), (q 30, .inl (G.2 0, 10, .inl (R.2.1 30))), (q 31, .inl (G.2 0, 1000, .inl (R.2.1 31))), (q 32, .inl (G.2 0, 1000, .inl (R.2.1 32))), (q 33, .inl (G.2 0, 1000, .inl (R.2.1 33))), (q 34, .inl (G.2 0, 1000, .inl (R.2.1 34))), (q 35, .inl (G.2 0, 500, .inl (R.2.1 35))), (q 36, .inl (G.2 0, 500, .inl (R.2.1 36))), (q 37, .inl (G.2 0, 500, .inl (R.2.1 37))), (q 38, .inl (G.2 0, 500, .inl (R.2.1 38))), (q 39, .inl (G.2 0, 500, .inl (R.2.1 39))), (q 40, .inl (G.2 0, 5000, .inl (R.2.1 40))), (q 42, .inl (G.2 0, 10, .inl (R.2.1 42))), (q 44, .inl (G.2 0, 400, .inl (R.2.1 44))), (q 46, .inl (G.2 0, 12, .inl (R.2.1 46))), (q 47, .inl (G.2 0, 12, .inl (R.2.1 47)))]
theorem va_P0 {D : va_G} {cl : List vw_C} {H : Heap} : va_P D cl [] H := fun k q h => by simp at h
theorem va_D0 {A : Nat → Prop} : va_D A [] := ⟨fun i j p q h => by simp at h, fun k q h => by simp at h⟩
/-! a call over the whole world -/
section KA
variable {p : Program} {l : Launch} {e : Env} {R : Room} {s : State} {m : MethodId} {args : Array Value} {below : List Frame} {meth : Method} {c : Code} {H : Heap} {locs : List Loc} {cells slots : Nat} {Q : State → Prop}
variable {G : PG} {A : Nat → Prop} {mc ms pc : Nat} {ls : Array Slot} {w : va_W} {H0 : Heap} {st0 rest : List Value} {a : Array Value}
theorem kA_F (hD : va_D A w) (hS : va_S A H0 H locs) (hA : ∀ q, H0.size ≤ q → A q) : ∀ q, va_A w H.size q → A q := fun q h => by
  rcases h with ⟨k, e, h⟩ | h
  · exact hD.2 k (q, e) h
  · exact hA q (Nat.le_trans hS.1 h)
theorem kA_i {S : Type} {post : Int32 → S → Prop} {w1 : S → va_W}
    (hr : va_Run p l e R s m args below meth c H locs cells slots mc ms (F0 m pc ls st0) rest (va_Qi post (oB G (va_A w H.size) w1) (va_A w H.size) a) (va_A w H.size))
    (hD : va_D A w) (hS : va_S A H0 H locs) (hA : ∀ q, H0.size ≤ q → A q)
    (kk : ∀ (r : Int32) (u : S) (H1 : Heap) (locs1 : List Loc), post r u → va_P G.1 vwCl (w1 u) H1 → va_D A (w1 u) → va_S A H0 H1 locs1 → W p l e R s m args below meth c H1 locs1 (cells + mc) (slots + ms) Q (F0 m (pc + 3) ls (.int r :: rest))) :
    W p l e R s m args below meth c H locs cells slots Q (F0 m pc ls st0) := by
  have hF := kA_F hD hS hA
  refine va_calli hr hS (fun q _ h => hF q h) hF (fun r u t H1 locs1 ht hvm hp hB hz hk hS1 => ?_)
  obtain ⟨hP1, hD1⟩ := hB
  rw [ht] at hP1
  exact kk r u H1 locs1 hp hP1 (hD1.weaken (fun k q _ h => hF q.1 h)) hS1
theorem kA_v {S : Type} {post : S → Prop} {w1 : S → va_W}
    (hr : va_Run p l e R s m args below meth c H locs cells slots mc ms (F0 m pc ls st0) rest (va_Qv post (oB G (va_A w H.size) w1) (va_A w H.size) a) (va_A w H.size))
    (hD : va_D A w) (hS : va_S A H0 H locs) (hA : ∀ q, H0.size ≤ q → A q)
    (kk : ∀ (u : S) (H1 : Heap) (locs1 : List Loc), post u → va_P G.1 vwCl (w1 u) H1 → va_D A (w1 u) → va_S A H0 H1 locs1 → W p l e R s m args below meth c H1 locs1 (cells + mc) (slots + ms) Q (F0 m (pc + 3) ls rest)) :
    W p l e R s m args below meth c H locs cells slots Q (F0 m pc ls st0) := by
  have hF := kA_F hD hS hA
  refine va_callv hr hS (fun q _ h => hF q h) hF (fun u t H1 locs1 ht hvm hp hB hz hk hS1 => ?_)
  obtain ⟨hP1, hD1⟩ := hB
  rw [ht] at hP1
  exact kk u H1 locs1 hp hP1 (hD1.weaken (fun k q _ h => hF q.1 h)) hS1
theorem jn_v {v : Int32} {pcM : Nat} (d : (∀ z : Int32, z = v → W p l e R s m args below meth c H locs cells slots Q (F0 m pcM ls (.int z :: rest))) → W p l e R s m args below meth c H locs cells slots Q (F0 m pc ls st0)) (k : W p l e R s m args below meth c H locs cells slots Q (F0 m pcM ls (.int v :: rest))) : W p l e R s m args below meth c H locs cells slots Q (F0 m pc ls st0) := d (fun z hz => by rw [hz]; exact k)
end KA
section MW
variable {G : PG} {h : Nat} {q : Nat → Nat} {R : RS}
theorem mW_0 : (mW G h q R)[0]? = some (h, .inr (6, mF q R)) := rfl
theorem mF_0 : (mF q R)[0]? = some (.int (R.1 0)) := rfl
theorem mF_l0 : 0 < (mF q R).length := Nat.le_of_ble_eq_true rfl
theorem mW_f0 {x : Int32} : (mW G h q R).set 0 (h, .inr (6, (mF q R).set 0 (.int x))) = mW G h q (mf R 0 x) := rfl
theorem mF_1 : (mF q R)[1]? = some (.ref (q 1)) := rfl
theorem mW_g1 : (mW G h q R)[1]? = some (q 1, .inl (G.2 0, 42, .inl (R.2.1 1))) := rfl
theorem mW_a1 {i : Nat} {x : Int32} : (mW G h q R).set 1 (q 1, .inl (G.2 0, 42, .inl (upd (R.2.1 1) i x))) = mW G h q (ma R 1 i x) := rfl
theorem mF_2 : (mF q R)[2]? = some (.ref (q 2)) := rfl
theorem mW_g2 : (mW G h q R)[2]? = some (q 2, .inl (G.2 0, 3, .inl (R.2.1 2))) := rfl
theorem mW_a2 {i : Nat} {x : Int32} : (mW G h q R).set 2 (q 2, .inl (G.2 0, 3, .inl (upd (R.2.1 2) i x))) = mW G h q (ma R 2 i x) := rfl
theorem mF_3 : (mF q R)[3]? = some (.int (R.1 3)) := rfl
theorem mF_l3 : 3 < (mF q R).length := Nat.le_of_ble_eq_true rfl
theorem mW_f3 {x : Int32} : (mW G h q R).set 0 (h, .inr (6, (mF q R).set 3 (.int x))) = mW G h q (mf R 3 x) := rfl
theorem mF_4 : (mF q R)[4]? = some (.int (R.1 4)) := rfl
theorem mF_l4 : 4 < (mF q R).length := Nat.le_of_ble_eq_true rfl
theorem mW_f4 {x : Int32} : (mW G h q R).set 0 (h, .inr (6, (mF q R).set 4 (.int x))) = mW G h q (mf R 4 x) := rfl
theorem mF_5 : (mF q R)[5]? = some (.int (R.1 5)) := rfl
theorem mF_l5 : 5 < (mF q R).length := Nat.le_of_ble_eq_true rfl
theorem mW_f5 {x : Int32} : (mW G h q R).set 0 (h, .inr (6, (mF q R).set 5 (.int x))) = mW G h q (mf R 5 x) := rfl
theorem mF_6 : (mF q R)[6]? = some (.int (R.1 6)) := rfl
theorem mF_l6 : 6 < (mF q R).length := Nat.le_of_ble_eq_true rfl
theorem mW_f6 {x : Int32} : (mW G h q R).set 0 (h, .inr (6, (mF q R).set 6 (.int x))) = mW G h q (mf R 6 x) := rfl
theorem mF_7 : (mF q R)[7]? = some (.int (R.1 7)) := rfl
theorem mF_l7 : 7 < (mF q R).length := Nat.le_of_ble_eq_true rfl
theorem mW_f7 {x : Int32} : (mW G h q R).set 0 (h, .inr (6, (mF q R).set 7 (.int x))) = mW G h q (mf R 7 x) := rfl
theorem mF_8 : (mF q R)[8]? = some (.ref (q 8)) := rfl
theorem mW_g8 : (mW G h q R)[3]? = some (q 8, .inl (G.2 0, 96, .inl (R.2.1 8))) := rfl
theorem mW_a8 {i : Nat} {x : Int32} : (mW G h q R).set 3 (q 8, .inl (G.2 0, 96, .inl (upd (R.2.1 8) i x))) = mW G h q (ma R 8 i x) := rfl
theorem mF_9 : (mF q R)[9]? = some (.ref (q 9)) := rfl
theorem mW_g9 : (mW G h q R)[4]? = some (q 9, .inl (G.2 0, 96, .inl (R.2.1 9))) := rfl
theorem mW_a9 {i : Nat} {x : Int32} : (mW G h q R).set 4 (q 9, .inl (G.2 0, 96, .inl (upd (R.2.1 9) i x))) = mW G h q (ma R 9 i x) := rfl
theorem mF_10 : (mF q R)[10]? = some (.ref (q 10)) := rfl
theorem mW_g10 : (mW G h q R)[5]? = some (q 10, .inl (G.2 0, 96, .inl (R.2.1 10))) := rfl
theorem mW_a10 {i : Nat} {x : Int32} : (mW G h q R).set 5 (q 10, .inl (G.2 0, 96, .inl (upd (R.2.1 10) i x))) = mW G h q (ma R 10 i x) := rfl
theorem mF_11 : (mF q R)[11]? = some (.ref (q 11)) := rfl
theorem mW_g11 : (mW G h q R)[6]? = some (q 11, .inl (G.2 0, 96, .inl (R.2.1 11))) := rfl
theorem mW_a11 {i : Nat} {x : Int32} : (mW G h q R).set 6 (q 11, .inl (G.2 0, 96, .inl (upd (R.2.1 11) i x))) = mW G h q (ma R 11 i x) := rfl
theorem mF_12 : (mF q R)[12]? = some (.ref (q 12)) := rfl
theorem mW_g12 : (mW G h q R)[7]? = some (q 12, .inl (G.2 0, 96, .inl (R.2.1 12))) := rfl
theorem mW_a12 {i : Nat} {x : Int32} : (mW G h q R).set 7 (q 12, .inl (G.2 0, 96, .inl (upd (R.2.1 12) i x))) = mW G h q (ma R 12 i x) := rfl
theorem mF_13 : (mF q R)[13]? = some (.ref (q 13)) := rfl
theorem mW_g13 : (mW G h q R)[8]? = some (q 13, .inl (G.2 0, 96, .inl (R.2.1 13))) := rfl
theorem mW_a13 {i : Nat} {x : Int32} : (mW G h q R).set 8 (q 13, .inl (G.2 0, 96, .inl (upd (R.2.1 13) i x))) = mW G h q (ma R 13 i x) := rfl
theorem mF_14 : (mF q R)[14]? = some (.ref (q 14)) := rfl
theorem mW_g14 : (mW G h q R)[9]? = some (q 14, .inl (G.2 1, 96, .inr (.inl (R.2.2 14)))) := rfl
theorem mW_a14 {i : Nat} {x : Int64} : (mW G h q R).set 9 (q 14, .inl (G.2 1, 96, .inr (.inl (vp_updL (R.2.2 14) i x)))) = mW G h q (ml R 14 i x) := rfl
theorem mF_15 : (mF q R)[15]? = some (.ref (q 15)) := rfl
theorem mW_g15 : (mW G h q R)[10]? = some (q 15, .inl (G.2 1, 96, .inr (.inl (R.2.2 15)))) := rfl
theorem mW_a15 {i : Nat} {x : Int64} : (mW G h q R).set 10 (q 15, .inl (G.2 1, 96, .inr (.inl (vp_updL (R.2.2 15) i x)))) = mW G h q (ml R 15 i x) := rfl
theorem mF_16 : (mF q R)[16]? = some (.int (R.1 16)) := rfl
theorem mF_l16 : 16 < (mF q R).length := Nat.le_of_ble_eq_true rfl
theorem mW_f16 {x : Int32} : (mW G h q R).set 0 (h, .inr (6, (mF q R).set 16 (.int x))) = mW G h q (mf R 16 x) := rfl
theorem mF_17 : (mF q R)[17]? = some (.int (R.1 17)) := rfl
theorem mF_l17 : 17 < (mF q R).length := Nat.le_of_ble_eq_true rfl
theorem mW_f17 {x : Int32} : (mW G h q R).set 0 (h, .inr (6, (mF q R).set 17 (.int x))) = mW G h q (mf R 17 x) := rfl
theorem mF_18 : (mF q R)[18]? = some (.ref (q 18)) := rfl
theorem mW_g18 : (mW G h q R)[11]? = some (q 18, .inl (G.2 0, 6, .inl (R.2.1 18))) := rfl
theorem mW_a18 {i : Nat} {x : Int32} : (mW G h q R).set 11 (q 18, .inl (G.2 0, 6, .inl (upd (R.2.1 18) i x))) = mW G h q (ma R 18 i x) := rfl
theorem mF_19 : (mF q R)[19]? = some (.ref (q 19)) := rfl
theorem mW_g19 : (mW G h q R)[12]? = some (q 19, .inl (G.2 0, 6, .inl (R.2.1 19))) := rfl
theorem mW_a19 {i : Nat} {x : Int32} : (mW G h q R).set 12 (q 19, .inl (G.2 0, 6, .inl (upd (R.2.1 19) i x))) = mW G h q (ma R 19 i x) := rfl
theorem mF_20 : (mF q R)[20]? = some (.ref (q 20)) := rfl
theorem mW_g20 : (mW G h q R)[13]? = some (q 20, .inl (G.2 0, 6, .inl (R.2.1 20))) := rfl
theorem mW_a20 {i : Nat} {x : Int32} : (mW G h q R).set 13 (q 20, .inl (G.2 0, 6, .inl (upd (R.2.1 20) i x))) = mW G h q (ma R 20 i x) := rfl
theorem mF_21 : (mF q R)[21]? = some (.ref (q 21)) := rfl
theorem mW_g21 : (mW G h q R)[14]? = some (q 21, .inl (G.2 0, 6, .inl (R.2.1 21))) := rfl
theorem mW_a21 {i : Nat} {x : Int32} : (mW G h q R).set 14 (q 21, .inl (G.2 0, 6, .inl (upd (R.2.1 21) i x))) = mW G h q (ma R 21 i x) := rfl
theorem mF_22 : (mF q R)[22]? = some (.ref (q 22)) := rfl
theorem mW_g22 : (mW G h q R)[15]? = some (q 22, .inl (G.2 3, 6, .inl (R.2.1 22))) := rfl
theorem mW_a22 {i : Nat} {x : Int32} : (mW G h q R).set 15 (q 22, .inl (G.2 3, 6, .inl (upd (R.2.1 22) i x))) = mW G h q (ma R 22 i x) := rfl
theorem mF_23 : (mF q R)[23]? = some (.int (R.1 23)) := rfl
theorem mF_l23 : 23 < (mF q R).length := Nat.le_of_ble_eq_true rfl
theorem mW_f23 {x : Int32} : (mW G h q R).set 0 (h, .inr (6, (mF q R).set 23 (.int x))) = mW G h q (mf R 23 x) := rfl
theorem mF_24 : (mF q R)[24]? = some (.int (R.1 24)) := rfl
theorem mF_l24 : 24 < (mF q R).length := Nat.le_of_ble_eq_true rfl
theorem mW_f24 {x : Int32} : (mW G h q R).set 0 (h, .inr (6, (mF q R).set 24 (.int x))) = mW G h q (mf R 24 x) := rfl
theorem mF_25 : (mF q R)[25]? = some (.int (R.1 25)) := rfl
theorem mF_l25 : 25 < (mF q R).length := Nat.le_of_ble_eq_true rfl
theorem mW_f25 {x : Int32} : (mW G h q R).set 0 (h, .inr (6, (mF q R).set 25 (.int x))) = mW G h q (mf R 25 x) := rfl
theorem mF_26 : (mF q R)[26]? = some (.int (R.1 26)) := rfl
theorem mF_l26 : 26 < (mF q R).length := Nat.le_of_ble_eq_true rfl
theorem mW_f26 {x : Int32} : (mW G h q R).set 0 (h, .inr (6, (mF q R).set 26 (.int x))) = mW G h q (mf R 26 x) := rfl
theorem mF_27 : (mF q R)[27]? = some (.int (R.1 27)) := rfl
theorem mF_l27 : 27 < (mF q R).length := Nat.le_of_ble_eq_true rfl
theorem mW_f27 {x : Int32} : (mW G h q R).set 0 (h, .inr (6, (mF q R).set 27 (.int x))) = mW G h q (mf R 27 x) := rfl
theorem mF_28 : (mF q R)[28]? = some (.int (R.1 28)) := rfl
theorem mF_l28 : 28 < (mF q R).length := Nat.le_of_ble_eq_true rfl
theorem mW_f28 {x : Int32} : (mW G h q R).set 0 (h, .inr (6, (mF q R).set 28 (.int x))) = mW G h q (mf R 28 x) := rfl
theorem mF_29 : (mF q R)[29]? = some (.int (R.1 29)) := rfl
theorem mF_l29 : 29 < (mF q R).length := Nat.le_of_ble_eq_true rfl
theorem mW_f29 {x : Int32} : (mW G h q R).set 0 (h, .inr (6, (mF q R).set 29 (.int x))) = mW G h q (mf R 29 x) := rfl
theorem mF_30 : (mF q R)[30]? = some (.ref (q 30)) := rfl
theorem mW_g30 : (mW G h q R)[16]? = some (q 30, .inl (G.2 0, 10, .inl (R.2.1 30))) := rfl
theorem mW_a30 {i : Nat} {x : Int32} : (mW G h q R).set 16 (q 30, .inl (G.2 0, 10, .inl (upd (R.2.1 30) i x))) = mW G h q (ma R 30 i x) := rfl
theorem mF_31 : (mF q R)[31]? = some (.ref (q 31)) := rfl
theorem mW_g31 : (mW G h q R)[17]? = some (q 31, .inl (G.2 0, 1000, .inl (R.2.1 31))) := rfl
theorem mW_a31 {i : Nat} {x : Int32} : (mW G h q R).set 17 (q 31, .inl (G.2 0, 1000, .inl (upd (R.2.1 31) i x))) = mW G h q (ma R 31 i x) := rfl
theorem mF_32 : (mF q R)[32]? = some (.ref (q 32)) := rfl
theorem mW_g32 : (mW G h q R)[18]? = some (q 32, .inl (G.2 0, 1000, .inl (R.2.1 32))) := rfl
theorem mW_a32 {i : Nat} {x : Int32} : (mW G h q R).set 18 (q 32, .inl (G.2 0, 1000, .inl (upd (R.2.1 32) i x))) = mW G h q (ma R 32 i x) := rfl
theorem mF_33 : (mF q R)[33]? = some (.ref (q 33)) := rfl
theorem mW_g33 : (mW G h q R)[19]? = some (q 33, .inl (G.2 0, 1000, .inl (R.2.1 33))) := rfl
theorem mW_a33 {i : Nat} {x : Int32} : (mW G h q R).set 19 (q 33, .inl (G.2 0, 1000, .inl (upd (R.2.1 33) i x))) = mW G h q (ma R 33 i x) := rfl
theorem mF_34 : (mF q R)[34]? = some (.ref (q 34)) := rfl
theorem mW_g34 : (mW G h q R)[20]? = some (q 34, .inl (G.2 0, 1000, .inl (R.2.1 34))) := rfl
theorem mW_a34 {i : Nat} {x : Int32} : (mW G h q R).set 20 (q 34, .inl (G.2 0, 1000, .inl (upd (R.2.1 34) i x))) = mW G h q (ma R 34 i x) := rfl
theorem mF_35 : (mF q R)[35]? = some (.ref (q 35)) := rfl
theorem mW_g35 : (mW G h q R)[21]? = some (q 35, .inl (G.2 0, 500, .inl (R.2.1 35))) := rfl
theorem mW_a35 {i : Nat} {x : Int32} : (mW G h q R).set 21 (q 35, .inl (G.2 0, 500, .inl (upd (R.2.1 35) i x))) = mW G h q (ma R 35 i x) := rfl
theorem mF_36 : (mF q R)[36]? = some (.ref (q 36)) := rfl
theorem mW_g36 : (mW G h q R)[22]? = some (q 36, .inl (G.2 0, 500, .inl (R.2.1 36))) := rfl
theorem mW_a36 {i : Nat} {x : Int32} : (mW G h q R).set 22 (q 36, .inl (G.2 0, 500, .inl (upd (R.2.1 36) i x))) = mW G h q (ma R 36 i x) := rfl
theorem mF_37 : (mF q R)[37]? = some (.ref (q 37)) := rfl
theorem mW_g37 : (mW G h q R)[23]? = some (q 37, .inl (G.2 0, 500, .inl (R.2.1 37))) := rfl
theorem mW_a37 {i : Nat} {x : Int32} : (mW G h q R).set 23 (q 37, .inl (G.2 0, 500, .inl (upd (R.2.1 37) i x))) = mW G h q (ma R 37 i x) := rfl
theorem mF_38 : (mF q R)[38]? = some (.ref (q 38)) := rfl
theorem mW_g38 : (mW G h q R)[24]? = some (q 38, .inl (G.2 0, 500, .inl (R.2.1 38))) := rfl
theorem mW_a38 {i : Nat} {x : Int32} : (mW G h q R).set 24 (q 38, .inl (G.2 0, 500, .inl (upd (R.2.1 38) i x))) = mW G h q (ma R 38 i x) := rfl
theorem mF_39 : (mF q R)[39]? = some (.ref (q 39)) := rfl
theorem mW_g39 : (mW G h q R)[25]? = some (q 39, .inl (G.2 0, 500, .inl (R.2.1 39))) := rfl
theorem mW_a39 {i : Nat} {x : Int32} : (mW G h q R).set 25 (q 39, .inl (G.2 0, 500, .inl (upd (R.2.1 39) i x))) = mW G h q (ma R 39 i x) := rfl
theorem mF_40 : (mF q R)[40]? = some (.ref (q 40)) := rfl
theorem mW_g40 : (mW G h q R)[26]? = some (q 40, .inl (G.2 0, 5000, .inl (R.2.1 40))) := rfl
theorem mW_a40 {i : Nat} {x : Int32} : (mW G h q R).set 26 (q 40, .inl (G.2 0, 5000, .inl (upd (R.2.1 40) i x))) = mW G h q (ma R 40 i x) := rfl
theorem mF_41 : (mF q R)[41]? = some (.int (R.1 41)) := rfl
theorem mF_l41 : 41 < (mF q R).length := Nat.le_of_ble_eq_true rfl
theorem mW_f41 {x : Int32} : (mW G h q R).set 0 (h, .inr (6, (mF q R).set 41 (.int x))) = mW G h q (mf R 41 x) := rfl
theorem mF_42 : (mF q R)[42]? = some (.ref (q 42)) := rfl
theorem mW_g42 : (mW G h q R)[27]? = some (q 42, .inl (G.2 0, 10, .inl (R.2.1 42))) := rfl
theorem mW_a42 {i : Nat} {x : Int32} : (mW G h q R).set 27 (q 42, .inl (G.2 0, 10, .inl (upd (R.2.1 42) i x))) = mW G h q (ma R 42 i x) := rfl
theorem mF_43 : (mF q R)[43]? = some (.int (R.1 43)) := rfl
theorem mF_l43 : 43 < (mF q R).length := Nat.le_of_ble_eq_true rfl
theorem mW_f43 {x : Int32} : (mW G h q R).set 0 (h, .inr (6, (mF q R).set 43 (.int x))) = mW G h q (mf R 43 x) := rfl
theorem mF_44 : (mF q R)[44]? = some (.ref (q 44)) := rfl
theorem mW_g44 : (mW G h q R)[28]? = some (q 44, .inl (G.2 0, 400, .inl (R.2.1 44))) := rfl
theorem mW_a44 {i : Nat} {x : Int32} : (mW G h q R).set 28 (q 44, .inl (G.2 0, 400, .inl (upd (R.2.1 44) i x))) = mW G h q (ma R 44 i x) := rfl
theorem mF_45 : (mF q R)[45]? = some (.int (R.1 45)) := rfl
theorem mF_l45 : 45 < (mF q R).length := Nat.le_of_ble_eq_true rfl
theorem mW_f45 {x : Int32} : (mW G h q R).set 0 (h, .inr (6, (mF q R).set 45 (.int x))) = mW G h q (mf R 45 x) := rfl
theorem mF_46 : (mF q R)[46]? = some (.ref (q 46)) := rfl
theorem mW_g46 : (mW G h q R)[29]? = some (q 46, .inl (G.2 0, 12, .inl (R.2.1 46))) := rfl
theorem mW_a46 {i : Nat} {x : Int32} : (mW G h q R).set 29 (q 46, .inl (G.2 0, 12, .inl (upd (R.2.1 46) i x))) = mW G h q (ma R 46 i x) := rfl
theorem mF_47 : (mF q R)[47]? = some (.ref (q 47)) := rfl
theorem mW_g47 : (mW G h q R)[30]? = some (q 47, .inl (G.2 0, 12, .inl (R.2.1 47))) := rfl
theorem mW_a47 {i : Nat} {x : Int32} : (mW G h q R).set 30 (q 47, .inl (G.2 0, 12, .inl (upd (R.2.1 47) i x))) = mW G h q (ma R 47 i x) := rfl
end MW
/-- an int that is none of lo .. hi lies without -/
theorem sw_out {x : Int32} {lo hi : Int} (hlo : -2147483648 ≤ lo) (hhi : hi < 2147483648) (h : ∀ k : Int, lo ≤ k → k ≤ hi → ¬ x = Int32.ofInt k) : x.toInt < lo ∨ hi < x.toInt := by
  by_cases h1 : x.toInt < lo
  · exact Or.inl h1
  · by_cases h2 : hi < x.toInt
    · exact Or.inr h2
    · exact absurd (Int32.toInt_inj.mp (by rw [Int32.toInt_ofInt_of_le (by omega) (by omega)])) (h x.toInt (by omega) (by omega))


def E_room (a1 : Int32) (r : Int32) : Prop := r = (if a1 = 0 then 14 else 8 : Int32)
set_option maxHeartbeats 4000000 in
set_option maxRecDepth 100000 in
theorem e_room (l : Launch) (G : PG) (a1 : Int32) (r : Int32) (hE : E_room a1 r) : Pi l yX6_room (Cond.code yX6_room cX6_room 1 (some .int) :: aW) { frames := 0, cells := 0, slots := 0, locals := 0 } G [] [.int a1] (fun (r9 : Int32) => r9 = r) := by
  refine ofP (y := yX6_room) (G := G) (cc := cX6_room) (maxL := 1) (ret := (some .int)) (by decide) rfl ?_
  intro p e s m below meth c F hK hP hD
  have hx := F.1.1; have hb := F.1.2.1; have hml := F.1.2.2.1; have hts := F.1.2.2.2.2
  have hown : s.vm.findClass RX6 = some m.cls := F.1.2.2.2.1
  have hl := lv_entry ([.int a1]) (n := 1) (Nat.le_of_ble_eq_true rfl)
  rw [lg_entry_eq]
  generalize (lg_sl ([.int a1]) ++ List.replicate (1 - (lg_sl ([.int a1])).length) Slot.unset).toArray = ls at hl ⊢
  have hl : lv_has ls 1 [(0, .int a1)] := hl
  unfold E_room at hE
  refine lv_iload_n hx hb dX6_room_0 rfl (lv_at hl 0 rfl) ?_
  refine jn_v (v := (if a1 = 0 then 14 else 8 : Int32)) (pcM := 11) (rest := []) (fun kM => ?_) ?_
  ·
    refine lv_if_ne (tgt := 9) hx hb dX6_room_1 (by decide) (fun h2 => ?_) (fun h2 => ?_)
    ·
      refine lv_bipush (v := 8) hx hb dX6_room_9 (by decide) ?_
      exact kM _ (by try rw [if_neg h2])
    ·
      refine lv_bipush (v := 14) hx hb dX6_room_4 (by decide) ?_
      refine lv_goto (tgt := 11) hx hb dX6_room_6 (by decide) ?_
      exact kM _ (by try rw [if_pos h2])
  subst hE
  exact en_p F (if a1 = 0 then 14 else 8 : Int32) (by rfl) rfl dX6_room_11

theorem dX6_isSpecial_0 : decode cX6_isSpecial 0 = .ok (.iload_n 0, 1) := by decide +kernel
theorem dX6_isSpecial_1 : decode cX6_isSpecial 1 = .ok (.bipush 124, 2) := by decide +kernel
theorem dX6_isSpecial_3 : decode cX6_isSpecial 3 = .ok (.if_icmp .eq 81, 3) := by decide +kernel
theorem dX6_isSpecial_6 : decode cX6_isSpecial 6 = .ok (.iload_n 0, 1) := by decide +kernel
theorem dX6_isSpecial_7 : decode cX6_isSpecial 7 = .ok (.bipush 40, 2) := by decide +kernel
theorem dX6_isSpecial_9 : decode cX6_isSpecial 9 = .ok (.if_icmp .eq 75, 3) := by decide +kernel
theorem dX6_isSpecial_12 : decode cX6_isSpecial 12 = .ok (.iload_n 0, 1) := by decide +kernel
theorem dX6_isSpecial_13 : decode cX6_isSpecial 13 = .ok (.bipush 41, 2) := by decide +kernel
theorem dX6_isSpecial_15 : decode cX6_isSpecial 15 = .ok (.if_icmp .eq 69, 3) := by decide +kernel
theorem dX6_isSpecial_18 : decode cX6_isSpecial 18 = .ok (.iload_n 0, 1) := by decide +kernel
theorem dX6_isSpecial_19 : decode cX6_isSpecial 19 = .ok (.bipush 91, 2) := by decide +kernel
theorem dX6_isSpecial_21 : decode cX6_isSpecial 21 = .ok (.if_icmp .eq 63, 3) := by decide +kernel
theorem dX6_isSpecial_24 : decode cX6_isSpecial 24 = .ok (.iload_n 0, 1) := by decide +kernel
theorem dX6_isSpecial_25 : decode cX6_isSpecial 25 = .ok (.bipush 93, 2) := by decide +kernel
theorem dX6_isSpecial_27 : decode cX6_isSpecial 27 = .ok (.if_icmp .eq 57, 3) := by decide +kernel
theorem dX6_isSpecial_30 : decode cX6_isSpecial 30 = .ok (.iload_n 0, 1) := by decide +kernel
theorem dX6_isSpecial_31 : decode cX6_isSpecial 31 = .ok (.bipush 123, 2) := by decide +kernel
theorem dX6_isSpecial_33 : decode cX6_isSpecial 33 = .ok (.if_icmp .eq 51, 3) := by decide +kernel
theorem dX6_isSpecial_36 : decode cX6_isSpecial 36 = .ok (.iload_n 0, 1) := by decide +kernel
theorem dX6_isSpecial_37 : decode cX6_isSpecial 37 = .ok (.bipush 125, 2) := by decide +kernel
theorem dX6_isSpecial_39 : decode cX6_isSpecial 39 = .ok (.if_icmp .eq 45, 3) := by decide +kernel
theorem dX6_isSpecial_42 : decode cX6_isSpecial 42 = .ok (.iload_n 0, 1) := by decide +kernel
theorem dX6_isSpecial_43 : decode cX6_isSpecial 43 = .ok (.bipush 42, 2) := by decide +kernel
theorem dX6_isSpecial_45 : decode cX6_isSpecial 45 = .ok (.if_icmp .eq 39, 3) := by decide +kernel
theorem dX6_isSpecial_48 : decode cX6_isSpecial 48 = .ok (.iload_n 0, 1) := by decide +kernel
theorem dX6_isSpecial_49 : decode cX6_isSpecial 49 = .ok (.bipush 43, 2) := by decide +kernel
theorem dX6_isSpecial_51 : decode cX6_isSpecial 51 = .ok (.if_icmp .eq 33, 3) := by decide +kernel
theorem dX6_isSpecial_54 : decode cX6_isSpecial 54 = .ok (.iload_n 0, 1) := by decide +kernel
theorem dX6_isSpecial_55 : decode cX6_isSpecial 55 = .ok (.bipush 63, 2) := by decide +kernel
theorem dX6_isSpecial_57 : decode cX6_isSpecial 57 = .ok (.if_icmp .eq 27, 3) := by decide +kernel
theorem dX6_isSpecial_60 : decode cX6_isSpecial 60 = .ok (.iload_n 0, 1) := by decide +kernel
theorem dX6_isSpecial_61 : decode cX6_isSpecial 61 = .ok (.bipush 46, 2) := by decide +kernel
theorem dX6_isSpecial_63 : decode cX6_isSpecial 63 = .ok (.if_icmp .eq 21, 3) := by decide +kernel
theorem dX6_isSpecial_66 : decode cX6_isSpecial 66 = .ok (.iload_n 0, 1) := by decide +kernel
theorem dX6_isSpecial_67 : decode cX6_isSpecial 67 = .ok (.bipush 94, 2) := by decide +kernel
theorem dX6_isSpecial_69 : decode cX6_isSpecial 69 = .ok (.if_icmp .eq 15, 3) := by decide +kernel
theorem dX6_isSpecial_72 : decode cX6_isSpecial 72 = .ok (.iload_n 0, 1) := by decide +kernel
theorem dX6_isSpecial_73 : decode cX6_isSpecial 73 = .ok (.bipush 36, 2) := by decide +kernel
theorem dX6_isSpecial_75 : decode cX6_isSpecial 75 = .ok (.if_icmp .eq 9, 3) := by decide +kernel
theorem dX6_isSpecial_78 : decode cX6_isSpecial 78 = .ok (.iload_n 0, 1) := by decide +kernel
theorem dX6_isSpecial_79 : decode cX6_isSpecial 79 = .ok (.bipush 92, 2) := by decide +kernel
theorem dX6_isSpecial_81 : decode cX6_isSpecial 81 = .ok (.if_icmp .ne 7, 3) := by decide +kernel
theorem dX6_isSpecial_84 : decode cX6_isSpecial 84 = .ok (.iconst 1, 1) := by decide +kernel
theorem dX6_isSpecial_85 : decode cX6_isSpecial 85 = .ok (.goto 4, 3) := by decide +kernel
theorem dX6_isSpecial_88 : decode cX6_isSpecial 88 = .ok (.iconst 0, 1) := by decide +kernel
theorem dX6_isSpecial_89 : decode cX6_isSpecial 89 = .ok (.ireturn, 1) := by decide +kernel
def E_isSpecial (a1 : Int32) (r : Int32) : Prop := narrow .boolean (.int (if a1 = 124 then 1 else (if a1 = 40 then 1 else (if a1 = 41 then 1 else (if a1 = 91 then 1 else (if a1 = 93 then 1 else (if a1 = 123 then 1 else (if a1 = 125 then 1 else (if a1 = 42 then 1 else (if a1 = 43 then 1 else (if a1 = 63 then 1 else (if a1 = 46 then 1 else (if a1 = 94 then 1 else (if a1 = 36 then 1 else (if a1 = 92 then 1 else 0 : Int32) : Int32) : Int32) : Int32) : Int32) : Int32) : Int32) : Int32) : Int32) : Int32) : Int32) : Int32) : Int32) : Int32)) = .int (if a1 = 124 then 1 else (if a1 = 40 then 1 else (if a1 = 41 then 1 else (if a1 = 91 then 1 else (if a1 = 93 then 1 else (if a1 = 123 then 1 else (if a1 = 125 then 1 else (if a1 = 42 then 1 else (if a1 = 43 then 1 else (if a1 = 63 then 1 else (if a1 = 46 then 1 else (if a1 = 94 then 1 else (if a1 = 36 then 1 else (if a1 = 92 then 1 else 0 : Int32) : Int32) : Int32) : Int32) : Int32) : Int32) : Int32) : Int32) : Int32) : Int32) : Int32) : Int32) : Int32) : Int32) ∧ r = (if a1 = 124 then 1 else (if a1 = 40 then 1 else (if a1 = 41 then 1 else (if a1 = 91 then 1 else (if a1 = 93 then 1 else (if a1 = 123 then 1 else (if a1 = 125 then 1 else (if a1 = 42 then 1 else (if a1 = 43 then 1 else (if a1 = 63 then 1 else (if a1 = 46 then 1 else (if a1 = 94 then 1 else (if a1 = 36 then 1 else (if a1 = 92 then 1 else 0 : Int32) : Int32) : Int32) : Int32) : Int32) : Int32) : Int32) : Int32) : Int32) : Int32) : Int32) : Int32) : Int32) : Int32)
set_option maxHeartbeats 4000000 in
set_option maxRecDepth 100000 in
theorem e_isSpecial (l : Launch) (G : PG) (a1 : Int32) (r : Int32) (hE : E_isSpecial a1 r) : Pi l yX6_isSpecial (Cond.code yX6_isSpecial cX6_isSpecial 1 (some .boolean) :: aW) { frames := 0, cells := 0, slots := 0, locals := 0 } G [] [.int a1] (fun (r9 : Int32) => r9 = r) := by
  refine ofP (y := yX6_isSpecial) (G := G) (cc := cX6_isSpecial) (maxL := 1) (ret := (some .boolean)) (by decide) rfl ?_
  intro p e s m below meth c F hK hP hD
  have hx := F.1.1; have hb := F.1.2.1; have hml := F.1.2.2.1; have hts := F.1.2.2.2.2
  have hown : s.vm.findClass RX6 = some m.cls := F.1.2.2.2.1
  have hl := lv_entry ([.int a1]) (n := 1) (Nat.le_of_ble_eq_true rfl)
  rw [lg_entry_eq]
  generalize (lg_sl ([.int a1]) ++ List.replicate (1 - (lg_sl ([.int a1])).length) Slot.unset).toArray = ls at hl ⊢
  have hl : lv_has ls 1 [(0, .int a1)] := hl
  unfold E_isSpecial at hE
  refine lv_iload_n hx hb dX6_isSpecial_0 rfl (lv_at hl 0 rfl) ?_
  refine lv_bipush (v := 124) hx hb dX6_isSpecial_1 (by decide) ?_
  refine jn_v (v := (if a1 = 124 then 1 else (if a1 = 40 then 1 else (if a1 = 41 then 1 else (if a1 = 91 then 1 else (if a1 = 93 then 1 else (if a1 = 123 then 1 else (if a1 = 125 then 1 else (if a1 = 42 then 1 else (if a1 = 43 then 1 else (if a1 = 63 then 1 else (if a1 = 46 then 1 else (if a1 = 94 then 1 else (if a1 = 36 then 1 else (if a1 = 92 then 1 else 0 : Int32) : Int32) : Int32) : Int32) : Int32) : Int32) : Int32) : Int32) : Int32) : Int32) : Int32) : Int32) : Int32) : Int32)) (pcM := 89) (rest := []) (fun kM => ?_) ?_
  ·
    refine lv_icmp_eq (tgt := 84) hx hb dX6_isSpecial_3 (by decide) (fun h2 => ?_) (fun h2 => ?_)
    ·
      refine lv_iconst (v := 1) hx hb dX6_isSpecial_84 (by decide) ?_
      refine lv_goto (tgt := 89) hx hb dX6_isSpecial_85 (by decide) ?_
      exact kM _ (by try rw [if_pos h2])
    ·
      refine lv_iload_n hx hb dX6_isSpecial_6 rfl (lv_at hl 0 rfl) ?_
      refine lv_bipush (v := 40) hx hb dX6_isSpecial_7 (by decide) ?_
      refine lv_icmp_eq (tgt := 84) hx hb dX6_isSpecial_9 (by decide) (fun h3 => ?_) (fun h3 => ?_)
      ·
        refine lv_iconst (v := 1) hx hb dX6_isSpecial_84 (by decide) ?_
        refine lv_goto (tgt := 89) hx hb dX6_isSpecial_85 (by decide) ?_
        exact kM _ (by try rw [if_neg h2]; try rw [if_pos h3])
      ·
        refine lv_iload_n hx hb dX6_isSpecial_12 rfl (lv_at hl 0 rfl) ?_
        refine lv_bipush (v := 41) hx hb dX6_isSpecial_13 (by decide) ?_
        refine lv_icmp_eq (tgt := 84) hx hb dX6_isSpecial_15 (by decide) (fun h4 => ?_) (fun h4 => ?_)
        ·
          refine lv_iconst (v := 1) hx hb dX6_isSpecial_84 (by decide) ?_
          refine lv_goto (tgt := 89) hx hb dX6_isSpecial_85 (by decide) ?_
          exact kM _ (by try rw [if_neg h2]; try rw [if_neg h3]; try rw [if_pos h4])
        ·
          refine lv_iload_n hx hb dX6_isSpecial_18 rfl (lv_at hl 0 rfl) ?_
          refine lv_bipush (v := 91) hx hb dX6_isSpecial_19 (by decide) ?_
          refine lv_icmp_eq (tgt := 84) hx hb dX6_isSpecial_21 (by decide) (fun h5 => ?_) (fun h5 => ?_)
          ·
            refine lv_iconst (v := 1) hx hb dX6_isSpecial_84 (by decide) ?_
            refine lv_goto (tgt := 89) hx hb dX6_isSpecial_85 (by decide) ?_
            exact kM _ (by try rw [if_neg h2]; try rw [if_neg h3]; try rw [if_neg h4]; try rw [if_pos h5])
          ·
            refine lv_iload_n hx hb dX6_isSpecial_24 rfl (lv_at hl 0 rfl) ?_
            refine lv_bipush (v := 93) hx hb dX6_isSpecial_25 (by decide) ?_
            refine lv_icmp_eq (tgt := 84) hx hb dX6_isSpecial_27 (by decide) (fun h6 => ?_) (fun h6 => ?_)
            ·
              refine lv_iconst (v := 1) hx hb dX6_isSpecial_84 (by decide) ?_
              refine lv_goto (tgt := 89) hx hb dX6_isSpecial_85 (by decide) ?_
              exact kM _ (by try rw [if_neg h2]; try rw [if_neg h3]; try rw [if_neg h4]; try rw [if_neg h5]; try rw [if_pos h6])
            ·
              refine lv_iload_n hx hb dX6_isSpecial_30 rfl (lv_at hl 0 rfl) ?_
              refine lv_bipush (v := 123) hx hb dX6_isSpecial_31 (by decide) ?_
              refine lv_icmp_eq (tgt := 84) hx hb dX6_isSpecial_33 (by decide) (fun h7 => ?_) (fun h7 => ?_)
              ·
                refine lv_iconst (v := 1) hx hb dX6_isSpecial_84 (by decide) ?_
                refine lv_goto (tgt := 89) hx hb dX6_isSpecial_85 (by decide) ?_
                exact kM _ (by try rw [if_neg h2]; try rw [if_neg h3]; try rw [if_neg h4]; try rw [if_neg h5]; try rw [if_neg h6]; try rw [if_pos h7])
              ·
                refine lv_iload_n hx hb dX6_isSpecial_36 rfl (lv_at hl 0 rfl) ?_
                refine lv_bipush (v := 125) hx hb dX6_isSpecial_37 (by decide) ?_
                refine lv_icmp_eq (tgt := 84) hx hb dX6_isSpecial_39 (by decide) (fun h8 => ?_) (fun h8 => ?_)
                ·
                  refine lv_iconst (v := 1) hx hb dX6_isSpecial_84 (by decide) ?_
                  refine lv_goto (tgt := 89) hx hb dX6_isSpecial_85 (by decide) ?_
                  exact kM _ (by try rw [if_neg h2]; try rw [if_neg h3]; try rw [if_neg h4]; try rw [if_neg h5]; try rw [if_neg h6]; try rw [if_neg h7]; try rw [if_pos h8])
                ·
                  refine lv_iload_n hx hb dX6_isSpecial_42 rfl (lv_at hl 0 rfl) ?_
                  refine lv_bipush (v := 42) hx hb dX6_isSpecial_43 (by decide) ?_
                  refine lv_icmp_eq (tgt := 84) hx hb dX6_isSpecial_45 (by decide) (fun h9 => ?_) (fun h9 => ?_)
                  ·
                    refine lv_iconst (v := 1) hx hb dX6_isSpecial_84 (by decide) ?_
                    refine lv_goto (tgt := 89) hx hb dX6_isSpecial_85 (by decide) ?_
                    exact kM _ (by try rw [if_neg h2]; try rw [if_neg h3]; try rw [if_neg h4]; try rw [if_neg h5]; try rw [if_neg h6]; try rw [if_neg h7]; try rw [if_neg h8]; try rw [if_pos h9])
                  ·
                    refine lv_iload_n hx hb dX6_isSpecial_48 rfl (lv_at hl 0 rfl) ?_
                    refine lv_bipush (v := 43) hx hb dX6_isSpecial_49 (by decide) ?_
                    refine lv_icmp_eq (tgt := 84) hx hb dX6_isSpecial_51 (by decide) (fun h10 => ?_) (fun h10 => ?_)
                    ·
                      refine lv_iconst (v := 1) hx hb dX6_isSpecial_84 (by decide) ?_
                      refine lv_goto (tgt := 89) hx hb dX6_isSpecial_85 (by decide) ?_
                      exact kM _ (by try rw [if_neg h2]; try rw [if_neg h3]; try rw [if_neg h4]; try rw [if_neg h5]; try rw [if_neg h6]; try rw [if_neg h7]; try rw [if_neg h8]; try rw [if_neg h9]; try rw [if_pos h10])
                    ·
                      refine lv_iload_n hx hb dX6_isSpecial_54 rfl (lv_at hl 0 rfl) ?_
                      refine lv_bipush (v := 63) hx hb dX6_isSpecial_55 (by decide) ?_
                      refine lv_icmp_eq (tgt := 84) hx hb dX6_isSpecial_57 (by decide) (fun h11 => ?_) (fun h11 => ?_)
                      ·
                        refine lv_iconst (v := 1) hx hb dX6_isSpecial_84 (by decide) ?_
                        refine lv_goto (tgt := 89) hx hb dX6_isSpecial_85 (by decide) ?_
                        exact kM _ (by try rw [if_neg h2]; try rw [if_neg h3]; try rw [if_neg h4]; try rw [if_neg h5]; try rw [if_neg h6]; try rw [if_neg h7]; try rw [if_neg h8]; try rw [if_neg h9]; try rw [if_neg h10]; try rw [if_pos h11])
                      ·
                        refine lv_iload_n hx hb dX6_isSpecial_60 rfl (lv_at hl 0 rfl) ?_
                        refine lv_bipush (v := 46) hx hb dX6_isSpecial_61 (by decide) ?_
                        refine lv_icmp_eq (tgt := 84) hx hb dX6_isSpecial_63 (by decide) (fun h12 => ?_) (fun h12 => ?_)
                        ·
                          refine lv_iconst (v := 1) hx hb dX6_isSpecial_84 (by decide) ?_
                          refine lv_goto (tgt := 89) hx hb dX6_isSpecial_85 (by decide) ?_
                          exact kM _ (by try rw [if_neg h2]; try rw [if_neg h3]; try rw [if_neg h4]; try rw [if_neg h5]; try rw [if_neg h6]; try rw [if_neg h7]; try rw [if_neg h8]; try rw [if_neg h9]; try rw [if_neg h10]; try rw [if_neg h11]; try rw [if_pos h12])
                        ·
                          refine lv_iload_n hx hb dX6_isSpecial_66 rfl (lv_at hl 0 rfl) ?_
                          refine lv_bipush (v := 94) hx hb dX6_isSpecial_67 (by decide) ?_
                          refine lv_icmp_eq (tgt := 84) hx hb dX6_isSpecial_69 (by decide) (fun h13 => ?_) (fun h13 => ?_)
                          ·
                            refine lv_iconst (v := 1) hx hb dX6_isSpecial_84 (by decide) ?_
                            refine lv_goto (tgt := 89) hx hb dX6_isSpecial_85 (by decide) ?_
                            exact kM _ (by try rw [if_neg h2]; try rw [if_neg h3]; try rw [if_neg h4]; try rw [if_neg h5]; try rw [if_neg h6]; try rw [if_neg h7]; try rw [if_neg h8]; try rw [if_neg h9]; try rw [if_neg h10]; try rw [if_neg h11]; try rw [if_neg h12]; try rw [if_pos h13])
                          ·
                            refine lv_iload_n hx hb dX6_isSpecial_72 rfl (lv_at hl 0 rfl) ?_
                            refine lv_bipush (v := 36) hx hb dX6_isSpecial_73 (by decide) ?_
                            refine lv_icmp_eq (tgt := 84) hx hb dX6_isSpecial_75 (by decide) (fun h14 => ?_) (fun h14 => ?_)
                            ·
                              refine lv_iconst (v := 1) hx hb dX6_isSpecial_84 (by decide) ?_
                              refine lv_goto (tgt := 89) hx hb dX6_isSpecial_85 (by decide) ?_
                              exact kM _ (by try rw [if_neg h2]; try rw [if_neg h3]; try rw [if_neg h4]; try rw [if_neg h5]; try rw [if_neg h6]; try rw [if_neg h7]; try rw [if_neg h8]; try rw [if_neg h9]; try rw [if_neg h10]; try rw [if_neg h11]; try rw [if_neg h12]; try rw [if_neg h13]; try rw [if_pos h14])
                            ·
                              refine lv_iload_n hx hb dX6_isSpecial_78 rfl (lv_at hl 0 rfl) ?_
                              refine lv_bipush (v := 92) hx hb dX6_isSpecial_79 (by decide) ?_
                              refine lv_icmp_ne (tgt := 88) hx hb dX6_isSpecial_81 (by decide) (fun h15 => ?_) (fun h15 => ?_)
                              ·
                                refine lv_iconst (v := 0) hx hb dX6_isSpecial_88 (by decide) ?_
                                exact kM _ (by try rw [if_neg h2]; try rw [if_neg h3]; try rw [if_neg h4]; try rw [if_neg h5]; try rw [if_neg h6]; try rw [if_neg h7]; try rw [if_neg h8]; try rw [if_neg h9]; try rw [if_neg h10]; try rw [if_neg h11]; try rw [if_neg h12]; try rw [if_neg h13]; try rw [if_neg h14]; try rw [if_neg h15])
                              ·
                                refine lv_iconst (v := 1) hx hb dX6_isSpecial_84 (by decide) ?_
                                refine lv_goto (tgt := 89) hx hb dX6_isSpecial_85 (by decide) ?_
                                exact kM _ (by try rw [if_neg h2]; try rw [if_neg h3]; try rw [if_neg h4]; try rw [if_neg h5]; try rw [if_neg h6]; try rw [if_neg h7]; try rw [if_neg h8]; try rw [if_neg h9]; try rw [if_neg h10]; try rw [if_neg h11]; try rw [if_neg h12]; try rw [if_neg h13]; try rw [if_neg h14]; try rw [if_pos h15])
  obtain ⟨hn, hE⟩ := hE
  subst hE
  exact en_p F (if a1 = 124 then 1 else (if a1 = 40 then 1 else (if a1 = 41 then 1 else (if a1 = 91 then 1 else (if a1 = 93 then 1 else (if a1 = 123 then 1 else (if a1 = 125 then 1 else (if a1 = 42 then 1 else (if a1 = 43 then 1 else (if a1 = 63 then 1 else (if a1 = 46 then 1 else (if a1 = 94 then 1 else (if a1 = 36 then 1 else (if a1 = 92 then 1 else 0 : Int32) : Int32) : Int32) : Int32) : Int32) : Int32) : Int32) : Int32) : Int32) : Int32) : Int32) : Int32) : Int32) : Int32) hn rfl dX6_isSpecial_89

theorem dX6_isWord_0 : decode cX6_isWord 0 = .ok (.iload_n 0, 1) := by decide +kernel
theorem dX6_isWord_1 : decode cX6_isWord 1 = .ok (.bipush 48, 2) := by decide +kernel
theorem dX6_isWord_3 : decode cX6_isWord 3 = .ok (.if_icmp .lt 9, 3) := by decide +kernel
theorem dX6_isWord_6 : decode cX6_isWord 6 = .ok (.iload_n 0, 1) := by decide +kernel
theorem dX6_isWord_7 : decode cX6_isWord 7 = .ok (.bipush 57, 2) := by decide +kernel
theorem dX6_isWord_9 : decode cX6_isWord 9 = .ok (.if_icmp .le 33, 3) := by decide +kernel
theorem dX6_isWord_12 : decode cX6_isWord 12 = .ok (.iload_n 0, 1) := by decide +kernel
theorem dX6_isWord_13 : decode cX6_isWord 13 = .ok (.bipush 65, 2) := by decide +kernel
theorem dX6_isWord_15 : decode cX6_isWord 15 = .ok (.if_icmp .lt 9, 3) := by decide +kernel
theorem dX6_isWord_18 : decode cX6_isWord 18 = .ok (.iload_n 0, 1) := by decide +kernel
theorem dX6_isWord_19 : decode cX6_isWord 19 = .ok (.bipush 90, 2) := by decide +kernel
theorem dX6_isWord_21 : decode cX6_isWord 21 = .ok (.if_icmp .le 21, 3) := by decide +kernel
theorem dX6_isWord_24 : decode cX6_isWord 24 = .ok (.iload_n 0, 1) := by decide +kernel
theorem dX6_isWord_25 : decode cX6_isWord 25 = .ok (.bipush 97, 2) := by decide +kernel
theorem dX6_isWord_27 : decode cX6_isWord 27 = .ok (.if_icmp .lt 9, 3) := by decide +kernel
theorem dX6_isWord_30 : decode cX6_isWord 30 = .ok (.iload_n 0, 1) := by decide +kernel
theorem dX6_isWord_31 : decode cX6_isWord 31 = .ok (.bipush 122, 2) := by decide +kernel
theorem dX6_isWord_33 : decode cX6_isWord 33 = .ok (.if_icmp .le 9, 3) := by decide +kernel
theorem dX6_isWord_36 : decode cX6_isWord 36 = .ok (.iload_n 0, 1) := by decide +kernel
theorem dX6_isWord_37 : decode cX6_isWord 37 = .ok (.bipush 95, 2) := by decide +kernel
theorem dX6_isWord_39 : decode cX6_isWord 39 = .ok (.if_icmp .ne 7, 3) := by decide +kernel
theorem dX6_isWord_42 : decode cX6_isWord 42 = .ok (.iconst 1, 1) := by decide +kernel
theorem dX6_isWord_43 : decode cX6_isWord 43 = .ok (.goto 4, 3) := by decide +kernel
theorem dX6_isWord_46 : decode cX6_isWord 46 = .ok (.iconst 0, 1) := by decide +kernel
theorem dX6_isWord_47 : decode cX6_isWord 47 = .ok (.ireturn, 1) := by decide +kernel
def E_isWord (a1 : Int32) (r : Int32) : Prop := narrow .boolean (.int (if a1 < 48 then (if a1 < 65 then (if a1 < 97 then (if a1 = 95 then 1 else 0 : Int32) else (if a1 ≤ 122 then 1 else (if a1 = 95 then 1 else 0 : Int32) : Int32) : Int32) else (if a1 ≤ 90 then 1 else (if a1 < 97 then (if a1 = 95 then 1 else 0 : Int32) else (if a1 ≤ 122 then 1 else (if a1 = 95 then 1 else 0 : Int32) : Int32) : Int32) : Int32) : Int32) else (if a1 ≤ 57 then 1 else (if a1 < 65 then (if a1 < 97 then (if a1 = 95 then 1 else 0 : Int32) else (if a1 ≤ 122 then 1 else (if a1 = 95 then 1 else 0 : Int32) : Int32) : Int32) else (if a1 ≤ 90 then 1 else (if a1 < 97 then (if a1 = 95 then 1 else 0 : Int32) else (if a1 ≤ 122 then 1 else (if a1 = 95 then 1 else 0 : Int32) : Int32) : Int32) : Int32) : Int32) : Int32) : Int32)) = .int (if a1 < 48 then (if a1 < 65 then (if a1 < 97 then (if a1 = 95 then 1 else 0 : Int32) else (if a1 ≤ 122 then 1 else (if a1 = 95 then 1 else 0 : Int32) : Int32) : Int32) else (if a1 ≤ 90 then 1 else (if a1 < 97 then (if a1 = 95 then 1 else 0 : Int32) else (if a1 ≤ 122 then 1 else (if a1 = 95 then 1 else 0 : Int32) : Int32) : Int32) : Int32) : Int32) else (if a1 ≤ 57 then 1 else (if a1 < 65 then (if a1 < 97 then (if a1 = 95 then 1 else 0 : Int32) else (if a1 ≤ 122 then 1 else (if a1 = 95 then 1 else 0 : Int32) : Int32) : Int32) else (if a1 ≤ 90 then 1 else (if a1 < 97 then (if a1 = 95 then 1 else 0 : Int32) else (if a1 ≤ 122 then 1 else (if a1 = 95 then 1 else 0 : Int32) : Int32) : Int32) : Int32) : Int32) : Int32) : Int32) ∧ r = (if a1 < 48 then (if a1 < 65 then (if a1 < 97 then (if a1 = 95 then 1 else 0 : Int32) else (if a1 ≤ 122 then 1 else (if a1 = 95 then 1 else 0 : Int32) : Int32) : Int32) else (if a1 ≤ 90 then 1 else (if a1 < 97 then (if a1 = 95 then 1 else 0 : Int32) else (if a1 ≤ 122 then 1 else (if a1 = 95 then 1 else 0 : Int32) : Int32) : Int32) : Int32) : Int32) else (if a1 ≤ 57 then 1 else (if a1 < 65 then (if a1 < 97 then (if a1 = 95 then 1 else 0 : Int32) else (if a1 ≤ 122 then 1 else (if a1 = 95 then 1 else 0 : Int32) : Int32) : Int32) else (if a1 ≤ 90 then 1 else (if a1 < 97 then (if a1 = 95 then 1 else 0 : Int32) else (if a1 ≤ 122 then 1 else (if a1 = 95 then 1 else 0 : Int32) : Int32) : Int32) : Int32) : Int32) : Int32) : Int32)
set_option maxHeartbeats 4000000 in
set_option maxRecDepth 100000 in
theorem e_isWord (l : Launch) (G : PG) (a1 : Int32) (r : Int32) (hE : E_isWord a1 r) : Pi l yX6_isWord (Cond.code yX6_isWord cX6_isWord 1 (some .boolean) :: aW) { frames := 0, cells := 0, slots := 0, locals := 0 } G [] [.int a1] (fun (r9 : Int32) => r9 = r) := by
  refine ofP (y := yX6_isWord) (G := G) (cc := cX6_isWord) (maxL := 1) (ret := (some .boolean)) (by decide) rfl ?_
  intro p e s m below meth c F hK hP hD
  have hx := F.1.1; have hb := F.1.2.1; have hml := F.1.2.2.1; have hts := F.1.2.2.2.2
  have hown : s.vm.findClass RX6 = some m.cls := F.1.2.2.2.1
  have hl := lv_entry ([.int a1]) (n := 1) (Nat.le_of_ble_eq_true rfl)
  rw [lg_entry_eq]
  generalize (lg_sl ([.int a1]) ++ List.replicate (1 - (lg_sl ([.int a1])).length) Slot.unset).toArray = ls at hl ⊢
  have hl : lv_has ls 1 [(0, .int a1)] := hl
  unfold E_isWord at hE
  refine lv_iload_n hx hb dX6_isWord_0 rfl (lv_at hl 0 rfl) ?_
  refine lv_bipush (v := 48) hx hb dX6_isWord_1 (by decide) ?_
  refine jn_v (v := (if a1 < 48 then (if a1 < 65 then (if a1 < 97 then (if a1 = 95 then 1 else 0 : Int32) else (if a1 ≤ 122 then 1 else (if a1 = 95 then 1 else 0 : Int32) : Int32) : Int32) else (if a1 ≤ 90 then 1 else (if a1 < 97 then (if a1 = 95 then 1 else 0 : Int32) else (if a1 ≤ 122 then 1 else (if a1 = 95 then 1 else 0 : Int32) : Int32) : Int32) : Int32) : Int32) else (if a1 ≤ 57 then 1 else (if a1 < 65 then (if a1 < 97 then (if a1 = 95 then 1 else 0 : Int32) else (if a1 ≤ 122 then 1 else (if a1 = 95 then 1 else 0 : Int32) : Int32) : Int32) else (if a1 ≤ 90 then 1 else (if a1 < 97 then (if a1 = 95 then 1 else 0 : Int32) else (if a1 ≤ 122 then 1 else (if a1 = 95 then 1 else 0 : Int32) : Int32) : Int32) : Int32) : Int32) : Int32) : Int32)) (pcM := 47) (rest := []) (fun kM => ?_) ?_
  ·
    refine lv_icmp_lt (tgt := 12) hx hb dX6_isWord_3 (by decide) (fun h2 => ?_) (fun h2 => ?_)
    ·
      refine lv_iload_n hx hb dX6_isWord_12 rfl (lv_at hl 0 rfl) ?_
      refine lv_bipush (v := 65) hx hb dX6_isWord_13 (by decide) ?_
      refine lv_icmp_lt (tgt := 24) hx hb dX6_isWord_15 (by decide) (fun h3 => ?_) (fun h3 => ?_)
      ·
        refine lv_iload_n hx hb dX6_isWord_24 rfl (lv_at hl 0 rfl) ?_
        refine lv_bipush (v := 97) hx hb dX6_isWord_25 (by decide) ?_
        refine lv_icmp_lt (tgt := 36) hx hb dX6_isWord_27 (by decide) (fun h4 => ?_) (fun h4 => ?_)
        ·
          refine lv_iload_n hx hb dX6_isWord_36 rfl (lv_at hl 0 rfl) ?_
          refine lv_bipush (v := 95) hx hb dX6_isWord_37 (by decide) ?_
          refine lv_icmp_ne (tgt := 46) hx hb dX6_isWord_39 (by decide) (fun h5 => ?_) (fun h5 => ?_)
          ·
            refine lv_iconst (v := 0) hx hb dX6_isWord_46 (by decide) ?_
            exact kM _ (by try rw [if_pos h2]; try rw [if_pos h3]; try rw [if_pos h4]; try rw [if_neg h5])
          ·
            refine lv_iconst (v := 1) hx hb dX6_isWord_42 (by decide) ?_
            refine lv_goto (tgt := 47) hx hb dX6_isWord_43 (by decide) ?_
            exact kM _ (by try rw [if_pos h2]; try rw [if_pos h3]; try rw [if_pos h4]; try rw [if_pos h5])
        ·
          refine lv_iload_n hx hb dX6_isWord_30 rfl (lv_at hl 0 rfl) ?_
          refine lv_bipush (v := 122) hx hb dX6_isWord_31 (by decide) ?_
          refine lv_icmp_le (tgt := 42) hx hb dX6_isWord_33 (by decide) (fun h6 => ?_) (fun h6 => ?_)
          ·
            refine lv_iconst (v := 1) hx hb dX6_isWord_42 (by decide) ?_
            refine lv_goto (tgt := 47) hx hb dX6_isWord_43 (by decide) ?_
            exact kM _ (by try rw [if_pos h2]; try rw [if_pos h3]; try rw [if_neg h4]; try rw [if_pos h6])
          ·
            refine lv_iload_n hx hb dX6_isWord_36 rfl (lv_at hl 0 rfl) ?_
            refine lv_bipush (v := 95) hx hb dX6_isWord_37 (by decide) ?_
            refine lv_icmp_ne (tgt := 46) hx hb dX6_isWord_39 (by decide) (fun h7 => ?_) (fun h7 => ?_)
            ·
              refine lv_iconst (v := 0) hx hb dX6_isWord_46 (by decide) ?_
              exact kM _ (by try rw [if_pos h2]; try rw [if_pos h3]; try rw [if_neg h4]; try rw [if_neg h6]; try rw [if_neg h7])
            ·
              refine lv_iconst (v := 1) hx hb dX6_isWord_42 (by decide) ?_
              refine lv_goto (tgt := 47) hx hb dX6_isWord_43 (by decide) ?_
              exact kM _ (by try rw [if_pos h2]; try rw [if_pos h3]; try rw [if_neg h4]; try rw [if_neg h6]; try rw [if_pos h7])
      ·
        refine lv_iload_n hx hb dX6_isWord_18 rfl (lv_at hl 0 rfl) ?_
        refine lv_bipush (v := 90) hx hb dX6_isWord_19 (by decide) ?_
        refine lv_icmp_le (tgt := 42) hx hb dX6_isWord_21 (by decide) (fun h8 => ?_) (fun h8 => ?_)
        ·
          refine lv_iconst (v := 1) hx hb dX6_isWord_42 (by decide) ?_
          refine lv_goto (tgt := 47) hx hb dX6_isWord_43 (by decide) ?_
          exact kM _ (by try rw [if_pos h2]; try rw [if_neg h3]; try rw [if_pos h8])
        ·
          refine lv_iload_n hx hb dX6_isWord_24 rfl (lv_at hl 0 rfl) ?_
          refine lv_bipush (v := 97) hx hb dX6_isWord_25 (by decide) ?_
          refine lv_icmp_lt (tgt := 36) hx hb dX6_isWord_27 (by decide) (fun h9 => ?_) (fun h9 => ?_)
          ·
            refine lv_iload_n hx hb dX6_isWord_36 rfl (lv_at hl 0 rfl) ?_
            refine lv_bipush (v := 95) hx hb dX6_isWord_37 (by decide) ?_
            refine lv_icmp_ne (tgt := 46) hx hb dX6_isWord_39 (by decide) (fun h10 => ?_) (fun h10 => ?_)
            ·
              refine lv_iconst (v := 0) hx hb dX6_isWord_46 (by decide) ?_
              exact kM _ (by try rw [if_pos h2]; try rw [if_neg h3]; try rw [if_neg h8]; try rw [if_pos h9]; try rw [if_neg h10])
            ·
              refine lv_iconst (v := 1) hx hb dX6_isWord_42 (by decide) ?_
              refine lv_goto (tgt := 47) hx hb dX6_isWord_43 (by decide) ?_
              exact kM _ (by try rw [if_pos h2]; try rw [if_neg h3]; try rw [if_neg h8]; try rw [if_pos h9]; try rw [if_pos h10])
          ·
            refine lv_iload_n hx hb dX6_isWord_30 rfl (lv_at hl 0 rfl) ?_
            refine lv_bipush (v := 122) hx hb dX6_isWord_31 (by decide) ?_
            refine lv_icmp_le (tgt := 42) hx hb dX6_isWord_33 (by decide) (fun h11 => ?_) (fun h11 => ?_)
            ·
              refine lv_iconst (v := 1) hx hb dX6_isWord_42 (by decide) ?_
              refine lv_goto (tgt := 47) hx hb dX6_isWord_43 (by decide) ?_
              exact kM _ (by try rw [if_pos h2]; try rw [if_neg h3]; try rw [if_neg h8]; try rw [if_neg h9]; try rw [if_pos h11])
            ·
              refine lv_iload_n hx hb dX6_isWord_36 rfl (lv_at hl 0 rfl) ?_
              refine lv_bipush (v := 95) hx hb dX6_isWord_37 (by decide) ?_
              refine lv_icmp_ne (tgt := 46) hx hb dX6_isWord_39 (by decide) (fun h12 => ?_) (fun h12 => ?_)
              ·
                refine lv_iconst (v := 0) hx hb dX6_isWord_46 (by decide) ?_
                exact kM _ (by try rw [if_pos h2]; try rw [if_neg h3]; try rw [if_neg h8]; try rw [if_neg h9]; try rw [if_neg h11]; try rw [if_neg h12])
              ·
                refine lv_iconst (v := 1) hx hb dX6_isWord_42 (by decide) ?_
                refine lv_goto (tgt := 47) hx hb dX6_isWord_43 (by decide) ?_
                exact kM _ (by try rw [if_pos h2]; try rw [if_neg h3]; try rw [if_neg h8]; try rw [if_neg h9]; try rw [if_neg h11]; try rw [if_pos h12])
    ·
      refine lv_iload_n hx hb dX6_isWord_6 rfl (lv_at hl 0 rfl) ?_
      refine lv_bipush (v := 57) hx hb dX6_isWord_7 (by decide) ?_
      refine lv_icmp_le (tgt := 42) hx hb dX6_isWord_9 (by decide) (fun h13 => ?_) (fun h13 => ?_)
      ·
        refine lv_iconst (v := 1) hx hb dX6_isWord_42 (by decide) ?_
        refine lv_goto (tgt := 47) hx hb dX6_isWord_43 (by decide) ?_
        exact kM _ (by try rw [if_neg h2]; try rw [if_pos h13])
      ·
        refine lv_iload_n hx hb dX6_isWord_12 rfl (lv_at hl 0 rfl) ?_
        refine lv_bipush (v := 65) hx hb dX6_isWord_13 (by decide) ?_
        refine lv_icmp_lt (tgt := 24) hx hb dX6_isWord_15 (by decide) (fun h14 => ?_) (fun h14 => ?_)
        ·
          refine lv_iload_n hx hb dX6_isWord_24 rfl (lv_at hl 0 rfl) ?_
          refine lv_bipush (v := 97) hx hb dX6_isWord_25 (by decide) ?_
          refine lv_icmp_lt (tgt := 36) hx hb dX6_isWord_27 (by decide) (fun h15 => ?_) (fun h15 => ?_)
          ·
            refine lv_iload_n hx hb dX6_isWord_36 rfl (lv_at hl 0 rfl) ?_
            refine lv_bipush (v := 95) hx hb dX6_isWord_37 (by decide) ?_
            refine lv_icmp_ne (tgt := 46) hx hb dX6_isWord_39 (by decide) (fun h16 => ?_) (fun h16 => ?_)
            ·
              refine lv_iconst (v := 0) hx hb dX6_isWord_46 (by decide) ?_
              exact kM _ (by try rw [if_neg h2]; try rw [if_neg h13]; try rw [if_pos h14]; try rw [if_pos h15]; try rw [if_neg h16])
            ·
              refine lv_iconst (v := 1) hx hb dX6_isWord_42 (by decide) ?_
              refine lv_goto (tgt := 47) hx hb dX6_isWord_43 (by decide) ?_
              exact kM _ (by try rw [if_neg h2]; try rw [if_neg h13]; try rw [if_pos h14]; try rw [if_pos h15]; try rw [if_pos h16])
          ·
            refine lv_iload_n hx hb dX6_isWord_30 rfl (lv_at hl 0 rfl) ?_
            refine lv_bipush (v := 122) hx hb dX6_isWord_31 (by decide) ?_
            refine lv_icmp_le (tgt := 42) hx hb dX6_isWord_33 (by decide) (fun h17 => ?_) (fun h17 => ?_)
            ·
              refine lv_iconst (v := 1) hx hb dX6_isWord_42 (by decide) ?_
              refine lv_goto (tgt := 47) hx hb dX6_isWord_43 (by decide) ?_
              exact kM _ (by try rw [if_neg h2]; try rw [if_neg h13]; try rw [if_pos h14]; try rw [if_neg h15]; try rw [if_pos h17])
            ·
              refine lv_iload_n hx hb dX6_isWord_36 rfl (lv_at hl 0 rfl) ?_
              refine lv_bipush (v := 95) hx hb dX6_isWord_37 (by decide) ?_
              refine lv_icmp_ne (tgt := 46) hx hb dX6_isWord_39 (by decide) (fun h18 => ?_) (fun h18 => ?_)
              ·
                refine lv_iconst (v := 0) hx hb dX6_isWord_46 (by decide) ?_
                exact kM _ (by try rw [if_neg h2]; try rw [if_neg h13]; try rw [if_pos h14]; try rw [if_neg h15]; try rw [if_neg h17]; try rw [if_neg h18])
              ·
                refine lv_iconst (v := 1) hx hb dX6_isWord_42 (by decide) ?_
                refine lv_goto (tgt := 47) hx hb dX6_isWord_43 (by decide) ?_
                exact kM _ (by try rw [if_neg h2]; try rw [if_neg h13]; try rw [if_pos h14]; try rw [if_neg h15]; try rw [if_neg h17]; try rw [if_pos h18])
        ·
          refine lv_iload_n hx hb dX6_isWord_18 rfl (lv_at hl 0 rfl) ?_
          refine lv_bipush (v := 90) hx hb dX6_isWord_19 (by decide) ?_
          refine lv_icmp_le (tgt := 42) hx hb dX6_isWord_21 (by decide) (fun h19 => ?_) (fun h19 => ?_)
          ·
            refine lv_iconst (v := 1) hx hb dX6_isWord_42 (by decide) ?_
            refine lv_goto (tgt := 47) hx hb dX6_isWord_43 (by decide) ?_
            exact kM _ (by try rw [if_neg h2]; try rw [if_neg h13]; try rw [if_neg h14]; try rw [if_pos h19])
          ·
            refine lv_iload_n hx hb dX6_isWord_24 rfl (lv_at hl 0 rfl) ?_
            refine lv_bipush (v := 97) hx hb dX6_isWord_25 (by decide) ?_
            refine lv_icmp_lt (tgt := 36) hx hb dX6_isWord_27 (by decide) (fun h20 => ?_) (fun h20 => ?_)
            ·
              refine lv_iload_n hx hb dX6_isWord_36 rfl (lv_at hl 0 rfl) ?_
              refine lv_bipush (v := 95) hx hb dX6_isWord_37 (by decide) ?_
              refine lv_icmp_ne (tgt := 46) hx hb dX6_isWord_39 (by decide) (fun h21 => ?_) (fun h21 => ?_)
              ·
                refine lv_iconst (v := 0) hx hb dX6_isWord_46 (by decide) ?_
                exact kM _ (by try rw [if_neg h2]; try rw [if_neg h13]; try rw [if_neg h14]; try rw [if_neg h19]; try rw [if_pos h20]; try rw [if_neg h21])
              ·
                refine lv_iconst (v := 1) hx hb dX6_isWord_42 (by decide) ?_
                refine lv_goto (tgt := 47) hx hb dX6_isWord_43 (by decide) ?_
                exact kM _ (by try rw [if_neg h2]; try rw [if_neg h13]; try rw [if_neg h14]; try rw [if_neg h19]; try rw [if_pos h20]; try rw [if_pos h21])
            ·
              refine lv_iload_n hx hb dX6_isWord_30 rfl (lv_at hl 0 rfl) ?_
              refine lv_bipush (v := 122) hx hb dX6_isWord_31 (by decide) ?_
              refine lv_icmp_le (tgt := 42) hx hb dX6_isWord_33 (by decide) (fun h22 => ?_) (fun h22 => ?_)
              ·
                refine lv_iconst (v := 1) hx hb dX6_isWord_42 (by decide) ?_
                refine lv_goto (tgt := 47) hx hb dX6_isWord_43 (by decide) ?_
                exact kM _ (by try rw [if_neg h2]; try rw [if_neg h13]; try rw [if_neg h14]; try rw [if_neg h19]; try rw [if_neg h20]; try rw [if_pos h22])
              ·
                refine lv_iload_n hx hb dX6_isWord_36 rfl (lv_at hl 0 rfl) ?_
                refine lv_bipush (v := 95) hx hb dX6_isWord_37 (by decide) ?_
                refine lv_icmp_ne (tgt := 46) hx hb dX6_isWord_39 (by decide) (fun h23 => ?_) (fun h23 => ?_)
                ·
                  refine lv_iconst (v := 0) hx hb dX6_isWord_46 (by decide) ?_
                  exact kM _ (by try rw [if_neg h2]; try rw [if_neg h13]; try rw [if_neg h14]; try rw [if_neg h19]; try rw [if_neg h20]; try rw [if_neg h22]; try rw [if_neg h23])
                ·
                  refine lv_iconst (v := 1) hx hb dX6_isWord_42 (by decide) ?_
                  refine lv_goto (tgt := 47) hx hb dX6_isWord_43 (by decide) ?_
                  exact kM _ (by try rw [if_neg h2]; try rw [if_neg h13]; try rw [if_neg h14]; try rw [if_neg h19]; try rw [if_neg h20]; try rw [if_neg h22]; try rw [if_pos h23])
  obtain ⟨hn, hE⟩ := hE
  subst hE
  exact en_p F (if a1 < 48 then (if a1 < 65 then (if a1 < 97 then (if a1 = 95 then 1 else 0 : Int32) else (if a1 ≤ 122 then 1 else (if a1 = 95 then 1 else 0 : Int32) : Int32) : Int32) else (if a1 ≤ 90 then 1 else (if a1 < 97 then (if a1 = 95 then 1 else 0 : Int32) else (if a1 ≤ 122 then 1 else (if a1 = 95 then 1 else 0 : Int32) : Int32) : Int32) : Int32) : Int32) else (if a1 ≤ 57 then 1 else (if a1 < 65 then (if a1 < 97 then (if a1 = 95 then 1 else 0 : Int32) else (if a1 ≤ 122 then 1 else (if a1 = 95 then 1 else 0 : Int32) : Int32) : Int32) else (if a1 ≤ 90 then 1 else (if a1 < 97 then (if a1 = 95 then 1 else 0 : Int32) else (if a1 ≤ 122 then 1 else (if a1 = 95 then 1 else 0 : Int32) : Int32) : Int32) : Int32) : Int32) : Int32) : Int32) hn rfl dX6_isWord_47

theorem dX6_isBarred_0 : decode cX6_isBarred 0 = .ok (.iload_n 0, 1) := by decide +kernel
theorem dX6_isBarred_1 : decode cX6_isBarred 1 = .ok (.bipush 91, 2) := by decide +kernel
theorem dX6_isBarred_3 : decode cX6_isBarred 3 = .ok (.if_icmp .eq 31, 3) := by decide +kernel
theorem dX6_isBarred_6 : decode cX6_isBarred 6 = .ok (.iload_n 0, 1) := by decide +kernel
theorem dX6_isBarred_7 : decode cX6_isBarred 7 = .ok (.bipush 93, 2) := by decide +kernel
theorem dX6_isBarred_9 : decode cX6_isBarred 9 = .ok (.if_icmp .eq 25, 3) := by decide +kernel
theorem dX6_isBarred_12 : decode cX6_isBarred 12 = .ok (.iload_n 0, 1) := by decide +kernel
theorem dX6_isBarred_13 : decode cX6_isBarred 13 = .ok (.bipush 94, 2) := by decide +kernel
theorem dX6_isBarred_15 : decode cX6_isBarred 15 = .ok (.if_icmp .eq 19, 3) := by decide +kernel
theorem dX6_isBarred_18 : decode cX6_isBarred 18 = .ok (.iload_n 0, 1) := by decide +kernel
theorem dX6_isBarred_19 : decode cX6_isBarred 19 = .ok (.bipush 45, 2) := by decide +kernel
theorem dX6_isBarred_21 : decode cX6_isBarred 21 = .ok (.if_icmp .eq 13, 3) := by decide +kernel
theorem dX6_isBarred_24 : decode cX6_isBarred 24 = .ok (.iload_n 0, 1) := by decide +kernel
theorem dX6_isBarred_25 : decode cX6_isBarred 25 = .ok (.bipush 92, 2) := by decide +kernel
theorem dX6_isBarred_27 : decode cX6_isBarred 27 = .ok (.if_icmp .eq 7, 3) := by decide +kernel
theorem dX6_isBarred_30 : decode cX6_isBarred 30 = .ok (.iload_n 0, 1) := by decide +kernel
theorem dX6_isBarred_31 : decode cX6_isBarred 31 = .ok (.ifCond .ne 7, 3) := by decide +kernel
theorem dX6_isBarred_34 : decode cX6_isBarred 34 = .ok (.iconst 1, 1) := by decide +kernel
theorem dX6_isBarred_35 : decode cX6_isBarred 35 = .ok (.goto 4, 3) := by decide +kernel
theorem dX6_isBarred_38 : decode cX6_isBarred 38 = .ok (.iconst 0, 1) := by decide +kernel
theorem dX6_isBarred_39 : decode cX6_isBarred 39 = .ok (.ireturn, 1) := by decide +kernel
def E_isBarred (a1 : Int32) (r : Int32) : Prop := narrow .boolean (.int (if a1 = 91 then 1 else (if a1 = 93 then 1 else (if a1 = 94 then 1 else (if a1 = 45 then 1 else (if a1 = 92 then 1 else (if a1 = 0 then 1 else 0 : Int32) : Int32) : Int32) : Int32) : Int32) : Int32)) = .int (if a1 = 91 then 1 else (if a1 = 93 then 1 else (if a1 = 94 then 1 else (if a1 = 45 then 1 else (if a1 = 92 then 1 else (if a1 = 0 then 1 else 0 : Int32) : Int32) : Int32) : Int32) : Int32) : Int32) ∧ r = (if a1 = 91 then 1 else (if a1 = 93 then 1 else (if a1 = 94 then 1 else (if a1 = 45 then 1 else (if a1 = 92 then 1 else (if a1 = 0 then 1 else 0 : Int32) : Int32) : Int32) : Int32) : Int32) : Int32)
set_option maxHeartbeats 4000000 in
set_option maxRecDepth 100000 in
theorem e_isBarred (l : Launch) (G : PG) (a1 : Int32) (r : Int32) (hE : E_isBarred a1 r) : Pi l yX6_isBarred (Cond.code yX6_isBarred cX6_isBarred 1 (some .boolean) :: aW) { frames := 0, cells := 0, slots := 0, locals := 0 } G [] [.int a1] (fun (r9 : Int32) => r9 = r) := by
  refine ofP (y := yX6_isBarred) (G := G) (cc := cX6_isBarred) (maxL := 1) (ret := (some .boolean)) (by decide) rfl ?_
  intro p e s m below meth c F hK hP hD
  have hx := F.1.1; have hb := F.1.2.1; have hml := F.1.2.2.1; have hts := F.1.2.2.2.2
  have hown : s.vm.findClass RX6 = some m.cls := F.1.2.2.2.1
  have hl := lv_entry ([.int a1]) (n := 1) (Nat.le_of_ble_eq_true rfl)
  rw [lg_entry_eq]
  generalize (lg_sl ([.int a1]) ++ List.replicate (1 - (lg_sl ([.int a1])).length) Slot.unset).toArray = ls at hl ⊢
  have hl : lv_has ls 1 [(0, .int a1)] := hl
  unfold E_isBarred at hE
  refine lv_iload_n hx hb dX6_isBarred_0 rfl (lv_at hl 0 rfl) ?_
  refine lv_bipush (v := 91) hx hb dX6_isBarred_1 (by decide) ?_
  refine jn_v (v := (if a1 = 91 then 1 else (if a1 = 93 then 1 else (if a1 = 94 then 1 else (if a1 = 45 then 1 else (if a1 = 92 then 1 else (if a1 = 0 then 1 else 0 : Int32) : Int32) : Int32) : Int32) : Int32) : Int32)) (pcM := 39) (rest := []) (fun kM => ?_) ?_
  ·
    refine lv_icmp_eq (tgt := 34) hx hb dX6_isBarred_3 (by decide) (fun h2 => ?_) (fun h2 => ?_)
    ·
      refine lv_iconst (v := 1) hx hb dX6_isBarred_34 (by decide) ?_
      refine lv_goto (tgt := 39) hx hb dX6_isBarred_35 (by decide) ?_
      exact kM _ (by try rw [if_pos h2])
    ·
      refine lv_iload_n hx hb dX6_isBarred_6 rfl (lv_at hl 0 rfl) ?_
      refine lv_bipush (v := 93) hx hb dX6_isBarred_7 (by decide) ?_
      refine lv_icmp_eq (tgt := 34) hx hb dX6_isBarred_9 (by decide) (fun h3 => ?_) (fun h3 => ?_)
      ·
        refine lv_iconst (v := 1) hx hb dX6_isBarred_34 (by decide) ?_
        refine lv_goto (tgt := 39) hx hb dX6_isBarred_35 (by decide) ?_
        exact kM _ (by try rw [if_neg h2]; try rw [if_pos h3])
      ·
        refine lv_iload_n hx hb dX6_isBarred_12 rfl (lv_at hl 0 rfl) ?_
        refine lv_bipush (v := 94) hx hb dX6_isBarred_13 (by decide) ?_
        refine lv_icmp_eq (tgt := 34) hx hb dX6_isBarred_15 (by decide) (fun h4 => ?_) (fun h4 => ?_)
        ·
          refine lv_iconst (v := 1) hx hb dX6_isBarred_34 (by decide) ?_
          refine lv_goto (tgt := 39) hx hb dX6_isBarred_35 (by decide) ?_
          exact kM _ (by try rw [if_neg h2]; try rw [if_neg h3]; try rw [if_pos h4])
        ·
          refine lv_iload_n hx hb dX6_isBarred_18 rfl (lv_at hl 0 rfl) ?_
          refine lv_bipush (v := 45) hx hb dX6_isBarred_19 (by decide) ?_
          refine lv_icmp_eq (tgt := 34) hx hb dX6_isBarred_21 (by decide) (fun h5 => ?_) (fun h5 => ?_)
          ·
            refine lv_iconst (v := 1) hx hb dX6_isBarred_34 (by decide) ?_
            refine lv_goto (tgt := 39) hx hb dX6_isBarred_35 (by decide) ?_
            exact kM _ (by try rw [if_neg h2]; try rw [if_neg h3]; try rw [if_neg h4]; try rw [if_pos h5])
          ·
            refine lv_iload_n hx hb dX6_isBarred_24 rfl (lv_at hl 0 rfl) ?_
            refine lv_bipush (v := 92) hx hb dX6_isBarred_25 (by decide) ?_
            refine lv_icmp_eq (tgt := 34) hx hb dX6_isBarred_27 (by decide) (fun h6 => ?_) (fun h6 => ?_)
            ·
              refine lv_iconst (v := 1) hx hb dX6_isBarred_34 (by decide) ?_
              refine lv_goto (tgt := 39) hx hb dX6_isBarred_35 (by decide) ?_
              exact kM _ (by try rw [if_neg h2]; try rw [if_neg h3]; try rw [if_neg h4]; try rw [if_neg h5]; try rw [if_pos h6])
            ·
              refine lv_iload_n hx hb dX6_isBarred_30 rfl (lv_at hl 0 rfl) ?_
              refine lv_if_ne (tgt := 38) hx hb dX6_isBarred_31 (by decide) (fun h7 => ?_) (fun h7 => ?_)
              ·
                refine lv_iconst (v := 0) hx hb dX6_isBarred_38 (by decide) ?_
                exact kM _ (by try rw [if_neg h2]; try rw [if_neg h3]; try rw [if_neg h4]; try rw [if_neg h5]; try rw [if_neg h6]; try rw [if_neg h7])
              ·
                refine lv_iconst (v := 1) hx hb dX6_isBarred_34 (by decide) ?_
                refine lv_goto (tgt := 39) hx hb dX6_isBarred_35 (by decide) ?_
                exact kM _ (by try rw [if_neg h2]; try rw [if_neg h3]; try rw [if_neg h4]; try rw [if_neg h5]; try rw [if_neg h6]; try rw [if_pos h7])
  obtain ⟨hn, hE⟩ := hE
  subst hE
  exact en_p F (if a1 = 91 then 1 else (if a1 = 93 then 1 else (if a1 = 94 then 1 else (if a1 = 45 then 1 else (if a1 = 92 then 1 else (if a1 = 0 then 1 else 0 : Int32) : Int32) : Int32) : Int32) : Int32) : Int32) hn rfl dX6_isBarred_39

theorem dX6_isFour_0 : decode cX6_isFour 0 = .ok (.iload_n 0, 1) := by decide +kernel
theorem dX6_isFour_1 : decode cX6_isFour 1 = .ok (.bipush 48, 2) := by decide +kernel
theorem dX6_isFour_3 : decode cX6_isFour 3 = .ok (.if_icmp .lt 13, 3) := by decide +kernel
theorem dX6_isFour_6 : decode cX6_isFour 6 = .ok (.iload_n 0, 1) := by decide +kernel
theorem dX6_isFour_7 : decode cX6_isFour 7 = .ok (.bipush 52, 2) := by decide +kernel
theorem dX6_isFour_9 : decode cX6_isFour 9 = .ok (.if_icmp .gt 7, 3) := by decide +kernel
theorem dX6_isFour_12 : decode cX6_isFour 12 = .ok (.iconst 1, 1) := by decide +kernel
theorem dX6_isFour_13 : decode cX6_isFour 13 = .ok (.goto 4, 3) := by decide +kernel
theorem dX6_isFour_16 : decode cX6_isFour 16 = .ok (.iconst 0, 1) := by decide +kernel
theorem dX6_isFour_17 : decode cX6_isFour 17 = .ok (.ireturn, 1) := by decide +kernel
def E_isFour (a1 : Int32) (r : Int32) : Prop := narrow .boolean (.int (if a1 < 48 then 0 else (if 52 < a1 then 0 else 1 : Int32) : Int32)) = .int (if a1 < 48 then 0 else (if 52 < a1 then 0 else 1 : Int32) : Int32) ∧ r = (if a1 < 48 then 0 else (if 52 < a1 then 0 else 1 : Int32) : Int32)
set_option maxHeartbeats 4000000 in
set_option maxRecDepth 100000 in
theorem e_isFour (l : Launch) (G : PG) (a1 : Int32) (r : Int32) (hE : E_isFour a1 r) : Pi l yX6_isFour (Cond.code yX6_isFour cX6_isFour 1 (some .boolean) :: aW) { frames := 0, cells := 0, slots := 0, locals := 0 } G [] [.int a1] (fun (r9 : Int32) => r9 = r) := by
  refine ofP (y := yX6_isFour) (G := G) (cc := cX6_isFour) (maxL := 1) (ret := (some .boolean)) (by decide) rfl ?_
  intro p e s m below meth c F hK hP hD
  have hx := F.1.1; have hb := F.1.2.1; have hml := F.1.2.2.1; have hts := F.1.2.2.2.2
  have hown : s.vm.findClass RX6 = some m.cls := F.1.2.2.2.1
  have hl := lv_entry ([.int a1]) (n := 1) (Nat.le_of_ble_eq_true rfl)
  rw [lg_entry_eq]
  generalize (lg_sl ([.int a1]) ++ List.replicate (1 - (lg_sl ([.int a1])).length) Slot.unset).toArray = ls at hl ⊢
  have hl : lv_has ls 1 [(0, .int a1)] := hl
  unfold E_isFour at hE
  refine lv_iload_n hx hb dX6_isFour_0 rfl (lv_at hl 0 rfl) ?_
  refine lv_bipush (v := 48) hx hb dX6_isFour_1 (by decide) ?_
  refine jn_v (v := (if a1 < 48 then 0 else (if 52 < a1 then 0 else 1 : Int32) : Int32)) (pcM := 17) (rest := []) (fun kM => ?_) ?_
  ·
    refine lv_icmp_lt (tgt := 16) hx hb dX6_isFour_3 (by decide) (fun h2 => ?_) (fun h2 => ?_)
    ·
      refine lv_iconst (v := 0) hx hb dX6_isFour_16 (by decide) ?_
      exact kM _ (by try rw [if_pos h2])
    ·
      refine lv_iload_n hx hb dX6_isFour_6 rfl (lv_at hl 0 rfl) ?_
      refine lv_bipush (v := 52) hx hb dX6_isFour_7 (by decide) ?_
      refine lv_icmp_gt (tgt := 16) hx hb dX6_isFour_9 (by decide) (fun h3 => ?_) (fun h3 => ?_)
      ·
        refine lv_iconst (v := 0) hx hb dX6_isFour_16 (by decide) ?_
        exact kM _ (by try rw [if_neg h2]; try rw [if_pos h3])
      ·
        refine lv_iconst (v := 1) hx hb dX6_isFour_12 (by decide) ?_
        refine lv_goto (tgt := 17) hx hb dX6_isFour_13 (by decide) ?_
        exact kM _ (by try rw [if_neg h2]; try rw [if_neg h3])
  obtain ⟨hn, hE⟩ := hE
  subst hE
  exact en_p F (if a1 < 48 then 0 else (if 52 < a1 then 0 else 1 : Int32) : Int32) hn rfl dX6_isFour_17


def E_thrown (R : RS)  (R' : RS) (r : Int32) : Prop := R' = R ∧ r = (R.1 0)
set_option maxHeartbeats 4000000 in
set_option maxRecDepth 100000 in
theorem e_thrown (l : Launch) (G : PG) (h : Nat) (q : Nat → Nat) (R : RS)  (R' : RS) (r : Int32) (hE : E_thrown R R' r) : Ci l yX6_thrown (Cond.code yX6_thrown cX6_thrown 1 (some .int) :: aW) { frames := 0, cells := 0, slots := 0, locals := 0 } G (mW G h q R) [.ref h] (fun (r9 : Int32) (_ : Unit) => r9 = r) (fun (_ : Unit) => mW G h q R') 0 0 := by
  refine ofB (y := yX6_thrown) (G := G) (cc := cX6_thrown) (maxL := 1) (ret := (some .int)) (Qc := fun A => va_Qi (fun (r9 : Int32) (_ : Unit) => r9 = r) (oB G A (fun (_ : Unit) => mW G h q R')) A) (by decide) rfl ?_
  intro p e s m below meth c A F hK hA hP hD
  have hS : va_S A s.heap s.heap [] := va_S.rf
  have hx := F.1.1; have hb := F.1.2.1; have hml := F.1.2.2.1; have hts := F.1.2.2.2.2
  have hown : s.vm.findClass RX6 = some m.cls := F.1.2.2.2.1
  have hl := lv_entry ([.ref h]) (n := 1) (Nat.le_of_ble_eq_true rfl)
  rw [lg_entry_eq]
  generalize (lg_sl ([.ref h]) ++ List.replicate (1 - (lg_sl ([.ref h])).length) Slot.unset).toArray = ls at hl ⊢
  have hl : lv_has ls 1 [(0, .ref h)] := hl
  unfold E_thrown at hE
  refine lv_aload_n hx hb dX6_thrown_0 rfl (lv_at hl 0 rfl) ?_
  refine va_get (D := G.1) (ci := 6) (C := RX6) (T := TX6) (N := 48) hx hb hts inX6 hown hK.1 hP 0 mW_0 rfl 0 (by decide) (hts _ w_846) (fun _ h9 => h9) mF_0 dX6_thrown_1 ?_
  obtain ⟨rfl, rfl⟩ := hE
  exact en_i F hS _ () (by rfl) rfl hP hD (Nat.le_refl _) (Nat.le_refl _) dX6_thrown_4

theorem dX6_fail_0 : decode cX6_fail 0 = .ok (.aload_n 0, 1) := by decide +kernel
theorem dX6_fail_1 : decode cX6_fail 1 = .ok (.iload_n 1, 1) := by decide +kernel
theorem dX6_fail_2 : decode cX6_fail 2 = .ok (.putfield 102, 3) := by decide +kernel
theorem dX6_fail_5 : decode cX6_fail 5 = .ok (.iconst 0, 1) := by decide +kernel
theorem dX6_fail_6 : decode cX6_fail 6 = .ok (.ireturn, 1) := by decide +kernel
def E_fail (R : RS) (a1 : Int32) (R' : RS) (r : Int32) : Prop := R' = (mf R 0 a1) ∧ r = 0
set_option maxHeartbeats 4000000 in
set_option maxRecDepth 100000 in
theorem e_fail (l : Launch) (G : PG) (h : Nat) (q : Nat → Nat) (R : RS) (a1 : Int32) (R' : RS) (r : Int32) (hE : E_fail R a1 R' r) : Ci l yX6_fail (Cond.code yX6_fail cX6_fail 2 (some .int) :: aW) { frames := 0, cells := 0, slots := 0, locals := 0 } G (mW G h q R) [.ref h, .int a1] (fun (r9 : Int32) (_ : Unit) => r9 = r) (fun (_ : Unit) => mW G h q R') 0 0 := by
  refine ofB (y := yX6_fail) (G := G) (cc := cX6_fail) (maxL := 2) (ret := (some .int)) (Qc := fun A => va_Qi (fun (r9 : Int32) (_ : Unit) => r9 = r) (oB G A (fun (_ : Unit) => mW G h q R')) A) (by decide) rfl ?_
  intro p e s m below meth c A F hK hA hP hD
  have hS : va_S A s.heap s.heap [] := va_S.rf
  have hx := F.1.1; have hb := F.1.2.1; have hml := F.1.2.2.1; have hts := F.1.2.2.2.2
  have hown : s.vm.findClass RX6 = some m.cls := F.1.2.2.2.1
  have hl := lv_entry ([.ref h, .int a1]) (n := 2) (Nat.le_of_ble_eq_true rfl)
  rw [lg_entry_eq]
  generalize (lg_sl ([.ref h, .int a1]) ++ List.replicate (2 - (lg_sl ([.ref h, .int a1])).length) Slot.unset).toArray = ls at hl ⊢
  have hl : lv_has ls 2 [(0, .ref h), (1, .int a1)] := hl
  unfold E_fail at hE
  refine lv_aload_n hx hb dX6_fail_0 rfl (lv_at hl 0 rfl) ?_
  refine lv_iload_n hx hb dX6_fail_1 rfl (lv_at hl 1 rfl) ?_
  refine va_put (D := G.1) (ci := 6) (v := .int a1) (ty := .int) (C := RX6) (T := TX6) (N := 48) hx hb hts inX6 tyX6 tyX6_ok nmX6 hown hK.1 hP hD hS 0 mW_0 rfl 0 (by decide) (hts _ w_846) (fun _ h9 => h9) rfl (by decide +kernel) rfl rfl mF_l0 dX6_fail_2 (fun H locs hP hD hS => ?_)
  rw [mW_f0] at hP hD
  refine lv_iconst (v := 0) hx hb dX6_fail_5 (by decide) ?_
  obtain ⟨rfl, rfl⟩ := hE
  exact en_i F hS _ () (by rfl) rfl hP hD (Nat.le_refl _) (Nat.le_refl _) dX6_fail_6


def E_type (R : RS) (a1 : Int32) (a2 : Int32) (R' : RS) (r : Int32) : Prop := if a1 < 0 then (R' = (mf R 0 0) ∧ r = 0) else (if 2 < a1 then (R' = (mf R 0 0) ∧ r = 0) else (if a2 < 32 then (R' = (mf R 0 0) ∧ r = 0) else (if 126 < a2 then (R' = (mf R 0 0) ∧ r = 0) else (vp_in a1 3 ∧ (∃ r5 : Int32, E_room a1 r5 ∧ (if (R.2.1 2 a1.toNatClampNeg) = r5 then (R' = (mf R 0 0) ∧ r = 0) else (vp_in a1 3 ∧ (vp_in ((14 * a1) + (R.2.1 2 a1.toNatClampNeg)) 42 ∧ (vp_in a1 3 ∧ (vp_in a1 3 ∧ (if a1 = 1 then (R' = (mf (ma (ma (mf R 0 0) 1 (((14 * a1) + (R.2.1 2 a1.toNatClampNeg)).toNatClampNeg) a2) 2 a1.toNatClampNeg ((R.2.1 2 a1.toNatClampNeg) + 1)) 41 0) ∧ r = 1) else (R' = (ma (ma (mf R 0 0) 1 (((14 * a1) + (R.2.1 2 a1.toNatClampNeg)).toNatClampNeg) a2) 2 a1.toNatClampNeg ((R.2.1 2 a1.toNatClampNeg) + 1)) ∧ r = 1))))))))))))
set_option maxHeartbeats 4000000 in
set_option maxRecDepth 100000 in
theorem e_type (l : Launch) (G : PG) (h : Nat) (q : Nat → Nat) (R : RS) (a1 : Int32) (a2 : Int32) (R' : RS) (r : Int32) (hE : E_type R a1 a2 R' r) : Ci l yX6_type (Cond.code yX6_type cX6_type 3 (some .boolean) :: aW) { frames := 1, cells := 0, slots := 0, locals := 20 } G (mW G h q R) [.ref h, .int a1, .int a2] (fun (r9 : Int32) (_ : Unit) => r9 = r) (fun (_ : Unit) => mW G h q R') 0 0 := by
  refine ofB (y := yX6_type) (G := G) (cc := cX6_type) (maxL := 3) (ret := (some .boolean)) (Qc := fun A => va_Qi (fun (r9 : Int32) (_ : Unit) => r9 = r) (oB G A (fun (_ : Unit) => mW G h q R')) A) (by decide) rfl ?_
  intro p e s m below meth c A F hK hA hP hD
  have hS : va_S A s.heap s.heap [] := va_S.rf
  have hx := F.1.1; have hb := F.1.2.1; have hml := F.1.2.2.1; have hts := F.1.2.2.2.2
  have hown : s.vm.findClass RX6 = some m.cls := F.1.2.2.2.1
  have hl := lv_entry ([.ref h, .int a1, .int a2]) (n := 3) (Nat.le_of_ble_eq_true rfl)
  rw [lg_entry_eq]
  generalize (lg_sl ([.ref h, .int a1, .int a2]) ++ List.replicate (3 - (lg_sl ([.ref h, .int a1, .int a2])).length) Slot.unset).toArray = ls at hl ⊢
  have hl : lv_has ls 3 [(0, .ref h), (1, .int a1), (2, .int a2)] := hl
  unfold E_type at hE
  refine lv_aload_n hx hb dX6_type_0 rfl (lv_at hl 0 rfl) ?_
  refine lv_iconst (v := 0) hx hb dX6_type_1 (by decide) ?_
  refine va_put (D := G.1) (ci := 6) (v := .int 0) (ty := .int) (C := RX6) (T := TX6) (N := 48) hx hb hts inX6 tyX6 tyX6_ok nmX6 hown hK.1 hP hD hS 0 mW_0 rfl 0 (by decide) (hts _ w_846) (fun _ h9 => h9) rfl (by decide +kernel) rfl rfl mF_l0 dX6_type_2 (fun H locs hP hD hS => ?_)
  rw [mW_f0] at hP hD
  refine lv_iload_n hx hb dX6_type_5 rfl (lv_at hl 1 rfl) ?_
  refine lv_if_lt (tgt := 39) hx hb dX6_type_6 (by decide) (fun h1 => ?_) (fun h1 => ?_)
  ·
    rw [if_pos h1] at hE
    refine lv_iconst (v := 0) hx hb dX6_type_39 (by decide) ?_
    obtain ⟨rfl, rfl⟩ := hE
    exact en_i F hS _ () (by rfl) rfl hP hD (Nat.le_refl _) (Nat.le_refl _) dX6_type_40
  ·
    rw [if_neg h1] at hE
    refine lv_iload_n hx hb dX6_type_9 rfl (lv_at hl 1 rfl) ?_
    refine lv_iconst (v := 2) hx hb dX6_type_10 (by decide) ?_
    refine lv_icmp_gt (tgt := 39) hx hb dX6_type_11 (by decide) (fun h2 => ?_) (fun h2 => ?_)
    ·
      rw [if_pos h2] at hE
      refine lv_iconst (v := 0) hx hb dX6_type_39 (by decide) ?_
      obtain ⟨rfl, rfl⟩ := hE
      exact en_i F hS _ () (by rfl) rfl hP hD (Nat.le_refl _) (Nat.le_refl _) dX6_type_40
    ·
      rw [if_neg h2] at hE
      refine lv_iload_n hx hb dX6_type_14 rfl (lv_at hl 2 rfl) ?_
      refine lv_bipush (v := 32) hx hb dX6_type_15 (by decide) ?_
      refine lv_icmp_lt (tgt := 39) hx hb dX6_type_17 (by decide) (fun h3 => ?_) (fun h3 => ?_)
      ·
        rw [if_pos h3] at hE
        refine lv_iconst (v := 0) hx hb dX6_type_39 (by decide) ?_
        obtain ⟨rfl, rfl⟩ := hE
        exact en_i F hS _ () (by rfl) rfl hP hD (Nat.le_refl _) (Nat.le_refl _) dX6_type_40
      ·
        rw [if_neg h3] at hE
        refine lv_iload_n hx hb dX6_type_20 rfl (lv_at hl 2 rfl) ?_
        refine lv_bipush (v := 126) hx hb dX6_type_21 (by decide) ?_
        refine lv_icmp_gt (tgt := 39) hx hb dX6_type_23 (by decide) (fun h4 => ?_) (fun h4 => ?_)
        ·
          rw [if_pos h4] at hE
          refine lv_iconst (v := 0) hx hb dX6_type_39 (by decide) ?_
          obtain ⟨rfl, rfl⟩ := hE
          exact en_i F hS _ () (by rfl) rfl hP hD (Nat.le_refl _) (Nat.le_refl _) dX6_type_40
        ·
          rw [if_neg h4] at hE
          refine lv_aload_n hx hb dX6_type_26 rfl (lv_at hl 0 rfl) ?_
          refine va_get (D := G.1) (ci := 6) (C := RX6) (T := TX6) (N := 48) hx hb hts inX6 hown hK.1 hP 0 mW_0 rfl 2 (by decide) (hts _ w_848) (fun _ h9 => h9) mF_2 dX6_type_27 ?_
          refine lv_iload_n hx hb dX6_type_30 rfl (lv_at hl 1 rfl) ?_
          obtain ⟨hin, hE⟩ := hE
          refine va_iald (D := G.1) hx hb hK.1 hP 2 0 mW_g2 rfl hin dX6_type_31 ?_
          refine tp_i (R.2.1 2 a1.toNatClampNeg) rfl ?_
          refine lv_iload_n hx hb dX6_type_32 rfl (lv_at hl 1 rfl) ?_
          obtain ⟨r5, hg, hE⟩ := hE
          refine kp_i (va_runS (As := [.int a1]) (rest := [.int (R.2.1 2 a1.toNatClampNeg)]) F.1 (e_room l G a1 r5 hg _) (va_cwS 1 hts (aw_S w_1000 w_1001 w_6 w_1002) rfl rfl rfl (by decide +kernel) ⟨by decide, by decide⟩) ⟨cS_blind, cS_pre va_P0 (va_D0 (A := A)) hK⟩ rfl rfl hl.1 rfl (lv_room (Nat.le_of_ble_eq_true rfl)) dX6_type_33 ⟨Nat.le_refl _, Nat.le_refl _⟩) (fun r9 hp => ?_)
          have hp := hp.symm; subst hp
          refine lv_icmp_ne (tgt := 41) hx hb dX6_type_36 (by decide) (fun h6 => ?_) (fun h6 => ?_)
          ·
            rw [if_neg h6] at hE
            refine lv_aload_n hx hb dX6_type_41 rfl (lv_at hl 0 rfl) ?_
            refine va_get (D := G.1) (ci := 6) (C := RX6) (T := TX6) (N := 48) hx hb hts inX6 hown hK.1 hP 0 mW_0 rfl 1 (by decide) (hts _ w_847) (fun _ h9 => h9) mF_1 dX6_type_42 ?_
            refine lv_bipush (v := 14) hx hb dX6_type_45 (by decide) ?_
            refine lv_iload_n hx hb dX6_type_47 rfl (lv_at hl 1 rfl) ?_
            refine lv_imul hx hb dX6_type_48 ?_
            refine lv_aload_n hx hb dX6_type_49 rfl (lv_at hl 0 rfl) ?_
            refine va_get (D := G.1) (ci := 6) (C := RX6) (T := TX6) (N := 48) hx hb hts inX6 hown hK.1 hP 0 mW_0 rfl 2 (by decide) (hts _ w_848) (fun _ h9 => h9) mF_2 dX6_type_50 ?_
            refine lv_iload_n hx hb dX6_type_53 rfl (lv_at hl 1 rfl) ?_
            obtain ⟨hin, hE⟩ := hE
            refine va_iald (D := G.1) hx hb hK.1 hP 2 0 mW_g2 rfl hin dX6_type_54 ?_
            refine tp_i (R.2.1 2 a1.toNatClampNeg) rfl ?_
            refine lv_iadd hx hb dX6_type_55 ?_
            refine lv_iload_n hx hb dX6_type_56 rfl (lv_at hl 2 rfl) ?_
            obtain ⟨hin, hE⟩ := hE
            refine va_iast (D := G.1) hx hb hK.1 hP hD hS 1 0 mW_g1 rfl hin dX6_type_57 (fun H locs hP hD hS => ?_)
            rw [mW_a1] at hP hD
            refine lv_aload_n hx hb dX6_type_58 rfl (lv_at hl 0 rfl) ?_
            refine va_get (D := G.1) (ci := 6) (C := RX6) (T := TX6) (N := 48) hx hb hts inX6 hown hK.1 hP 0 mW_0 rfl 2 (by decide) (hts _ w_848) (fun _ h9 => h9) mF_2 dX6_type_59 ?_
            refine lv_iload_n hx hb dX6_type_62 rfl (lv_at hl 1 rfl) ?_
            refine lv_dup2_11 hx hb dX6_type_63 rfl rfl ?_
            obtain ⟨hin, hE⟩ := hE
            refine va_iald (D := G.1) hx hb hK.1 hP 2 0 mW_g2 rfl hin dX6_type_64 ?_
            refine tp_i (R.2.1 2 a1.toNatClampNeg) rfl ?_
            refine lv_iconst (v := 1) hx hb dX6_type_65 (by decide) ?_
            refine lv_iadd hx hb dX6_type_66 ?_
            obtain ⟨hin, hE⟩ := hE
            refine va_iast (D := G.1) hx hb hK.1 hP hD hS 2 0 mW_g2 rfl hin dX6_type_67 (fun H locs hP hD hS => ?_)
            rw [mW_a2] at hP hD
            refine lv_iload_n hx hb dX6_type_68 rfl (lv_at hl 1 rfl) ?_
            refine lv_iconst (v := 1) hx hb dX6_type_69 (by decide) ?_
            refine lv_icmp_ne (tgt := 78) hx hb dX6_type_70 (by decide) (fun h7 => ?_) (fun h7 => ?_)
            ·
              rw [if_neg h7] at hE
              refine lv_iconst (v := 1) hx hb dX6_type_78 (by decide) ?_
              obtain ⟨rfl, rfl⟩ := hE
              exact en_i F hS _ () (by rfl) rfl hP hD (Nat.le_refl _) (Nat.le_refl _) dX6_type_79
            ·
              rw [if_pos h7] at hE
              refine lv_aload_n hx hb dX6_type_73 rfl (lv_at hl 0 rfl) ?_
              refine lv_iconst (v := 0) hx hb dX6_type_74 (by decide) ?_
              refine va_put (D := G.1) (ci := 6) (v := .int 0) (ty := .boolean) (C := RX6) (T := TX6) (N := 48) hx hb hts inX6 tyX6 tyX6_ok nmX6 hown hK.1 hP hD hS 0 mW_0 rfl 41 (by decide) (hts _ w_887) (fun _ h9 => h9) rfl (by decide +kernel) rfl rfl mF_l41 dX6_type_75 (fun H locs hP hD hS => ?_)
              rw [mW_f41] at hP hD
              refine lv_iconst (v := 1) hx hb dX6_type_78 (by decide) ?_
              obtain ⟨rfl, rfl⟩ := hE
              exact en_i F hS _ () (by rfl) rfl hP hD (Nat.le_refl _) (Nat.le_refl _) dX6_type_79
          ·
            rw [if_pos h6] at hE
            refine lv_iconst (v := 0) hx hb dX6_type_39 (by decide) ?_
            obtain ⟨rfl, rfl⟩ := hE
            exact en_i F hS _ () (by rfl) rfl hP hD (Nat.le_refl _) (Nat.le_refl _) dX6_type_40


def E_clear (R : RS) (a1 : Int32) (R' : RS) (r : Int32) : Prop := if a1 < 0 then (R' = (mf R 0 0) ∧ r = 0) else (if a1 ≤ 2 then (vp_in a1 3 ∧ (if a1 = 1 then (R' = (mf (ma (mf R 0 0) 2 a1.toNatClampNeg 0) 41 0) ∧ r = 1) else (R' = (ma (mf R 0 0) 2 a1.toNatClampNeg 0) ∧ r = 1))) else (R' = (mf R 0 0) ∧ r = 0))
set_option maxHeartbeats 4000000 in
set_option maxRecDepth 100000 in
theorem e_clear (l : Launch) (G : PG) (h : Nat) (q : Nat → Nat) (R : RS) (a1 : Int32) (R' : RS) (r : Int32) (hE : E_clear R a1 R' r) : Ci l yX6_clear (Cond.code yX6_clear cX6_clear 2 (some .boolean) :: aW) { frames := 0, cells := 0, slots := 0, locals := 0 } G (mW G h q R) [.ref h, .int a1] (fun (r9 : Int32) (_ : Unit) => r9 = r) (fun (_ : Unit) => mW G h q R') 0 0 := by
  refine ofB (y := yX6_clear) (G := G) (cc := cX6_clear) (maxL := 2) (ret := (some .boolean)) (Qc := fun A => va_Qi (fun (r9 : Int32) (_ : Unit) => r9 = r) (oB G A (fun (_ : Unit) => mW G h q R')) A) (by decide) rfl ?_
  intro p e s m below meth c A F hK hA hP hD
  have hS : va_S A s.heap s.heap [] := va_S.rf
  have hx := F.1.1; have hb := F.1.2.1; have hml := F.1.2.2.1; have hts := F.1.2.2.2.2
  have hown : s.vm.findClass RX6 = some m.cls := F.1.2.2.2.1
  have hl := lv_entry ([.ref h, .int a1]) (n := 2) (Nat.le_of_ble_eq_true rfl)
  rw [lg_entry_eq]
  generalize (lg_sl ([.ref h, .int a1]) ++ List.replicate (2 - (lg_sl ([.ref h, .int a1])).length) Slot.unset).toArray = ls at hl ⊢
  have hl : lv_has ls 2 [(0, .ref h), (1, .int a1)] := hl
  unfold E_clear at hE
  refine lv_aload_n hx hb dX6_clear_0 rfl (lv_at hl 0 rfl) ?_
  refine lv_iconst (v := 0) hx hb dX6_clear_1 (by decide) ?_
  refine va_put (D := G.1) (ci := 6) (v := .int 0) (ty := .int) (C := RX6) (T := TX6) (N := 48) hx hb hts inX6 tyX6 tyX6_ok nmX6 hown hK.1 hP hD hS 0 mW_0 rfl 0 (by decide) (hts _ w_846) (fun _ h9 => h9) rfl (by decide +kernel) rfl rfl mF_l0 dX6_clear_2 (fun H locs hP hD hS => ?_)
  rw [mW_f0] at hP hD
  refine lv_iload_n hx hb dX6_clear_5 rfl (lv_at hl 1 rfl) ?_
  refine lv_if_lt (tgt := 14) hx hb dX6_clear_6 (by decide) (fun h1 => ?_) (fun h1 => ?_)
  ·
    rw [if_pos h1] at hE
    refine lv_iconst (v := 0) hx hb dX6_clear_14 (by decide) ?_
    obtain ⟨rfl, rfl⟩ := hE
    exact en_i F hS _ () (by rfl) rfl hP hD (Nat.le_refl _) (Nat.le_refl _) dX6_clear_15
  ·
    rw [if_neg h1] at hE
    refine lv_iload_n hx hb dX6_clear_9 rfl (lv_at hl 1 rfl) ?_
    refine lv_iconst (v := 2) hx hb dX6_clear_10 (by decide) ?_
    refine lv_icmp_le (tgt := 16) hx hb dX6_clear_11 (by decide) (fun h2 => ?_) (fun h2 => ?_)
    ·
      rw [if_pos h2] at hE
      refine lv_aload_n hx hb dX6_clear_16 rfl (lv_at hl 0 rfl) ?_
      refine va_get (D := G.1) (ci := 6) (C := RX6) (T := TX6) (N := 48) hx hb hts inX6 hown hK.1 hP 0 mW_0 rfl 2 (by decide) (hts _ w_848) (fun _ h9 => h9) mF_2 dX6_clear_17 ?_
      refine lv_iload_n hx hb dX6_clear_20 rfl (lv_at hl 1 rfl) ?_
      refine lv_iconst (v := 0) hx hb dX6_clear_21 (by decide) ?_
      obtain ⟨hin, hE⟩ := hE
      refine va_iast (D := G.1) hx hb hK.1 hP hD hS 2 0 mW_g2 rfl hin dX6_clear_22 (fun H locs hP hD hS => ?_)
      rw [mW_a2] at hP hD
      refine lv_iload_n hx hb dX6_clear_23 rfl (lv_at hl 1 rfl) ?_
      refine lv_iconst (v := 1) hx hb dX6_clear_24 (by decide) ?_
      refine lv_icmp_ne (tgt := 33) hx hb dX6_clear_25 (by decide) (fun h3 => ?_) (fun h3 => ?_)
      ·
        rw [if_neg h3] at hE
        refine lv_iconst (v := 1) hx hb dX6_clear_33 (by decide) ?_
        obtain ⟨rfl, rfl⟩ := hE
        exact en_i F hS _ () (by rfl) rfl hP hD (Nat.le_refl _) (Nat.le_refl _) dX6_clear_34
      ·
        rw [if_pos h3] at hE
        refine lv_aload_n hx hb dX6_clear_28 rfl (lv_at hl 0 rfl) ?_
        refine lv_iconst (v := 0) hx hb dX6_clear_29 (by decide) ?_
        refine va_put (D := G.1) (ci := 6) (v := .int 0) (ty := .boolean) (C := RX6) (T := TX6) (N := 48) hx hb hts inX6 tyX6 tyX6_ok nmX6 hown hK.1 hP hD hS 0 mW_0 rfl 41 (by decide) (hts _ w_887) (fun _ h9 => h9) rfl (by decide +kernel) rfl rfl mF_l41 dX6_clear_30 (fun H locs hP hD hS => ?_)
        rw [mW_f41] at hP hD
        refine lv_iconst (v := 1) hx hb dX6_clear_33 (by decide) ?_
        obtain ⟨rfl, rfl⟩ := hE
        exact en_i F hS _ () (by rfl) rfl hP hD (Nat.le_refl _) (Nat.le_refl _) dX6_clear_34
    ·
      rw [if_neg h2] at hE
      refine lv_iconst (v := 0) hx hb dX6_clear_14 (by decide) ?_
      obtain ⟨rfl, rfl⟩ := hE
      exact en_i F hS _ () (by rfl) rfl hP hD (Nat.le_refl _) (Nat.le_refl _) dX6_clear_15


def E_length (R : RS) (a1 : Int32) (R' : RS) (r : Int32) : Prop := if a1 < 0 then (R' = (mf R 0 0) ∧ r = (-1)) else (if a1 ≤ 2 then (vp_in a1 3 ∧ (R' = (mf R 0 0) ∧ r = (R.2.1 2 a1.toNatClampNeg))) else (R' = (mf R 0 0) ∧ r = (-1)))
set_option maxHeartbeats 4000000 in
set_option maxRecDepth 100000 in
theorem e_length (l : Launch) (G : PG) (h : Nat) (q : Nat → Nat) (R : RS) (a1 : Int32) (R' : RS) (r : Int32) (hE : E_length R a1 R' r) : Ci l yX6_length (Cond.code yX6_length cX6_length 2 (some .int) :: aW) { frames := 0, cells := 0, slots := 0, locals := 0 } G (mW G h q R) [.ref h, .int a1] (fun (r9 : Int32) (_ : Unit) => r9 = r) (fun (_ : Unit) => mW G h q R') 0 0 := by
  refine ofB (y := yX6_length) (G := G) (cc := cX6_length) (maxL := 2) (ret := (some .int)) (Qc := fun A => va_Qi (fun (r9 : Int32) (_ : Unit) => r9 = r) (oB G A (fun (_ : Unit) => mW G h q R')) A) (by decide) rfl ?_
  intro p e s m below meth c A F hK hA hP hD
  have hS : va_S A s.heap s.heap [] := va_S.rf
  have hx := F.1.1; have hb := F.1.2.1; have hml := F.1.2.2.1; have hts := F.1.2.2.2.2
  have hown : s.vm.findClass RX6 = some m.cls := F.1.2.2.2.1
  have hl := lv_entry ([.ref h, .int a1]) (n := 2) (Nat.le_of_ble_eq_true rfl)
  rw [lg_entry_eq]
  generalize (lg_sl ([.ref h, .int a1]) ++ List.replicate (2 - (lg_sl ([.ref h, .int a1])).length) Slot.unset).toArray = ls at hl ⊢
  have hl : lv_has ls 2 [(0, .ref h), (1, .int a1)] := hl
  unfold E_length at hE
  refine lv_aload_n hx hb dX6_length_0 rfl (lv_at hl 0 rfl) ?_
  refine lv_iconst (v := 0) hx hb dX6_length_1 (by decide) ?_
  refine va_put (D := G.1) (ci := 6) (v := .int 0) (ty := .int) (C := RX6) (T := TX6) (N := 48) hx hb hts inX6 tyX6 tyX6_ok nmX6 hown hK.1 hP hD hS 0 mW_0 rfl 0 (by decide) (hts _ w_846) (fun _ h9 => h9) rfl (by decide +kernel) rfl rfl mF_l0 dX6_length_2 (fun H locs hP hD hS => ?_)
  rw [mW_f0] at hP hD
  refine lv_iload_n hx hb dX6_length_5 rfl (lv_at hl 1 rfl) ?_
  refine lv_if_lt (tgt := 14) hx hb dX6_length_6 (by decide) (fun h1 => ?_) (fun h1 => ?_)
  ·
    rw [if_pos h1] at hE
    refine lv_iconst (v := (-1)) hx hb dX6_length_14 (by decide) ?_
    refine lv_goto (tgt := 24) hx hb dX6_length_15 (by decide) ?_
    obtain ⟨rfl, rfl⟩ := hE
    exact en_i F hS _ () (by rfl) rfl hP hD (Nat.le_refl _) (Nat.le_refl _) dX6_length_24
  ·
    rw [if_neg h1] at hE
    refine lv_iload_n hx hb dX6_length_9 rfl (lv_at hl 1 rfl) ?_
    refine lv_iconst (v := 2) hx hb dX6_length_10 (by decide) ?_
    refine lv_icmp_le (tgt := 18) hx hb dX6_length_11 (by decide) (fun h2 => ?_) (fun h2 => ?_)
    ·
      rw [if_pos h2] at hE
      refine lv_aload_n hx hb dX6_length_18 rfl (lv_at hl 0 rfl) ?_
      refine va_get (D := G.1) (ci := 6) (C := RX6) (T := TX6) (N := 48) hx hb hts inX6 hown hK.1 hP 0 mW_0 rfl 2 (by decide) (hts _ w_848) (fun _ h9 => h9) mF_2 dX6_length_19 ?_
      refine lv_iload_n hx hb dX6_length_22 rfl (lv_at hl 1 rfl) ?_
      obtain ⟨hin, hE⟩ := hE
      refine va_iald (D := G.1) hx hb hK.1 hP 2 0 mW_g2 rfl hin dX6_length_23 ?_
      refine tp_i (R.2.1 2 a1.toNatClampNeg) rfl ?_
      obtain ⟨rfl, rfl⟩ := hE
      exact en_i F hS _ () (by rfl) rfl hP hD (Nat.le_refl _) (Nat.le_refl _) dX6_length_24
    ·
      rw [if_neg h2] at hE
      refine lv_iconst (v := (-1)) hx hb dX6_length_14 (by decide) ?_
      refine lv_goto (tgt := 24) hx hb dX6_length_15 (by decide) ?_
      obtain ⟨rfl, rfl⟩ := hE
      exact en_i F hS _ () (by rfl) rfl hP hD (Nat.le_refl _) (Nat.le_refl _) dX6_length_24

theorem dX6_peek_0 : decode cX6_peek 0 = .ok (.aload_n 0, 1) := by decide +kernel
theorem dX6_peek_1 : decode cX6_peek 1 = .ok (.getfield 114, 3) := by decide +kernel
theorem dX6_peek_4 : decode cX6_peek 4 = .ok (.iload_n 1, 1) := by decide +kernel
theorem dX6_peek_5 : decode cX6_peek 5 = .ok (.iadd, 1) := by decide +kernel
theorem dX6_peek_6 : decode cX6_peek 6 = .ok (.aload_n 0, 1) := by decide +kernel
theorem dX6_peek_7 : decode cX6_peek 7 = .ok (.getfield 13, 3) := by decide +kernel
theorem dX6_peek_10 : decode cX6_peek 10 = .ok (.iconst 0, 1) := by decide +kernel
theorem dX6_peek_11 : decode cX6_peek 11 = .ok (.iaload, 1) := by decide +kernel
theorem dX6_peek_12 : decode cX6_peek 12 = .ok (.if_icmp .ge 17, 3) := by decide +kernel
theorem dX6_peek_15 : decode cX6_peek 15 = .ok (.aload_n 0, 1) := by decide +kernel
theorem dX6_peek_16 : decode cX6_peek 16 = .ok (.getfield 7, 3) := by decide +kernel
theorem dX6_peek_19 : decode cX6_peek 19 = .ok (.aload_n 0, 1) := by decide +kernel
theorem dX6_peek_20 : decode cX6_peek 20 = .ok (.getfield 114, 3) := by decide +kernel
theorem dX6_peek_23 : decode cX6_peek 23 = .ok (.iload_n 1, 1) := by decide +kernel
theorem dX6_peek_24 : decode cX6_peek 24 = .ok (.iadd, 1) := by decide +kernel
theorem dX6_peek_25 : decode cX6_peek 25 = .ok (.iaload, 1) := by decide +kernel
theorem dX6_peek_26 : decode cX6_peek 26 = .ok (.goto 4, 3) := by decide +kernel
theorem dX6_peek_29 : decode cX6_peek 29 = .ok (.iconst 0, 1) := by decide +kernel
theorem dX6_peek_30 : decode cX6_peek 30 = .ok (.ireturn, 1) := by decide +kernel
def E_peek (R : RS) (a1 : Int32) (R' : RS) (r : Int32) : Prop := vp_in 0 3 ∧ (if (R.2.1 2 (0 : Int32).toNatClampNeg) ≤ ((R.1 17) + a1) then (R' = R ∧ r = 0) else (vp_in ((R.1 17) + a1) 42 ∧ (R' = R ∧ r = (R.2.1 1 ((R.1 17) + a1).toNatClampNeg))))
set_option maxHeartbeats 4000000 in
set_option maxRecDepth 100000 in
theorem e_peek (l : Launch) (G : PG) (h : Nat) (q : Nat → Nat) (R : RS) (a1 : Int32) (R' : RS) (r : Int32) (hE : E_peek R a1 R' r) : Ci l yX6_peek (Cond.code yX6_peek cX6_peek 2 (some .int) :: aW) { frames := 0, cells := 0, slots := 0, locals := 0 } G (mW G h q R) [.ref h, .int a1] (fun (r9 : Int32) (_ : Unit) => r9 = r) (fun (_ : Unit) => mW G h q R') 0 0 := by
  refine ofB (y := yX6_peek) (G := G) (cc := cX6_peek) (maxL := 2) (ret := (some .int)) (Qc := fun A => va_Qi (fun (r9 : Int32) (_ : Unit) => r9 = r) (oB G A (fun (_ : Unit) => mW G h q R')) A) (by decide) rfl ?_
  intro p e s m below meth c A F hK hA hP hD
  have hS : va_S A s.heap s.heap [] := va_S.rf
  have hx := F.1.1; have hb := F.1.2.1; have hml := F.1.2.2.1; have hts := F.1.2.2.2.2
  have hown : s.vm.findClass RX6 = some m.cls := F.1.2.2.2.1
  have hl := lv_entry ([.ref h, .int a1]) (n := 2) (Nat.le_of_ble_eq_true rfl)
  rw [lg_entry_eq]
  generalize (lg_sl ([.ref h, .int a1]) ++ List.replicate (2 - (lg_sl ([.ref h, .int a1])).length) Slot.unset).toArray = ls at hl ⊢
  have hl : lv_has ls 2 [(0, .ref h), (1, .int a1)] := hl
  unfold E_peek at hE
  refine lv_aload_n hx hb dX6_peek_0 rfl (lv_at hl 0 rfl) ?_
  refine va_get (D := G.1) (ci := 6) (C := RX6) (T := TX6) (N := 48) hx hb hts inX6 hown hK.1 hP 0 mW_0 rfl 17 (by decide) (hts _ w_863) (fun _ h9 => h9) mF_17 dX6_peek_1 ?_
  refine lv_iload_n hx hb dX6_peek_4 rfl (lv_at hl 1 rfl) ?_
  refine lv_iadd hx hb dX6_peek_5 ?_
  refine lv_aload_n hx hb dX6_peek_6 rfl (lv_at hl 0 rfl) ?_
  refine va_get (D := G.1) (ci := 6) (C := RX6) (T := TX6) (N := 48) hx hb hts inX6 hown hK.1 hP 0 mW_0 rfl 2 (by decide) (hts _ w_848) (fun _ h9 => h9) mF_2 dX6_peek_7 ?_
  refine lv_iconst (v := 0) hx hb dX6_peek_10 (by decide) ?_
  obtain ⟨hin, hE⟩ := hE
  refine va_iald (D := G.1) hx hb hK.1 hP 2 0 mW_g2 rfl hin dX6_peek_11 ?_
  refine lv_icmp_ge (tgt := 29) hx hb dX6_peek_12 (by decide) (fun h1 => ?_) (fun h1 => ?_)
  ·
    rw [if_pos h1] at hE
    refine lv_iconst (v := 0) hx hb dX6_peek_29 (by decide) ?_
    obtain ⟨rfl, rfl⟩ := hE
    exact en_i F hS _ () (by rfl) rfl hP hD (Nat.le_refl _) (Nat.le_refl _) dX6_peek_30
  ·
    rw [if_neg h1] at hE
    refine lv_aload_n hx hb dX6_peek_15 rfl (lv_at hl 0 rfl) ?_
    refine va_get (D := G.1) (ci := 6) (C := RX6) (T := TX6) (N := 48) hx hb hts inX6 hown hK.1 hP 0 mW_0 rfl 1 (by decide) (hts _ w_847) (fun _ h9 => h9) mF_1 dX6_peek_16 ?_
    refine lv_aload_n hx hb dX6_peek_19 rfl (lv_at hl 0 rfl) ?_
    refine va_get (D := G.1) (ci := 6) (C := RX6) (T := TX6) (N := 48) hx hb hts inX6 hown hK.1 hP 0 mW_0 rfl 17 (by decide) (hts _ w_863) (fun _ h9 => h9) mF_17 dX6_peek_20 ?_
    refine lv_iload_n hx hb dX6_peek_23 rfl (lv_at hl 1 rfl) ?_
    refine lv_iadd hx hb dX6_peek_24 ?_
    obtain ⟨hin, hE⟩ := hE
    refine va_iald (D := G.1) hx hb hK.1 hP 1 0 mW_g1 rfl hin dX6_peek_25 ?_
    refine lv_goto (tgt := 30) hx hb dX6_peek_26 (by decide) ?_
    obtain ⟨rfl, rfl⟩ := hE
    exact en_i F hS _ () (by rfl) rfl hP hD (Nat.le_refl _) (Nat.le_refl _) dX6_peek_30


def E_create (R : RS) (a1 : Int32) (R' : RS) (r : Int32) : Prop := vp_in ((48 - (R.1 3)) + (R.1 4)) 96 ∧ (vp_in ((48 - (R.1 3)) + (R.1 4)) 96 ∧ (vp_in ((48 - (R.1 3)) + (R.1 4)) 96 ∧ (vp_in ((48 - (R.1 3)) + (R.1 4)) 96 ∧ (vp_in ((48 - (R.1 3)) + (R.1 4)) 96 ∧ (vp_in ((48 - (R.1 3)) + (R.1 4)) 96 ∧ (vp_in ((48 - (R.1 3)) + (R.1 4)) 96 ∧ (vp_in ((48 - (R.1 3)) + (R.1 4)) 96 ∧ (R' = (ml (ml (ma (ma (ma (ma (ma (ma (mf R 4 ((R.1 4) + 1)) 8 (((48 - (R.1 3)) + (R.1 4)).toNatClampNeg) a1) 9 (((48 - (R.1 3)) + (R.1 4)).toNatClampNeg) 0) 10 (((48 - (R.1 3)) + (R.1 4)).toNatClampNeg) 0) 11 (((48 - (R.1 3)) + (R.1 4)).toNatClampNeg) 0) 12 (((48 - (R.1 3)) + (R.1 4)).toNatClampNeg) (-1)) 13 (((48 - (R.1 3)) + (R.1 4)).toNatClampNeg) (-1)) 14 (((48 - (R.1 3)) + (R.1 4)).toNatClampNeg) 0) 15 (((48 - (R.1 3)) + (R.1 4)).toNatClampNeg) 0) ∧ r = ((48 - (R.1 3)) + (R.1 4))))))))))
set_option maxHeartbeats 4000000 in
set_option maxRecDepth 100000 in
theorem e_create (l : Launch) (G : PG) (h : Nat) (q : Nat → Nat) (R : RS) (a1 : Int32) (R' : RS) (r : Int32) (hE : E_create R a1 R' r) : Ci l yX6_create (Cond.code yX6_create cX6_create 3 (some .int) :: aW) { frames := 0, cells := 0, slots := 0, locals := 0 } G (mW G h q R) [.ref h, .int a1] (fun (r9 : Int32) (_ : Unit) => r9 = r) (fun (_ : Unit) => mW G h q R') 0 0 := by
  refine ofB (y := yX6_create) (G := G) (cc := cX6_create) (maxL := 3) (ret := (some .int)) (Qc := fun A => va_Qi (fun (r9 : Int32) (_ : Unit) => r9 = r) (oB G A (fun (_ : Unit) => mW G h q R')) A) (by decide) rfl ?_
  intro p e s m below meth c A F hK hA hP hD
  have hS : va_S A s.heap s.heap [] := va_S.rf
  have hx := F.1.1; have hb := F.1.2.1; have hml := F.1.2.2.1; have hts := F.1.2.2.2.2
  have hown : s.vm.findClass RX6 = some m.cls := F.1.2.2.2.1
  have hl := lv_entry ([.ref h, .int a1]) (n := 3) (Nat.le_of_ble_eq_true rfl)
  rw [lg_entry_eq]
  generalize (lg_sl ([.ref h, .int a1]) ++ List.replicate (3 - (lg_sl ([.ref h, .int a1])).length) Slot.unset).toArray = ls at hl ⊢
  have hl : lv_has ls 3 [(0, .ref h), (1, .int a1)] := hl
  unfold E_create at hE
  refine lv_bipush (v := 48) hx hb dX6_create_0 (by decide) ?_
  refine lv_aload_n hx hb dX6_create_2 rfl (lv_at hl 0 rfl) ?_
  refine va_get (D := G.1) (ci := 6) (C := RX6) (T := TX6) (N := 48) hx hb hts inX6 hown hK.1 hP 0 mW_0 rfl 3 (by decide) (hts _ w_849) (fun _ h9 => h9) mF_3 dX6_create_3 ?_
  refine lv_isub hx hb dX6_create_6 ?_
  refine lv_aload_n hx hb dX6_create_7 rfl (lv_at hl 0 rfl) ?_
  refine va_get (D := G.1) (ci := 6) (C := RX6) (T := TX6) (N := 48) hx hb hts inX6 hown hK.1 hP 0 mW_0 rfl 4 (by decide) (hts _ w_850) (fun _ h9 => h9) mF_4 dX6_create_8 ?_
  refine lv_iadd hx hb dX6_create_11 ?_
  refine lv_istore_n hx hb dX6_create_12 rfl hl (by decide) rfl (fun ls hl => ?_)
  have hl : lv_has ls 3 [(2, .int ((48 - (R.1 3)) + (R.1 4))), (0, .ref h), (1, .int a1)] := hl
  refine lv_aload_n hx hb dX6_create_13 rfl (lv_at hl 1 rfl) ?_
  refine lv_dup hx hb dX6_create_14 rfl ?_
  refine va_get (D := G.1) (ci := 6) (C := RX6) (T := TX6) (N := 48) hx hb hts inX6 hown hK.1 hP 0 mW_0 rfl 4 (by decide) (hts _ w_850) (fun _ h9 => h9) mF_4 dX6_create_15 ?_
  refine lv_iconst (v := 1) hx hb dX6_create_18 (by decide) ?_
  refine lv_iadd hx hb dX6_create_19 ?_
  refine va_put (D := G.1) (ci := 6) (v := .int ((R.1 4) + 1)) (ty := .int) (C := RX6) (T := TX6) (N := 48) hx hb hts inX6 tyX6 tyX6_ok nmX6 hown hK.1 hP hD hS 0 mW_0 rfl 4 (by decide) (hts _ w_850) (fun _ h9 => h9) rfl (by decide +kernel) rfl rfl mF_l4 dX6_create_20 (fun H locs hP hD hS => ?_)
  rw [mW_f4] at hP hD
  refine lv_aload_n hx hb dX6_create_23 rfl (lv_at hl 1 rfl) ?_
  refine va_get (D := G.1) (ci := 6) (C := RX6) (T := TX6) (N := 48) hx hb hts inX6 hown hK.1 hP 0 mW_0 rfl 8 (by decide) (hts _ w_854) (fun _ h9 => h9) mF_8 dX6_create_24 ?_
  refine lv_iload_n hx hb dX6_create_27 rfl (lv_at hl 0 rfl) ?_
  refine lv_iload_n hx hb dX6_create_28 rfl (lv_at hl 2 rfl) ?_
  obtain ⟨hin, hE⟩ := hE
  refine va_iast (D := G.1) hx hb hK.1 hP hD hS 3 0 mW_g8 rfl hin dX6_create_29 (fun H locs hP hD hS => ?_)
  rw [mW_a8] at hP hD
  refine lv_aload_n hx hb dX6_create_30 rfl (lv_at hl 1 rfl) ?_
  refine va_get (D := G.1) (ci := 6) (C := RX6) (T := TX6) (N := 48) hx hb hts inX6 hown hK.1 hP 0 mW_0 rfl 9 (by decide) (hts _ w_855) (fun _ h9 => h9) mF_9 dX6_create_31 ?_
  refine lv_iload_n hx hb dX6_create_34 rfl (lv_at hl 0 rfl) ?_
  refine lv_iconst (v := 0) hx hb dX6_create_35 (by decide) ?_
  obtain ⟨hin, hE⟩ := hE
  refine va_iast (D := G.1) hx hb hK.1 hP hD hS 4 0 mW_g9 rfl hin dX6_create_36 (fun H locs hP hD hS => ?_)
  rw [mW_a9] at hP hD
  refine lv_aload_n hx hb dX6_create_37 rfl (lv_at hl 1 rfl) ?_
  refine va_get (D := G.1) (ci := 6) (C := RX6) (T := TX6) (N := 48) hx hb hts inX6 hown hK.1 hP 0 mW_0 rfl 10 (by decide) (hts _ w_856) (fun _ h9 => h9) mF_10 dX6_create_38 ?_
  refine lv_iload_n hx hb dX6_create_41 rfl (lv_at hl 0 rfl) ?_
  refine lv_iconst (v := 0) hx hb dX6_create_42 (by decide) ?_
  obtain ⟨hin, hE⟩ := hE
  refine va_iast (D := G.1) hx hb hK.1 hP hD hS 5 0 mW_g10 rfl hin dX6_create_43 (fun H locs hP hD hS => ?_)
  rw [mW_a10] at hP hD
  refine lv_aload_n hx hb dX6_create_44 rfl (lv_at hl 1 rfl) ?_
  refine va_get (D := G.1) (ci := 6) (C := RX6) (T := TX6) (N := 48) hx hb hts inX6 hown hK.1 hP 0 mW_0 rfl 11 (by decide) (hts _ w_857) (fun _ h9 => h9) mF_11 dX6_create_45 ?_
  refine lv_iload_n hx hb dX6_create_48 rfl (lv_at hl 0 rfl) ?_
  refine lv_iconst (v := 0) hx hb dX6_create_49 (by decide) ?_
  obtain ⟨hin, hE⟩ := hE
  refine va_iast (D := G.1) hx hb hK.1 hP hD hS 6 0 mW_g11 rfl hin dX6_create_50 (fun H locs hP hD hS => ?_)
  rw [mW_a11] at hP hD
  refine lv_aload_n hx hb dX6_create_51 rfl (lv_at hl 1 rfl) ?_
  refine va_get (D := G.1) (ci := 6) (C := RX6) (T := TX6) (N := 48) hx hb hts inX6 hown hK.1 hP 0 mW_0 rfl 12 (by decide) (hts _ w_858) (fun _ h9 => h9) mF_12 dX6_create_52 ?_
  refine lv_iload_n hx hb dX6_create_55 rfl (lv_at hl 0 rfl) ?_
  refine lv_iconst (v := (-1)) hx hb dX6_create_56 (by decide) ?_
  obtain ⟨hin, hE⟩ := hE
  refine va_iast (D := G.1) hx hb hK.1 hP hD hS 7 0 mW_g12 rfl hin dX6_create_57 (fun H locs hP hD hS => ?_)
  rw [mW_a12] at hP hD
  refine lv_aload_n hx hb dX6_create_58 rfl (lv_at hl 1 rfl) ?_
  refine va_get (D := G.1) (ci := 6) (C := RX6) (T := TX6) (N := 48) hx hb hts inX6 hown hK.1 hP 0 mW_0 rfl 13 (by decide) (hts _ w_859) (fun _ h9 => h9) mF_13 dX6_create_59 ?_
  refine lv_iload_n hx hb dX6_create_62 rfl (lv_at hl 0 rfl) ?_
  refine lv_iconst (v := (-1)) hx hb dX6_create_63 (by decide) ?_
  obtain ⟨hin, hE⟩ := hE
  refine va_iast (D := G.1) hx hb hK.1 hP hD hS 8 0 mW_g13 rfl hin dX6_create_64 (fun H locs hP hD hS => ?_)
  rw [mW_a13] at hP hD
  refine lv_aload_n hx hb dX6_create_65 rfl (lv_at hl 1 rfl) ?_
  refine va_get (D := G.1) (ci := 6) (C := RX6) (T := TX6) (N := 48) hx hb hts inX6 hown hK.1 hP 0 mW_0 rfl 14 (by decide) (hts _ w_860) (fun _ h9 => h9) mF_14 dX6_create_66 ?_
  refine lv_iload_n hx hb dX6_create_69 rfl (lv_at hl 0 rfl) ?_
  refine lv_lconst (v := 0) hx hb dX6_create_70 (by decide) ?_
  obtain ⟨hin, hE⟩ := hE
  refine va_last (D := G.1) hx hb hK.1 hP hD hS 9 1 mW_g14 rfl hin dX6_create_71 (fun H locs hP hD hS => ?_)
  rw [mW_a14] at hP hD
  refine lv_aload_n hx hb dX6_create_72 rfl (lv_at hl 1 rfl) ?_
  refine va_get (D := G.1) (ci := 6) (C := RX6) (T := TX6) (N := 48) hx hb hts inX6 hown hK.1 hP 0 mW_0 rfl 15 (by decide) (hts _ w_861) (fun _ h9 => h9) mF_15 dX6_create_73 ?_
  refine lv_iload_n hx hb dX6_create_76 rfl (lv_at hl 0 rfl) ?_
  refine lv_lconst (v := 0) hx hb dX6_create_77 (by decide) ?_
  obtain ⟨hin, hE⟩ := hE
  refine va_last (D := G.1) hx hb hK.1 hP hD hS 10 1 mW_g15 rfl hin dX6_create_78 (fun H locs hP hD hS => ?_)
  rw [mW_a15] at hP hD
  refine lv_iload_n hx hb dX6_create_79 rfl (lv_at hl 0 rfl) ?_
  obtain ⟨rfl, rfl⟩ := hE
  exact en_i F hS _ () (by rfl) rfl hP hD (Nat.le_refl _) (Nat.le_refl _) dX6_create_80

theorem dX6_newSequence_42 : decode cX6_newSequence 42 = .ok (.aload_n 0, 1) := by decide +kernel
theorem dX6_newSequence_43 : decode cX6_newSequence 43 = .ok (.getfield 31, 3) := by decide +kernel
theorem dX6_newSequence_46 : decode cX6_newSequence 46 = .ok (.aload_n 0, 1) := by decide +kernel
theorem dX6_newSequence_47 : decode cX6_newSequence 47 = .ok (.getfield 47, 3) := by decide +kernel
theorem dX6_newSequence_50 : decode cX6_newSequence 50 = .ok (.aload_n 0, 1) := by decide +kernel
theorem dX6_newSequence_51 : decode cX6_newSequence 51 = .ok (.getfield 126, 3) := by decide +kernel
theorem dX6_newSequence_54 : decode cX6_newSequence 54 = .ok (.iaload, 1) := by decide +kernel
theorem dX6_newSequence_55 : decode cX6_newSequence 55 = .ok (.iload_n 1, 1) := by decide +kernel
theorem dX6_newSequence_56 : decode cX6_newSequence 56 = .ok (.iastore, 1) := by decide +kernel
def E_newSequence (R : RS)  (R' : RS) (r : Int32) : Prop := ∃ (R1 : RS) (r2 : Int32), E_create R 1 R1 r2 ∧ (vp_in (R1.1 16) 6 ∧ (vp_in (R1.2.1 19 (R1.1 16).toNatClampNeg) 96 ∧ (if (R1.2.1 12 (R1.2.1 19 (R1.1 16).toNatClampNeg).toNatClampNeg) = (-1) then (vp_in (R1.1 16) 6 ∧ (vp_in (R1.2.1 19 (R1.1 16).toNatClampNeg) 96 ∧ (vp_in (R1.1 16) 6 ∧ (vp_in (R1.1 16) 6 ∧ (R' = (ma (ma (ma R1 12 ((R1.2.1 19 (R1.1 16).toNatClampNeg).toNatClampNeg) r2) 20 ((R1.1 16).toNatClampNeg) r2) 21 ((R1.1 16).toNatClampNeg) (-1)) ∧ r = 0))))) else (vp_in (R1.1 16) 6 ∧ (vp_in (R1.2.1 20 (R1.1 16).toNatClampNeg) 96 ∧ (vp_in (R1.1 16) 6 ∧ (vp_in (R1.1 16) 6 ∧ (R' = (ma (ma (ma R1 13 ((R1.2.1 20 (R1.1 16).toNatClampNeg).toNatClampNeg) r2) 20 ((R1.1 16).toNatClampNeg) r2) 21 ((R1.1 16).toNatClampNeg) (-1)) ∧ r = 0))))))))
set_option maxHeartbeats 4000000 in
set_option maxRecDepth 100000 in
theorem e_newSequence (l : Launch) (G : PG) (h : Nat) (q : Nat → Nat) (R : RS)  (R' : RS) (r : Int32) (hE : E_newSequence R R' r) : Cv l yX6_newSequence (Cond.code yX6_newSequence cX6_newSequence 2 none :: aW) { frames := 1, cells := 0, slots := 0, locals := 22 } G (mW G h q R) [.ref h] (fun (_ : Unit) => True) (fun (_ : Unit) => mW G h q R') 0 0 := by
  refine ofB (y := yX6_newSequence) (G := G) (cc := cX6_newSequence) (maxL := 2) (ret := none) (Qc := fun A => va_Qv (fun (_ : Unit) => True) (oB G A (fun (_ : Unit) => mW G h q R')) A) (by decide) rfl ?_
  intro p e s m below meth c A F hK hA hP hD
  have hS : va_S A s.heap s.heap [] := va_S.rf
  have hx := F.1.1; have hb := F.1.2.1; have hml := F.1.2.2.1; have hts := F.1.2.2.2.2
  have hown : s.vm.findClass RX6 = some m.cls := F.1.2.2.2.1
  have hl := lv_entry ([.ref h]) (n := 2) (Nat.le_of_ble_eq_true rfl)
  rw [lg_entry_eq]
  generalize (lg_sl ([.ref h]) ++ List.replicate (2 - (lg_sl ([.ref h])).length) Slot.unset).toArray = ls at hl ⊢
  have hl : lv_has ls 2 [(0, .ref h)] := hl
  unfold E_newSequence at hE
  refine lv_aload_n hx hb dX6_newSequence_0 rfl (lv_at hl 0 rfl) ?_
  refine lv_iconst (v := 1) hx hb dX6_newSequence_1 (by decide) ?_
  obtain ⟨R1, r2, hg, hE⟩ := hE
  refine kA_i (va_runV (As := [.int 1]) (rest := []) F.1 (e_create l G h q R 1 R1 r2 hg _) (cwV 1 hts (aw_V w_1023 w_1025 ws_X6_create w_6 w_1026) rfl rfl rfl (by decide +kernel) ⟨by decide, by decide⟩) ⟨cS_blind, va_recv (q := (RX6, TX6, 48)) (ci := 6) (q0 := 0) hK.1 hP rfl mW_0, cS_pre hP hD hK⟩ rfl rfl hl.1 rfl (lv_room (Nat.le_of_ble_eq_true rfl)) dX6_newSequence_2 ⟨Nat.le_refl _, Nat.le_refl _⟩) hD hS hA (fun r9 u0 H locs hp hP hD hS => ?_)
  have hp := hp.symm; subst hp
  refine lv_istore_n hx hb dX6_newSequence_5 rfl hl (by decide) rfl (fun ls hl => ?_)
  have hl : lv_has ls 2 [(1, .int r2), (0, .ref h)] := hl
  refine lv_aload_n hx hb dX6_newSequence_6 rfl (lv_at hl 1 rfl) ?_
  refine va_get (D := G.1) (ci := 6) (C := RX6) (T := TX6) (N := 48) hx hb hts inX6 hown hK.1 hP 0 mW_0 rfl 12 (by decide) (hts _ w_858) (fun _ h9 => h9) mF_12 dX6_newSequence_7 ?_
  refine lv_aload_n hx hb dX6_newSequence_10 rfl (lv_at hl 1 rfl) ?_
  refine va_get (D := G.1) (ci := 6) (C := RX6) (T := TX6) (N := 48) hx hb hts inX6 hown hK.1 hP 0 mW_0 rfl 19 (by decide) (hts _ w_865) (fun _ h9 => h9) mF_19 dX6_newSequence_11 ?_
  refine lv_aload_n hx hb dX6_newSequence_14 rfl (lv_at hl 1 rfl) ?_
  refine va_get (D := G.1) (ci := 6) (C := RX6) (T := TX6) (N := 48) hx hb hts inX6 hown hK.1 hP 0 mW_0 rfl 16 (by decide) (hts _ w_862) (fun _ h9 => h9) mF_16 dX6_newSequence_15 ?_
  obtain ⟨hin, hE⟩ := hE
  refine va_iald (D := G.1) hx hb hK.1 hP 12 0 mW_g19 rfl hin dX6_newSequence_18 ?_
  obtain ⟨hin, hE⟩ := hE
  refine va_iald (D := G.1) hx hb hK.1 hP 7 0 mW_g12 rfl hin dX6_newSequence_19 ?_
  refine lv_iconst (v := (-1)) hx hb dX6_newSequence_20 (by decide) ?_
  refine lv_icmp_ne (tgt := 42) hx hb dX6_newSequence_21 (by decide) (fun h3 => ?_) (fun h3 => ?_)
  ·
    rw [if_neg h3] at hE
    refine lv_aload_n hx hb dX6_newSequence_42 rfl (lv_at hl 1 rfl) ?_
    refine va_get (D := G.1) (ci := 6) (C := RX6) (T := TX6) (N := 48) hx hb hts inX6 hown hK.1 hP 0 mW_0 rfl 13 (by decide) (hts _ w_859) (fun _ h9 => h9) mF_13 dX6_newSequence_43 ?_
    refine lv_aload_n hx hb dX6_newSequence_46 rfl (lv_at hl 1 rfl) ?_
    refine va_get (D := G.1) (ci := 6) (C := RX6) (T := TX6) (N := 48) hx hb hts inX6 hown hK.1 hP 0 mW_0 rfl 20 (by decide) (hts _ w_866) (fun _ h9 => h9) mF_20 dX6_newSequence_47 ?_
    refine lv_aload_n hx hb dX6_newSequence_50 rfl (lv_at hl 1 rfl) ?_
    refine va_get (D := G.1) (ci := 6) (C := RX6) (T := TX6) (N := 48) hx hb hts inX6 hown hK.1 hP 0 mW_0 rfl 16 (by decide) (hts _ w_862) (fun _ h9 => h9) mF_16 dX6_newSequence_51 ?_
    obtain ⟨hin, hE⟩ := hE
    refine va_iald (D := G.1) hx hb hK.1 hP 13 0 mW_g20 rfl hin dX6_newSequence_54 ?_
    refine lv_iload_n hx hb dX6_newSequence_55 rfl (lv_at hl 0 rfl) ?_
    obtain ⟨hin, hE⟩ := hE
    refine va_iast (D := G.1) hx hb hK.1 hP hD hS 8 0 mW_g13 rfl hin dX6_newSequence_56 (fun H locs hP hD hS => ?_)
    rw [mW_a13] at hP hD
    refine lv_aload_n hx hb dX6_newSequence_57 rfl (lv_at hl 1 rfl) ?_
    refine va_get (D := G.1) (ci := 6) (C := RX6) (T := TX6) (N := 48) hx hb hts inX6 hown hK.1 hP 0 mW_0 rfl 20 (by decide) (hts _ w_866) (fun _ h9 => h9) mF_20 dX6_newSequence_58 ?_
    refine lv_aload_n hx hb dX6_newSequence_61 rfl (lv_at hl 1 rfl) ?_
    refine va_get (D := G.1) (ci := 6) (C := RX6) (T := TX6) (N := 48) hx hb hts inX6 hown hK.1 hP 0 mW_0 rfl 16 (by decide) (hts _ w_862) (fun _ h9 => h9) mF_16 dX6_newSequence_62 ?_
    refine tp_i (R1.1 16) rfl ?_
    refine lv_iload_n hx hb dX6_newSequence_65 rfl (lv_at hl 0 rfl) ?_
    obtain ⟨hin, hE⟩ := hE
    refine va_iast (D := G.1) hx hb hK.1 hP hD hS 13 0 mW_g20 rfl hin dX6_newSequence_66 (fun H locs hP hD hS => ?_)
    rw [mW_a20] at hP hD
    refine lv_aload_n hx hb dX6_newSequence_67 rfl (lv_at hl 1 rfl) ?_
    refine va_get (D := G.1) (ci := 6) (C := RX6) (T := TX6) (N := 48) hx hb hts inX6 hown hK.1 hP 0 mW_0 rfl 21 (by decide) (hts _ w_867) (fun _ h9 => h9) mF_21 dX6_newSequence_68 ?_
    refine lv_aload_n hx hb dX6_newSequence_71 rfl (lv_at hl 1 rfl) ?_
    refine va_get (D := G.1) (ci := 6) (C := RX6) (T := TX6) (N := 48) hx hb hts inX6 hown hK.1 hP 0 mW_0 rfl 16 (by decide) (hts _ w_862) (fun _ h9 => h9) mF_16 dX6_newSequence_72 ?_
    refine tp_i (R1.1 16) rfl ?_
    refine lv_iconst (v := (-1)) hx hb dX6_newSequence_75 (by decide) ?_
    obtain ⟨hin, hE⟩ := hE
    refine va_iast (D := G.1) hx hb hK.1 hP hD hS 14 0 mW_g21 rfl hin dX6_newSequence_76 (fun H locs hP hD hS => ?_)
    rw [mW_a21] at hP hD
    obtain ⟨rfl, rfl⟩ := hE
    exact en_v F hS () trivial hP hD (Nat.le_refl _) (Nat.le_refl _) dX6_newSequence_77
  ·
    rw [if_pos h3] at hE
    refine lv_aload_n hx hb dX6_newSequence_24 rfl (lv_at hl 1 rfl) ?_
    refine va_get (D := G.1) (ci := 6) (C := RX6) (T := TX6) (N := 48) hx hb hts inX6 hown hK.1 hP 0 mW_0 rfl 12 (by decide) (hts _ w_858) (fun _ h9 => h9) mF_12 dX6_newSequence_25 ?_
    refine lv_aload_n hx hb dX6_newSequence_28 rfl (lv_at hl 1 rfl) ?_
    refine va_get (D := G.1) (ci := 6) (C := RX6) (T := TX6) (N := 48) hx hb hts inX6 hown hK.1 hP 0 mW_0 rfl 19 (by decide) (hts _ w_865) (fun _ h9 => h9) mF_19 dX6_newSequence_29 ?_
    refine lv_aload_n hx hb dX6_newSequence_32 rfl (lv_at hl 1 rfl) ?_
    refine va_get (D := G.1) (ci := 6) (C := RX6) (T := TX6) (N := 48) hx hb hts inX6 hown hK.1 hP 0 mW_0 rfl 16 (by decide) (hts _ w_862) (fun _ h9 => h9) mF_16 dX6_newSequence_33 ?_
    obtain ⟨hin, hE⟩ := hE
    refine va_iald (D := G.1) hx hb hK.1 hP 12 0 mW_g19 rfl hin dX6_newSequence_36 ?_
    refine lv_iload_n hx hb dX6_newSequence_37 rfl (lv_at hl 0 rfl) ?_
    obtain ⟨hin, hE⟩ := hE
    refine va_iast (D := G.1) hx hb hK.1 hP hD hS 7 0 mW_g12 rfl hin dX6_newSequence_38 (fun H locs hP hD hS => ?_)
    rw [mW_a12] at hP hD
    refine lv_goto (tgt := 57) hx hb dX6_newSequence_39 (by decide) ?_
    refine lv_aload_n hx hb dX6_newSequence_57 rfl (lv_at hl 1 rfl) ?_
    refine va_get (D := G.1) (ci := 6) (C := RX6) (T := TX6) (N := 48) hx hb hts inX6 hown hK.1 hP 0 mW_0 rfl 20 (by decide) (hts _ w_866) (fun _ h9 => h9) mF_20 dX6_newSequence_58 ?_
    refine lv_aload_n hx hb dX6_newSequence_61 rfl (lv_at hl 1 rfl) ?_
    refine va_get (D := G.1) (ci := 6) (C := RX6) (T := TX6) (N := 48) hx hb hts inX6 hown hK.1 hP 0 mW_0 rfl 16 (by decide) (hts _ w_862) (fun _ h9 => h9) mF_16 dX6_newSequence_62 ?_
    refine tp_i (R1.1 16) rfl ?_
    refine lv_iload_n hx hb dX6_newSequence_65 rfl (lv_at hl 0 rfl) ?_
    obtain ⟨hin, hE⟩ := hE
    refine va_iast (D := G.1) hx hb hK.1 hP hD hS 13 0 mW_g20 rfl hin dX6_newSequence_66 (fun H locs hP hD hS => ?_)
    rw [mW_a20] at hP hD
    refine lv_aload_n hx hb dX6_newSequence_67 rfl (lv_at hl 1 rfl) ?_
    refine va_get (D := G.1) (ci := 6) (C := RX6) (T := TX6) (N := 48) hx hb hts inX6 hown hK.1 hP 0 mW_0 rfl 21 (by decide) (hts _ w_867) (fun _ h9 => h9) mF_21 dX6_newSequence_68 ?_
    refine lv_aload_n hx hb dX6_newSequence_71 rfl (lv_at hl 1 rfl) ?_
    refine va_get (D := G.1) (ci := 6) (C := RX6) (T := TX6) (N := 48) hx hb hts inX6 hown hK.1 hP 0 mW_0 rfl 16 (by decide) (hts _ w_862) (fun _ h9 => h9) mF_16 dX6_newSequence_72 ?_
    refine tp_i (R1.1 16) rfl ?_
    refine lv_iconst (v := (-1)) hx hb dX6_newSequence_75 (by decide) ?_
    obtain ⟨hin, hE⟩ := hE
    refine va_iast (D := G.1) hx hb hK.1 hP hD hS 14 0 mW_g21 rfl hin dX6_newSequence_76 (fun H locs hP hD hS => ?_)
    rw [mW_a21] at hP hD
    obtain ⟨rfl, rfl⟩ := hE
    exact en_v F hS () trivial hP hD (Nat.le_refl _) (Nat.le_refl _) dX6_newSequence_77

theorem dX6_newChoice_39 : decode cX6_newChoice 39 = .ok (.aload_n 0, 1) := by decide +kernel
theorem dX6_newChoice_40 : decode cX6_newChoice 40 = .ok (.getfield 28, 3) := by decide +kernel
theorem dX6_newChoice_43 : decode cX6_newChoice 43 = .ok (.iload_n 1, 1) := by decide +kernel
theorem dX6_newChoice_44 : decode cX6_newChoice 44 = .ok (.aload_n 0, 1) := by decide +kernel
theorem dX6_newChoice_45 : decode cX6_newChoice 45 = .ok (.getfield 44, 3) := by decide +kernel
theorem dX6_newChoice_48 : decode cX6_newChoice 48 = .ok (.aload_n 0, 1) := by decide +kernel
theorem dX6_newChoice_49 : decode cX6_newChoice 49 = .ok (.getfield 126, 3) := by decide +kernel
theorem dX6_newChoice_52 : decode cX6_newChoice 52 = .ok (.iaload, 1) := by decide +kernel
theorem dX6_newChoice_53 : decode cX6_newChoice 53 = .ok (.iastore, 1) := by decide +kernel
def E_newChoice (R : RS) (a1 : Int32) (a2 : Int32) (R' : RS) (r : Int32) : Prop := vp_in (R.1 16) 6 ∧ (vp_in (R.1 16) 6 ∧ (∃ (R1 : RS) (r2 : Int32), E_create (ma (ma R 18 ((R.1 16).toNatClampNeg) a1) 22 ((R.1 16).toNatClampNeg) (vp_nar .boolean a2)) 0 R1 r2 ∧ (vp_in (R.1 16) 6 ∧ (if a1 = (-1) then (∃ R4 : RS, E_newSequence (ma R1 19 ((R.1 16).toNatClampNeg) r2) R4 0 ∧ (R' = R4 ∧ r = 0)) else (vp_in (R1.1 16) 6 ∧ (vp_in a1 96 ∧ (∃ R6 : RS, E_newSequence (ma (ma R1 19 ((R.1 16).toNatClampNeg) r2) 12 a1.toNatClampNeg ((ma R1 19 ((R.1 16).toNatClampNeg) r2).2.1 19 (R1.1 16).toNatClampNeg)) R6 0 ∧ (R' = R6 ∧ r = 0))))))))
set_option maxHeartbeats 4000000 in
set_option maxRecDepth 100000 in
theorem e_newChoice (l : Launch) (G : PG) (h : Nat) (q : Nat → Nat) (R : RS) (a1 : Int32) (a2 : Int32) (R' : RS) (r : Int32) (hE : E_newChoice R a1 a2 R' r) : Cv l yX6_newChoice (Cond.code yX6_newChoice cX6_newChoice 3 none :: aW) { frames := 2, cells := 0, slots := 0, locals := 43 } G (mW G h q R) [.ref h, .int a1, .int a2] (fun (_ : Unit) => True) (fun (_ : Unit) => mW G h q R') 0 0 := by
  refine ofB (y := yX6_newChoice) (G := G) (cc := cX6_newChoice) (maxL := 3) (ret := none) (Qc := fun A => va_Qv (fun (_ : Unit) => True) (oB G A (fun (_ : Unit) => mW G h q R')) A) (by decide) rfl ?_
  intro p e s m below meth c A F hK hA hP hD
  have hS : va_S A s.heap s.heap [] := va_S.rf
  have hx := F.1.1; have hb := F.1.2.1; have hml := F.1.2.2.1; have hts := F.1.2.2.2.2
  have hown : s.vm.findClass RX6 = some m.cls := F.1.2.2.2.1
  have hl := lv_entry ([.ref h, .int a1, .int a2]) (n := 3) (Nat.le_of_ble_eq_true rfl)
  rw [lg_entry_eq]
  generalize (lg_sl ([.ref h, .int a1, .int a2]) ++ List.replicate (3 - (lg_sl ([.ref h, .int a1, .int a2])).length) Slot.unset).toArray = ls at hl ⊢
  have hl : lv_has ls 3 [(0, .ref h), (1, .int a1), (2, .int a2)] := hl
  unfold E_newChoice at hE
  refine lv_aload_n hx hb dX6_newChoice_0 rfl (lv_at hl 0 rfl) ?_
  refine va_get (D := G.1) (ci := 6) (C := RX6) (T := TX6) (N := 48) hx hb hts inX6 hown hK.1 hP 0 mW_0 rfl 18 (by decide) (hts _ w_864) (fun _ h9 => h9) mF_18 dX6_newChoice_1 ?_
  refine lv_aload_n hx hb dX6_newChoice_4 rfl (lv_at hl 0 rfl) ?_
  refine va_get (D := G.1) (ci := 6) (C := RX6) (T := TX6) (N := 48) hx hb hts inX6 hown hK.1 hP 0 mW_0 rfl 16 (by decide) (hts _ w_862) (fun _ h9 => h9) mF_16 dX6_newChoice_5 ?_
  refine lv_iload_n hx hb dX6_newChoice_8 rfl (lv_at hl 1 rfl) ?_
  obtain ⟨hin, hE⟩ := hE
  refine va_iast (D := G.1) hx hb hK.1 hP hD hS 11 0 mW_g18 rfl hin dX6_newChoice_9 (fun H locs hP hD hS => ?_)
  rw [mW_a18] at hP hD
  refine lv_aload_n hx hb dX6_newChoice_10 rfl (lv_at hl 0 rfl) ?_
  refine va_get (D := G.1) (ci := 6) (C := RX6) (T := TX6) (N := 48) hx hb hts inX6 hown hK.1 hP 0 mW_0 rfl 22 (by decide) (hts _ w_868) (fun _ h9 => h9) mF_22 dX6_newChoice_11 ?_
  refine lv_aload_n hx hb dX6_newChoice_14 rfl (lv_at hl 0 rfl) ?_
  refine va_get (D := G.1) (ci := 6) (C := RX6) (T := TX6) (N := 48) hx hb hts inX6 hown hK.1 hP 0 mW_0 rfl 16 (by decide) (hts _ w_862) (fun _ h9 => h9) mF_16 dX6_newChoice_15 ?_
  refine tp_i (R.1 16) rfl ?_
  refine lv_iload_n hx hb dX6_newChoice_18 rfl (lv_at hl 2 rfl) ?_
  obtain ⟨hin, hE⟩ := hE
  refine va_zast (D := G.1) hx hb hK.1 hP hD hS 15 3 mW_g22 rfl hin dX6_newChoice_19 (fun H locs hP hD hS => ?_)
  rw [mW_a22] at hP hD
  refine lv_aload_n hx hb dX6_newChoice_20 rfl (lv_at hl 0 rfl) ?_
  refine va_get (D := G.1) (ci := 6) (C := RX6) (T := TX6) (N := 48) hx hb hts inX6 hown hK.1 hP 0 mW_0 rfl 19 (by decide) (hts _ w_865) (fun _ h9 => h9) mF_19 dX6_newChoice_21 ?_
  refine lv_aload_n hx hb dX6_newChoice_24 rfl (lv_at hl 0 rfl) ?_
  refine va_get (D := G.1) (ci := 6) (C := RX6) (T := TX6) (N := 48) hx hb hts inX6 hown hK.1 hP 0 mW_0 rfl 16 (by decide) (hts _ w_862) (fun _ h9 => h9) mF_16 dX6_newChoice_25 ?_
  refine tp_i (R.1 16) rfl ?_
  refine lv_aload_n hx hb dX6_newChoice_28 rfl (lv_at hl 0 rfl) ?_
  refine lv_iconst (v := 0) hx hb dX6_newChoice_29 (by decide) ?_
  obtain ⟨R1, r2, hg, hE⟩ := hE
  refine kA_i (va_runV (As := [.int 0]) (rest := [.int (R.1 16), .ref (q 19)]) F.1 (e_create l G h q (ma (ma R 18 ((R.1 16).toNatClampNeg) a1) 22 ((R.1 16).toNatClampNeg) (vp_nar .boolean a2)) 0 R1 r2 hg _) (cwV 1 hts (aw_V w_1023 w_1025 ws_X6_create w_6 w_1026) rfl rfl rfl (by decide +kernel) ⟨by decide, by decide⟩) ⟨cS_blind, va_recv (q := (RX6, TX6, 48)) (ci := 6) (q0 := 0) hK.1 hP rfl mW_0, cS_pre hP hD hK⟩ rfl rfl hl.1 rfl (lv_room (Nat.le_of_ble_eq_true rfl)) dX6_newChoice_30 ⟨Nat.le_refl _, Nat.le_refl _⟩) hD hS hA (fun r9 u0 H locs hp hP hD hS => ?_)
  have hp := hp.symm; subst hp
  obtain ⟨hin, hE⟩ := hE
  refine va_iast (D := G.1) hx hb hK.1 hP hD hS 12 0 mW_g19 rfl hin dX6_newChoice_33 (fun H locs hP hD hS => ?_)
  rw [mW_a19] at hP hD
  refine lv_iload_n hx hb dX6_newChoice_34 rfl (lv_at hl 1 rfl) ?_
  refine lv_iconst (v := (-1)) hx hb dX6_newChoice_35 (by decide) ?_
  refine lv_icmp_eq (tgt := 54) hx hb dX6_newChoice_36 (by decide) (fun h3 => ?_) (fun h3 => ?_)
  ·
    rw [if_pos h3] at hE
    refine lv_aload_n hx hb dX6_newChoice_54 rfl (lv_at hl 0 rfl) ?_
    obtain ⟨R4, hg, hE⟩ := hE
    refine kA_v (va_runV (As := []) (rest := []) F.1 (e_newSequence l G h q (ma R1 19 ((R.1 16).toNatClampNeg) r2) R4 0 hg _) (cwV 0 hts (aw_V w_1027 w_1029 ws_X6_newSequence w_6 w_1030) rfl rfl rfl (by decide +kernel) ⟨by decide, by decide⟩) ⟨cS_blind, va_recv (q := (RX6, TX6, 48)) (ci := 6) (q0 := 0) hK.1 hP rfl mW_0, cS_pre hP hD hK⟩ rfl rfl hl.1 rfl (lv_room (Nat.le_of_ble_eq_true rfl)) dX6_newChoice_55 ⟨Nat.le_refl _, Nat.le_refl _⟩) hD hS hA (fun u0 H locs hp hP hD hS => ?_)
    obtain ⟨rfl, rfl⟩ := hE
    exact en_v F hS () trivial hP hD (Nat.le_refl _) (Nat.le_refl _) dX6_newChoice_58
  ·
    rw [if_neg h3] at hE
    refine lv_aload_n hx hb dX6_newChoice_39 rfl (lv_at hl 0 rfl) ?_
    refine va_get (D := G.1) (ci := 6) (C := RX6) (T := TX6) (N := 48) hx hb hts inX6 hown hK.1 hP 0 mW_0 rfl 12 (by decide) (hts _ w_858) (fun _ h9 => h9) mF_12 dX6_newChoice_40 ?_
    refine lv_iload_n hx hb dX6_newChoice_43 rfl (lv_at hl 1 rfl) ?_
    refine lv_aload_n hx hb dX6_newChoice_44 rfl (lv_at hl 0 rfl) ?_
    refine va_get (D := G.1) (ci := 6) (C := RX6) (T := TX6) (N := 48) hx hb hts inX6 hown hK.1 hP 0 mW_0 rfl 19 (by decide) (hts _ w_865) (fun _ h9 => h9) mF_19 dX6_newChoice_45 ?_
    refine lv_aload_n hx hb dX6_newChoice_48 rfl (lv_at hl 0 rfl) ?_
    refine va_get (D := G.1) (ci := 6) (C := RX6) (T := TX6) (N := 48) hx hb hts inX6 hown hK.1 hP 0 mW_0 rfl 16 (by decide) (hts _ w_862) (fun _ h9 => h9) mF_16 dX6_newChoice_49 ?_
    refine tp_i (R1.1 16) rfl ?_
    obtain ⟨hin, hE⟩ := hE
    refine va_iald (D := G.1) hx hb hK.1 hP 12 0 mW_g19 rfl hin dX6_newChoice_52 ?_
    refine tp_i ((ma R1 19 ((R.1 16).toNatClampNeg) r2).2.1 19 (R1.1 16).toNatClampNeg) rfl ?_
    obtain ⟨hin, hE⟩ := hE
    refine va_iast (D := G.1) hx hb hK.1 hP hD hS 7 0 mW_g12 rfl hin dX6_newChoice_53 (fun H locs hP hD hS => ?_)
    rw [mW_a12] at hP hD
    refine lv_aload_n hx hb dX6_newChoice_54 rfl (lv_at hl 0 rfl) ?_
    obtain ⟨R6, hg, hE⟩ := hE
    refine kA_v (va_runV (As := []) (rest := []) F.1 (e_newSequence l G h q (ma (ma R1 19 ((R.1 16).toNatClampNeg) r2) 12 a1.toNatClampNeg ((ma R1 19 ((R.1 16).toNatClampNeg) r2).2.1 19 (R1.1 16).toNatClampNeg)) R6 0 hg _) (cwV 0 hts (aw_V w_1027 w_1029 ws_X6_newSequence w_6 w_1030) rfl rfl rfl (by decide +kernel) ⟨by decide, by decide⟩) ⟨cS_blind, va_recv (q := (RX6, TX6, 48)) (ci := 6) (q0 := 0) hK.1 hP rfl mW_0, cS_pre hP hD hK⟩ rfl rfl hl.1 rfl (lv_room (Nat.le_of_ble_eq_true rfl)) dX6_newChoice_55 ⟨Nat.le_refl _, Nat.le_refl _⟩) hD hS hA (fun u0 H locs hp hP hD hS => ?_)
    obtain ⟨rfl, rfl⟩ := hE
    exact en_v F hS () trivial hP hD (Nat.le_refl _) (Nat.le_refl _) dX6_newChoice_58

theorem dX6_append_0 : decode cX6_append 0 = .ok (.aload_n 0, 1) := by decide +kernel
theorem dX6_append_1 : decode cX6_append 1 = .ok (.getfield 50, 3) := by decide +kernel
theorem dX6_append_4 : decode cX6_append 4 = .ok (.aload_n 0, 1) := by decide +kernel
theorem dX6_append_5 : decode cX6_append 5 = .ok (.getfield 126, 3) := by decide +kernel
theorem dX6_append_8 : decode cX6_append 8 = .ok (.iaload, 1) := by decide +kernel
theorem dX6_append_9 : decode cX6_append 9 = .ok (.iconst (-1), 1) := by decide +kernel
theorem dX6_append_10 : decode cX6_append 10 = .ok (.if_icmp .ne 21, 3) := by decide +kernel
theorem dX6_append_13 : decode cX6_append 13 = .ok (.aload_n 0, 1) := by decide +kernel
theorem dX6_append_14 : decode cX6_append 14 = .ok (.getfield 28, 3) := by decide +kernel
theorem dX6_append_17 : decode cX6_append 17 = .ok (.aload_n 0, 1) := by decide +kernel
theorem dX6_append_18 : decode cX6_append 18 = .ok (.getfield 47, 3) := by decide +kernel
theorem dX6_append_21 : decode cX6_append 21 = .ok (.aload_n 0, 1) := by decide +kernel
theorem dX6_append_22 : decode cX6_append 22 = .ok (.getfield 126, 3) := by decide +kernel
theorem dX6_append_25 : decode cX6_append 25 = .ok (.iaload, 1) := by decide +kernel
theorem dX6_append_26 : decode cX6_append 26 = .ok (.iload_n 1, 1) := by decide +kernel
theorem dX6_append_27 : decode cX6_append 27 = .ok (.iastore, 1) := by decide +kernel
theorem dX6_append_28 : decode cX6_append 28 = .ok (.goto 18, 3) := by decide +kernel
theorem dX6_append_31 : decode cX6_append 31 = .ok (.aload_n 0, 1) := by decide +kernel
theorem dX6_append_32 : decode cX6_append 32 = .ok (.getfield 31, 3) := by decide +kernel
theorem dX6_append_35 : decode cX6_append 35 = .ok (.aload_n 0, 1) := by decide +kernel
theorem dX6_append_36 : decode cX6_append 36 = .ok (.getfield 50, 3) := by decide +kernel
theorem dX6_append_39 : decode cX6_append 39 = .ok (.aload_n 0, 1) := by decide +kernel
theorem dX6_append_40 : decode cX6_append 40 = .ok (.getfield 126, 3) := by decide +kernel
theorem dX6_append_43 : decode cX6_append 43 = .ok (.iaload, 1) := by decide +kernel
theorem dX6_append_44 : decode cX6_append 44 = .ok (.iload_n 1, 1) := by decide +kernel
theorem dX6_append_45 : decode cX6_append 45 = .ok (.iastore, 1) := by decide +kernel
theorem dX6_append_46 : decode cX6_append 46 = .ok (.aload_n 0, 1) := by decide +kernel
theorem dX6_append_47 : decode cX6_append 47 = .ok (.getfield 50, 3) := by decide +kernel
theorem dX6_append_50 : decode cX6_append 50 = .ok (.aload_n 0, 1) := by decide +kernel
theorem dX6_append_51 : decode cX6_append 51 = .ok (.getfield 126, 3) := by decide +kernel
theorem dX6_append_54 : decode cX6_append 54 = .ok (.iload_n 1, 1) := by decide +kernel
theorem dX6_append_55 : decode cX6_append 55 = .ok (.iastore, 1) := by decide +kernel
theorem dX6_append_56 : decode cX6_append 56 = .ok (.return_, 1) := by decide +kernel
def E_append (R : RS) (a1 : Int32) (R' : RS) (r : Int32) : Prop := vp_in (R.1 16) 6 ∧ (if (R.2.1 21 (R.1 16).toNatClampNeg) = (-1) then (vp_in (R.1 16) 6 ∧ (vp_in (R.2.1 20 (R.1 16).toNatClampNeg) 96 ∧ (vp_in (R.1 16) 6 ∧ (R' = (ma (ma R 12 ((R.2.1 20 (R.1 16).toNatClampNeg).toNatClampNeg) a1) 21 ((R.1 16).toNatClampNeg) a1) ∧ r = 0)))) else (vp_in (R.1 16) 6 ∧ (vp_in (R.2.1 21 (R.1 16).toNatClampNeg) 96 ∧ (vp_in (R.1 16) 6 ∧ (R' = (ma (ma R 13 ((R.2.1 21 (R.1 16).toNatClampNeg).toNatClampNeg) a1) 21 ((R.1 16).toNatClampNeg) a1) ∧ r = 0)))))
set_option maxHeartbeats 4000000 in
set_option maxRecDepth 100000 in
theorem e_append (l : Launch) (G : PG) (h : Nat) (q : Nat → Nat) (R : RS) (a1 : Int32) (R' : RS) (r : Int32) (hE : E_append R a1 R' r) : Cv l yX6_append (Cond.code yX6_append cX6_append 2 none :: aW) { frames := 0, cells := 0, slots := 0, locals := 0 } G (mW G h q R) [.ref h, .int a1] (fun (_ : Unit) => True) (fun (_ : Unit) => mW G h q R') 0 0 := by
  refine ofB (y := yX6_append) (G := G) (cc := cX6_append) (maxL := 2) (ret := none) (Qc := fun A => va_Qv (fun (_ : Unit) => True) (oB G A (fun (_ : Unit) => mW G h q R')) A) (by decide) rfl ?_
  intro p e s m below meth c A F hK hA hP hD
  have hS : va_S A s.heap s.heap [] := va_S.rf
  have hx := F.1.1; have hb := F.1.2.1; have hml := F.1.2.2.1; have hts := F.1.2.2.2.2
  have hown : s.vm.findClass RX6 = some m.cls := F.1.2.2.2.1
  have hl := lv_entry ([.ref h, .int a1]) (n := 2) (Nat.le_of_ble_eq_true rfl)
  rw [lg_entry_eq]
  generalize (lg_sl ([.ref h, .int a1]) ++ List.replicate (2 - (lg_sl ([.ref h, .int a1])).length) Slot.unset).toArray = ls at hl ⊢
  have hl : lv_has ls 2 [(0, .ref h), (1, .int a1)] := hl
  unfold E_append at hE
  refine lv_aload_n hx hb dX6_append_0 rfl (lv_at hl 0 rfl) ?_
  refine va_get (D := G.1) (ci := 6) (C := RX6) (T := TX6) (N := 48) hx hb hts inX6 hown hK.1 hP 0 mW_0 rfl 21 (by decide) (hts _ w_867) (fun _ h9 => h9) mF_21 dX6_append_1 ?_
  refine lv_aload_n hx hb dX6_append_4 rfl (lv_at hl 0 rfl) ?_
  refine va_get (D := G.1) (ci := 6) (C := RX6) (T := TX6) (N := 48) hx hb hts inX6 hown hK.1 hP 0 mW_0 rfl 16 (by decide) (hts _ w_862) (fun _ h9 => h9) mF_16 dX6_append_5 ?_
  obtain ⟨hin, hE⟩ := hE
  refine va_iald (D := G.1) hx hb hK.1 hP 14 0 mW_g21 rfl hin dX6_append_8 ?_
  refine lv_iconst (v := (-1)) hx hb dX6_append_9 (by decide) ?_
  refine lv_icmp_ne (tgt := 31) hx hb dX6_append_10 (by decide) (fun h1 => ?_) (fun h1 => ?_)
  ·
    rw [if_neg h1] at hE
    refine lv_aload_n hx hb dX6_append_31 rfl (lv_at hl 0 rfl) ?_
    refine va_get (D := G.1) (ci := 6) (C := RX6) (T := TX6) (N := 48) hx hb hts inX6 hown hK.1 hP 0 mW_0 rfl 13 (by decide) (hts _ w_859) (fun _ h9 => h9) mF_13 dX6_append_32 ?_
    refine lv_aload_n hx hb dX6_append_35 rfl (lv_at hl 0 rfl) ?_
    refine va_get (D := G.1) (ci := 6) (C := RX6) (T := TX6) (N := 48) hx hb hts inX6 hown hK.1 hP 0 mW_0 rfl 21 (by decide) (hts _ w_867) (fun _ h9 => h9) mF_21 dX6_append_36 ?_
    refine lv_aload_n hx hb dX6_append_39 rfl (lv_at hl 0 rfl) ?_
    refine va_get (D := G.1) (ci := 6) (C := RX6) (T := TX6) (N := 48) hx hb hts inX6 hown hK.1 hP 0 mW_0 rfl 16 (by decide) (hts _ w_862) (fun _ h9 => h9) mF_16 dX6_append_40 ?_
    obtain ⟨hin, hE⟩ := hE
    refine va_iald (D := G.1) hx hb hK.1 hP 14 0 mW_g21 rfl hin dX6_append_43 ?_
    refine lv_iload_n hx hb dX6_append_44 rfl (lv_at hl 1 rfl) ?_
    obtain ⟨hin, hE⟩ := hE
    refine va_iast (D := G.1) hx hb hK.1 hP hD hS 8 0 mW_g13 rfl hin dX6_append_45 (fun H locs hP hD hS => ?_)
    rw [mW_a13] at hP hD
    refine lv_aload_n hx hb dX6_append_46 rfl (lv_at hl 0 rfl) ?_
    refine va_get (D := G.1) (ci := 6) (C := RX6) (T := TX6) (N := 48) hx hb hts inX6 hown hK.1 hP 0 mW_0 rfl 21 (by decide) (hts _ w_867) (fun _ h9 => h9) mF_21 dX6_append_47 ?_
    refine lv_aload_n hx hb dX6_append_50 rfl (lv_at hl 0 rfl) ?_
    refine va_get (D := G.1) (ci := 6) (C := RX6) (T := TX6) (N := 48) hx hb hts inX6 hown hK.1 hP 0 mW_0 rfl 16 (by decide) (hts _ w_862) (fun _ h9 => h9) mF_16 dX6_append_51 ?_
    refine tp_i (R.1 16) rfl ?_
    refine lv_iload_n hx hb dX6_append_54 rfl (lv_at hl 1 rfl) ?_
    obtain ⟨hin, hE⟩ := hE
    refine va_iast (D := G.1) hx hb hK.1 hP hD hS 14 0 mW_g21 rfl hin dX6_append_55 (fun H locs hP hD hS => ?_)
    rw [mW_a21] at hP hD
    obtain ⟨rfl, rfl⟩ := hE
    exact en_v F hS () trivial hP hD (Nat.le_refl _) (Nat.le_refl _) dX6_append_56
  ·
    rw [if_pos h1] at hE
    refine lv_aload_n hx hb dX6_append_13 rfl (lv_at hl 0 rfl) ?_
    refine va_get (D := G.1) (ci := 6) (C := RX6) (T := TX6) (N := 48) hx hb hts inX6 hown hK.1 hP 0 mW_0 rfl 12 (by decide) (hts _ w_858) (fun _ h9 => h9) mF_12 dX6_append_14 ?_
    refine lv_aload_n hx hb dX6_append_17 rfl (lv_at hl 0 rfl) ?_
    refine va_get (D := G.1) (ci := 6) (C := RX6) (T := TX6) (N := 48) hx hb hts inX6 hown hK.1 hP 0 mW_0 rfl 20 (by decide) (hts _ w_866) (fun _ h9 => h9) mF_20 dX6_append_18 ?_
    refine lv_aload_n hx hb dX6_append_21 rfl (lv_at hl 0 rfl) ?_
    refine va_get (D := G.1) (ci := 6) (C := RX6) (T := TX6) (N := 48) hx hb hts inX6 hown hK.1 hP 0 mW_0 rfl 16 (by decide) (hts _ w_862) (fun _ h9 => h9) mF_16 dX6_append_22 ?_
    obtain ⟨hin, hE⟩ := hE
    refine va_iald (D := G.1) hx hb hK.1 hP 13 0 mW_g20 rfl hin dX6_append_25 ?_
    refine lv_iload_n hx hb dX6_append_26 rfl (lv_at hl 1 rfl) ?_
    obtain ⟨hin, hE⟩ := hE
    refine va_iast (D := G.1) hx hb hK.1 hP hD hS 7 0 mW_g12 rfl hin dX6_append_27 (fun H locs hP hD hS => ?_)
    rw [mW_a12] at hP hD
    refine lv_goto (tgt := 46) hx hb dX6_append_28 (by decide) ?_
    refine lv_aload_n hx hb dX6_append_46 rfl (lv_at hl 0 rfl) ?_
    refine va_get (D := G.1) (ci := 6) (C := RX6) (T := TX6) (N := 48) hx hb hts inX6 hown hK.1 hP 0 mW_0 rfl 21 (by decide) (hts _ w_867) (fun _ h9 => h9) mF_21 dX6_append_47 ?_
    refine lv_aload_n hx hb dX6_append_50 rfl (lv_at hl 0 rfl) ?_
    refine va_get (D := G.1) (ci := 6) (C := RX6) (T := TX6) (N := 48) hx hb hts inX6 hown hK.1 hP 0 mW_0 rfl 16 (by decide) (hts _ w_862) (fun _ h9 => h9) mF_16 dX6_append_51 ?_
    refine tp_i (R.1 16) rfl ?_
    refine lv_iload_n hx hb dX6_append_54 rfl (lv_at hl 1 rfl) ?_
    obtain ⟨hin, hE⟩ := hE
    refine va_iast (D := G.1) hx hb hK.1 hP hD hS 14 0 mW_g21 rfl hin dX6_append_55 (fun H locs hP hD hS => ?_)
    rw [mW_a21] at hP hD
    obtain ⟨rfl, rfl⟩ := hE
    exact en_v F hS () trivial hP hD (Nat.le_refl _) (Nat.le_refl _) dX6_append_56

theorem dX6_include_0 : decode cX6_include 0 = .ok (.iload_n 2, 1) := by decide +kernel
theorem dX6_include_1 : decode cX6_include 1 = .ok (.bipush 96, 2) := by decide +kernel
theorem dX6_include_3 : decode cX6_include 3 = .ok (.if_icmp .ge 21, 3) := by decide +kernel
theorem dX6_include_6 : decode cX6_include 6 = .ok (.aload_n 0, 1) := by decide +kernel
theorem dX6_include_7 : decode cX6_include 7 = .ok (.getfield 34, 3) := by decide +kernel
theorem dX6_include_10 : decode cX6_include 10 = .ok (.iload_n 1, 1) := by decide +kernel
theorem dX6_include_11 : decode cX6_include 11 = .ok (.dup2, 1) := by decide +kernel
theorem dX6_include_12 : decode cX6_include 12 = .ok (.laload, 1) := by decide +kernel
theorem dX6_include_13 : decode cX6_include 13 = .ok (.lconst 1, 1) := by decide +kernel
theorem dX6_include_14 : decode cX6_include 14 = .ok (.iload_n 2, 1) := by decide +kernel
theorem dX6_include_15 : decode cX6_include 15 = .ok (.bipush 32, 2) := by decide +kernel
theorem dX6_include_17 : decode cX6_include 17 = .ok (.isub, 1) := by decide +kernel
theorem dX6_include_18 : decode cX6_include 18 = .ok (.lshl, 1) := by decide +kernel
theorem dX6_include_19 : decode cX6_include 19 = .ok (.lor, 1) := by decide +kernel
theorem dX6_include_20 : decode cX6_include 20 = .ok (.lastore, 1) := by decide +kernel
theorem dX6_include_21 : decode cX6_include 21 = .ok (.goto 18, 3) := by decide +kernel
theorem dX6_include_24 : decode cX6_include 24 = .ok (.aload_n 0, 1) := by decide +kernel
theorem dX6_include_25 : decode cX6_include 25 = .ok (.getfield 38, 3) := by decide +kernel
theorem dX6_include_28 : decode cX6_include 28 = .ok (.iload_n 1, 1) := by decide +kernel
theorem dX6_include_29 : decode cX6_include 29 = .ok (.dup2, 1) := by decide +kernel
theorem dX6_include_30 : decode cX6_include 30 = .ok (.laload, 1) := by decide +kernel
theorem dX6_include_31 : decode cX6_include 31 = .ok (.lconst 1, 1) := by decide +kernel
theorem dX6_include_32 : decode cX6_include 32 = .ok (.iload_n 2, 1) := by decide +kernel
theorem dX6_include_33 : decode cX6_include 33 = .ok (.bipush 96, 2) := by decide +kernel
theorem dX6_include_35 : decode cX6_include 35 = .ok (.isub, 1) := by decide +kernel
theorem dX6_include_36 : decode cX6_include 36 = .ok (.lshl, 1) := by decide +kernel
theorem dX6_include_37 : decode cX6_include 37 = .ok (.lor, 1) := by decide +kernel
theorem dX6_include_38 : decode cX6_include 38 = .ok (.lastore, 1) := by decide +kernel
theorem dX6_include_39 : decode cX6_include 39 = .ok (.return_, 1) := by decide +kernel
def E_include (R : RS) (a1 : Int32) (a2 : Int32) (R' : RS) (r : Int32) : Prop := if 96 ≤ a2 then (vp_in a1 96 ∧ (vp_in a1 96 ∧ (R' = (ml R 15 a1.toNatClampNeg ((R.2.2 15 a1.toNatClampNeg) ||| (1 <<< ((a2 - 96).toInt64 &&& 63)))) ∧ r = 0))) else (vp_in a1 96 ∧ (vp_in a1 96 ∧ (R' = (ml R 14 a1.toNatClampNeg ((R.2.2 14 a1.toNatClampNeg) ||| (1 <<< ((a2 - 32).toInt64 &&& 63)))) ∧ r = 0)))
set_option maxHeartbeats 4000000 in
set_option maxRecDepth 100000 in
theorem e_include (l : Launch) (G : PG) (h : Nat) (q : Nat → Nat) (R : RS) (a1 : Int32) (a2 : Int32) (R' : RS) (r : Int32) (hE : E_include R a1 a2 R' r) : Cv l yX6_include (Cond.code yX6_include cX6_include 3 none :: aW) { frames := 0, cells := 0, slots := 0, locals := 0 } G (mW G h q R) [.ref h, .int a1, .int a2] (fun (_ : Unit) => True) (fun (_ : Unit) => mW G h q R') 0 0 := by
  refine ofB (y := yX6_include) (G := G) (cc := cX6_include) (maxL := 3) (ret := none) (Qc := fun A => va_Qv (fun (_ : Unit) => True) (oB G A (fun (_ : Unit) => mW G h q R')) A) (by decide) rfl ?_
  intro p e s m below meth c A F hK hA hP hD
  have hS : va_S A s.heap s.heap [] := va_S.rf
  have hx := F.1.1; have hb := F.1.2.1; have hml := F.1.2.2.1; have hts := F.1.2.2.2.2
  have hown : s.vm.findClass RX6 = some m.cls := F.1.2.2.2.1
  have hl := lv_entry ([.ref h, .int a1, .int a2]) (n := 3) (Nat.le_of_ble_eq_true rfl)
  rw [lg_entry_eq]
  generalize (lg_sl ([.ref h, .int a1, .int a2]) ++ List.replicate (3 - (lg_sl ([.ref h, .int a1, .int a2])).length) Slot.unset).toArray = ls at hl ⊢
  have hl : lv_has ls 3 [(0, .ref h), (1, .int a1), (2, .int a2)] := hl
  unfold E_include at hE
  refine lv_iload_n hx hb dX6_include_0 rfl (lv_at hl 2 rfl) ?_
  refine lv_bipush (v := 96) hx hb dX6_include_1 (by decide) ?_
  refine lv_icmp_ge (tgt := 24) hx hb dX6_include_3 (by decide) (fun h1 => ?_) (fun h1 => ?_)
  ·
    rw [if_pos h1] at hE
    refine lv_aload_n hx hb dX6_include_24 rfl (lv_at hl 0 rfl) ?_
    refine va_get (D := G.1) (ci := 6) (C := RX6) (T := TX6) (N := 48) hx hb hts inX6 hown hK.1 hP 0 mW_0 rfl 15 (by decide) (hts _ w_861) (fun _ h9 => h9) mF_15 dX6_include_25 ?_
    refine lv_iload_n hx hb dX6_include_28 rfl (lv_at hl 1 rfl) ?_
    refine lv_dup2_11 hx hb dX6_include_29 rfl rfl ?_
    obtain ⟨hin, hE⟩ := hE
    refine va_lald (D := G.1) hx hb hK.1 hP 10 1 mW_g15 rfl hin dX6_include_30 ?_
    refine lv_lconst (v := 1) hx hb dX6_include_31 (by decide) ?_
    refine lv_iload_n hx hb dX6_include_32 rfl (lv_at hl 2 rfl) ?_
    refine lv_bipush (v := 96) hx hb dX6_include_33 (by decide) ?_
    refine lv_isub hx hb dX6_include_35 ?_
    refine lv_lshl (v := (1 <<< ((a2 - 96).toInt64 &&& 63))) hx hb dX6_include_36 rfl ?_
    refine lv_lor hx hb dX6_include_37 ?_
    obtain ⟨hin, hE⟩ := hE
    refine va_last (D := G.1) hx hb hK.1 hP hD hS 10 1 mW_g15 rfl hin dX6_include_38 (fun H locs hP hD hS => ?_)
    rw [mW_a15] at hP hD
    obtain ⟨rfl, rfl⟩ := hE
    exact en_v F hS () trivial hP hD (Nat.le_refl _) (Nat.le_refl _) dX6_include_39
  ·
    rw [if_neg h1] at hE
    refine lv_aload_n hx hb dX6_include_6 rfl (lv_at hl 0 rfl) ?_
    refine va_get (D := G.1) (ci := 6) (C := RX6) (T := TX6) (N := 48) hx hb hts inX6 hown hK.1 hP 0 mW_0 rfl 14 (by decide) (hts _ w_860) (fun _ h9 => h9) mF_14 dX6_include_7 ?_
    refine lv_iload_n hx hb dX6_include_10 rfl (lv_at hl 1 rfl) ?_
    refine lv_dup2_11 hx hb dX6_include_11 rfl rfl ?_
    obtain ⟨hin, hE⟩ := hE
    refine va_lald (D := G.1) hx hb hK.1 hP 9 1 mW_g14 rfl hin dX6_include_12 ?_
    refine lv_lconst (v := 1) hx hb dX6_include_13 (by decide) ?_
    refine lv_iload_n hx hb dX6_include_14 rfl (lv_at hl 2 rfl) ?_
    refine lv_bipush (v := 32) hx hb dX6_include_15 (by decide) ?_
    refine lv_isub hx hb dX6_include_17 ?_
    refine lv_lshl (v := (1 <<< ((a2 - 32).toInt64 &&& 63))) hx hb dX6_include_18 rfl ?_
    refine lv_lor hx hb dX6_include_19 ?_
    obtain ⟨hin, hE⟩ := hE
    refine va_last (D := G.1) hx hb hK.1 hP hD hS 9 1 mW_g14 rfl hin dX6_include_20 (fun H locs hP hD hS => ?_)
    rw [mW_a14] at hP hD
    refine lv_goto (tgt := 39) hx hb dX6_include_21 (by decide) ?_
    obtain ⟨rfl, rfl⟩ := hE
    exact en_v F hS () trivial hP hD (Nat.le_refl _) (Nat.le_refl _) dX6_include_39

theorem dX6_includes_0 : decode cX6_includes 0 = .ok (.iload_n 2, 1) := by decide +kernel
theorem dX6_includes_1 : decode cX6_includes 1 = .ok (.bipush 96, 2) := by decide +kernel
theorem dX6_includes_3 : decode cX6_includes 3 = .ok (.if_icmp .ge 29, 3) := by decide +kernel
theorem dX6_includes_6 : decode cX6_includes 6 = .ok (.aload_n 0, 1) := by decide +kernel
theorem dX6_includes_7 : decode cX6_includes 7 = .ok (.getfield 34, 3) := by decide +kernel
theorem dX6_includes_10 : decode cX6_includes 10 = .ok (.iload_n 1, 1) := by decide +kernel
theorem dX6_includes_11 : decode cX6_includes 11 = .ok (.laload, 1) := by decide +kernel
theorem dX6_includes_12 : decode cX6_includes 12 = .ok (.iload_n 2, 1) := by decide +kernel
theorem dX6_includes_13 : decode cX6_includes 13 = .ok (.bipush 32, 2) := by decide +kernel
theorem dX6_includes_15 : decode cX6_includes 15 = .ok (.isub, 1) := by decide +kernel
theorem dX6_includes_16 : decode cX6_includes 16 = .ok (.lshr, 1) := by decide +kernel
theorem dX6_includes_17 : decode cX6_includes 17 = .ok (.lconst 1, 1) := by decide +kernel
theorem dX6_includes_18 : decode cX6_includes 18 = .ok (.land, 1) := by decide +kernel
theorem dX6_includes_19 : decode cX6_includes 19 = .ok (.lconst 1, 1) := by decide +kernel
theorem dX6_includes_20 : decode cX6_includes 20 = .ok (.lcmp, 1) := by decide +kernel
theorem dX6_includes_21 : decode cX6_includes 21 = .ok (.ifCond .ne 7, 3) := by decide +kernel
theorem dX6_includes_24 : decode cX6_includes 24 = .ok (.iconst 1, 1) := by decide +kernel
theorem dX6_includes_25 : decode cX6_includes 25 = .ok (.goto 30, 3) := by decide +kernel
theorem dX6_includes_28 : decode cX6_includes 28 = .ok (.iconst 0, 1) := by decide +kernel
theorem dX6_includes_29 : decode cX6_includes 29 = .ok (.goto 26, 3) := by decide +kernel
theorem dX6_includes_32 : decode cX6_includes 32 = .ok (.aload_n 0, 1) := by decide +kernel
theorem dX6_includes_33 : decode cX6_includes 33 = .ok (.getfield 38, 3) := by decide +kernel
theorem dX6_includes_36 : decode cX6_includes 36 = .ok (.iload_n 1, 1) := by decide +kernel
theorem dX6_includes_37 : decode cX6_includes 37 = .ok (.laload, 1) := by decide +kernel
theorem dX6_includes_38 : decode cX6_includes 38 = .ok (.iload_n 2, 1) := by decide +kernel
theorem dX6_includes_39 : decode cX6_includes 39 = .ok (.bipush 96, 2) := by decide +kernel
theorem dX6_includes_41 : decode cX6_includes 41 = .ok (.isub, 1) := by decide +kernel
theorem dX6_includes_42 : decode cX6_includes 42 = .ok (.lshr, 1) := by decide +kernel
theorem dX6_includes_43 : decode cX6_includes 43 = .ok (.lconst 1, 1) := by decide +kernel
theorem dX6_includes_44 : decode cX6_includes 44 = .ok (.land, 1) := by decide +kernel
theorem dX6_includes_45 : decode cX6_includes 45 = .ok (.lconst 1, 1) := by decide +kernel
theorem dX6_includes_46 : decode cX6_includes 46 = .ok (.lcmp, 1) := by decide +kernel
theorem dX6_includes_47 : decode cX6_includes 47 = .ok (.ifCond .ne 7, 3) := by decide +kernel
theorem dX6_includes_50 : decode cX6_includes 50 = .ok (.iconst 1, 1) := by decide +kernel
theorem dX6_includes_51 : decode cX6_includes 51 = .ok (.goto 4, 3) := by decide +kernel
theorem dX6_includes_54 : decode cX6_includes 54 = .ok (.iconst 0, 1) := by decide +kernel
theorem dX6_includes_55 : decode cX6_includes 55 = .ok (.ireturn, 1) := by decide +kernel
def E_includes (R : RS) (a1 : Int32) (a2 : Int32) (R' : RS) (r : Int32) : Prop := if 96 ≤ a2 then (vp_in a1 96 ∧ (narrow .boolean (.int (if (lg_cmp (((R.2.2 15 a1.toNatClampNeg) >>> ((a2 - 96).toInt64 &&& 63)) &&& 1) 1) = 0 then 1 else 0 : Int32)) = .int (if (lg_cmp (((R.2.2 15 a1.toNatClampNeg) >>> ((a2 - 96).toInt64 &&& 63)) &&& 1) 1) = 0 then 1 else 0 : Int32) ∧ R' = R ∧ r = (if (lg_cmp (((R.2.2 15 a1.toNatClampNeg) >>> ((a2 - 96).toInt64 &&& 63)) &&& 1) 1) = 0 then 1 else 0 : Int32))) else (vp_in a1 96 ∧ (narrow .boolean (.int (if (lg_cmp (((R.2.2 14 a1.toNatClampNeg) >>> ((a2 - 32).toInt64 &&& 63)) &&& 1) 1) = 0 then 1 else 0 : Int32)) = .int (if (lg_cmp (((R.2.2 14 a1.toNatClampNeg) >>> ((a2 - 32).toInt64 &&& 63)) &&& 1) 1) = 0 then 1 else 0 : Int32) ∧ R' = R ∧ r = (if (lg_cmp (((R.2.2 14 a1.toNatClampNeg) >>> ((a2 - 32).toInt64 &&& 63)) &&& 1) 1) = 0 then 1 else 0 : Int32)))
set_option maxHeartbeats 4000000 in
set_option maxRecDepth 100000 in
theorem e_includes (l : Launch) (G : PG) (h : Nat) (q : Nat → Nat) (R : RS) (a1 : Int32) (a2 : Int32) (R' : RS) (r : Int32) (hE : E_includes R a1 a2 R' r) : Ci l yX6_includes (Cond.code yX6_includes cX6_includes 3 (some .boolean) :: aW) { frames := 0, cells := 0, slots := 0, locals := 0 } G (mW G h q R) [.ref h, .int a1, .int a2] (fun (r9 : Int32) (_ : Unit) => r9 = r) (fun (_ : Unit) => mW G h q R') 0 0 := by
  refine ofB (y := yX6_includes) (G := G) (cc := cX6_includes) (maxL := 3) (ret := (some .boolean)) (Qc := fun A => va_Qi (fun (r9 : Int32) (_ : Unit) => r9 = r) (oB G A (fun (_ : Unit) => mW G h q R')) A) (by decide) rfl ?_
  intro p e s m below meth c A F hK hA hP hD
  have hS : va_S A s.heap s.heap [] := va_S.rf
  have hx := F.1.1; have hb := F.1.2.1; have hml := F.1.2.2.1; have hts := F.1.2.2.2.2
  have hown : s.vm.findClass RX6 = some m.cls := F.1.2.2.2.1
  have hl := lv_entry ([.ref h, .int a1, .int a2]) (n := 3) (Nat.le_of_ble_eq_true rfl)
  rw [lg_entry_eq]
  generalize (lg_sl ([.ref h, .int a1, .int a2]) ++ List.replicate (3 - (lg_sl ([.ref h, .int a1, .int a2])).length) Slot.unset).toArray = ls at hl ⊢
  have hl : lv_has ls 3 [(0, .ref h), (1, .int a1), (2, .int a2)] := hl
  unfold E_includes at hE
  refine lv_iload_n hx hb dX6_includes_0 rfl (lv_at hl 2 rfl) ?_
  refine lv_bipush (v := 96) hx hb dX6_includes_1 (by decide) ?_
  refine lv_icmp_ge (tgt := 32) hx hb dX6_includes_3 (by decide) (fun h1 => ?_) (fun h1 => ?_)
  ·
    rw [if_pos h1] at hE
    refine lv_aload_n hx hb dX6_includes_32 rfl (lv_at hl 0 rfl) ?_
    refine va_get (D := G.1) (ci := 6) (C := RX6) (T := TX6) (N := 48) hx hb hts inX6 hown hK.1 hP 0 mW_0 rfl 15 (by decide) (hts _ w_861) (fun _ h9 => h9) mF_15 dX6_includes_33 ?_
    refine lv_iload_n hx hb dX6_includes_36 rfl (lv_at hl 1 rfl) ?_
    obtain ⟨hin, hE⟩ := hE
    refine va_lald (D := G.1) hx hb hK.1 hP 10 1 mW_g15 rfl hin dX6_includes_37 ?_
    refine lv_iload_n hx hb dX6_includes_38 rfl (lv_at hl 2 rfl) ?_
    refine lv_bipush (v := 96) hx hb dX6_includes_39 (by decide) ?_
    refine lv_isub hx hb dX6_includes_41 ?_
    refine lv_lshr (v := ((R.2.2 15 a1.toNatClampNeg) >>> ((a2 - 96).toInt64 &&& 63))) hx hb dX6_includes_42 rfl ?_
    refine lv_lconst (v := 1) hx hb dX6_includes_43 (by decide) ?_
    refine lv_land hx hb dX6_includes_44 ?_
    refine lv_lconst (v := 1) hx hb dX6_includes_45 (by decide) ?_
    refine W.lcmp hx hb dX6_includes_46 ?_
    refine jn_v (v := (if (lg_cmp (((R.2.2 15 a1.toNatClampNeg) >>> ((a2 - 96).toInt64 &&& 63)) &&& 1) 1) = 0 then 1 else 0 : Int32)) (pcM := 55) (rest := []) (fun kM => ?_) ?_
    ·
      refine lv_if_ne (tgt := 54) hx hb dX6_includes_47 (by decide) (fun h3 => ?_) (fun h3 => ?_)
      ·
        refine lv_iconst (v := 0) hx hb dX6_includes_54 (by decide) ?_
        exact kM _ (by try rw [if_neg h3])
      ·
        refine lv_iconst (v := 1) hx hb dX6_includes_50 (by decide) ?_
        refine lv_goto (tgt := 55) hx hb dX6_includes_51 (by decide) ?_
        exact kM _ (by try rw [if_pos h3])
    obtain ⟨hn, rfl, rfl⟩ := hE
    exact en_i F hS _ () hn rfl hP hD (Nat.le_refl _) (Nat.le_refl _) dX6_includes_55
  ·
    rw [if_neg h1] at hE
    refine lv_aload_n hx hb dX6_includes_6 rfl (lv_at hl 0 rfl) ?_
    refine va_get (D := G.1) (ci := 6) (C := RX6) (T := TX6) (N := 48) hx hb hts inX6 hown hK.1 hP 0 mW_0 rfl 14 (by decide) (hts _ w_860) (fun _ h9 => h9) mF_14 dX6_includes_7 ?_
    refine lv_iload_n hx hb dX6_includes_10 rfl (lv_at hl 1 rfl) ?_
    obtain ⟨hin, hE⟩ := hE
    refine va_lald (D := G.1) hx hb hK.1 hP 9 1 mW_g14 rfl hin dX6_includes_11 ?_
    refine lv_iload_n hx hb dX6_includes_12 rfl (lv_at hl 2 rfl) ?_
    refine lv_bipush (v := 32) hx hb dX6_includes_13 (by decide) ?_
    refine lv_isub hx hb dX6_includes_15 ?_
    refine lv_lshr (v := ((R.2.2 14 a1.toNatClampNeg) >>> ((a2 - 32).toInt64 &&& 63))) hx hb dX6_includes_16 rfl ?_
    refine lv_lconst (v := 1) hx hb dX6_includes_17 (by decide) ?_
    refine lv_land hx hb dX6_includes_18 ?_
    refine lv_lconst (v := 1) hx hb dX6_includes_19 (by decide) ?_
    refine W.lcmp hx hb dX6_includes_20 ?_
    refine jn_v (v := (if (lg_cmp (((R.2.2 14 a1.toNatClampNeg) >>> ((a2 - 32).toInt64 &&& 63)) &&& 1) 1) = 0 then 1 else 0 : Int32)) (pcM := 55) (rest := []) (fun kM => ?_) ?_
    ·
      refine lv_if_ne (tgt := 28) hx hb dX6_includes_21 (by decide) (fun h5 => ?_) (fun h5 => ?_)
      ·
        refine lv_iconst (v := 0) hx hb dX6_includes_28 (by decide) ?_
        refine lv_goto (tgt := 55) hx hb dX6_includes_29 (by decide) ?_
        exact kM _ (by try rw [if_neg h5])
      ·
        refine lv_iconst (v := 1) hx hb dX6_includes_24 (by decide) ?_
        refine lv_goto (tgt := 55) hx hb dX6_includes_25 (by decide) ?_
        exact kM _ (by try rw [if_pos h5])
    obtain ⟨hn, rfl, rfl⟩ := hE
    exact en_i F hS _ () hn rfl hP hD (Nat.le_refl _) (Nat.le_refl _) dX6_includes_55

theorem dX6_includeKind_0 : decode cX6_includeKind 0 = .ok (.bipush 32, 2) := by decide +kernel
theorem dX6_includeKind_2 : decode cX6_includeKind 2 = .ok (.istore_n 3, 1) := by decide +kernel
theorem dX6_includeKind_3 : decode cX6_includeKind 3 = .ok (.iload_n 3, 1) := by decide +kernel
theorem dX6_includeKind_4 : decode cX6_includeKind 4 = .ok (.bipush 127, 2) := by decide +kernel
theorem dX6_includeKind_6 : decode cX6_includeKind 6 = .ok (.if_icmp .ge 52, 3) := by decide +kernel
theorem dX6_includeKind_9 : decode cX6_includeKind 9 = .ok (.iload_n 2, 1) := by decide +kernel
theorem dX6_includeKind_10 : decode cX6_includeKind 10 = .ok (.bipush 46, 2) := by decide +kernel
theorem dX6_includeKind_12 : decode cX6_includeKind 12 = .ok (.if_icmp .eq 34, 3) := by decide +kernel
theorem dX6_includeKind_15 : decode cX6_includeKind 15 = .ok (.iload_n 2, 1) := by decide +kernel
theorem dX6_includeKind_16 : decode cX6_includeKind 16 = .ok (.bipush 119, 2) := by decide +kernel
theorem dX6_includeKind_18 : decode cX6_includeKind 18 = .ok (.if_icmp .ne 10, 3) := by decide +kernel
theorem dX6_includeKind_21 : decode cX6_includeKind 21 = .ok (.iload_n 3, 1) := by decide +kernel
theorem dX6_includeKind_22 : decode cX6_includeKind 22 = .ok (.invokestatic 132, 3) := by decide +kernel
theorem dX6_includeKind_25 : decode cX6_includeKind 25 = .ok (.ifCond .ne 21, 3) := by decide +kernel
theorem dX6_includeKind_28 : decode cX6_includeKind 28 = .ok (.iload_n 2, 1) := by decide +kernel
theorem dX6_includeKind_29 : decode cX6_includeKind 29 = .ok (.bipush 100, 2) := by decide +kernel
theorem dX6_includeKind_31 : decode cX6_includeKind 31 = .ok (.if_icmp .ne 21, 3) := by decide +kernel
theorem dX6_includeKind_34 : decode cX6_includeKind 34 = .ok (.iload_n 3, 1) := by decide +kernel
theorem dX6_includeKind_35 : decode cX6_includeKind 35 = .ok (.bipush 48, 2) := by decide +kernel
theorem dX6_includeKind_37 : decode cX6_includeKind 37 = .ok (.if_icmp .lt 15, 3) := by decide +kernel
theorem dX6_includeKind_40 : decode cX6_includeKind 40 = .ok (.iload_n 3, 1) := by decide +kernel
theorem dX6_includeKind_41 : decode cX6_includeKind 41 = .ok (.bipush 57, 2) := by decide +kernel
theorem dX6_includeKind_43 : decode cX6_includeKind 43 = .ok (.if_icmp .gt 9, 3) := by decide +kernel
theorem dX6_includeKind_46 : decode cX6_includeKind 46 = .ok (.aload_n 0, 1) := by decide +kernel
theorem dX6_includeKind_47 : decode cX6_includeKind 47 = .ok (.iload_n 1, 1) := by decide +kernel
theorem dX6_includeKind_48 : decode cX6_includeKind 48 = .ok (.iload_n 3, 1) := by decide +kernel
theorem dX6_includeKind_49 : decode cX6_includeKind 49 = .ok (.invokevirtual 136, 3) := by decide +kernel
theorem dX6_includeKind_52 : decode cX6_includeKind 52 = .ok (.iinc 3 1, 3) := by decide +kernel
theorem dX6_includeKind_55 : decode cX6_includeKind 55 = .ok (.goto (-52), 3) := by decide +kernel
theorem dX6_includeKind_58 : decode cX6_includeKind 58 = .ok (.return_, 1) := by decide +kernel
def L_includeKind_3 : Nat → RS → Int32 → Int32 → Int32 → RS → Int32 → Prop
  | 0, _, _, _, _, _, _ => False
  | nf + 1, R, x1, x2, x3, R', r => if 127 ≤ x3 then (R' = R ∧ r = 0) else (if x2 = 46 then (∃ R3 : RS, E_include R x1 x3 R3 0 ∧ (L_includeKind_3 nf R3 x1 x2 (x3 + 1) R' r)) else (if x2 = 119 then (∃ r11 : Int32, E_isWord x3 r11 ∧ (if r11 = 0 then (if x2 = 100 then (if x3 < 48 then (L_includeKind_3 nf R x1 x2 (x3 + 1) R' r) else (if 57 < x3 then (L_includeKind_3 nf R x1 x2 (x3 + 1) R' r) else (∃ R18 : RS, E_include R x1 x3 R18 0 ∧ (L_includeKind_3 nf R18 x1 x2 (x3 + 1) R' r)))) else (L_includeKind_3 nf R x1 x2 (x3 + 1) R' r)) else (∃ R13 : RS, E_include R x1 x3 R13 0 ∧ (L_includeKind_3 nf R13 x1 x2 (x3 + 1) R' r)))) else (if x2 = 100 then (if x3 < 48 then (L_includeKind_3 nf R x1 x2 (x3 + 1) R' r) else (if 57 < x3 then (L_includeKind_3 nf R x1 x2 (x3 + 1) R' r) else (∃ R9 : RS, E_include R x1 x3 R9 0 ∧ (L_includeKind_3 nf R9 x1 x2 (x3 + 1) R' r)))) else (L_includeKind_3 nf R x1 x2 (x3 + 1) R' r))))
set_option maxHeartbeats 4000000 in
set_option maxRecDepth 100000 in
theorem L_includeKind_3_ok {l : Launch} {G : PG} {h : Nat} {q : Nat → Nat} {a1 : Int32} {a2 : Int32} {R' : RS} {r : Int32} {p : Program} {e : Env} {s : State} {m : MethodId} {below : List Frame} {meth : Method} {c : Code} {A : Nat → Prop} (F : bF p s m meth c cX6_includeKind 4 none ([.ref h, .int a1, .int a2] : List Value).toArray yX6_includeKind) (hK : pg_K G s) (hA : ∀ q, s.heap.size ≤ q → A q) : ∀ (nf : Nat) (R : RS) (x1 : Int32) (x2 : Int32) (x3 : Int32) (H : Heap) (locs : List Loc) (ls : Array Slot), lv_has ls 4 [(3, .int x3), (0, .ref h), (1, .int x1), (2, .int x2)] → L_includeKind_3 nf R x1 x2 x3 R' r → va_P G.1 vwCl (mW G h q R) H → va_D A (mW G h q R) → va_S A s.heap H locs → W p l e { frames := 1, cells := 0, slots := 0, locals := 22 } s m ([.ref h, .int a1, .int a2] : List Value).toArray below meth c H locs 0 0 (MQ below (va_Qv (fun (_ : Unit) => True) (oB G A (fun (_ : Unit) => mW G h q R')) A) ([.ref h, .int a1, .int a2] : List Value).toArray s 0 0 A) (F0 m 3 ls []) := by
  have hx := F.1.1; have hb := F.1.2.1; have hml := F.1.2.2.1; have hts := F.1.2.2.2.2
  have hown : s.vm.findClass RX6 = some m.cls := F.1.2.2.2.1
  intro nf
  induction nf with
  | zero => intro R x1 x2 x3 H locs ls hl hE; exact hE.elim
  | succ nf ih =>
    intro R x1 x2 x3 H locs ls hl hE hP hD hS
    unfold L_includeKind_3 at hE
    refine lv_iload_n hx hb dX6_includeKind_3 rfl (lv_at hl 0 rfl) ?_
    refine lv_bipush (v := 127) hx hb dX6_includeKind_4 (by decide) ?_
    refine lv_icmp_ge (tgt := 58) hx hb dX6_includeKind_6 (by decide) (fun h1 => ?_) (fun h1 => ?_)
    ·
      rw [if_pos h1] at hE
      obtain ⟨rfl, rfl⟩ := hE
      exact en_v F hS () trivial hP hD (Nat.le_refl _) (Nat.le_refl _) dX6_includeKind_58
    ·
      rw [if_neg h1] at hE
      refine lv_iload_n hx hb dX6_includeKind_9 rfl (lv_at hl 3 rfl) ?_
      refine lv_bipush (v := 46) hx hb dX6_includeKind_10 (by decide) ?_
      refine lv_icmp_eq (tgt := 46) hx hb dX6_includeKind_12 (by decide) (fun h2 => ?_) (fun h2 => ?_)
      ·
        rw [if_pos h2] at hE
        refine lv_aload_n hx hb dX6_includeKind_46 rfl (lv_at hl 1 rfl) ?_
        refine lv_iload_n hx hb dX6_includeKind_47 rfl (lv_at hl 2 rfl) ?_
        refine lv_iload_n hx hb dX6_includeKind_48 rfl (lv_at hl 0 rfl) ?_
        obtain ⟨R3, hg, hE⟩ := hE
        refine kA_v (va_runV (As := [.int x1, .int x3]) (rest := []) F.1 (e_include l G h q R x1 x3 R3 0 hg _) (cwV 2 hts (aw_V w_1080 w_1082 ws_X6_include w_6 w_1083) rfl rfl rfl (by decide +kernel) ⟨by decide, by decide⟩) ⟨cS_blind, va_recv (q := (RX6, TX6, 48)) (ci := 6) (q0 := 0) hK.1 hP rfl mW_0, cS_pre hP hD hK⟩ rfl rfl hl.1 rfl (lv_room (Nat.le_of_ble_eq_true rfl)) dX6_includeKind_49 ⟨Nat.le_refl _, Nat.le_refl _⟩) hD hS hA (fun u0 H locs hp hP hD hS => ?_)
        refine lv_iinc (v := (x3 + 1)) (k := 0) hx hb dX6_includeKind_52 hl rfl rfl (by decide) rfl (fun ls hl => ?_)
        have hl : lv_has ls 4 [(3, .int (x3 + 1)), (0, .ref h), (1, .int x1), (2, .int x2)] := hl
        refine lv_goto (tgt := 3) hx hb dX6_includeKind_55 (by decide) ?_
        exact ih R3 x1 x2 (x3 + 1) _ _ ls (lv_sub hl [0, 1, 2, 3] rfl) hE hP hD hS
      ·
        rw [if_neg h2] at hE
        refine lv_iload_n hx hb dX6_includeKind_15 rfl (lv_at hl 3 rfl) ?_
        refine lv_bipush (v := 119) hx hb dX6_includeKind_16 (by decide) ?_
        refine lv_icmp_ne (tgt := 28) hx hb dX6_includeKind_18 (by decide) (fun h5 => ?_) (fun h5 => ?_)
        ·
          rw [if_neg h5] at hE
          refine lv_iload_n hx hb dX6_includeKind_28 rfl (lv_at hl 3 rfl) ?_
          refine lv_bipush (v := 100) hx hb dX6_includeKind_29 (by decide) ?_
          refine lv_icmp_ne (tgt := 52) hx hb dX6_includeKind_31 (by decide) (fun h6 => ?_) (fun h6 => ?_)
          ·
            rw [if_neg h6] at hE
            refine lv_iinc (v := (x3 + 1)) (k := 0) hx hb dX6_includeKind_52 hl rfl rfl (by decide) rfl (fun ls hl => ?_)
            have hl : lv_has ls 4 [(3, .int (x3 + 1)), (0, .ref h), (1, .int x1), (2, .int x2)] := hl
            refine lv_goto (tgt := 3) hx hb dX6_includeKind_55 (by decide) ?_
            exact ih R x1 x2 (x3 + 1) _ _ ls (lv_sub hl [0, 1, 2, 3] rfl) hE hP hD hS
          ·
            rw [if_pos h6] at hE
            refine lv_iload_n hx hb dX6_includeKind_34 rfl (lv_at hl 0 rfl) ?_
            refine lv_bipush (v := 48) hx hb dX6_includeKind_35 (by decide) ?_
            refine lv_icmp_lt (tgt := 52) hx hb dX6_includeKind_37 (by decide) (fun h7 => ?_) (fun h7 => ?_)
            ·
              rw [if_pos h7] at hE
              refine lv_iinc (v := (x3 + 1)) (k := 0) hx hb dX6_includeKind_52 hl rfl rfl (by decide) rfl (fun ls hl => ?_)
              have hl : lv_has ls 4 [(3, .int (x3 + 1)), (0, .ref h), (1, .int x1), (2, .int x2)] := hl
              refine lv_goto (tgt := 3) hx hb dX6_includeKind_55 (by decide) ?_
              exact ih R x1 x2 (x3 + 1) _ _ ls (lv_sub hl [0, 1, 2, 3] rfl) hE hP hD hS
            ·
              rw [if_neg h7] at hE
              refine lv_iload_n hx hb dX6_includeKind_40 rfl (lv_at hl 0 rfl) ?_
              refine lv_bipush (v := 57) hx hb dX6_includeKind_41 (by decide) ?_
              refine lv_icmp_gt (tgt := 52) hx hb dX6_includeKind_43 (by decide) (fun h8 => ?_) (fun h8 => ?_)
              ·
                rw [if_pos h8] at hE
                refine lv_iinc (v := (x3 + 1)) (k := 0) hx hb dX6_includeKind_52 hl rfl rfl (by decide) rfl (fun ls hl => ?_)
                have hl : lv_has ls 4 [(3, .int (x3 + 1)), (0, .ref h), (1, .int x1), (2, .int x2)] := hl
                refine lv_goto (tgt := 3) hx hb dX6_includeKind_55 (by decide) ?_
                exact ih R x1 x2 (x3 + 1) _ _ ls (lv_sub hl [0, 1, 2, 3] rfl) hE hP hD hS
              ·
                rw [if_neg h8] at hE
                refine lv_aload_n hx hb dX6_includeKind_46 rfl (lv_at hl 1 rfl) ?_
                refine lv_iload_n hx hb dX6_includeKind_47 rfl (lv_at hl 2 rfl) ?_
                refine lv_iload_n hx hb dX6_includeKind_48 rfl (lv_at hl 0 rfl) ?_
                obtain ⟨R9, hg, hE⟩ := hE
                refine kA_v (va_runV (As := [.int x1, .int x3]) (rest := []) F.1 (e_include l G h q R x1 x3 R9 0 hg _) (cwV 2 hts (aw_V w_1080 w_1082 ws_X6_include w_6 w_1083) rfl rfl rfl (by decide +kernel) ⟨by decide, by decide⟩) ⟨cS_blind, va_recv (q := (RX6, TX6, 48)) (ci := 6) (q0 := 0) hK.1 hP rfl mW_0, cS_pre hP hD hK⟩ rfl rfl hl.1 rfl (lv_room (Nat.le_of_ble_eq_true rfl)) dX6_includeKind_49 ⟨Nat.le_refl _, Nat.le_refl _⟩) hD hS hA (fun u0 H locs hp hP hD hS => ?_)
                refine lv_iinc (v := (x3 + 1)) (k := 0) hx hb dX6_includeKind_52 hl rfl rfl (by decide) rfl (fun ls hl => ?_)
                have hl : lv_has ls 4 [(3, .int (x3 + 1)), (0, .ref h), (1, .int x1), (2, .int x2)] := hl
                refine lv_goto (tgt := 3) hx hb dX6_includeKind_55 (by decide) ?_
                exact ih R9 x1 x2 (x3 + 1) _ _ ls (lv_sub hl [0, 1, 2, 3] rfl) hE hP hD hS
        ·
          rw [if_pos h5] at hE
          refine lv_iload_n hx hb dX6_includeKind_21 rfl (lv_at hl 0 rfl) ?_
          obtain ⟨r11, hg, hE⟩ := hE
          refine kp_i (va_runS (As := [.int x3]) (rest := []) F.1 (e_isWord l G x3 r11 hg _) (va_cwS 1 hts (aw_S w_1077 w_1078 w_6 w_1079) rfl rfl rfl (by decide +kernel) ⟨by decide, by decide⟩) ⟨cS_blind, cS_pre va_P0 (va_D0 (A := A)) hK⟩ rfl rfl hl.1 rfl (lv_room (Nat.le_of_ble_eq_true rfl)) dX6_includeKind_22 ⟨Nat.le_refl _, Nat.le_refl _⟩) (fun r9 hp => ?_)
          have hp := hp.symm; subst hp
          refine lv_if_ne (tgt := 46) hx hb dX6_includeKind_25 (by decide) (fun h12 => ?_) (fun h12 => ?_)
          ·
            rw [if_neg h12] at hE
            refine lv_aload_n hx hb dX6_includeKind_46 rfl (lv_at hl 1 rfl) ?_
            refine lv_iload_n hx hb dX6_includeKind_47 rfl (lv_at hl 2 rfl) ?_
            refine lv_iload_n hx hb dX6_includeKind_48 rfl (lv_at hl 0 rfl) ?_
            obtain ⟨R13, hg, hE⟩ := hE
            refine kA_v (va_runV (As := [.int x1, .int x3]) (rest := []) F.1 (e_include l G h q R x1 x3 R13 0 hg _) (cwV 2 hts (aw_V w_1080 w_1082 ws_X6_include w_6 w_1083) rfl rfl rfl (by decide +kernel) ⟨by decide, by decide⟩) ⟨cS_blind, va_recv (q := (RX6, TX6, 48)) (ci := 6) (q0 := 0) hK.1 hP rfl mW_0, cS_pre hP hD hK⟩ rfl rfl hl.1 rfl (lv_room (Nat.le_of_ble_eq_true rfl)) dX6_includeKind_49 ⟨Nat.le_refl _, Nat.le_refl _⟩) hD hS hA (fun u0 H locs hp hP hD hS => ?_)
            refine lv_iinc (v := (x3 + 1)) (k := 0) hx hb dX6_includeKind_52 hl rfl rfl (by decide) rfl (fun ls hl => ?_)
            have hl : lv_has ls 4 [(3, .int (x3 + 1)), (0, .ref h), (1, .int x1), (2, .int x2)] := hl
            refine lv_goto (tgt := 3) hx hb dX6_includeKind_55 (by decide) ?_
            exact ih R13 x1 x2 (x3 + 1) _ _ ls (lv_sub hl [0, 1, 2, 3] rfl) hE hP hD hS
          ·
            rw [if_pos h12] at hE
            refine lv_iload_n hx hb dX6_includeKind_28 rfl (lv_at hl 3 rfl) ?_
            refine lv_bipush (v := 100) hx hb dX6_includeKind_29 (by decide) ?_
            refine lv_icmp_ne (tgt := 52) hx hb dX6_includeKind_31 (by decide) (fun h15 => ?_) (fun h15 => ?_)
            ·
              rw [if_neg h15] at hE
              refine lv_iinc (v := (x3 + 1)) (k := 0) hx hb dX6_includeKind_52 hl rfl rfl (by decide) rfl (fun ls hl => ?_)
              have hl : lv_has ls 4 [(3, .int (x3 + 1)), (0, .ref h), (1, .int x1), (2, .int x2)] := hl
              refine lv_goto (tgt := 3) hx hb dX6_includeKind_55 (by decide) ?_
              exact ih R x1 x2 (x3 + 1) _ _ ls (lv_sub hl [0, 1, 2, 3] rfl) hE hP hD hS
            ·
              rw [if_pos h15] at hE
              refine lv_iload_n hx hb dX6_includeKind_34 rfl (lv_at hl 0 rfl) ?_
              refine lv_bipush (v := 48) hx hb dX6_includeKind_35 (by decide) ?_
              refine lv_icmp_lt (tgt := 52) hx hb dX6_includeKind_37 (by decide) (fun h16 => ?_) (fun h16 => ?_)
              ·
                rw [if_pos h16] at hE
                refine lv_iinc (v := (x3 + 1)) (k := 0) hx hb dX6_includeKind_52 hl rfl rfl (by decide) rfl (fun ls hl => ?_)
                have hl : lv_has ls 4 [(3, .int (x3 + 1)), (0, .ref h), (1, .int x1), (2, .int x2)] := hl
                refine lv_goto (tgt := 3) hx hb dX6_includeKind_55 (by decide) ?_
                exact ih R x1 x2 (x3 + 1) _ _ ls (lv_sub hl [0, 1, 2, 3] rfl) hE hP hD hS
              ·
                rw [if_neg h16] at hE
                refine lv_iload_n hx hb dX6_includeKind_40 rfl (lv_at hl 0 rfl) ?_
                refine lv_bipush (v := 57) hx hb dX6_includeKind_41 (by decide) ?_
                refine lv_icmp_gt (tgt := 52) hx hb dX6_includeKind_43 (by decide) (fun h17 => ?_) (fun h17 => ?_)
                ·
                  rw [if_pos h17] at hE
                  refine lv_iinc (v := (x3 + 1)) (k := 0) hx hb dX6_includeKind_52 hl rfl rfl (by decide) rfl (fun ls hl => ?_)
                  have hl : lv_has ls 4 [(3, .int (x3 + 1)), (0, .ref h), (1, .int x1), (2, .int x2)] := hl
                  refine lv_goto (tgt := 3) hx hb dX6_includeKind_55 (by decide) ?_
                  exact ih R x1 x2 (x3 + 1) _ _ ls (lv_sub hl [0, 1, 2, 3] rfl) hE hP hD hS
                ·
                  rw [if_neg h17] at hE
                  refine lv_aload_n hx hb dX6_includeKind_46 rfl (lv_at hl 1 rfl) ?_
                  refine lv_iload_n hx hb dX6_includeKind_47 rfl (lv_at hl 2 rfl) ?_
                  refine lv_iload_n hx hb dX6_includeKind_48 rfl (lv_at hl 0 rfl) ?_
                  obtain ⟨R18, hg, hE⟩ := hE
                  refine kA_v (va_runV (As := [.int x1, .int x3]) (rest := []) F.1 (e_include l G h q R x1 x3 R18 0 hg _) (cwV 2 hts (aw_V w_1080 w_1082 ws_X6_include w_6 w_1083) rfl rfl rfl (by decide +kernel) ⟨by decide, by decide⟩) ⟨cS_blind, va_recv (q := (RX6, TX6, 48)) (ci := 6) (q0 := 0) hK.1 hP rfl mW_0, cS_pre hP hD hK⟩ rfl rfl hl.1 rfl (lv_room (Nat.le_of_ble_eq_true rfl)) dX6_includeKind_49 ⟨Nat.le_refl _, Nat.le_refl _⟩) hD hS hA (fun u0 H locs hp hP hD hS => ?_)
                  refine lv_iinc (v := (x3 + 1)) (k := 0) hx hb dX6_includeKind_52 hl rfl rfl (by decide) rfl (fun ls hl => ?_)
                  have hl : lv_has ls 4 [(3, .int (x3 + 1)), (0, .ref h), (1, .int x1), (2, .int x2)] := hl
                  refine lv_goto (tgt := 3) hx hb dX6_includeKind_55 (by decide) ?_
                  exact ih R18 x1 x2 (x3 + 1) _ _ ls (lv_sub hl [0, 1, 2, 3] rfl) hE hP hD hS
def E_includeKind (R : RS) (a1 : Int32) (a2 : Int32) (R' : RS) (r : Int32) : Prop := ∃ nf : Nat, L_includeKind_3 nf R a1 a2 32 R' r
set_option maxHeartbeats 4000000 in
set_option maxRecDepth 100000 in
theorem e_includeKind (l : Launch) (G : PG) (h : Nat) (q : Nat → Nat) (R : RS) (a1 : Int32) (a2 : Int32) (R' : RS) (r : Int32) (hE : E_includeKind R a1 a2 R' r) : Cv l yX6_includeKind (Cond.code yX6_includeKind cX6_includeKind 4 none :: aW) { frames := 1, cells := 0, slots := 0, locals := 22 } G (mW G h q R) [.ref h, .int a1, .int a2] (fun (_ : Unit) => True) (fun (_ : Unit) => mW G h q R') 0 0 := by
  refine ofB (y := yX6_includeKind) (G := G) (cc := cX6_includeKind) (maxL := 4) (ret := none) (Qc := fun A => va_Qv (fun (_ : Unit) => True) (oB G A (fun (_ : Unit) => mW G h q R')) A) (by decide) rfl ?_
  intro p e s m below meth c A F hK hA hP hD
  have hS : va_S A s.heap s.heap [] := va_S.rf
  have hx := F.1.1; have hb := F.1.2.1; have hml := F.1.2.2.1; have hts := F.1.2.2.2.2
  have hown : s.vm.findClass RX6 = some m.cls := F.1.2.2.2.1
  have hl := lv_entry ([.ref h, .int a1, .int a2]) (n := 4) (Nat.le_of_ble_eq_true rfl)
  rw [lg_entry_eq]
  generalize (lg_sl ([.ref h, .int a1, .int a2]) ++ List.replicate (4 - (lg_sl ([.ref h, .int a1, .int a2])).length) Slot.unset).toArray = ls at hl ⊢
  have hl : lv_has ls 4 [(0, .ref h), (1, .int a1), (2, .int a2)] := hl
  unfold E_includeKind at hE
  refine lv_bipush (v := 32) hx hb dX6_includeKind_0 (by decide) ?_
  refine lv_istore_n hx hb dX6_includeKind_2 rfl hl (by decide) rfl (fun ls hl => ?_)
  have hl : lv_has ls 4 [(3, .int 32), (0, .ref h), (1, .int a1), (2, .int a2)] := hl
  obtain ⟨nf, hE⟩ := hE
  exact L_includeKind_3_ok F hK hA nf R a1 a2 32 _ _ ls (lv_sub hl [0, 1, 2, 3] rfl) hE hP hD hS

theorem dX6_bar_0 : decode cX6_bar 0 = .ok (.aload_n 0, 1) := by decide +kernel
theorem dX6_bar_1 : decode cX6_bar 1 = .ok (.dup, 1) := by decide +kernel
theorem dX6_bar_2 : decode cX6_bar 2 = .ok (.getfield 114, 3) := by decide +kernel
theorem dX6_bar_5 : decode cX6_bar 5 = .ok (.iconst 1, 1) := by decide +kernel
theorem dX6_bar_6 : decode cX6_bar 6 = .ok (.iadd, 1) := by decide +kernel
theorem dX6_bar_7 : decode cX6_bar 7 = .ok (.putfield 114, 3) := by decide +kernel
theorem dX6_bar_10 : decode cX6_bar 10 = .ok (.aload_n 0, 1) := by decide +kernel
theorem dX6_bar_11 : decode cX6_bar 11 = .ok (.invokevirtual 129, 3) := by decide +kernel
theorem dX6_bar_14 : decode cX6_bar 14 = .ok (.iconst 1, 1) := by decide +kernel
theorem dX6_bar_15 : decode cX6_bar 15 = .ok (.ireturn, 1) := by decide +kernel
def E_bar (R : RS)  (R' : RS) (r : Int32) : Prop := ∃ R1 : RS, E_newSequence (mf R 17 ((R.1 17) + 1)) R1 0 ∧ (R' = R1 ∧ r = 1)
set_option maxHeartbeats 4000000 in
set_option maxRecDepth 100000 in
theorem e_bar (l : Launch) (G : PG) (h : Nat) (q : Nat → Nat) (R : RS)  (R' : RS) (r : Int32) (hE : E_bar R R' r) : Ci l yX6_bar (Cond.code yX6_bar cX6_bar 1 (some .boolean) :: aW) { frames := 2, cells := 0, slots := 0, locals := 43 } G (mW G h q R) [.ref h] (fun (r9 : Int32) (_ : Unit) => r9 = r) (fun (_ : Unit) => mW G h q R') 0 0 := by
  refine ofB (y := yX6_bar) (G := G) (cc := cX6_bar) (maxL := 1) (ret := (some .boolean)) (Qc := fun A => va_Qi (fun (r9 : Int32) (_ : Unit) => r9 = r) (oB G A (fun (_ : Unit) => mW G h q R')) A) (by decide) rfl ?_
  intro p e s m below meth c A F hK hA hP hD
  have hS : va_S A s.heap s.heap [] := va_S.rf
  have hx := F.1.1; have hb := F.1.2.1; have hml := F.1.2.2.1; have hts := F.1.2.2.2.2
  have hown : s.vm.findClass RX6 = some m.cls := F.1.2.2.2.1
  have hl := lv_entry ([.ref h]) (n := 1) (Nat.le_of_ble_eq_true rfl)
  rw [lg_entry_eq]
  generalize (lg_sl ([.ref h]) ++ List.replicate (1 - (lg_sl ([.ref h])).length) Slot.unset).toArray = ls at hl ⊢
  have hl : lv_has ls 1 [(0, .ref h)] := hl
  unfold E_bar at hE
  refine lv_aload_n hx hb dX6_bar_0 rfl (lv_at hl 0 rfl) ?_
  refine lv_dup hx hb dX6_bar_1 rfl ?_
  refine va_get (D := G.1) (ci := 6) (C := RX6) (T := TX6) (N := 48) hx hb hts inX6 hown hK.1 hP 0 mW_0 rfl 17 (by decide) (hts _ w_863) (fun _ h9 => h9) mF_17 dX6_bar_2 ?_
  refine lv_iconst (v := 1) hx hb dX6_bar_5 (by decide) ?_
  refine lv_iadd hx hb dX6_bar_6 ?_
  refine va_put (D := G.1) (ci := 6) (v := .int ((R.1 17) + 1)) (ty := .int) (C := RX6) (T := TX6) (N := 48) hx hb hts inX6 tyX6 tyX6_ok nmX6 hown hK.1 hP hD hS 0 mW_0 rfl 17 (by decide) (hts _ w_863) (fun _ h9 => h9) rfl (by decide +kernel) rfl rfl mF_l17 dX6_bar_7 (fun H locs hP hD hS => ?_)
  rw [mW_f17] at hP hD
  refine lv_aload_n hx hb dX6_bar_10 rfl (lv_at hl 0 rfl) ?_
  obtain ⟨R1, hg, hE⟩ := hE
  refine kA_v (va_runV (As := []) (rest := []) F.1 (e_newSequence l G h q (mf R 17 ((R.1 17) + 1)) R1 0 hg _) (cwV 0 hts (aw_V w_1027 w_1029 ws_X6_newSequence w_6 w_1030) rfl rfl rfl (by decide +kernel) ⟨by decide, by decide⟩) ⟨cS_blind, va_recv (q := (RX6, TX6, 48)) (ci := 6) (q0 := 0) hK.1 hP rfl mW_0, cS_pre hP hD hK⟩ rfl rfl hl.1 rfl (lv_room (Nat.le_of_ble_eq_true rfl)) dX6_bar_11 ⟨Nat.le_refl _, Nat.le_refl _⟩) hD hS hA (fun u0 H locs hp hP hD hS => ?_)
  refine lv_iconst (v := 1) hx hb dX6_bar_14 (by decide) ?_
  obtain ⟨rfl, rfl⟩ := hE
  exact en_i F hS _ () (by rfl) rfl hP hD (Nat.le_refl _) (Nat.le_refl _) dX6_bar_15
