/-! PatternMatcher: the whole state C: ints by slot (4 compiled 5 matched 6 matchFrom 7 matchTo 12 pieces), the match's spans, rows' counts and characters (0 pattern 2 template 3 made), pieces (10 from 11 to), text and program in use, the search, the spare program, the two programs' addresses -/
abbrev DD : Type := Nat × Int32 × Int32 × Int64 × (Nat → Nat → Int32) × (Nat → Int64) × (Nat → Int64)
abbrev KP : Type := Nat × Nat × (Nat → Nat)
abbrev CS : Type := (Nat → Int32) × Int64 × (Nat → Nat) × (Nat → Nat → Int32) × (Nat → Nat → Int32) × TD × SS × DD × KP × KP
abbrev kI (C : CS) : Nat → Int32 := C.1
abbrev kL (C : CS) : Int64 := C.2.1
abbrev kJ (C : CS) : Nat → Nat := C.2.2.1
abbrev kG (C : CS) : Nat → Nat → Int32 := C.2.2.2.1
abbrev kP (C : CS) : Nat → Nat → Int32 := C.2.2.2.2.1
abbrev kT (C : CS) : TD := C.2.2.2.2.2.1
abbrev kS (C : CS) : SS := C.2.2.2.2.2.2.1
abbrev kD (C : CS) : DD := C.2.2.2.2.2.2.2.1
abbrev kK (C : CS) : KP := C.2.2.2.2.2.2.2.2.1
abbrev kM (C : CS) : KP := C.2.2.2.2.2.2.2.2.2
def uI (C : CS) (k : Nat) (x : Int32) : CS := (upd C.1 k x, C.2)
def uL (C : CS) (x : Int64) : CS := (C.1, x, C.2.2)
def uJ (C : CS) (k j : Nat) (g : Nat → Int32) : CS := (C.1, C.2.1, va_up C.2.2.1 k j, va_up C.2.2.2.1 k g, C.2.2.2.2)
def uP (C : CS) (k i : Nat) (x : Int32) : CS := (C.1, C.2.1, C.2.2.1, C.2.2.2.1, va_up C.2.2.2.2.1 k (upd (C.2.2.2.2.1 k) i x), C.2.2.2.2.2)
def uT (C : CS) (j : Nat) (g : Nat → Int32) : CS := (C.1, C.2.1, C.2.2.1, C.2.2.2.1, C.2.2.2.2.1, (j, g, (kT C).2.2), C.2.2.2.2.2.2)
def uS (C : CS) (S : SS) : CS := (C.1, C.2.1, C.2.2.1, C.2.2.2.1, C.2.2.2.2.1, kT C, S, C.2.2.2.2.2.2.2)
def uD (C : CS) (D : DD) : CS := (C.1, C.2.1, C.2.2.1, C.2.2.2.1, C.2.2.2.2.1, kT C, kS C, D, C.2.2.2.2.2.2.2.2)
/-- the two programs change over -/
def uX (C : CS) : CS := (C.1, C.2.1, C.2.2.1, C.2.2.2.1, C.2.2.2.2.1, ((kT C).1, (kT C).2.1, kD C), kS C, (kT C).2.2, kM C, kK C)
def rOK (n j : Nat) (g : Nat → Int32) : Prop := j ≤ n ∧ ∀ k, narrow .char (.int (g k)) = .int (g k)
def pmF (u : Nat → Nat) (C : CS) : List Value := [.ref (u 9), .ref (u 7), .ref (u 30), .ref (kM C).1, .int (kI C 4), .int (kI C 5), .int (kI C 6), .int (kI C 7), .long (kL C), .ref (u 35), .ref (u 37), .ref (u 38), .int (kI C 12)]
def rwF (u : Nat → Nat) : Nat → Option Nat := va_up (va_up (va_up (fun _ => none) 0 (some (u 31))) 1 (some (u 7))) 2 (some (u 33))
def qs (u : Nat → Nat) (K : KP) : Nat → Nat := fun k => if k = 8 then K.1 else if k = 21 then K.2.1 else u k
def pX (G : PG) (h : Nat) (u : Nat → Nat) (C : CS) : va_W := [(h, .inr (5, pmF u C)), (u 30, .inl (G.2 5, 3, .inr (.inr (.inr (.inr (rwF u)))))), (u 33, .inr (3, [.ref (u 34), .int (nI (kJ C 2))])), (u 34, .inl (G.2 2, 8, .inl (kG C 2))), (u 35, .inr (3, [.ref (u 36), .int (nI (kJ C 3))])), (u 36, .inl (G.2 2, 296, .inl (kG C 3))), (u 37, .inl (G.2 0, 10, .inl (kP C 10))), (u 38, .inl (G.2 0, 10, .inl (kP C 11)))]
def rP (G : PG) (K : KP) (D : DD) : va_W := [(K.1, .inr (1, [.ref K.2.1, .int (nI D.1), .int D.2.1, .int D.2.2.1, .long D.2.2.2.1])), (K.2.1, .inl (G.2 4, 32, .inr (.inr (.inr (.inr (nf K.2.2 32))))))]
def rR (G : PG) (u : Nat → Nat) (C : CS) : va_W := [(u 31, .inr (3, [.ref (u 32), .int (nI (kJ C 0))])), (u 32, .inl (G.2 2, 14, .inl (kG C 0)))]
def rX (G : PG) (u : Nat → Nat) (C : CS) : va_W := rR G u C ++ rP G (kM C) (kD C)
def pN (K : KP) (D : DD) : va_W := np K.2.2 D.2.2.2.2.1 D.2.2.2.2.2.1 D.2.2.2.2.2.2 32
def pS (G : PG) (u : Nat → Nat) (C : CS) : va_W := sX G (u 9) (qs u (kK C)) (kK C).2.2 (kT C) (kS C)
def pW (G : PG) (h : Nat) (u : Nat → Nat) (C : CS) : va_W := pX G h u C ++ (rX G u C ++ (pS G u C ++ (pN (kK C) (kT C).2.2 ++ pN (kM C) (kD C))))
theorem zp_nil {w : va_W} : w.Perm (w ++ []) := by rw [List.append_nil]
theorem zp_nilb {w : va_W} : (w ++ []).Perm w := by rw [List.append_nil]
section PW
variable {G : PG} {h : Nat} {u : Nat → Nat} {C : CS} {H : Heap} {A : Nat → Prop} {w : va_W}
theorem pW_0 : (pW G h u C)[0]? = some (h, .inr (5, pmF u C)) := rfl
theorem pW_1 : (pW G h u C)[1]? = some (u 30, .inl (G.2 5, 3, .inr (.inr (.inr (.inr (rwF u)))))) := rfl
theorem pW_6 : (pW G h u C)[6]? = some (u 37, .inl (G.2 0, 10, .inl (kP C 10))) := rfl
theorem pW_7 : (pW G h u C)[7]? = some (u 38, .inl (G.2 0, 10, .inl (kP C 11))) := rfl
theorem pW_12 : (pW G h u C)[12]? = some (u 9, .inr (4, sF (qs u (kK C)) (kS C))) := rfl
theorem pW_20 : (pW G h u C)[20]? = some ((kK C).1, .inr (1, [.ref (kK C).2.1, .int (nI (tC (kT C))), .int (tFi (kT C)), .int (tGr (kT C)), .long (tAq (kT C))])) := rfl
theorem pW_f4 {x : Int32} : (pW G h u C).set 0 (h, .inr (5, (pmF u C).set 4 (.int x))) = pW G h u (uI C 4 x) := rfl
theorem pW_f5 {x : Int32} : (pW G h u C).set 0 (h, .inr (5, (pmF u C).set 5 (.int x))) = pW G h u (uI C 5 x) := rfl
theorem pW_f6 {x : Int32} : (pW G h u C).set 0 (h, .inr (5, (pmF u C).set 6 (.int x))) = pW G h u (uI C 6 x) := rfl
theorem pW_f7 {x : Int32} : (pW G h u C).set 0 (h, .inr (5, (pmF u C).set 7 (.int x))) = pW G h u (uI C 7 x) := rfl
theorem pW_f12 {x : Int32} : (pW G h u C).set 0 (h, .inr (5, (pmF u C).set 12 (.int x))) = pW G h u (uI C 12 x) := rfl
theorem pW_f8 {x : Int64} : (pW G h u C).set 0 (h, .inr (5, (pmF u C).set 8 (.long x))) = pW G h u (uL C x) := rfl
theorem pW_a6 {i : Nat} {x : Int32} : (pW G h u C).set 6 (u 37, .inl (G.2 0, 10, .inl (upd (kP C 10) i x))) = pW G h u (uP C 10 i x) := rfl
theorem pW_a7 {i : Nat} {x : Int32} : (pW G h u C).set 7 (u 38, .inl (G.2 0, 10, .inl (upd (kP C 11) i x))) = pW G h u (uP C 11 i x) := rfl
theorem pP_r0 (hP : va_P G.1 vwCl (pW G h u C) H) : va_P G.1 vwCl [(u 31, .inr (3, [.ref (u 32), .int (nI (kJ C 0))])), (u 32, .inl (G.2 2, 14, .inl (kG C 0)))] H := hP.sub [8, 9] rfl
theorem pD_r0 (hD : va_D A (pW G h u C)) : va_D A [(u 31, .inr (3, [.ref (u 32), .int (nI (kJ C 0))])), (u 32, .inl (G.2 2, 14, .inl (kG C 0)))] := hD.sub [8, 9] (by decide) rfl
theorem pP_r1 (hP : va_P G.1 vwCl (pW G h u C) H) : va_P G.1 vwCl [(u 7, .inr (3, [.ref (u 20), .int (nI (tJ (kT C)))])), (u 20, .inl (G.2 2, 8, .inl (tG (kT C))))] H := hP.sub [13, 14] rfl
theorem pD_r1 (hD : va_D A (pW G h u C)) : va_D A [(u 7, .inr (3, [.ref (u 20), .int (nI (tJ (kT C)))])), (u 20, .inl (G.2 2, 8, .inl (tG (kT C))))] := hD.sub [13, 14] (by decide) rfl
theorem pP_r2 (hP : va_P G.1 vwCl (pW G h u C) H) : va_P G.1 vwCl [(u 33, .inr (3, [.ref (u 34), .int (nI (kJ C 2))])), (u 34, .inl (G.2 2, 8, .inl (kG C 2)))] H := hP.sub [2, 3] rfl
theorem pD_r2 (hD : va_D A (pW G h u C)) : va_D A [(u 33, .inr (3, [.ref (u 34), .int (nI (kJ C 2))])), (u 34, .inl (G.2 2, 8, .inl (kG C 2)))] := hD.sub [2, 3] (by decide) rfl
theorem pP_r3 (hP : va_P G.1 vwCl (pW G h u C) H) : va_P G.1 vwCl [(u 35, .inr (3, [.ref (u 36), .int (nI (kJ C 3))])), (u 36, .inl (G.2 2, 296, .inl (kG C 3)))] H := hP.sub [4, 5] rfl
theorem pD_r3 (hD : va_D A (pW G h u C)) : va_D A [(u 35, .inr (3, [.ref (u 36), .int (nI (kJ C 3))])), (u 36, .inl (G.2 2, 296, .inl (kG C 3)))] := hD.sub [4, 5] (by decide) rfl
end PW
def wL0 (G : PG) (h : Nat) (u : Nat → Nat) (C : CS) : va_W := pX G h u C
def wR0 (G : PG) (h : Nat) (u : Nat → Nat) (C : CS) : va_W := rP G (kM C) (kD C) ++ (pS G u C ++ (pN (kK C) (kT C).2.2 ++ pN (kM C) (kD C)))
def wL1 (G : PG) (h : Nat) (u : Nat → Nat) (C : CS) : va_W := pX G h u C ++ (rX G u C ++ [(u 9, .inr (4, sF (qs u (kK C)) (kS C)))])
def wR1 (G : PG) (h : Nat) (u : Nat → Nat) (C : CS) : va_W := (pS G u C).drop 3 ++ (pN (kK C) (kT C).2.2 ++ pN (kM C) (kD C))
def wL2 (G : PG) (h : Nat) (u : Nat → Nat) (C : CS) : va_W := [(h, .inr (5, pmF u C)), (u 30, .inl (G.2 5, 3, .inr (.inr (.inr (.inr (rwF u))))))]
def wR2 (G : PG) (h : Nat) (u : Nat → Nat) (C : CS) : va_W := [(u 35, .inr (3, [.ref (u 36), .int (nI (kJ C 3))])), (u 36, .inl (G.2 2, 296, .inl (kG C 3))), (u 37, .inl (G.2 0, 10, .inl (kP C 10))), (u 38, .inl (G.2 0, 10, .inl (kP C 11)))] ++ (rX G u C ++ (pS G u C ++ (pN (kK C) (kT C).2.2 ++ pN (kM C) (kD C))))
def wL3 (G : PG) (h : Nat) (u : Nat → Nat) (C : CS) : va_W := [(h, .inr (5, pmF u C)), (u 30, .inl (G.2 5, 3, .inr (.inr (.inr (.inr (rwF u)))))), (u 33, .inr (3, [.ref (u 34), .int (nI (kJ C 2))])), (u 34, .inl (G.2 2, 8, .inl (kG C 2)))]
def wR3 (G : PG) (h : Nat) (u : Nat → Nat) (C : CS) : va_W := [(u 37, .inl (G.2 0, 10, .inl (kP C 10))), (u 38, .inl (G.2 0, 10, .inl (kP C 11)))] ++ (rX G u C ++ (pS G u C ++ (pN (kK C) (kT C).2.2 ++ pN (kM C) (kD C))))
section PW
variable {G : PG} {h : Nat} {u : Nat → Nat} {C : CS} {H : Heap} {A : Nat → Prop} {w : va_W}
theorem zr0 {j : Nat} (hj : kJ C 0 = j) : (pW G h u C).Perm ((wL0 G h u C ++ wR0 G h u C) ++ ([(u 31, .inr (3, [.ref (u 32), .int (nI j)])), (u 32, .inl (G.2 2, 14, .inl (kG C 0)))] : va_W)) := by
  subst hj
  exact zp_mid (wL0 G h u C) ([(u 31, .inr (3, [.ref (u 32), .int (nI (kJ C 0))])), (u 32, .inl (G.2 2, 14, .inl (kG C 0)))] : va_W) (wR0 G h u C)
theorem zr0b {j : Nat} {g : Nat → Int32} : ((wL0 G h u C ++ wR0 G h u C) ++ ([(u 31, .inr (3, [.ref (u 32), .int (nI j)])), (u 32, .inl (G.2 2, 14, .inl g))] : va_W)).Perm (pW G h u (uJ C 0 j g)) := (zp_mid (wL0 G h u C) ([(u 31, .inr (3, [.ref (u 32), .int (nI j)])), (u 32, .inl (G.2 2, 14, .inl g))] : va_W) (wR0 G h u C)).symm
theorem zr1 {j : Nat} (hj : tJ (kT C) = j) : (pW G h u C).Perm ((wL1 G h u C ++ wR1 G h u C) ++ ([(u 7, .inr (3, [.ref (u 20), .int (nI j)])), (u 20, .inl (G.2 2, 8, .inl (tG (kT C))))] : va_W)) := by
  subst hj
  exact zp_mid (wL1 G h u C) ([(u 7, .inr (3, [.ref (u 20), .int (nI (tJ (kT C)))])), (u 20, .inl (G.2 2, 8, .inl (tG (kT C))))] : va_W) (wR1 G h u C)
theorem zr1b {j : Nat} {g : Nat → Int32} : ((wL1 G h u C ++ wR1 G h u C) ++ ([(u 7, .inr (3, [.ref (u 20), .int (nI j)])), (u 20, .inl (G.2 2, 8, .inl g))] : va_W)).Perm (pW G h u (uT C j g)) := (zp_mid (wL1 G h u C) ([(u 7, .inr (3, [.ref (u 20), .int (nI j)])), (u 20, .inl (G.2 2, 8, .inl g))] : va_W) (wR1 G h u C)).symm
theorem zr2 {j : Nat} (hj : kJ C 2 = j) : (pW G h u C).Perm ((wL2 G h u C ++ wR2 G h u C) ++ ([(u 33, .inr (3, [.ref (u 34), .int (nI j)])), (u 34, .inl (G.2 2, 8, .inl (kG C 2)))] : va_W)) := by
  subst hj
  exact zp_mid (wL2 G h u C) ([(u 33, .inr (3, [.ref (u 34), .int (nI (kJ C 2))])), (u 34, .inl (G.2 2, 8, .inl (kG C 2)))] : va_W) (wR2 G h u C)
theorem zr2b {j : Nat} {g : Nat → Int32} : ((wL2 G h u C ++ wR2 G h u C) ++ ([(u 33, .inr (3, [.ref (u 34), .int (nI j)])), (u 34, .inl (G.2 2, 8, .inl g))] : va_W)).Perm (pW G h u (uJ C 2 j g)) := (zp_mid (wL2 G h u C) ([(u 33, .inr (3, [.ref (u 34), .int (nI j)])), (u 34, .inl (G.2 2, 8, .inl g))] : va_W) (wR2 G h u C)).symm
theorem zr3 {j : Nat} (hj : kJ C 3 = j) : (pW G h u C).Perm ((wL3 G h u C ++ wR3 G h u C) ++ ([(u 35, .inr (3, [.ref (u 36), .int (nI j)])), (u 36, .inl (G.2 2, 296, .inl (kG C 3)))] : va_W)) := by
  subst hj
  exact zp_mid (wL3 G h u C) ([(u 35, .inr (3, [.ref (u 36), .int (nI (kJ C 3))])), (u 36, .inl (G.2 2, 296, .inl (kG C 3)))] : va_W) (wR3 G h u C)
theorem zr3b {j : Nat} {g : Nat → Int32} : ((wL3 G h u C ++ wR3 G h u C) ++ ([(u 35, .inr (3, [.ref (u 36), .int (nI j)])), (u 36, .inl (G.2 2, 296, .inl g))] : va_W)).Perm (pW G h u (uJ C 3 j g)) := (zp_mid (wL3 G h u C) ([(u 35, .inr (3, [.ref (u 36), .int (nI j)])), (u 36, .inl (G.2 2, 296, .inl g))] : va_W) (wR3 G h u C)).symm
theorem zs : (pW G h u C).Perm (((pX G h u C ++ rX G u C) ++ pN (kM C) (kD C)) ++ sW G (u 9) (qs u (kK C)) (kK C).2.2 (kT C) (kS C)) := zp_mid (pX G h u C ++ rX G u C) (sW G (u 9) (qs u (kK C)) (kK C).2.2 (kT C) (kS C)) (pN (kM C) (kD C))
theorem zsb {S : SS} : (((pX G h u C ++ rX G u C) ++ pN (kM C) (kD C)) ++ sW G (u 9) (qs u (kK C)) (kK C).2.2 (kT C) S).Perm (pW G h u (uS C S)) := (zp_mid (pX G h u C ++ rX G u C) (sW G (u 9) (qs u (kK C)) (kK C).2.2 (kT C) S) (pN (kM C) (kD C))).symm
end PW

def E_p_forgetMatchIfText (C : CS) (a1 : Int32) (C' : CS) (r : Int32) : Prop := if a1 = 1 then (C' = (uI C 5 0) ∧ r = 0) else (C' = C ∧ r = 0)
set_option maxHeartbeats 4000000 in
set_option maxRecDepth 100000 in
theorem e_p_forgetMatchIfText (l : Launch) (G : PG) (h : Nat) (u : Nat → Nat) (C : CS) (a1 : Int32) (C' : CS) (r : Int32) (hE : E_p_forgetMatchIfText C a1 C' r) : Cv l yX5_forgetMatchIfText (Cond.code yX5_forgetMatchIfText cX5_forgetMatchIfText 2 none :: aW) { frames := 0, cells := 0, slots := 0, locals := 0 } G (pW G h u C) [.ref h, .int a1] (fun (_ : Unit) => True) (fun (_ : Unit) => pW G h u C') 0 0 := by
  refine ofB (y := yX5_forgetMatchIfText) (G := G) (cc := cX5_forgetMatchIfText) (maxL := 2) (ret := none) (Qc := fun A => va_Qv (fun (_ : Unit) => True) (oB G A (fun (_ : Unit) => pW G h u C')) A) (by decide) rfl ?_
  intro p e s m below meth c A F hK hA hP hD
  have hS : va_S A s.heap s.heap [] := va_S.rf
  have hx := F.1.1; have hb := F.1.2.1; have hml := F.1.2.2.1; have hts := F.1.2.2.2.2
  have hown : s.vm.findClass RX5 = some m.cls := F.1.2.2.2.1
  have hl := lv_entry ([.ref h, .int a1]) (n := 2) (Nat.le_of_ble_eq_true rfl)
  rw [lg_entry_eq]
  generalize (lg_sl ([.ref h, .int a1]) ++ List.replicate (2 - (lg_sl ([.ref h, .int a1])).length) Slot.unset).toArray = ls at hl ⊢
  have hl : lv_has ls 2 [(0, .ref h), (1, .int a1)] := hl
  unfold E_p_forgetMatchIfText at hE
  refine lv_iload_n hx hb dX5_forgetMatchIfText_0 rfl (lv_at hl 1 rfl) ?_
  refine lv_iconst (v := 1) hx hb dX5_forgetMatchIfText_1 (by decide) ?_
  refine lv_icmp_ne (tgt := 10) hx hb dX5_forgetMatchIfText_2 (by decide) (fun h1 => ?_) (fun h1 => ?_)
  ·
    rw [if_neg h1] at hE
    obtain ⟨rfl, rfl⟩ := hE
    exact en_v F hS () trivial hP hD (Nat.le_refl _) (Nat.le_refl _) dX5_forgetMatchIfText_10
  ·
    rw [if_pos h1] at hE
    refine lv_aload_n hx hb dX5_forgetMatchIfText_5 rfl (lv_at hl 0 rfl) ?_
    refine lv_iconst (v := 0) hx hb dX5_forgetMatchIfText_6 (by decide) ?_
    refine va_put (D := G.1) (ci := 5) (v := .int 0) (ty := .boolean) (C := RX5) (T := TX5) (N := 13) hx hb hts inX5 tyX5 tyX5_ok nmX5 hown hK.1 hP hD hS 0 pW_0 rfl 5 (by decide) (hts _ w_195) (fun _ h9 => h9) rfl (by decide +kernel) rfl rfl (Nat.le_of_ble_eq_true rfl) dX5_forgetMatchIfText_7 (fun H locs hP hD hS => ?_)
    rw [pW_f5] at hP hD
    obtain ⟨rfl, rfl⟩ := hE
    exact en_v F hS () trivial hP hD (Nat.le_refl _) (Nat.le_refl _) dX5_forgetMatchIfText_10


def E_p_type (C : CS) (a1 : Int32) (a2 : Int32) (C' : CS) (r : Int32) : Prop := if (isRowV a1) = 0 then (C' = C ∧ r = 0) else (if a2 < 32 then (C' = C ∧ r = 0) else (if 126 < a2 then (C' = C ∧ r = 0) else (if a1 = 0 then (if (kJ C 0) < 14 then (∃ (C7 : CS), E_p_forgetMatchIfText (uJ C 0 ((kJ C 0) + 1) (upd (kG C 0) (kJ C 0) (vp_nar .char a2))) a1 C7 0 ∧ (C' = C7 ∧ r = 1)) else ((kJ C 0) = 14 ∧ (C' = (uJ C 0 14 (kG C 0)) ∧ r = 0))) else (if a1 = 1 then (if (tJ (kT C)) < 8 then (∃ (C11 : CS), E_p_forgetMatchIfText (uT C ((tJ (kT C)) + 1) (upd (tG (kT C)) (tJ (kT C)) (vp_nar .char a2))) a1 C11 0 ∧ (C' = C11 ∧ r = 1)) else ((tJ (kT C)) = 8 ∧ (C' = (uT C 8 (tG (kT C))) ∧ r = 0))) else (a1 = 2 ∧ (if (kJ C 2) < 8 then (∃ (C16 : CS), E_p_forgetMatchIfText (uJ C 2 ((kJ C 2) + 1) (upd (kG C 2) (kJ C 2) (vp_nar .char a2))) a1 C16 0 ∧ (C' = C16 ∧ r = 1)) else ((kJ C 2) = 8 ∧ (C' = (uJ C 2 8 (kG C 2)) ∧ r = 0))))))))
set_option maxHeartbeats 4000000 in
set_option maxRecDepth 100000 in
theorem e_p_type (l : Launch) (G : PG) (h : Nat) (u : Nat → Nat) (C : CS) (a1 : Int32) (a2 : Int32) (C' : CS) (r : Int32) (hE : E_p_type C a1 a2 C' r) : Ci l yX5_type (Cond.code yX5_type cX5_type 3 (some .boolean) :: aW) { frames := 1, cells := 0, slots := 0, locals := 21 } G (pW G h u C) [.ref h, .int a1, .int a2] (fun (r9 : Int32) (_ : Unit) => r9 = r) (fun (_ : Unit) => pW G h u C') 0 0 := by
  refine ofB (y := yX5_type) (G := G) (cc := cX5_type) (maxL := 3) (ret := (some .boolean)) (Qc := fun A => va_Qi (fun (r9 : Int32) (_ : Unit) => r9 = r) (oB G A (fun (_ : Unit) => pW G h u C')) A) (by decide) rfl ?_
  intro p e s m below meth c A F hK hA hP hD
  have hS : va_S A s.heap s.heap [] := va_S.rf
  have hx := F.1.1; have hb := F.1.2.1; have hml := F.1.2.2.1; have hts := F.1.2.2.2.2
  have hown : s.vm.findClass RX5 = some m.cls := F.1.2.2.2.1
  have hl := lv_entry ([.ref h, .int a1, .int a2]) (n := 3) (Nat.le_of_ble_eq_true rfl)
  rw [lg_entry_eq]
  generalize (lg_sl ([.ref h, .int a1, .int a2]) ++ List.replicate (3 - (lg_sl ([.ref h, .int a1, .int a2])).length) Slot.unset).toArray = ls at hl ⊢
  have hl : lv_has ls 3 [(0, .ref h), (1, .int a1), (2, .int a2)] := hl
  unfold E_p_type at hE
  refine lv_iload_n hx hb dX5_type_0 rfl (lv_at hl 1 rfl) ?_
  refine kz_i (wr := pW G h u C) (w2 := fun _ => pW G h u C) (va_runS (As := [.int a1]) (rest := []) F.1 (c_isRow l G a1 _) (va_cwS 1 hts (aw_S w_234 w_235 w_1 w_236) rfl rfl rfl (by decide +kernel) ⟨by decide, by decide⟩) ⟨cS_blind, cS_pre va_P0 (va_D0 (A := A)) hK⟩ rfl rfl hl.1 rfl (lv_room (Nat.le_of_ble_eq_true rfl)) dX5_type_1 ⟨Nat.le_refl _, Nat.le_refl _⟩) hP hD hS hA zp_nil (fun _ => zp_nilb) (fun r9 u0 H locs hp hP hD hS => ?_)
  subst hp
  refine lv_if_eq (tgt := 32) hx hb dX5_type_4 (by decide) (fun h1 => ?_) (fun h1 => ?_)
  ·
    rw [if_pos h1] at hE
    refine lv_iconst (v := 0) hx hb dX5_type_32 (by decide) ?_
    obtain ⟨rfl, rfl⟩ := hE
    exact en_i F hS _ () (by rfl) rfl hP hD (Nat.le_refl _) (Nat.le_refl _) dX5_type_33
  ·
    rw [if_neg h1] at hE
    refine lv_iload_n hx hb dX5_type_7 rfl (lv_at hl 2 rfl) ?_
    refine lv_bipush (v := 32) hx hb dX5_type_8 (by decide) ?_
    refine lv_icmp_lt (tgt := 32) hx hb dX5_type_10 (by decide) (fun h2 => ?_) (fun h2 => ?_)
    ·
      rw [if_pos h2] at hE
      refine lv_iconst (v := 0) hx hb dX5_type_32 (by decide) ?_
      obtain ⟨rfl, rfl⟩ := hE
      exact en_i F hS _ () (by rfl) rfl hP hD (Nat.le_refl _) (Nat.le_refl _) dX5_type_33
    ·
      rw [if_neg h2] at hE
      refine lv_iload_n hx hb dX5_type_13 rfl (lv_at hl 2 rfl) ?_
      refine lv_bipush (v := 126) hx hb dX5_type_14 (by decide) ?_
      refine lv_icmp_gt (tgt := 32) hx hb dX5_type_16 (by decide) (fun h3 => ?_) (fun h3 => ?_)
      ·
        rw [if_pos h3] at hE
        refine lv_iconst (v := 0) hx hb dX5_type_32 (by decide) ?_
        obtain ⟨rfl, rfl⟩ := hE
        exact en_i F hS _ () (by rfl) rfl hP hD (Nat.le_refl _) (Nat.le_refl _) dX5_type_33
      ·
        rw [if_neg h3] at hE
        refine lv_aload_n hx hb dX5_type_19 rfl (lv_at hl 0 rfl) ?_
        refine va_get (D := G.1) (ci := 5) (v := .ref (u 30)) (C := RX5) (T := TX5) (N := 13) hx hb hts inX5 hown hK.1 hP 0 pW_0 rfl 2 (by decide) (hts _ w_192) (fun _ h9 => h9) rfl dX5_type_20 ?_
        refine lv_iload_n hx hb dX5_type_23 rfl (lv_at hl 1 rfl) ?_
        by_cases h4 : a1 = 0
        ·
          rw [if_pos h4] at hE
          refine tp_i 0 h4 ?_
          refine va_aldq (D := G.1) hx hb hK.1 hP 1 5 pW_1 rfl (vp_in_nI (n := 0) (by decide) (by decide)) dX5_type_24 ?_
          refine tp_v (.ref (u 31)) rfl ?_
          refine lv_iload_n hx hb dX5_type_25 rfl (lv_at hl 2 rfl) ?_
          by_cases hj6 : (kJ C 0) < 14
          ·
            rw [if_pos hj6] at hE
            have hPc := (hP.perm (zr0 (G := G) (h := h) (u := u) (C := C) rfl)).appR; have hDc := (hD.perm (zr0 (G := G) (h := h) (u := u) (C := C) rfl)).appR
            refine kz_i (w2 := fun _ => pW G h u (uJ C 0 ((kJ C 0) + 1) (upd (kG C 0) (kJ C 0) (vp_nar .char a2)))) (va_runV (As := [.int a2]) (rest := []) F.1 (c_row_add l G (u 31) (u 32) 14 (kJ C 0) (kG C 0) a2 hj6 (by decide) _) (cwV 1 hts (aw_V w_237 w_238 w_239 w_3 w_240) rfl rfl rfl (by decide +kernel) ⟨by decide, by decide⟩) ⟨cS_blind, va_recv (q := (RX3, TX3, 2)) (ci := 3) (q0 := 0) hK.1 hPc rfl rfl, cS_pre hPc hDc hK⟩ rfl rfl hl.1 rfl (lv_room (Nat.le_of_ble_eq_true rfl)) dX5_type_26 ⟨Nat.le_refl _, Nat.le_refl _⟩) hP hD hS hA (zr0 (G := G) (h := h) (u := u) (C := C) rfl) (fun _ => zr0b) (fun r9 u0 H locs hp hP hD hS => ?_)
            subst hp
            refine lv_if_ne (tgt := 34) hx hb dX5_type_29 (by decide) (fun _ => ?_) (fun h => absurd h (by decide))
            refine lv_aload_n hx hb dX5_type_34 rfl (lv_at hl 0 rfl) ?_
            refine lv_iload_n hx hb dX5_type_35 rfl (lv_at hl 1 rfl) ?_
            obtain ⟨C7, hg, hE⟩ := hE
            refine kA_v (va_runV (As := [.int a1]) (rest := []) F.1 (e_p_forgetMatchIfText l G h u (uJ C 0 ((kJ C 0) + 1) (upd (kG C 0) (kJ C 0) (vp_nar .char a2))) a1 C7 0 hg _) (cwV 1 hts (aw_V w_241 w_243 ws_X5_forgetMatchIfText w_1 w_244) rfl rfl rfl (by decide +kernel) ⟨by decide, by decide⟩) ⟨cS_blind, va_recv (q := (RX5, TX5, 13)) (ci := 5) (q0 := 0) hK.1 hP rfl pW_0, cS_pre hP hD hK⟩ rfl rfl hl.1 rfl (lv_room (Nat.le_of_ble_eq_true rfl)) dX5_type_36 ⟨Nat.le_refl _, Nat.le_refl _⟩) hD hS hA (fun u0 H locs hp hP hD hS => ?_)
            refine lv_iconst (v := 1) hx hb dX5_type_39 (by decide) ?_
            obtain ⟨rfl, rfl⟩ := hE
            exact en_i F hS _ () (by rfl) rfl hP hD (Nat.le_refl _) (Nat.le_refl _) dX5_type_40
          rw [if_neg hj6] at hE
          obtain ⟨hj9, hE⟩ := hE
          have hPc := (hP.perm (zr0 (G := G) (h := h) (u := u) (C := C) hj9)).appR; have hDc := (hD.perm (zr0 (G := G) (h := h) (u := u) (C := C) hj9)).appR
          refine kz_i (w2 := fun _ => pW G h u (uJ C 0 14 (kG C 0))) (va_runV (As := [.int a2]) (rest := []) F.1 (c_row_addF l G (u 31) (u 32) 14 (kG C 0) a2 (by decide) _) (cwV 1 hts (aw_V w_237 w_238 w_239 w_3 w_240) rfl rfl rfl (by decide +kernel) ⟨by decide, by decide⟩) ⟨cS_blind, va_recv (q := (RX3, TX3, 2)) (ci := 3) (q0 := 0) hK.1 hPc rfl rfl, cS_pre hPc hDc hK⟩ rfl rfl hl.1 rfl (lv_room (Nat.le_of_ble_eq_true rfl)) dX5_type_26 ⟨Nat.le_refl _, Nat.le_refl _⟩) hP hD hS hA (zr0 (G := G) (h := h) (u := u) (C := C) hj9) (fun _ => zr0b) (fun r9 u0 H locs hp hP hD hS => ?_)
          subst hp
          refine lv_if_ne (tgt := 34) hx hb dX5_type_29 (by decide) (fun h => absurd (by decide) h) (fun _ => ?_)
          refine lv_iconst (v := 0) hx hb dX5_type_32 (by decide) ?_
          obtain ⟨rfl, rfl⟩ := hE
          exact en_i F hS _ () (by rfl) rfl hP hD (Nat.le_refl _) (Nat.le_refl _) dX5_type_33
        rw [if_neg h4] at hE
        by_cases h5 : a1 = 1
        ·
          rw [if_pos h5] at hE
          refine tp_i 1 h5 ?_
          refine va_aldq (D := G.1) hx hb hK.1 hP 1 5 pW_1 rfl (vp_in_nI (n := 1) (by decide) (by decide)) dX5_type_24 ?_
          refine tp_v (.ref (u 7)) rfl ?_
          refine lv_iload_n hx hb dX5_type_25 rfl (lv_at hl 2 rfl) ?_
          by_cases hj10 : (tJ (kT C)) < 8
          ·
            rw [if_pos hj10] at hE
            have hPc := (hP.perm (zr1 (G := G) (h := h) (u := u) (C := C) rfl)).appR; have hDc := (hD.perm (zr1 (G := G) (h := h) (u := u) (C := C) rfl)).appR
            refine kz_i (w2 := fun _ => pW G h u (uT C ((tJ (kT C)) + 1) (upd (tG (kT C)) (tJ (kT C)) (vp_nar .char a2)))) (va_runV (As := [.int a2]) (rest := []) F.1 (c_row_add l G (u 7) (u 20) 8 (tJ (kT C)) (tG (kT C)) a2 hj10 (by decide) _) (cwV 1 hts (aw_V w_237 w_238 w_239 w_3 w_240) rfl rfl rfl (by decide +kernel) ⟨by decide, by decide⟩) ⟨cS_blind, va_recv (q := (RX3, TX3, 2)) (ci := 3) (q0 := 0) hK.1 hPc rfl rfl, cS_pre hPc hDc hK⟩ rfl rfl hl.1 rfl (lv_room (Nat.le_of_ble_eq_true rfl)) dX5_type_26 ⟨Nat.le_refl _, Nat.le_refl _⟩) hP hD hS hA (zr1 (G := G) (h := h) (u := u) (C := C) rfl) (fun _ => zr1b) (fun r9 u0 H locs hp hP hD hS => ?_)
            subst hp
            refine lv_if_ne (tgt := 34) hx hb dX5_type_29 (by decide) (fun _ => ?_) (fun h => absurd h (by decide))
            refine lv_aload_n hx hb dX5_type_34 rfl (lv_at hl 0 rfl) ?_
            refine lv_iload_n hx hb dX5_type_35 rfl (lv_at hl 1 rfl) ?_
            obtain ⟨C11, hg, hE⟩ := hE
            refine kA_v (va_runV (As := [.int a1]) (rest := []) F.1 (e_p_forgetMatchIfText l G h u (uT C ((tJ (kT C)) + 1) (upd (tG (kT C)) (tJ (kT C)) (vp_nar .char a2))) a1 C11 0 hg _) (cwV 1 hts (aw_V w_241 w_243 ws_X5_forgetMatchIfText w_1 w_244) rfl rfl rfl (by decide +kernel) ⟨by decide, by decide⟩) ⟨cS_blind, va_recv (q := (RX5, TX5, 13)) (ci := 5) (q0 := 0) hK.1 hP rfl pW_0, cS_pre hP hD hK⟩ rfl rfl hl.1 rfl (lv_room (Nat.le_of_ble_eq_true rfl)) dX5_type_36 ⟨Nat.le_refl _, Nat.le_refl _⟩) hD hS hA (fun u0 H locs hp hP hD hS => ?_)
            refine lv_iconst (v := 1) hx hb dX5_type_39 (by decide) ?_
            obtain ⟨rfl, rfl⟩ := hE
            exact en_i F hS _ () (by rfl) rfl hP hD (Nat.le_refl _) (Nat.le_refl _) dX5_type_40
          rw [if_neg hj10] at hE
          obtain ⟨hj13, hE⟩ := hE
          have hPc := (hP.perm (zr1 (G := G) (h := h) (u := u) (C := C) hj13)).appR; have hDc := (hD.perm (zr1 (G := G) (h := h) (u := u) (C := C) hj13)).appR
          refine kz_i (w2 := fun _ => pW G h u (uT C 8 (tG (kT C)))) (va_runV (As := [.int a2]) (rest := []) F.1 (c_row_addF l G (u 7) (u 20) 8 (tG (kT C)) a2 (by decide) _) (cwV 1 hts (aw_V w_237 w_238 w_239 w_3 w_240) rfl rfl rfl (by decide +kernel) ⟨by decide, by decide⟩) ⟨cS_blind, va_recv (q := (RX3, TX3, 2)) (ci := 3) (q0 := 0) hK.1 hPc rfl rfl, cS_pre hPc hDc hK⟩ rfl rfl hl.1 rfl (lv_room (Nat.le_of_ble_eq_true rfl)) dX5_type_26 ⟨Nat.le_refl _, Nat.le_refl _⟩) hP hD hS hA (zr1 (G := G) (h := h) (u := u) (C := C) hj13) (fun _ => zr1b) (fun r9 u0 H locs hp hP hD hS => ?_)
          subst hp
          refine lv_if_ne (tgt := 34) hx hb dX5_type_29 (by decide) (fun h => absurd (by decide) h) (fun _ => ?_)
          refine lv_iconst (v := 0) hx hb dX5_type_32 (by decide) ?_
          obtain ⟨rfl, rfl⟩ := hE
          exact en_i F hS _ () (by rfl) rfl hP hD (Nat.le_refl _) (Nat.le_refl _) dX5_type_33
        rw [if_neg h5] at hE
        obtain ⟨h14, hE⟩ := hE
        refine tp_i 2 h14 ?_
        refine va_aldq (D := G.1) hx hb hK.1 hP 1 5 pW_1 rfl (vp_in_nI (n := 2) (by decide) (by decide)) dX5_type_24 ?_
        refine tp_v (.ref (u 33)) rfl ?_
        refine lv_iload_n hx hb dX5_type_25 rfl (lv_at hl 2 rfl) ?_
        by_cases hj15 : (kJ C 2) < 8
        ·
          rw [if_pos hj15] at hE
          have hPc := (hP.perm (zr2 (G := G) (h := h) (u := u) (C := C) rfl)).appR; have hDc := (hD.perm (zr2 (G := G) (h := h) (u := u) (C := C) rfl)).appR
          refine kz_i (w2 := fun _ => pW G h u (uJ C 2 ((kJ C 2) + 1) (upd (kG C 2) (kJ C 2) (vp_nar .char a2)))) (va_runV (As := [.int a2]) (rest := []) F.1 (c_row_add l G (u 33) (u 34) 8 (kJ C 2) (kG C 2) a2 hj15 (by decide) _) (cwV 1 hts (aw_V w_237 w_238 w_239 w_3 w_240) rfl rfl rfl (by decide +kernel) ⟨by decide, by decide⟩) ⟨cS_blind, va_recv (q := (RX3, TX3, 2)) (ci := 3) (q0 := 0) hK.1 hPc rfl rfl, cS_pre hPc hDc hK⟩ rfl rfl hl.1 rfl (lv_room (Nat.le_of_ble_eq_true rfl)) dX5_type_26 ⟨Nat.le_refl _, Nat.le_refl _⟩) hP hD hS hA (zr2 (G := G) (h := h) (u := u) (C := C) rfl) (fun _ => zr2b) (fun r9 u0 H locs hp hP hD hS => ?_)
          subst hp
          refine lv_if_ne (tgt := 34) hx hb dX5_type_29 (by decide) (fun _ => ?_) (fun h => absurd h (by decide))
          refine lv_aload_n hx hb dX5_type_34 rfl (lv_at hl 0 rfl) ?_
          refine lv_iload_n hx hb dX5_type_35 rfl (lv_at hl 1 rfl) ?_
          obtain ⟨C16, hg, hE⟩ := hE
          refine kA_v (va_runV (As := [.int a1]) (rest := []) F.1 (e_p_forgetMatchIfText l G h u (uJ C 2 ((kJ C 2) + 1) (upd (kG C 2) (kJ C 2) (vp_nar .char a2))) a1 C16 0 hg _) (cwV 1 hts (aw_V w_241 w_243 ws_X5_forgetMatchIfText w_1 w_244) rfl rfl rfl (by decide +kernel) ⟨by decide, by decide⟩) ⟨cS_blind, va_recv (q := (RX5, TX5, 13)) (ci := 5) (q0 := 0) hK.1 hP rfl pW_0, cS_pre hP hD hK⟩ rfl rfl hl.1 rfl (lv_room (Nat.le_of_ble_eq_true rfl)) dX5_type_36 ⟨Nat.le_refl _, Nat.le_refl _⟩) hD hS hA (fun u0 H locs hp hP hD hS => ?_)
          refine lv_iconst (v := 1) hx hb dX5_type_39 (by decide) ?_
          obtain ⟨rfl, rfl⟩ := hE
          exact en_i F hS _ () (by rfl) rfl hP hD (Nat.le_refl _) (Nat.le_refl _) dX5_type_40
        rw [if_neg hj15] at hE
        obtain ⟨hj18, hE⟩ := hE
        have hPc := (hP.perm (zr2 (G := G) (h := h) (u := u) (C := C) hj18)).appR; have hDc := (hD.perm (zr2 (G := G) (h := h) (u := u) (C := C) hj18)).appR
        refine kz_i (w2 := fun _ => pW G h u (uJ C 2 8 (kG C 2))) (va_runV (As := [.int a2]) (rest := []) F.1 (c_row_addF l G (u 33) (u 34) 8 (kG C 2) a2 (by decide) _) (cwV 1 hts (aw_V w_237 w_238 w_239 w_3 w_240) rfl rfl rfl (by decide +kernel) ⟨by decide, by decide⟩) ⟨cS_blind, va_recv (q := (RX3, TX3, 2)) (ci := 3) (q0 := 0) hK.1 hPc rfl rfl, cS_pre hPc hDc hK⟩ rfl rfl hl.1 rfl (lv_room (Nat.le_of_ble_eq_true rfl)) dX5_type_26 ⟨Nat.le_refl _, Nat.le_refl _⟩) hP hD hS hA (zr2 (G := G) (h := h) (u := u) (C := C) hj18) (fun _ => zr2b) (fun r9 u0 H locs hp hP hD hS => ?_)
        subst hp
        refine lv_if_ne (tgt := 34) hx hb dX5_type_29 (by decide) (fun h => absurd (by decide) h) (fun _ => ?_)
        refine lv_iconst (v := 0) hx hb dX5_type_32 (by decide) ?_
        obtain ⟨rfl, rfl⟩ := hE
        exact en_i F hS _ () (by rfl) rfl hP hD (Nat.le_refl _) (Nat.le_refl _) dX5_type_33


def E_p_clear (C : CS) (a1 : Int32) (C' : CS) (r : Int32) : Prop := if (isRowV a1) = 0 then (C' = C ∧ r = 0) else (if a1 = 0 then (∃ (C4 : CS), E_p_forgetMatchIfText (uJ C 0 0 (kG C 0)) a1 C4 0 ∧ (C' = C4 ∧ r = 1)) else (if a1 = 1 then (∃ (C6 : CS), E_p_forgetMatchIfText (uT C 0 (tG (kT C))) a1 C6 0 ∧ (C' = C6 ∧ r = 1)) else (a1 = 2 ∧ (∃ (C9 : CS), E_p_forgetMatchIfText (uJ C 2 0 (kG C 2)) a1 C9 0 ∧ (C' = C9 ∧ r = 1)))))
set_option maxHeartbeats 4000000 in
set_option maxRecDepth 100000 in
theorem e_p_clear (l : Launch) (G : PG) (h : Nat) (u : Nat → Nat) (C : CS) (a1 : Int32) (C' : CS) (r : Int32) (hE : E_p_clear C a1 C' r) : Ci l yX5_clear (Cond.code yX5_clear cX5_clear 2 (some .boolean) :: aW) { frames := 1, cells := 0, slots := 0, locals := 21 } G (pW G h u C) [.ref h, .int a1] (fun (r9 : Int32) (_ : Unit) => r9 = r) (fun (_ : Unit) => pW G h u C') 0 0 := by
  refine ofB (y := yX5_clear) (G := G) (cc := cX5_clear) (maxL := 2) (ret := (some .boolean)) (Qc := fun A => va_Qi (fun (r9 : Int32) (_ : Unit) => r9 = r) (oB G A (fun (_ : Unit) => pW G h u C')) A) (by decide) rfl ?_
  intro p e s m below meth c A F hK hA hP hD
  have hS : va_S A s.heap s.heap [] := va_S.rf
  have hx := F.1.1; have hb := F.1.2.1; have hml := F.1.2.2.1; have hts := F.1.2.2.2.2
  have hown : s.vm.findClass RX5 = some m.cls := F.1.2.2.2.1
  have hl := lv_entry ([.ref h, .int a1]) (n := 2) (Nat.le_of_ble_eq_true rfl)
  rw [lg_entry_eq]
  generalize (lg_sl ([.ref h, .int a1]) ++ List.replicate (2 - (lg_sl ([.ref h, .int a1])).length) Slot.unset).toArray = ls at hl ⊢
  have hl : lv_has ls 2 [(0, .ref h), (1, .int a1)] := hl
  unfold E_p_clear at hE
  refine lv_iload_n hx hb dX5_clear_0 rfl (lv_at hl 1 rfl) ?_
  refine kz_i (wr := pW G h u C) (w2 := fun _ => pW G h u C) (va_runS (As := [.int a1]) (rest := []) F.1 (c_isRow l G a1 _) (va_cwS 1 hts (aw_S w_234 w_235 w_1 w_236) rfl rfl rfl (by decide +kernel) ⟨by decide, by decide⟩) ⟨cS_blind, cS_pre va_P0 (va_D0 (A := A)) hK⟩ rfl rfl hl.1 rfl (lv_room (Nat.le_of_ble_eq_true rfl)) dX5_clear_1 ⟨Nat.le_refl _, Nat.le_refl _⟩) hP hD hS hA zp_nil (fun _ => zp_nilb) (fun r9 u0 H locs hp hP hD hS => ?_)
  subst hp
  refine lv_if_ne (tgt := 9) hx hb dX5_clear_4 (by decide) (fun h1 => ?_) (fun h1 => ?_)
  ·
    rw [if_neg h1] at hE
    refine lv_aload_n hx hb dX5_clear_9 rfl (lv_at hl 0 rfl) ?_
    refine va_get (D := G.1) (ci := 5) (v := .ref (u 30)) (C := RX5) (T := TX5) (N := 13) hx hb hts inX5 hown hK.1 hP 0 pW_0 rfl 2 (by decide) (hts _ w_192) (fun _ h9 => h9) rfl dX5_clear_10 ?_
    refine lv_iload_n hx hb dX5_clear_13 rfl (lv_at hl 1 rfl) ?_
    by_cases h2 : a1 = 0
    ·
      rw [if_pos h2] at hE
      refine tp_i 0 h2 ?_
      refine va_aldq (D := G.1) hx hb hK.1 hP 1 5 pW_1 rfl (vp_in_nI (n := 0) (by decide) (by decide)) dX5_clear_14 ?_
      refine tp_v (.ref (u 31)) rfl ?_
      have hPc := (hP.perm (zr0 (G := G) (h := h) (u := u) (C := C) rfl)).appR; have hDc := (hD.perm (zr0 (G := G) (h := h) (u := u) (C := C) rfl)).appR
      refine kz_v (w2 := fun _ => pW G h u (uJ C 0 0 (kG C 0))) (va_runV (As := []) (rest := []) F.1 (c_row_empty l G (u 31) (u 32) 14 (nI (kJ C 0)) (kG C 0) _) (cwV 0 hts (aw_V w_249 w_250 w_251 w_3 w_252) rfl rfl rfl (by decide +kernel) ⟨by decide, by decide⟩) ⟨cS_blind, va_recv (q := (RX3, TX3, 2)) (ci := 3) (q0 := 0) hK.1 hPc rfl rfl, cS_pre hPc hDc hK⟩ rfl rfl hl.1 rfl (lv_room (Nat.le_of_ble_eq_true rfl)) dX5_clear_15 ⟨Nat.le_refl _, Nat.le_refl _⟩) hP hD hS hA (zr0 (G := G) (h := h) (u := u) (C := C) rfl) (fun _ => zr0b) (fun u0 H locs hp hP hD hS => ?_)
      refine lv_aload_n hx hb dX5_clear_18 rfl (lv_at hl 0 rfl) ?_
      refine lv_iload_n hx hb dX5_clear_19 rfl (lv_at hl 1 rfl) ?_
      obtain ⟨C4, hg, hE⟩ := hE
      refine kA_v (va_runV (As := [.int a1]) (rest := []) F.1 (e_p_forgetMatchIfText l G h u (uJ C 0 0 (kG C 0)) a1 C4 0 hg _) (cwV 1 hts (aw_V w_241 w_243 ws_X5_forgetMatchIfText w_1 w_244) rfl rfl rfl (by decide +kernel) ⟨by decide, by decide⟩) ⟨cS_blind, va_recv (q := (RX5, TX5, 13)) (ci := 5) (q0 := 0) hK.1 hP rfl pW_0, cS_pre hP hD hK⟩ rfl rfl hl.1 rfl (lv_room (Nat.le_of_ble_eq_true rfl)) dX5_clear_20 ⟨Nat.le_refl _, Nat.le_refl _⟩) hD hS hA (fun u0 H locs hp hP hD hS => ?_)
      refine lv_iconst (v := 1) hx hb dX5_clear_23 (by decide) ?_
      obtain ⟨rfl, rfl⟩ := hE
      exact en_i F hS _ () (by rfl) rfl hP hD (Nat.le_refl _) (Nat.le_refl _) dX5_clear_24
    rw [if_neg h2] at hE
    by_cases h3 : a1 = 1
    ·
      rw [if_pos h3] at hE
      refine tp_i 1 h3 ?_
      refine va_aldq (D := G.1) hx hb hK.1 hP 1 5 pW_1 rfl (vp_in_nI (n := 1) (by decide) (by decide)) dX5_clear_14 ?_
      refine tp_v (.ref (u 7)) rfl ?_
      have hPc := (hP.perm (zr1 (G := G) (h := h) (u := u) (C := C) rfl)).appR; have hDc := (hD.perm (zr1 (G := G) (h := h) (u := u) (C := C) rfl)).appR
      refine kz_v (w2 := fun _ => pW G h u (uT C 0 (tG (kT C)))) (va_runV (As := []) (rest := []) F.1 (c_row_empty l G (u 7) (u 20) 8 (nI (tJ (kT C))) (tG (kT C)) _) (cwV 0 hts (aw_V w_249 w_250 w_251 w_3 w_252) rfl rfl rfl (by decide +kernel) ⟨by decide, by decide⟩) ⟨cS_blind, va_recv (q := (RX3, TX3, 2)) (ci := 3) (q0 := 0) hK.1 hPc rfl rfl, cS_pre hPc hDc hK⟩ rfl rfl hl.1 rfl (lv_room (Nat.le_of_ble_eq_true rfl)) dX5_clear_15 ⟨Nat.le_refl _, Nat.le_refl _⟩) hP hD hS hA (zr1 (G := G) (h := h) (u := u) (C := C) rfl) (fun _ => zr1b) (fun u0 H locs hp hP hD hS => ?_)
      refine lv_aload_n hx hb dX5_clear_18 rfl (lv_at hl 0 rfl) ?_
      refine lv_iload_n hx hb dX5_clear_19 rfl (lv_at hl 1 rfl) ?_
      obtain ⟨C6, hg, hE⟩ := hE
      refine kA_v (va_runV (As := [.int a1]) (rest := []) F.1 (e_p_forgetMatchIfText l G h u (uT C 0 (tG (kT C))) a1 C6 0 hg _) (cwV 1 hts (aw_V w_241 w_243 ws_X5_forgetMatchIfText w_1 w_244) rfl rfl rfl (by decide +kernel) ⟨by decide, by decide⟩) ⟨cS_blind, va_recv (q := (RX5, TX5, 13)) (ci := 5) (q0 := 0) hK.1 hP rfl pW_0, cS_pre hP hD hK⟩ rfl rfl hl.1 rfl (lv_room (Nat.le_of_ble_eq_true rfl)) dX5_clear_20 ⟨Nat.le_refl _, Nat.le_refl _⟩) hD hS hA (fun u0 H locs hp hP hD hS => ?_)
      refine lv_iconst (v := 1) hx hb dX5_clear_23 (by decide) ?_
      obtain ⟨rfl, rfl⟩ := hE
      exact en_i F hS _ () (by rfl) rfl hP hD (Nat.le_refl _) (Nat.le_refl _) dX5_clear_24
    rw [if_neg h3] at hE
    obtain ⟨h8, hE⟩ := hE
    refine tp_i 2 h8 ?_
    refine va_aldq (D := G.1) hx hb hK.1 hP 1 5 pW_1 rfl (vp_in_nI (n := 2) (by decide) (by decide)) dX5_clear_14 ?_
    refine tp_v (.ref (u 33)) rfl ?_
    have hPc := (hP.perm (zr2 (G := G) (h := h) (u := u) (C := C) rfl)).appR; have hDc := (hD.perm (zr2 (G := G) (h := h) (u := u) (C := C) rfl)).appR
    refine kz_v (w2 := fun _ => pW G h u (uJ C 2 0 (kG C 2))) (va_runV (As := []) (rest := []) F.1 (c_row_empty l G (u 33) (u 34) 8 (nI (kJ C 2)) (kG C 2) _) (cwV 0 hts (aw_V w_249 w_250 w_251 w_3 w_252) rfl rfl rfl (by decide +kernel) ⟨by decide, by decide⟩) ⟨cS_blind, va_recv (q := (RX3, TX3, 2)) (ci := 3) (q0 := 0) hK.1 hPc rfl rfl, cS_pre hPc hDc hK⟩ rfl rfl hl.1 rfl (lv_room (Nat.le_of_ble_eq_true rfl)) dX5_clear_15 ⟨Nat.le_refl _, Nat.le_refl _⟩) hP hD hS hA (zr2 (G := G) (h := h) (u := u) (C := C) rfl) (fun _ => zr2b) (fun u0 H locs hp hP hD hS => ?_)
    refine lv_aload_n hx hb dX5_clear_18 rfl (lv_at hl 0 rfl) ?_
    refine lv_iload_n hx hb dX5_clear_19 rfl (lv_at hl 1 rfl) ?_
    obtain ⟨C9, hg, hE⟩ := hE
    refine kA_v (va_runV (As := [.int a1]) (rest := []) F.1 (e_p_forgetMatchIfText l G h u (uJ C 2 0 (kG C 2)) a1 C9 0 hg _) (cwV 1 hts (aw_V w_241 w_243 ws_X5_forgetMatchIfText w_1 w_244) rfl rfl rfl (by decide +kernel) ⟨by decide, by decide⟩) ⟨cS_blind, va_recv (q := (RX5, TX5, 13)) (ci := 5) (q0 := 0) hK.1 hP rfl pW_0, cS_pre hP hD hK⟩ rfl rfl hl.1 rfl (lv_room (Nat.le_of_ble_eq_true rfl)) dX5_clear_20 ⟨Nat.le_refl _, Nat.le_refl _⟩) hD hS hA (fun u0 H locs hp hP hD hS => ?_)
    refine lv_iconst (v := 1) hx hb dX5_clear_23 (by decide) ?_
    obtain ⟨rfl, rfl⟩ := hE
    exact en_i F hS _ () (by rfl) rfl hP hD (Nat.le_refl _) (Nat.le_refl _) dX5_clear_24
  ·
    rw [if_pos h1] at hE
    refine lv_iconst (v := 0) hx hb dX5_clear_7 (by decide) ?_
    obtain ⟨rfl, rfl⟩ := hE
    exact en_i F hS _ () (by rfl) rfl hP hD (Nat.le_refl _) (Nat.le_refl _) dX5_clear_8


def E_p_length (C : CS) (a1 : Int32) (C' : CS) (r : Int32) : Prop := if (isRowV a1) = 0 then (C' = C ∧ r = (-1)) else (if a1 = 0 then (C' = C ∧ r = (nI (kJ C 0))) else (if a1 = 1 then (C' = C ∧ r = (nI (tJ (kT C)))) else (a1 = 2 ∧ (C' = C ∧ r = (nI (kJ C 2))))))
set_option maxHeartbeats 4000000 in
set_option maxRecDepth 100000 in
theorem e_p_length (l : Launch) (G : PG) (h : Nat) (u : Nat → Nat) (C : CS) (a1 : Int32) (C' : CS) (r : Int32) (hE : E_p_length C a1 C' r) : Ci l yX5_length (Cond.code yX5_length cX5_length 2 (some .int) :: aW) { frames := 1, cells := 0, slots := 0, locals := 20 } G (pW G h u C) [.ref h, .int a1] (fun (r9 : Int32) (_ : Unit) => r9 = r) (fun (_ : Unit) => pW G h u C') 0 0 := by
  refine ofB (y := yX5_length) (G := G) (cc := cX5_length) (maxL := 2) (ret := (some .int)) (Qc := fun A => va_Qi (fun (r9 : Int32) (_ : Unit) => r9 = r) (oB G A (fun (_ : Unit) => pW G h u C')) A) (by decide) rfl ?_
  intro p e s m below meth c A F hK hA hP hD
  have hS : va_S A s.heap s.heap [] := va_S.rf
  have hx := F.1.1; have hb := F.1.2.1; have hml := F.1.2.2.1; have hts := F.1.2.2.2.2
  have hown : s.vm.findClass RX5 = some m.cls := F.1.2.2.2.1
  have hl := lv_entry ([.ref h, .int a1]) (n := 2) (Nat.le_of_ble_eq_true rfl)
  rw [lg_entry_eq]
  generalize (lg_sl ([.ref h, .int a1]) ++ List.replicate (2 - (lg_sl ([.ref h, .int a1])).length) Slot.unset).toArray = ls at hl ⊢
  have hl : lv_has ls 2 [(0, .ref h), (1, .int a1)] := hl
  unfold E_p_length at hE
  refine lv_iload_n hx hb dX5_length_0 rfl (lv_at hl 1 rfl) ?_
  refine kz_i (wr := pW G h u C) (w2 := fun _ => pW G h u C) (va_runS (As := [.int a1]) (rest := []) F.1 (c_isRow l G a1 _) (va_cwS 1 hts (aw_S w_234 w_235 w_1 w_236) rfl rfl rfl (by decide +kernel) ⟨by decide, by decide⟩) ⟨cS_blind, cS_pre va_P0 (va_D0 (A := A)) hK⟩ rfl rfl hl.1 rfl (lv_room (Nat.le_of_ble_eq_true rfl)) dX5_length_1 ⟨Nat.le_refl _, Nat.le_refl _⟩) hP hD hS hA zp_nil (fun _ => zp_nilb) (fun r9 u0 H locs hp hP hD hS => ?_)
  subst hp
  refine lv_if_eq (tgt := 19) hx hb dX5_length_4 (by decide) (fun h1 => ?_) (fun h1 => ?_)
  ·
    rw [if_pos h1] at hE
    refine lv_iconst (v := (-1)) hx hb dX5_length_19 (by decide) ?_
    obtain ⟨rfl, rfl⟩ := hE
    exact en_i F hS _ () (by rfl) rfl hP hD (Nat.le_refl _) (Nat.le_refl _) dX5_length_20
  ·
    rw [if_neg h1] at hE
    refine lv_aload_n hx hb dX5_length_7 rfl (lv_at hl 0 rfl) ?_
    refine va_get (D := G.1) (ci := 5) (v := .ref (u 30)) (C := RX5) (T := TX5) (N := 13) hx hb hts inX5 hown hK.1 hP 0 pW_0 rfl 2 (by decide) (hts _ w_192) (fun _ h9 => h9) rfl dX5_length_8 ?_
    refine lv_iload_n hx hb dX5_length_11 rfl (lv_at hl 1 rfl) ?_
    by_cases h2 : a1 = 0
    ·
      rw [if_pos h2] at hE
      refine tp_i 0 h2 ?_
      refine va_aldq (D := G.1) hx hb hK.1 hP 1 5 pW_1 rfl (vp_in_nI (n := 0) (by decide) (by decide)) dX5_length_12 ?_
      refine tp_v (.ref (u 31)) rfl ?_
      refine kp_V (va_runV (As := []) (rest := []) F.1 (v_row_size l G _ _ _ _ _ _) (cwV 0 hts (aw_V w_257 w_258 w_259 w_3 w_260) rfl rfl rfl (by decide +kernel) ⟨by decide, by decide⟩) ⟨cS_blind, va_recv (q := (RX3, TX3, 2)) (ci := 3) (q0 := 0) hK.1 (pP_r0 (C := C) hP) rfl rfl, cS_pre (pP_r0 (C := C) hP) (pD_r0 (C := C) hD) hK⟩ rfl rfl hl.1 rfl (lv_room (Nat.le_of_ble_eq_true rfl)) dX5_length_13 ⟨Nat.le_refl _, Nat.le_refl _⟩) (fun v9 hp => ?_)
      subst hp
      refine lv_goto (tgt := 20) hx hb dX5_length_16 (by decide) ?_
      obtain ⟨rfl, rfl⟩ := hE
      exact en_i F hS _ () (by rfl) rfl hP hD (Nat.le_refl _) (Nat.le_refl _) dX5_length_20
    rw [if_neg h2] at hE
    by_cases h3 : a1 = 1
    ·
      rw [if_pos h3] at hE
      refine tp_i 1 h3 ?_
      refine va_aldq (D := G.1) hx hb hK.1 hP 1 5 pW_1 rfl (vp_in_nI (n := 1) (by decide) (by decide)) dX5_length_12 ?_
      refine tp_v (.ref (u 7)) rfl ?_
      refine kp_V (va_runV (As := []) (rest := []) F.1 (v_row_size l G _ _ _ _ _ _) (cwV 0 hts (aw_V w_257 w_258 w_259 w_3 w_260) rfl rfl rfl (by decide +kernel) ⟨by decide, by decide⟩) ⟨cS_blind, va_recv (q := (RX3, TX3, 2)) (ci := 3) (q0 := 0) hK.1 (pP_r1 (C := C) hP) rfl rfl, cS_pre (pP_r1 (C := C) hP) (pD_r1 (C := C) hD) hK⟩ rfl rfl hl.1 rfl (lv_room (Nat.le_of_ble_eq_true rfl)) dX5_length_13 ⟨Nat.le_refl _, Nat.le_refl _⟩) (fun v9 hp => ?_)
      subst hp
      refine lv_goto (tgt := 20) hx hb dX5_length_16 (by decide) ?_
      obtain ⟨rfl, rfl⟩ := hE
      exact en_i F hS _ () (by rfl) rfl hP hD (Nat.le_refl _) (Nat.le_refl _) dX5_length_20
    rw [if_neg h3] at hE
    obtain ⟨h4, hE⟩ := hE
    refine tp_i 2 h4 ?_
    refine va_aldq (D := G.1) hx hb hK.1 hP 1 5 pW_1 rfl (vp_in_nI (n := 2) (by decide) (by decide)) dX5_length_12 ?_
    refine tp_v (.ref (u 33)) rfl ?_
    refine kp_V (va_runV (As := []) (rest := []) F.1 (v_row_size l G _ _ _ _ _ _) (cwV 0 hts (aw_V w_257 w_258 w_259 w_3 w_260) rfl rfl rfl (by decide +kernel) ⟨by decide, by decide⟩) ⟨cS_blind, va_recv (q := (RX3, TX3, 2)) (ci := 3) (q0 := 0) hK.1 (pP_r2 (C := C) hP) rfl rfl, cS_pre (pP_r2 (C := C) hP) (pD_r2 (C := C) hD) hK⟩ rfl rfl hl.1 rfl (lv_room (Nat.le_of_ble_eq_true rfl)) dX5_length_13 ⟨Nat.le_refl _, Nat.le_refl _⟩) (fun v9 hp => ?_)
    subst hp
    refine lv_goto (tgt := 20) hx hb dX5_length_16 (by decide) ?_
    obtain ⟨rfl, rfl⟩ := hE
    exact en_i F hS _ () (by rfl) rfl hP hD (Nat.le_refl _) (Nat.le_refl _) dX5_length_20

theorem dX5_match_0 : decode cX5_match 0 = .ok (.aload_n 0, 1) := by decide +kernel
theorem dX5_match_1 : decode cX5_match 1 = .ok (.iconst 0, 1) := by decide +kernel
theorem dX5_match_2 : decode cX5_match 2 = .ok (.putfield 80, 3) := by decide +kernel
theorem dX5_match_5 : decode cX5_match 5 = .ok (.aload_n 0, 1) := by decide +kernel
theorem dX5_match_6 : decode cX5_match 6 = .ok (.getfield 12, 3) := by decide +kernel
theorem dX5_match_9 : decode cX5_match 9 = .ok (.iconst 0, 1) := by decide +kernel
theorem dX5_match_10 : decode cX5_match 10 = .ok (.invokevirtual 143, 3) := by decide +kernel
theorem dX5_match_13 : decode cX5_match 13 = .ok (.iload_n 1, 1) := by decide +kernel
theorem dX5_match_14 : decode cX5_match 14 = .ok (.istore 4, 2) := by decide +kernel
theorem dX5_match_16 : decode cX5_match 16 = .ok (.iload 4, 2) := by decide +kernel
theorem dX5_match_18 : decode cX5_match 18 = .ok (.iload_n 2, 1) := by decide +kernel
theorem dX5_match_19 : decode cX5_match 19 = .ok (.if_icmp .gt 36, 3) := by decide +kernel
theorem dX5_match_22 : decode cX5_match 22 = .ok (.aload_n 0, 1) := by decide +kernel
theorem dX5_match_23 : decode cX5_match 23 = .ok (.getfield 80, 3) := by decide +kernel
theorem dX5_match_26 : decode cX5_match 26 = .ok (.ifCond .ne 29, 3) := by decide +kernel
theorem dX5_match_29 : decode cX5_match 29 = .ok (.aload_n 0, 1) := by decide +kernel
theorem dX5_match_30 : decode cX5_match 30 = .ok (.aload_n 0, 1) := by decide +kernel
theorem dX5_match_31 : decode cX5_match 31 = .ok (.getfield 12, 3) := by decide +kernel
theorem dX5_match_34 : decode cX5_match 34 = .ok (.iload 4, 2) := by decide +kernel
theorem dX5_match_36 : decode cX5_match 36 = .ok (.iload_n 3, 1) := by decide +kernel
theorem dX5_match_37 : decode cX5_match 37 = .ok (.invokevirtual 146, 3) := by decide +kernel
theorem dX5_match_40 : decode cX5_match 40 = .ok (.putfield 80, 3) := by decide +kernel
theorem dX5_match_43 : decode cX5_match 43 = .ok (.aload_n 0, 1) := by decide +kernel
theorem dX5_match_44 : decode cX5_match 44 = .ok (.iload 4, 2) := by decide +kernel
theorem dX5_match_46 : decode cX5_match 46 = .ok (.putfield 101, 3) := by decide +kernel
theorem dX5_match_49 : decode cX5_match 49 = .ok (.iinc 4 1, 3) := by decide +kernel
theorem dX5_match_52 : decode cX5_match 52 = .ok (.goto (-36), 3) := by decide +kernel
theorem dX5_match_55 : decode cX5_match 55 = .ok (.aload_n 0, 1) := by decide +kernel
theorem dX5_match_56 : decode cX5_match 56 = .ok (.aload_n 0, 1) := by decide +kernel
theorem dX5_match_57 : decode cX5_match 57 = .ok (.getfield 12, 3) := by decide +kernel
theorem dX5_match_60 : decode cX5_match 60 = .ok (.getfield 150, 3) := by decide +kernel
theorem dX5_match_63 : decode cX5_match 63 = .ok (.putfield 124, 3) := by decide +kernel
theorem dX5_match_66 : decode cX5_match 66 = .ok (.aload_n 0, 1) := by decide +kernel
theorem dX5_match_67 : decode cX5_match 67 = .ok (.aload_n 0, 1) := by decide +kernel
theorem dX5_match_68 : decode cX5_match 68 = .ok (.getfield 12, 3) := by decide +kernel
theorem dX5_match_71 : decode cX5_match 71 = .ok (.getfield 153, 3) := by decide +kernel
theorem dX5_match_74 : decode cX5_match 74 = .ok (.putfield 157, 3) := by decide +kernel
theorem dX5_match_77 : decode cX5_match 77 = .ok (.aload_n 0, 1) := by decide +kernel
theorem dX5_match_78 : decode cX5_match 78 = .ok (.getfield 80, 3) := by decide +kernel
theorem dX5_match_81 : decode cX5_match 81 = .ok (.ireturn, 1) := by decide +kernel
def L_p_match_16 : Nat → CS → Int32 → Int32 → Int32 → Int32 → CS → Int32 → Prop
  | 0, _, _, _, _, _, _, _ => False
  | nf + 1, C, x1, x2, x3, x4, C', r => if x2 < x4 then (narrow .boolean (.int (kI (uL (uI C 7 ((kS C).1.1 10)) ((kS (uI C 7 ((kS C).1.1 10))).2)) 5)) = .int (kI (uL (uI C 7 ((kS C).1.1 10)) ((kS (uI C 7 ((kS C).1.1 10))).2)) 5) ∧ C' = (uL (uI C 7 ((kS C).1.1 10)) ((kS (uI C 7 ((kS C).1.1 10))).2)) ∧ r = (kI (uL (uI C 7 ((kS C).1.1 10)) ((kS (uI C 7 ((kS C).1.1 10))).2)) 5)) else (if (kI C 5) = 0 then (tOK (kT C) ∧ ∃ (S6 : SS) (r7 : Int32), E_fw (kT C) (kS C) x4 x3 S6 r7 ∧ (narrow .boolean (.int r7) = .int r7 ∧ fits .boolean (.int r7) = true ∧ (L_p_match_16 nf (uI (uI (uS C S6) 5 r7) 6 x4) x1 x2 x3 (x4 + 1) C' r))) else (narrow .boolean (.int (kI (uL (uI C 7 ((kS C).1.1 10)) ((kS (uI C 7 ((kS C).1.1 10))).2)) 5)) = .int (kI (uL (uI C 7 ((kS C).1.1 10)) ((kS (uI C 7 ((kS C).1.1 10))).2)) 5) ∧ C' = (uL (uI C 7 ((kS C).1.1 10)) ((kS (uI C 7 ((kS C).1.1 10))).2)) ∧ r = (kI (uL (uI C 7 ((kS C).1.1 10)) ((kS (uI C 7 ((kS C).1.1 10))).2)) 5)))
set_option maxHeartbeats 4000000 in
set_option maxRecDepth 100000 in
theorem L_p_match_16_ok {l : Launch} {G : PG} {h : Nat} {u : Nat → Nat} {a1 : Int32} {a2 : Int32} {a3 : Int32} {C' : CS} {r : Int32} {p : Program} {e : Env} {s : State} {m : MethodId} {below : List Frame} {meth : Method} {c : Code} {A : Nat → Prop} (F : bF p s m meth c cX5_match 5 (some .boolean) ([.ref h, .int a1, .int a2, .int a3] : List Value).toArray yX5_match) (hK : pg_K G s) (hA : ∀ q, s.heap.size ≤ q → A q) : ∀ (nf : Nat) (C : CS) (x1 : Int32) (x2 : Int32) (x3 : Int32) (x4 : Int32) (H : Heap) (locs : List Loc) (ls : Array Slot), lv_has ls 5 [(4, .int x4), (0, .ref h), (1, .int x1), (2, .int x2), (3, .int x3)] → L_p_match_16 nf C x1 x2 x3 x4 C' r → va_P G.1 vwCl (pW G h u C) H → va_D A (pW G h u C) → va_S A s.heap H locs → W p l e { frames := 56, cells := 0, slots := 0, locals := 1473 } s m ([.ref h, .int a1, .int a2, .int a3] : List Value).toArray below meth c H locs 0 0 (MQ below (va_Qi (fun (r9 : Int32) (_ : Unit) => r9 = r) (oB G A (fun (_ : Unit) => pW G h u C')) A) ([.ref h, .int a1, .int a2, .int a3] : List Value).toArray s 0 0 A) (F0 m 16 ls []) := by
  have hx := F.1.1; have hb := F.1.2.1; have hml := F.1.2.2.1; have hts := F.1.2.2.2.2
  have hown : s.vm.findClass RX5 = some m.cls := F.1.2.2.2.1
  intro nf
  induction nf with
  | zero => intro C x1 x2 x3 x4 H locs ls hl hE; exact hE.elim
  | succ nf ih =>
    intro C x1 x2 x3 x4 H locs ls hl hE hP hD hS
    unfold L_p_match_16 at hE
    refine lv_iload hx hb dX5_match_16 (lv_at hl 0 rfl) ?_
    refine lv_iload_n hx hb dX5_match_18 rfl (lv_at hl 3 rfl) ?_
    refine lv_icmp_gt (tgt := 55) hx hb dX5_match_19 (by decide) (fun h4 => ?_) (fun h4 => ?_)
    ·
      rw [if_pos h4] at hE
      refine lv_aload_n hx hb dX5_match_55 rfl (lv_at hl 1 rfl) ?_
      refine lv_aload_n hx hb dX5_match_56 rfl (lv_at hl 1 rfl) ?_
      refine va_get (D := G.1) (ci := 5) (v := .ref (u 9)) (C := RX5) (T := TX5) (N := 13) hx hb hts inX5 hown hK.1 hP 0 pW_0 rfl 0 (by decide) (hts _ w_190) (fun _ h9 => h9) rfl dX5_match_57 ?_
      refine va_getN (D := G.1) (ci := 4) (v := .int ((kS C).1.1 10)) (C := RX4) (T := TX4) (N := 13) hx hb hts inX4 hown hK.1 hP 12 pW_12 rfl 10 (by decide) (hK.2.1.use w_152) (fun _ h9 => h9) rfl dX5_match_60 ?_
      refine va_put (D := G.1) (ci := 5) (v := .int ((kS C).1.1 10)) (ty := .int) (C := RX5) (T := TX5) (N := 13) hx hb hts inX5 tyX5 tyX5_ok nmX5 hown hK.1 hP hD hS 0 pW_0 rfl 7 (by decide) (hts _ w_197) (fun _ h9 => h9) rfl (by decide +kernel) rfl rfl (Nat.le_of_ble_eq_true rfl) dX5_match_63 (fun H locs hP hD hS => ?_)
      rw [pW_f7] at hP hD
      refine lv_aload_n hx hb dX5_match_66 rfl (lv_at hl 1 rfl) ?_
      refine lv_aload_n hx hb dX5_match_67 rfl (lv_at hl 1 rfl) ?_
      refine va_get (D := G.1) (ci := 5) (v := .ref (u 9)) (C := RX5) (T := TX5) (N := 13) hx hb hts inX5 hown hK.1 hP 0 pW_0 rfl 0 (by decide) (hts _ w_190) (fun _ h9 => h9) rfl dX5_match_68 ?_
      refine va_getN (D := G.1) (ci := 4) (v := .long ((kS (uI C 7 ((kS C).1.1 10))).2)) (C := RX4) (T := TX4) (N := 13) hx hb hts inX4 hown hK.1 hP 12 pW_12 rfl 12 (by decide) (hK.2.1.use w_155) (fun _ h9 => h9) rfl dX5_match_71 ?_
      refine va_put (D := G.1) (ci := 5) (v := .long ((kS (uI C 7 ((kS C).1.1 10))).2)) (ty := .long) (C := RX5) (T := TX5) (N := 13) hx hb hts inX5 tyX5 tyX5_ok nmX5 hown hK.1 hP hD hS 0 pW_0 rfl 8 (by decide) (hts _ w_198) (fun _ h9 => h9) rfl (by decide +kernel) rfl rfl (Nat.le_of_ble_eq_true rfl) dX5_match_74 (fun H locs hP hD hS => ?_)
      rw [pW_f8] at hP hD
      refine lv_aload_n hx hb dX5_match_77 rfl (lv_at hl 1 rfl) ?_
      refine va_get (D := G.1) (ci := 5) (v := .int (kI (uL (uI C 7 ((kS C).1.1 10)) ((kS (uI C 7 ((kS C).1.1 10))).2)) 5)) (C := RX5) (T := TX5) (N := 13) hx hb hts inX5 hown hK.1 hP 0 pW_0 rfl 5 (by decide) (hts _ w_195) (fun _ h9 => h9) rfl dX5_match_78 ?_
      obtain ⟨hn, rfl, rfl⟩ := hE
      exact en_i F hS _ () hn rfl hP hD (Nat.le_refl _) (Nat.le_refl _) dX5_match_81
    ·
      rw [if_neg h4] at hE
      refine lv_aload_n hx hb dX5_match_22 rfl (lv_at hl 1 rfl) ?_
      refine va_get (D := G.1) (ci := 5) (v := .int (kI C 5)) (C := RX5) (T := TX5) (N := 13) hx hb hts inX5 hown hK.1 hP 0 pW_0 rfl 5 (by decide) (hts _ w_195) (fun _ h9 => h9) rfl dX5_match_23 ?_
      refine lv_if_ne (tgt := 55) hx hb dX5_match_26 (by decide) (fun h5 => ?_) (fun h5 => ?_)
      ·
        rw [if_neg h5] at hE
        refine lv_aload_n hx hb dX5_match_55 rfl (lv_at hl 1 rfl) ?_
        refine lv_aload_n hx hb dX5_match_56 rfl (lv_at hl 1 rfl) ?_
        refine va_get (D := G.1) (ci := 5) (v := .ref (u 9)) (C := RX5) (T := TX5) (N := 13) hx hb hts inX5 hown hK.1 hP 0 pW_0 rfl 0 (by decide) (hts _ w_190) (fun _ h9 => h9) rfl dX5_match_57 ?_
        refine va_getN (D := G.1) (ci := 4) (v := .int ((kS C).1.1 10)) (C := RX4) (T := TX4) (N := 13) hx hb hts inX4 hown hK.1 hP 12 pW_12 rfl 10 (by decide) (hK.2.1.use w_152) (fun _ h9 => h9) rfl dX5_match_60 ?_
        refine va_put (D := G.1) (ci := 5) (v := .int ((kS C).1.1 10)) (ty := .int) (C := RX5) (T := TX5) (N := 13) hx hb hts inX5 tyX5 tyX5_ok nmX5 hown hK.1 hP hD hS 0 pW_0 rfl 7 (by decide) (hts _ w_197) (fun _ h9 => h9) rfl (by decide +kernel) rfl rfl (Nat.le_of_ble_eq_true rfl) dX5_match_63 (fun H locs hP hD hS => ?_)
        rw [pW_f7] at hP hD
        refine lv_aload_n hx hb dX5_match_66 rfl (lv_at hl 1 rfl) ?_
        refine lv_aload_n hx hb dX5_match_67 rfl (lv_at hl 1 rfl) ?_
        refine va_get (D := G.1) (ci := 5) (v := .ref (u 9)) (C := RX5) (T := TX5) (N := 13) hx hb hts inX5 hown hK.1 hP 0 pW_0 rfl 0 (by decide) (hts _ w_190) (fun _ h9 => h9) rfl dX5_match_68 ?_
        refine va_getN (D := G.1) (ci := 4) (v := .long ((kS (uI C 7 ((kS C).1.1 10))).2)) (C := RX4) (T := TX4) (N := 13) hx hb hts inX4 hown hK.1 hP 12 pW_12 rfl 12 (by decide) (hK.2.1.use w_155) (fun _ h9 => h9) rfl dX5_match_71 ?_
        refine va_put (D := G.1) (ci := 5) (v := .long ((kS (uI C 7 ((kS C).1.1 10))).2)) (ty := .long) (C := RX5) (T := TX5) (N := 13) hx hb hts inX5 tyX5 tyX5_ok nmX5 hown hK.1 hP hD hS 0 pW_0 rfl 8 (by decide) (hts _ w_198) (fun _ h9 => h9) rfl (by decide +kernel) rfl rfl (Nat.le_of_ble_eq_true rfl) dX5_match_74 (fun H locs hP hD hS => ?_)
        rw [pW_f8] at hP hD
        refine lv_aload_n hx hb dX5_match_77 rfl (lv_at hl 1 rfl) ?_
        refine va_get (D := G.1) (ci := 5) (v := .int (kI (uL (uI C 7 ((kS C).1.1 10)) ((kS (uI C 7 ((kS C).1.1 10))).2)) 5)) (C := RX5) (T := TX5) (N := 13) hx hb hts inX5 hown hK.1 hP 0 pW_0 rfl 5 (by decide) (hts _ w_195) (fun _ h9 => h9) rfl dX5_match_78 ?_
        obtain ⟨hn, rfl, rfl⟩ := hE
        exact en_i F hS _ () hn rfl hP hD (Nat.le_refl _) (Nat.le_refl _) dX5_match_81
      ·
        rw [if_pos h5] at hE
        refine lv_aload_n hx hb dX5_match_29 rfl (lv_at hl 1 rfl) ?_
        refine lv_aload_n hx hb dX5_match_30 rfl (lv_at hl 1 rfl) ?_
        refine va_get (D := G.1) (ci := 5) (v := .ref (u 9)) (C := RX5) (T := TX5) (N := 13) hx hb hts inX5 hown hK.1 hP 0 pW_0 rfl 0 (by decide) (hts _ w_190) (fun _ h9 => h9) rfl dX5_match_31 ?_
        refine lv_iload hx hb dX5_match_34 (lv_at hl 0 rfl) ?_
        refine lv_iload_n hx hb dX5_match_36 rfl (lv_at hl 4 rfl) ?_
        obtain ⟨ho8, S6, r7, hg, hE⟩ := hE
        have hPc := (hP.perm (zs (G := G) (h := h) (u := u) (C := C))).appR; have hDc := (hD.perm (zs (G := G) (h := h) (u := u) (C := C))).appR
        refine kz_i (w2 := fun _ => pW G h u (uS C S6)) (va_runV (As := [.int x4, .int x3]) (rest := [.ref h]) F.1 (e_fw l G (u 9) (qs u (kK C)) (kK C).2.2 (kT C) ho8 (kS C) x4 x3 S6 r7 hg _) (cwV 2 hts (aw_V w_625 w_626 w_627 w_2 w_628) rfl rfl rfl (by decide +kernel) ⟨by decide, by decide⟩) ⟨cS_blind, va_recv (q := (RX4, TX4, 13)) (ci := 4) (q0 := 0) hK.1 hPc rfl rfl, cS_pre hPc hDc hK⟩ rfl rfl hl.1 rfl (lv_room (Nat.le_of_ble_eq_true rfl)) dX5_match_37 ⟨Nat.le_refl _, Nat.le_refl _⟩) hP hD hS hA (zs (G := G) (h := h) (u := u) (C := C)) (fun _ => zsb) (fun r9 u0 H locs hp hP hD hS => ?_)
        have hp := hp.symm; subst hp
        obtain ⟨hnz, hfz, hE⟩ := hE
        refine va_put (D := G.1) (ci := 5) (v := .int r7) (ty := .boolean) (C := RX5) (T := TX5) (N := 13) hx hb hts inX5 tyX5 tyX5_ok nmX5 hown hK.1 hP hD hS 0 pW_0 rfl 5 (by decide) (hts _ w_195) (fun _ h9 => h9) rfl (by decide +kernel) hnz hfz (Nat.le_of_ble_eq_true rfl) dX5_match_40 (fun H locs hP hD hS => ?_)
        rw [pW_f5] at hP hD
        refine lv_aload_n hx hb dX5_match_43 rfl (lv_at hl 1 rfl) ?_
        refine lv_iload hx hb dX5_match_44 (lv_at hl 0 rfl) ?_
        refine va_put (D := G.1) (ci := 5) (v := .int x4) (ty := .int) (C := RX5) (T := TX5) (N := 13) hx hb hts inX5 tyX5 tyX5_ok nmX5 hown hK.1 hP hD hS 0 pW_0 rfl 6 (by decide) (hts _ w_196) (fun _ h9 => h9) rfl (by decide +kernel) rfl rfl (Nat.le_of_ble_eq_true rfl) dX5_match_46 (fun H locs hP hD hS => ?_)
        rw [pW_f6] at hP hD
        refine lv_iinc (v := (x4 + 1)) (k := 0) hx hb dX5_match_49 hl rfl rfl (by decide) rfl (fun ls hl => ?_)
        have hl : lv_has ls 5 [(4, .int (x4 + 1)), (0, .ref h), (1, .int x1), (2, .int x2), (3, .int x3)] := hl
        refine lv_goto (tgt := 16) hx hb dX5_match_52 (by decide) ?_
        exact ih (uI (uI (uS C S6) 5 r7) 6 x4) x1 x2 x3 (x4 + 1) _ _ ls (lv_sub hl [0, 1, 2, 3, 4] rfl) hE hP hD hS
def E_p_match (C : CS) (a1 : Int32) (a2 : Int32) (a3 : Int32) (C' : CS) (r : Int32) : Prop := tOK (kT (uI C 5 0)) ∧ ∃ (S1 : SS), E_s_openSearch (kT (uI C 5 0)) (kS (uI C 5 0)) 0 S1 0 ∧ (∃ nf : Nat, L_p_match_16 nf (uS (uI C 5 0) S1) a1 a2 a3 a1 C' r)
set_option maxHeartbeats 4000000 in
set_option maxRecDepth 100000 in
theorem e_p_match (l : Launch) (G : PG) (h : Nat) (u : Nat → Nat) (C : CS) (a1 : Int32) (a2 : Int32) (a3 : Int32) (C' : CS) (r : Int32) (hE : E_p_match C a1 a2 a3 C' r) : Ci l yX5_match (Cond.code yX5_match cX5_match 5 (some .boolean) :: aW) { frames := 56, cells := 0, slots := 0, locals := 1473 } G (pW G h u C) [.ref h, .int a1, .int a2, .int a3] (fun (r9 : Int32) (_ : Unit) => r9 = r) (fun (_ : Unit) => pW G h u C') 0 0 := by
  refine ofB (y := yX5_match) (G := G) (cc := cX5_match) (maxL := 5) (ret := (some .boolean)) (Qc := fun A => va_Qi (fun (r9 : Int32) (_ : Unit) => r9 = r) (oB G A (fun (_ : Unit) => pW G h u C')) A) (by decide) rfl ?_
  intro p e s m below meth c A F hK hA hP hD
  have hS : va_S A s.heap s.heap [] := va_S.rf
  have hx := F.1.1; have hb := F.1.2.1; have hml := F.1.2.2.1; have hts := F.1.2.2.2.2
  have hown : s.vm.findClass RX5 = some m.cls := F.1.2.2.2.1
  have hl := lv_entry ([.ref h, .int a1, .int a2, .int a3]) (n := 5) (Nat.le_of_ble_eq_true rfl)
  rw [lg_entry_eq]
  generalize (lg_sl ([.ref h, .int a1, .int a2, .int a3]) ++ List.replicate (5 - (lg_sl ([.ref h, .int a1, .int a2, .int a3])).length) Slot.unset).toArray = ls at hl ⊢
  have hl : lv_has ls 5 [(0, .ref h), (1, .int a1), (2, .int a2), (3, .int a3)] := hl
  unfold E_p_match at hE
  refine lv_aload_n hx hb dX5_match_0 rfl (lv_at hl 0 rfl) ?_
  refine lv_iconst (v := 0) hx hb dX5_match_1 (by decide) ?_
  refine va_put (D := G.1) (ci := 5) (v := .int 0) (ty := .boolean) (C := RX5) (T := TX5) (N := 13) hx hb hts inX5 tyX5 tyX5_ok nmX5 hown hK.1 hP hD hS 0 pW_0 rfl 5 (by decide) (hts _ w_195) (fun _ h9 => h9) rfl (by decide +kernel) rfl rfl (Nat.le_of_ble_eq_true rfl) dX5_match_2 (fun H locs hP hD hS => ?_)
  rw [pW_f5] at hP hD
  refine lv_aload_n hx hb dX5_match_5 rfl (lv_at hl 0 rfl) ?_
  refine va_get (D := G.1) (ci := 5) (v := .ref (u 9)) (C := RX5) (T := TX5) (N := 13) hx hb hts inX5 hown hK.1 hP 0 pW_0 rfl 0 (by decide) (hts _ w_190) (fun _ h9 => h9) rfl dX5_match_6 ?_
  refine lv_iconst (v := 0) hx hb dX5_match_9 (by decide) ?_
  obtain ⟨ho3, S1, hg, hE⟩ := hE
  have hPc := (hP.perm (zs (G := G) (h := h) (u := u) (C := (uI C 5 0)))).appR; have hDc := (hD.perm (zs (G := G) (h := h) (u := u) (C := (uI C 5 0)))).appR
  refine kz_v (w2 := fun _ => pW G h u (uS (uI C 5 0) S1)) (va_runV (As := [.int 0]) (rest := []) F.1 (e_s_openSearch l G (u 9) (qs u (kK (uI C 5 0))) (kK (uI C 5 0)).2.2 (kT (uI C 5 0)) ho3 (kS (uI C 5 0)) 0 S1 0 hg _) (cwV 1 hts (aw_V w_621 w_622 w_623 w_2 w_624) rfl rfl rfl (by decide +kernel) ⟨by decide, by decide⟩) ⟨cS_blind, va_recv (q := (RX4, TX4, 13)) (ci := 4) (q0 := 0) hK.1 hPc rfl rfl, cS_pre hPc hDc hK⟩ rfl rfl hl.1 rfl (lv_room (Nat.le_of_ble_eq_true rfl)) dX5_match_10 ⟨Nat.le_refl _, Nat.le_refl _⟩) hP hD hS hA (zs (G := G) (h := h) (u := u) (C := (uI C 5 0))) (fun _ => zsb) (fun u0 H locs hp hP hD hS => ?_)
  refine lv_iload_n hx hb dX5_match_13 rfl (lv_at hl 1 rfl) ?_
  refine lv_istore hx hb dX5_match_14 hl (by decide) rfl (fun ls hl => ?_)
  have hl : lv_has ls 5 [(4, .int a1), (0, .ref h), (1, .int a1), (2, .int a2), (3, .int a3)] := hl
  obtain ⟨nf, hE⟩ := hE
  exact L_p_match_16_ok F hK hA nf (uS (uI C 5 0) S1) a1 a2 a3 a1 _ _ ls (lv_sub hl [0, 1, 2, 3, 4] rfl) hE hP hD hS

theorem dX5_placeAfterMatch_0 : decode cX5_placeAfterMatch 0 = .ok (.aload_n 0, 1) := by decide +kernel
theorem dX5_placeAfterMatch_1 : decode cX5_placeAfterMatch 1 = .ok (.getfield 124, 3) := by decide +kernel
theorem dX5_placeAfterMatch_4 : decode cX5_placeAfterMatch 4 = .ok (.aload_n 0, 1) := by decide +kernel
theorem dX5_placeAfterMatch_5 : decode cX5_placeAfterMatch 5 = .ok (.getfield 101, 3) := by decide +kernel
theorem dX5_placeAfterMatch_8 : decode cX5_placeAfterMatch 8 = .ok (.if_icmp .le 10, 3) := by decide +kernel
theorem dX5_placeAfterMatch_11 : decode cX5_placeAfterMatch 11 = .ok (.aload_n 0, 1) := by decide +kernel
theorem dX5_placeAfterMatch_12 : decode cX5_placeAfterMatch 12 = .ok (.getfield 124, 3) := by decide +kernel
theorem dX5_placeAfterMatch_15 : decode cX5_placeAfterMatch 15 = .ok (.goto 9, 3) := by decide +kernel
theorem dX5_placeAfterMatch_18 : decode cX5_placeAfterMatch 18 = .ok (.aload_n 0, 1) := by decide +kernel
theorem dX5_placeAfterMatch_19 : decode cX5_placeAfterMatch 19 = .ok (.getfield 124, 3) := by decide +kernel
theorem dX5_placeAfterMatch_22 : decode cX5_placeAfterMatch 22 = .ok (.iconst 1, 1) := by decide +kernel
theorem dX5_placeAfterMatch_23 : decode cX5_placeAfterMatch 23 = .ok (.iadd, 1) := by decide +kernel
theorem dX5_placeAfterMatch_24 : decode cX5_placeAfterMatch 24 = .ok (.ireturn, 1) := by decide +kernel
def E_p_placeAfterMatch (C : CS)  (C' : CS) (r : Int32) : Prop := if (kI C 7) ≤ (kI C 6) then (C' = C ∧ r = ((kI C 7) + 1)) else (C' = C ∧ r = (kI C 7))
set_option maxHeartbeats 4000000 in
set_option maxRecDepth 100000 in
theorem e_p_placeAfterMatch (l : Launch) (G : PG) (h : Nat) (u : Nat → Nat) (C : CS)  (C' : CS) (r : Int32) (hE : E_p_placeAfterMatch C C' r) : Ci l yX5_placeAfterMatch (Cond.code yX5_placeAfterMatch cX5_placeAfterMatch 1 (some .int) :: aW) { frames := 0, cells := 0, slots := 0, locals := 0 } G (pW G h u C) [.ref h] (fun (r9 : Int32) (_ : Unit) => r9 = r) (fun (_ : Unit) => pW G h u C') 0 0 := by
  refine ofB (y := yX5_placeAfterMatch) (G := G) (cc := cX5_placeAfterMatch) (maxL := 1) (ret := (some .int)) (Qc := fun A => va_Qi (fun (r9 : Int32) (_ : Unit) => r9 = r) (oB G A (fun (_ : Unit) => pW G h u C')) A) (by decide) rfl ?_
  intro p e s m below meth c A F hK hA hP hD
  have hS : va_S A s.heap s.heap [] := va_S.rf
  have hx := F.1.1; have hb := F.1.2.1; have hml := F.1.2.2.1; have hts := F.1.2.2.2.2
  have hown : s.vm.findClass RX5 = some m.cls := F.1.2.2.2.1
  have hl := lv_entry ([.ref h]) (n := 1) (Nat.le_of_ble_eq_true rfl)
  rw [lg_entry_eq]
  generalize (lg_sl ([.ref h]) ++ List.replicate (1 - (lg_sl ([.ref h])).length) Slot.unset).toArray = ls at hl ⊢
  have hl : lv_has ls 1 [(0, .ref h)] := hl
  unfold E_p_placeAfterMatch at hE
  refine lv_aload_n hx hb dX5_placeAfterMatch_0 rfl (lv_at hl 0 rfl) ?_
  refine va_get (D := G.1) (ci := 5) (v := .int (kI C 7)) (C := RX5) (T := TX5) (N := 13) hx hb hts inX5 hown hK.1 hP 0 pW_0 rfl 7 (by decide) (hts _ w_197) (fun _ h9 => h9) rfl dX5_placeAfterMatch_1 ?_
  refine lv_aload_n hx hb dX5_placeAfterMatch_4 rfl (lv_at hl 0 rfl) ?_
  refine va_get (D := G.1) (ci := 5) (v := .int (kI C 6)) (C := RX5) (T := TX5) (N := 13) hx hb hts inX5 hown hK.1 hP 0 pW_0 rfl 6 (by decide) (hts _ w_196) (fun _ h9 => h9) rfl dX5_placeAfterMatch_5 ?_
  refine lv_icmp_le (tgt := 18) hx hb dX5_placeAfterMatch_8 (by decide) (fun h1 => ?_) (fun h1 => ?_)
  ·
    rw [if_pos h1] at hE
    refine lv_aload_n hx hb dX5_placeAfterMatch_18 rfl (lv_at hl 0 rfl) ?_
    refine va_get (D := G.1) (ci := 5) (v := .int (kI C 7)) (C := RX5) (T := TX5) (N := 13) hx hb hts inX5 hown hK.1 hP 0 pW_0 rfl 7 (by decide) (hts _ w_197) (fun _ h9 => h9) rfl dX5_placeAfterMatch_19 ?_
    refine lv_iconst (v := 1) hx hb dX5_placeAfterMatch_22 (by decide) ?_
    refine lv_iadd hx hb dX5_placeAfterMatch_23 ?_
    obtain ⟨rfl, rfl⟩ := hE
    exact en_i F hS _ () (by rfl) rfl hP hD (Nat.le_refl _) (Nat.le_refl _) dX5_placeAfterMatch_24
  ·
    rw [if_neg h1] at hE
    refine lv_aload_n hx hb dX5_placeAfterMatch_11 rfl (lv_at hl 0 rfl) ?_
    refine va_get (D := G.1) (ci := 5) (v := .int (kI C 7)) (C := RX5) (T := TX5) (N := 13) hx hb hts inX5 hown hK.1 hP 0 pW_0 rfl 7 (by decide) (hts _ w_197) (fun _ h9 => h9) rfl dX5_placeAfterMatch_12 ?_
    refine lv_goto (tgt := 24) hx hb dX5_placeAfterMatch_15 (by decide) ?_
    obtain ⟨rfl, rfl⟩ := hE
    exact en_i F hS _ () (by rfl) rfl hP hD (Nat.le_refl _) (Nat.le_refl _) dX5_placeAfterMatch_24

theorem dX5_isGroup_0 : decode cX5_isGroup 0 = .ok (.iload_n 1, 1) := by decide +kernel
theorem dX5_isGroup_1 : decode cX5_isGroup 1 = .ok (.ifCond .lt 21, 3) := by decide +kernel
theorem dX5_isGroup_4 : decode cX5_isGroup 4 = .ok (.iload_n 1, 1) := by decide +kernel
theorem dX5_isGroup_5 : decode cX5_isGroup 5 = .ok (.aload_n 0, 1) := by decide +kernel
theorem dX5_isGroup_6 : decode cX5_isGroup 6 = .ok (.getfield 12, 3) := by decide +kernel
theorem dX5_isGroup_9 : decode cX5_isGroup 9 = .ok (.getfield 73, 3) := by decide +kernel
theorem dX5_isGroup_12 : decode cX5_isGroup 12 = .ok (.getfield 83, 3) := by decide +kernel
theorem dX5_isGroup_15 : decode cX5_isGroup 15 = .ok (.if_icmp .gt 7, 3) := by decide +kernel
theorem dX5_isGroup_18 : decode cX5_isGroup 18 = .ok (.iconst 1, 1) := by decide +kernel
theorem dX5_isGroup_19 : decode cX5_isGroup 19 = .ok (.goto 4, 3) := by decide +kernel
theorem dX5_isGroup_22 : decode cX5_isGroup 22 = .ok (.iconst 0, 1) := by decide +kernel
theorem dX5_isGroup_23 : decode cX5_isGroup 23 = .ok (.ireturn, 1) := by decide +kernel
def E_p_isGroup (C : CS) (a1 : Int32) (C' : CS) (r : Int32) : Prop := if a1 < 0 then (C' = C ∧ r = 0) else (if (tGr (kT C)) < a1 then (C' = C ∧ r = 0) else (C' = C ∧ r = 1))
set_option maxHeartbeats 4000000 in
set_option maxRecDepth 100000 in
theorem e_p_isGroup (l : Launch) (G : PG) (h : Nat) (u : Nat → Nat) (C : CS) (a1 : Int32) (C' : CS) (r : Int32) (hE : E_p_isGroup C a1 C' r) : Ci l yX5_isGroup (Cond.code yX5_isGroup cX5_isGroup 2 (some .boolean) :: aW) { frames := 0, cells := 0, slots := 0, locals := 0 } G (pW G h u C) [.ref h, .int a1] (fun (r9 : Int32) (_ : Unit) => r9 = r) (fun (_ : Unit) => pW G h u C') 0 0 := by
  refine ofB (y := yX5_isGroup) (G := G) (cc := cX5_isGroup) (maxL := 2) (ret := (some .boolean)) (Qc := fun A => va_Qi (fun (r9 : Int32) (_ : Unit) => r9 = r) (oB G A (fun (_ : Unit) => pW G h u C')) A) (by decide) rfl ?_
  intro p e s m below meth c A F hK hA hP hD
  have hS : va_S A s.heap s.heap [] := va_S.rf
  have hx := F.1.1; have hb := F.1.2.1; have hml := F.1.2.2.1; have hts := F.1.2.2.2.2
  have hown : s.vm.findClass RX5 = some m.cls := F.1.2.2.2.1
  have hl := lv_entry ([.ref h, .int a1]) (n := 2) (Nat.le_of_ble_eq_true rfl)
  rw [lg_entry_eq]
  generalize (lg_sl ([.ref h, .int a1]) ++ List.replicate (2 - (lg_sl ([.ref h, .int a1])).length) Slot.unset).toArray = ls at hl ⊢
  have hl : lv_has ls 2 [(0, .ref h), (1, .int a1)] := hl
  unfold E_p_isGroup at hE
  refine lv_iload_n hx hb dX5_isGroup_0 rfl (lv_at hl 1 rfl) ?_
  refine lv_if_lt (tgt := 22) hx hb dX5_isGroup_1 (by decide) (fun h1 => ?_) (fun h1 => ?_)
  ·
    rw [if_pos h1] at hE
    refine lv_iconst (v := 0) hx hb dX5_isGroup_22 (by decide) ?_
    obtain ⟨rfl, rfl⟩ := hE
    exact en_i F hS _ () (by rfl) rfl hP hD (Nat.le_refl _) (Nat.le_refl _) dX5_isGroup_23
  ·
    rw [if_neg h1] at hE
    refine lv_iload_n hx hb dX5_isGroup_4 rfl (lv_at hl 1 rfl) ?_
    refine lv_aload_n hx hb dX5_isGroup_5 rfl (lv_at hl 0 rfl) ?_
    refine va_get (D := G.1) (ci := 5) (v := .ref (u 9)) (C := RX5) (T := TX5) (N := 13) hx hb hts inX5 hown hK.1 hP 0 pW_0 rfl 0 (by decide) (hts _ w_190) (fun _ h9 => h9) rfl dX5_isGroup_6 ?_
    refine va_getN (D := G.1) (ci := 4) (v := .ref ((kK C).1)) (C := RX4) (T := TX4) (N := 13) hx hb hts inX4 hown hK.1 hP 12 pW_12 rfl 8 (by decide) (hK.2.1.use w_149) (fun _ h9 => h9) rfl dX5_isGroup_9 ?_
    refine va_getN (D := G.1) (ci := 1) (v := .int (tGr (kT C))) (C := RX1) (T := TX1) (N := 5) hx hb hts inX1 hown hK.1 hP 20 pW_20 rfl 3 (by decide) (hK.2.1.use w_123) (fun _ h9 => h9) rfl dX5_isGroup_12 ?_
    refine lv_icmp_gt (tgt := 22) hx hb dX5_isGroup_15 (by decide) (fun h2 => ?_) (fun h2 => ?_)
    ·
      rw [if_pos h2] at hE
      refine lv_iconst (v := 0) hx hb dX5_isGroup_22 (by decide) ?_
      obtain ⟨rfl, rfl⟩ := hE
      exact en_i F hS _ () (by rfl) rfl hP hD (Nat.le_refl _) (Nat.le_refl _) dX5_isGroup_23
    ·
      rw [if_neg h2] at hE
      refine lv_iconst (v := 1) hx hb dX5_isGroup_18 (by decide) ?_
      refine lv_goto (tgt := 23) hx hb dX5_isGroup_19 (by decide) ?_
      obtain ⟨rfl, rfl⟩ := hE
      exact en_i F hS _ () (by rfl) rfl hP hD (Nat.le_refl _) (Nat.le_refl _) dX5_isGroup_23

theorem dX5_groupFrom_0 : decode cX5_groupFrom 0 = .ok (.iload_n 1, 1) := by decide +kernel
theorem dX5_groupFrom_1 : decode cX5_groupFrom 1 = .ok (.ifCond .ne 10, 3) := by decide +kernel
theorem dX5_groupFrom_4 : decode cX5_groupFrom 4 = .ok (.aload_n 0, 1) := by decide +kernel
theorem dX5_groupFrom_5 : decode cX5_groupFrom 5 = .ok (.getfield 101, 3) := by decide +kernel
theorem dX5_groupFrom_8 : decode cX5_groupFrom 8 = .ok (.goto 12, 3) := by decide +kernel
theorem dX5_groupFrom_11 : decode cX5_groupFrom 11 = .ok (.aload_n 0, 1) := by decide +kernel
theorem dX5_groupFrom_12 : decode cX5_groupFrom 12 = .ok (.getfield 157, 3) := by decide +kernel
theorem dX5_groupFrom_15 : decode cX5_groupFrom 15 = .ok (.iload_n 1, 1) := by decide +kernel
theorem dX5_groupFrom_16 : decode cX5_groupFrom 16 = .ok (.iconst 0, 1) := by decide +kernel
theorem dX5_groupFrom_17 : decode cX5_groupFrom 17 = .ok (.invokestatic 160, 3) := by decide +kernel
theorem dX5_groupFrom_20 : decode cX5_groupFrom 20 = .ok (.ireturn, 1) := by decide +kernel
def E_p_groupFrom (C : CS) (a1 : Int32) (C' : CS) (r : Int32) : Prop := if a1 = 0 then (C' = C ∧ r = (kI C 6)) else (∃ r2 : Int32, E_X5_spanPlace (kL C) a1 0 r2 ∧ (C' = C ∧ r = r2))
set_option maxHeartbeats 4000000 in
set_option maxRecDepth 100000 in
theorem e_p_groupFrom (l : Launch) (G : PG) (h : Nat) (u : Nat → Nat) (C : CS) (a1 : Int32) (C' : CS) (r : Int32) (hE : E_p_groupFrom C a1 C' r) : Ci l yX5_groupFrom (Cond.code yX5_groupFrom cX5_groupFrom 2 (some .int) :: aW) { frames := 1, cells := 0, slots := 0, locals := 24 } G (pW G h u C) [.ref h, .int a1] (fun (r9 : Int32) (_ : Unit) => r9 = r) (fun (_ : Unit) => pW G h u C') 0 0 := by
  refine ofB (y := yX5_groupFrom) (G := G) (cc := cX5_groupFrom) (maxL := 2) (ret := (some .int)) (Qc := fun A => va_Qi (fun (r9 : Int32) (_ : Unit) => r9 = r) (oB G A (fun (_ : Unit) => pW G h u C')) A) (by decide) rfl ?_
  intro p e s m below meth c A F hK hA hP hD
  have hS : va_S A s.heap s.heap [] := va_S.rf
  have hx := F.1.1; have hb := F.1.2.1; have hml := F.1.2.2.1; have hts := F.1.2.2.2.2
  have hown : s.vm.findClass RX5 = some m.cls := F.1.2.2.2.1
  have hl := lv_entry ([.ref h, .int a1]) (n := 2) (Nat.le_of_ble_eq_true rfl)
  rw [lg_entry_eq]
  generalize (lg_sl ([.ref h, .int a1]) ++ List.replicate (2 - (lg_sl ([.ref h, .int a1])).length) Slot.unset).toArray = ls at hl ⊢
  have hl : lv_has ls 2 [(0, .ref h), (1, .int a1)] := hl
  unfold E_p_groupFrom at hE
  refine lv_iload_n hx hb dX5_groupFrom_0 rfl (lv_at hl 1 rfl) ?_
  refine lv_if_ne (tgt := 11) hx hb dX5_groupFrom_1 (by decide) (fun h1 => ?_) (fun h1 => ?_)
  ·
    rw [if_neg h1] at hE
    refine lv_aload_n hx hb dX5_groupFrom_11 rfl (lv_at hl 0 rfl) ?_
    refine va_get (D := G.1) (ci := 5) (v := .long (kL C)) (C := RX5) (T := TX5) (N := 13) hx hb hts inX5 hown hK.1 hP 0 pW_0 rfl 8 (by decide) (hts _ w_198) (fun _ h9 => h9) rfl dX5_groupFrom_12 ?_
    refine lv_iload_n hx hb dX5_groupFrom_15 rfl (lv_at hl 1 rfl) ?_
    refine lv_iconst (v := 0) hx hb dX5_groupFrom_16 (by decide) ?_
    obtain ⟨r2, hg, hE⟩ := hE
    refine kp_V (va_runS (As := [.long (kL C), .int a1, .int 0]) (rest := []) F.1 (e_X5_spanPlace l G (kL C) a1 0 r2 hg _) (va_cwS 3 hts (aw_S w_683 w_673 w_1 w_674) rfl rfl rfl (by decide +kernel) ⟨by decide, by decide⟩) ⟨cS_blind, cS_pre va_P0 (va_D0 (A := fun _ => True)) hK⟩ rfl rfl hl.1 rfl (lv_room (Nat.le_of_ble_eq_true rfl)) dX5_groupFrom_17 ⟨Nat.le_refl _, Nat.le_refl _⟩) (fun v9 hp => ?_)
    subst hp
    obtain ⟨rfl, rfl⟩ := hE
    exact en_i F hS _ () (by rfl) rfl hP hD (Nat.le_refl _) (Nat.le_refl _) dX5_groupFrom_20
  ·
    rw [if_pos h1] at hE
    refine lv_aload_n hx hb dX5_groupFrom_4 rfl (lv_at hl 0 rfl) ?_
    refine va_get (D := G.1) (ci := 5) (v := .int (kI C 6)) (C := RX5) (T := TX5) (N := 13) hx hb hts inX5 hown hK.1 hP 0 pW_0 rfl 6 (by decide) (hts _ w_196) (fun _ h9 => h9) rfl dX5_groupFrom_5 ?_
    refine lv_goto (tgt := 20) hx hb dX5_groupFrom_8 (by decide) ?_
    obtain ⟨rfl, rfl⟩ := hE
    exact en_i F hS _ () (by rfl) rfl hP hD (Nat.le_refl _) (Nat.le_refl _) dX5_groupFrom_20

theorem dX5_groupTo_0 : decode cX5_groupTo 0 = .ok (.iload_n 1, 1) := by decide +kernel
theorem dX5_groupTo_1 : decode cX5_groupTo 1 = .ok (.ifCond .ne 10, 3) := by decide +kernel
theorem dX5_groupTo_4 : decode cX5_groupTo 4 = .ok (.aload_n 0, 1) := by decide +kernel
theorem dX5_groupTo_5 : decode cX5_groupTo 5 = .ok (.getfield 124, 3) := by decide +kernel
theorem dX5_groupTo_8 : decode cX5_groupTo 8 = .ok (.goto 12, 3) := by decide +kernel
theorem dX5_groupTo_11 : decode cX5_groupTo 11 = .ok (.aload_n 0, 1) := by decide +kernel
theorem dX5_groupTo_12 : decode cX5_groupTo 12 = .ok (.getfield 157, 3) := by decide +kernel
theorem dX5_groupTo_15 : decode cX5_groupTo 15 = .ok (.iload_n 1, 1) := by decide +kernel
theorem dX5_groupTo_16 : decode cX5_groupTo 16 = .ok (.iconst 4, 1) := by decide +kernel
theorem dX5_groupTo_17 : decode cX5_groupTo 17 = .ok (.invokestatic 160, 3) := by decide +kernel
theorem dX5_groupTo_20 : decode cX5_groupTo 20 = .ok (.ireturn, 1) := by decide +kernel
def E_p_groupTo (C : CS) (a1 : Int32) (C' : CS) (r : Int32) : Prop := if a1 = 0 then (C' = C ∧ r = (kI C 7)) else (∃ r2 : Int32, E_X5_spanPlace (kL C) a1 4 r2 ∧ (C' = C ∧ r = r2))
set_option maxHeartbeats 4000000 in
set_option maxRecDepth 100000 in
theorem e_p_groupTo (l : Launch) (G : PG) (h : Nat) (u : Nat → Nat) (C : CS) (a1 : Int32) (C' : CS) (r : Int32) (hE : E_p_groupTo C a1 C' r) : Ci l yX5_groupTo (Cond.code yX5_groupTo cX5_groupTo 2 (some .int) :: aW) { frames := 1, cells := 0, slots := 0, locals := 24 } G (pW G h u C) [.ref h, .int a1] (fun (r9 : Int32) (_ : Unit) => r9 = r) (fun (_ : Unit) => pW G h u C') 0 0 := by
  refine ofB (y := yX5_groupTo) (G := G) (cc := cX5_groupTo) (maxL := 2) (ret := (some .int)) (Qc := fun A => va_Qi (fun (r9 : Int32) (_ : Unit) => r9 = r) (oB G A (fun (_ : Unit) => pW G h u C')) A) (by decide) rfl ?_
  intro p e s m below meth c A F hK hA hP hD
  have hS : va_S A s.heap s.heap [] := va_S.rf
  have hx := F.1.1; have hb := F.1.2.1; have hml := F.1.2.2.1; have hts := F.1.2.2.2.2
  have hown : s.vm.findClass RX5 = some m.cls := F.1.2.2.2.1
  have hl := lv_entry ([.ref h, .int a1]) (n := 2) (Nat.le_of_ble_eq_true rfl)
  rw [lg_entry_eq]
  generalize (lg_sl ([.ref h, .int a1]) ++ List.replicate (2 - (lg_sl ([.ref h, .int a1])).length) Slot.unset).toArray = ls at hl ⊢
  have hl : lv_has ls 2 [(0, .ref h), (1, .int a1)] := hl
  unfold E_p_groupTo at hE
  refine lv_iload_n hx hb dX5_groupTo_0 rfl (lv_at hl 1 rfl) ?_
  refine lv_if_ne (tgt := 11) hx hb dX5_groupTo_1 (by decide) (fun h1 => ?_) (fun h1 => ?_)
  ·
    rw [if_neg h1] at hE
    refine lv_aload_n hx hb dX5_groupTo_11 rfl (lv_at hl 0 rfl) ?_
    refine va_get (D := G.1) (ci := 5) (v := .long (kL C)) (C := RX5) (T := TX5) (N := 13) hx hb hts inX5 hown hK.1 hP 0 pW_0 rfl 8 (by decide) (hts _ w_198) (fun _ h9 => h9) rfl dX5_groupTo_12 ?_
    refine lv_iload_n hx hb dX5_groupTo_15 rfl (lv_at hl 1 rfl) ?_
    refine lv_iconst (v := 4) hx hb dX5_groupTo_16 (by decide) ?_
    obtain ⟨r2, hg, hE⟩ := hE
    refine kp_V (va_runS (As := [.long (kL C), .int a1, .int 4]) (rest := []) F.1 (e_X5_spanPlace l G (kL C) a1 4 r2 hg _) (va_cwS 3 hts (aw_S w_683 w_673 w_1 w_674) rfl rfl rfl (by decide +kernel) ⟨by decide, by decide⟩) ⟨cS_blind, cS_pre va_P0 (va_D0 (A := fun _ => True)) hK⟩ rfl rfl hl.1 rfl (lv_room (Nat.le_of_ble_eq_true rfl)) dX5_groupTo_17 ⟨Nat.le_refl _, Nat.le_refl _⟩) (fun v9 hp => ?_)
    subst hp
    obtain ⟨rfl, rfl⟩ := hE
    exact en_i F hS _ () (by rfl) rfl hP hD (Nat.le_refl _) (Nat.le_refl _) dX5_groupTo_20
  ·
    rw [if_pos h1] at hE
    refine lv_aload_n hx hb dX5_groupTo_4 rfl (lv_at hl 0 rfl) ?_
    refine va_get (D := G.1) (ci := 5) (v := .int (kI C 7)) (C := RX5) (T := TX5) (N := 13) hx hb hts inX5 hown hK.1 hP 0 pW_0 rfl 7 (by decide) (hts _ w_197) (fun _ h9 => h9) rfl dX5_groupTo_5 ?_
    refine lv_goto (tgt := 20) hx hb dX5_groupTo_8 (by decide) ?_
    obtain ⟨rfl, rfl⟩ := hE
    exact en_i F hS _ () (by rfl) rfl hP hD (Nat.le_refl _) (Nat.le_refl _) dX5_groupTo_20

theorem dX5_templateFault_0 : decode cX5_templateFault 0 = .ok (.aload_n 0, 1) := by decide +kernel
theorem dX5_templateFault_1 : decode cX5_templateFault 1 = .ok (.getfield 26, 3) := by decide +kernel
theorem dX5_templateFault_4 : decode cX5_templateFault 4 = .ok (.iconst 2, 1) := by decide +kernel
theorem dX5_templateFault_5 : decode cX5_templateFault 5 = .ok (.aaload, 1) := by decide +kernel
theorem dX5_templateFault_6 : decode cX5_templateFault 6 = .ok (.astore_n 1, 1) := by decide +kernel
theorem dX5_templateFault_7 : decode cX5_templateFault 7 = .ok (.iconst 0, 1) := by decide +kernel
theorem dX5_templateFault_8 : decode cX5_templateFault 8 = .ok (.istore_n 2, 1) := by decide +kernel
theorem dX5_templateFault_9 : decode cX5_templateFault 9 = .ok (.iconst 0, 1) := by decide +kernel
theorem dX5_templateFault_10 : decode cX5_templateFault 10 = .ok (.istore_n 3, 1) := by decide +kernel
theorem dX5_templateFault_11 : decode cX5_templateFault 11 = .ok (.iload_n 3, 1) := by decide +kernel
theorem dX5_templateFault_12 : decode cX5_templateFault 12 = .ok (.aload_n 1, 1) := by decide +kernel
theorem dX5_templateFault_13 : decode cX5_templateFault 13 = .ok (.invokevirtual 90, 3) := by decide +kernel
theorem dX5_templateFault_16 : decode cX5_templateFault 16 = .ok (.if_icmp .ge 91, 3) := by decide +kernel
theorem dX5_templateFault_19 : decode cX5_templateFault 19 = .ok (.aload_n 1, 1) := by decide +kernel
theorem dX5_templateFault_20 : decode cX5_templateFault 20 = .ok (.iload_n 3, 1) := by decide +kernel
theorem dX5_templateFault_21 : decode cX5_templateFault 21 = .ok (.invokevirtual 130, 3) := by decide +kernel
theorem dX5_templateFault_24 : decode cX5_templateFault 24 = .ok (.istore 4, 2) := by decide +kernel
theorem dX5_templateFault_26 : decode cX5_templateFault 26 = .ok (.iload 4, 2) := by decide +kernel
theorem dX5_templateFault_28 : decode cX5_templateFault 28 = .ok (.bipush 36, 2) := by decide +kernel
theorem dX5_templateFault_30 : decode cX5_templateFault 30 = .ok (.if_icmp .eq 10, 3) := by decide +kernel
theorem dX5_templateFault_33 : decode cX5_templateFault 33 = .ok (.iload 4, 2) := by decide +kernel
theorem dX5_templateFault_35 : decode cX5_templateFault 35 = .ok (.bipush 92, 2) := by decide +kernel
theorem dX5_templateFault_37 : decode cX5_templateFault 37 = .ok (.if_icmp .ne 64, 3) := by decide +kernel
theorem dX5_templateFault_40 : decode cX5_templateFault 40 = .ok (.iinc 3 1, 3) := by decide +kernel
theorem dX5_templateFault_43 : decode cX5_templateFault 43 = .ok (.aload_n 1, 1) := by decide +kernel
theorem dX5_templateFault_44 : decode cX5_templateFault 44 = .ok (.iload_n 3, 1) := by decide +kernel
theorem dX5_templateFault_45 : decode cX5_templateFault 45 = .ok (.invokevirtual 130, 3) := by decide +kernel
theorem dX5_templateFault_48 : decode cX5_templateFault 48 = .ok (.istore 5, 2) := by decide +kernel
theorem dX5_templateFault_50 : decode cX5_templateFault 50 = .ok (.iload 5, 2) := by decide +kernel
theorem dX5_templateFault_52 : decode cX5_templateFault 52 = .ok (.ifCond .eq 18, 3) := by decide +kernel
theorem dX5_templateFault_55 : decode cX5_templateFault 55 = .ok (.iload 4, 2) := by decide +kernel
theorem dX5_templateFault_57 : decode cX5_templateFault 57 = .ok (.bipush 36, 2) := by decide +kernel
theorem dX5_templateFault_59 : decode cX5_templateFault 59 = .ok (.if_icmp .ne 13, 3) := by decide +kernel
theorem dX5_templateFault_62 : decode cX5_templateFault 62 = .ok (.iload 5, 2) := by decide +kernel
theorem dX5_templateFault_64 : decode cX5_templateFault 64 = .ok (.invokestatic 164, 3) := by decide +kernel
theorem dX5_templateFault_67 : decode cX5_templateFault 67 = .ok (.ifCond .ne 5, 3) := by decide +kernel
theorem dX5_templateFault_70 : decode cX5_templateFault 70 = .ok (.iconst 1, 1) := by decide +kernel
theorem dX5_templateFault_71 : decode cX5_templateFault 71 = .ok (.ireturn, 1) := by decide +kernel
theorem dX5_templateFault_72 : decode cX5_templateFault 72 = .ok (.iload_n 2, 1) := by decide +kernel
theorem dX5_templateFault_73 : decode cX5_templateFault 73 = .ok (.ifCond .ne 22, 3) := by decide +kernel
theorem dX5_templateFault_76 : decode cX5_templateFault 76 = .ok (.iload 4, 2) := by decide +kernel
theorem dX5_templateFault_78 : decode cX5_templateFault 78 = .ok (.bipush 36, 2) := by decide +kernel
theorem dX5_templateFault_80 : decode cX5_templateFault 80 = .ok (.if_icmp .ne 19, 3) := by decide +kernel
theorem dX5_templateFault_83 : decode cX5_templateFault 83 = .ok (.aload_n 0, 1) := by decide +kernel
theorem dX5_templateFault_84 : decode cX5_templateFault 84 = .ok (.iload 5, 2) := by decide +kernel
theorem dX5_templateFault_86 : decode cX5_templateFault 86 = .ok (.bipush 48, 2) := by decide +kernel
theorem dX5_templateFault_88 : decode cX5_templateFault 88 = .ok (.isub, 1) := by decide +kernel
theorem dX5_templateFault_89 : decode cX5_templateFault 89 = .ok (.invokevirtual 104, 3) := by decide +kernel
theorem dX5_templateFault_92 : decode cX5_templateFault 92 = .ok (.ifCond .ne 7, 3) := by decide +kernel
theorem dX5_templateFault_95 : decode cX5_templateFault 95 = .ok (.iconst 1, 1) := by decide +kernel
theorem dX5_templateFault_96 : decode cX5_templateFault 96 = .ok (.goto 4, 3) := by decide +kernel
theorem dX5_templateFault_99 : decode cX5_templateFault 99 = .ok (.iconst 0, 1) := by decide +kernel
theorem dX5_templateFault_100 : decode cX5_templateFault 100 = .ok (.istore_n 2, 1) := by decide +kernel
theorem dX5_templateFault_101 : decode cX5_templateFault 101 = .ok (.iinc 3 1, 3) := by decide +kernel
theorem dX5_templateFault_104 : decode cX5_templateFault 104 = .ok (.goto (-93), 3) := by decide +kernel
theorem dX5_templateFault_107 : decode cX5_templateFault 107 = .ok (.iload_n 2, 1) := by decide +kernel
theorem dX5_templateFault_108 : decode cX5_templateFault 108 = .ok (.ifCond .eq 7, 3) := by decide +kernel
theorem dX5_templateFault_111 : decode cX5_templateFault 111 = .ok (.iconst 2, 1) := by decide +kernel
theorem dX5_templateFault_112 : decode cX5_templateFault 112 = .ok (.goto 4, 3) := by decide +kernel
theorem dX5_templateFault_115 : decode cX5_templateFault 115 = .ok (.iconst 0, 1) := by decide +kernel
theorem dX5_templateFault_116 : decode cX5_templateFault 116 = .ok (.ireturn, 1) := by decide +kernel
def L_p_templateFault_11 : Nat → CS → Int32 → Int32 → CS → Int32 → Prop
  | 0, _, _, _, _, _ => False
  | nf + 1, C, x2, x3, C', r => if (nI (kJ C 2)) ≤ x3 then (if x2 = 0 then (C' = C ∧ r = 0) else (C' = C ∧ r = 2)) else (rOK 8 (kJ C 2) (kG C 2) ∧ (if (rw_at (kJ C 2) (kG C 2) x3) = 36 then (rOK 8 (kJ C 2) (kG C 2) ∧ (if (rw_at (kJ C 2) (kG C 2) (x3 + 1)) = 0 then (C' = C ∧ r = 1) else (if (rw_at (kJ C 2) (kG C 2) x3) = 36 then (∃ r13 : Int32, E_X5_isDigit (rw_at (kJ C 2) (kG C 2) (x3 + 1)) r13 ∧ (if r13 = 0 then (C' = C ∧ r = 1) else (if x2 = 0 then (if (rw_at (kJ C 2) (kG C 2) x3) = 36 then (∃ (C17 : CS) (r18 : Int32), E_p_isGroup C ((rw_at (kJ C 2) (kG C 2) (x3 + 1)) - 48) C17 r18 ∧ (if r18 = 0 then (L_p_templateFault_11 nf C17 1 ((x3 + 1) + 1) C' r) else (L_p_templateFault_11 nf C17 0 ((x3 + 1) + 1) C' r))) else (L_p_templateFault_11 nf C 0 ((x3 + 1) + 1) C' r)) else (L_p_templateFault_11 nf C 1 ((x3 + 1) + 1) C' r)))) else (if x2 = 0 then (if (rw_at (kJ C 2) (kG C 2) x3) = 36 then (∃ (C10 : CS) (r11 : Int32), E_p_isGroup C ((rw_at (kJ C 2) (kG C 2) (x3 + 1)) - 48) C10 r11 ∧ (if r11 = 0 then (L_p_templateFault_11 nf C10 1 ((x3 + 1) + 1) C' r) else (L_p_templateFault_11 nf C10 0 ((x3 + 1) + 1) C' r))) else (L_p_templateFault_11 nf C 0 ((x3 + 1) + 1) C' r)) else (L_p_templateFault_11 nf C 1 ((x3 + 1) + 1) C' r))))) else (if (rw_at (kJ C 2) (kG C 2) x3) = 92 then (rOK 8 (kJ C 2) (kG C 2) ∧ (if (rw_at (kJ C 2) (kG C 2) (x3 + 1)) = 0 then (C' = C ∧ r = 1) else (if (rw_at (kJ C 2) (kG C 2) x3) = 36 then (∃ r29 : Int32, E_X5_isDigit (rw_at (kJ C 2) (kG C 2) (x3 + 1)) r29 ∧ (if r29 = 0 then (C' = C ∧ r = 1) else (if x2 = 0 then (if (rw_at (kJ C 2) (kG C 2) x3) = 36 then (∃ (C33 : CS) (r34 : Int32), E_p_isGroup C ((rw_at (kJ C 2) (kG C 2) (x3 + 1)) - 48) C33 r34 ∧ (if r34 = 0 then (L_p_templateFault_11 nf C33 1 ((x3 + 1) + 1) C' r) else (L_p_templateFault_11 nf C33 0 ((x3 + 1) + 1) C' r))) else (L_p_templateFault_11 nf C 0 ((x3 + 1) + 1) C' r)) else (L_p_templateFault_11 nf C 1 ((x3 + 1) + 1) C' r)))) else (if x2 = 0 then (if (rw_at (kJ C 2) (kG C 2) x3) = 36 then (∃ (C26 : CS) (r27 : Int32), E_p_isGroup C ((rw_at (kJ C 2) (kG C 2) (x3 + 1)) - 48) C26 r27 ∧ (if r27 = 0 then (L_p_templateFault_11 nf C26 1 ((x3 + 1) + 1) C' r) else (L_p_templateFault_11 nf C26 0 ((x3 + 1) + 1) C' r))) else (L_p_templateFault_11 nf C 0 ((x3 + 1) + 1) C' r)) else (L_p_templateFault_11 nf C 1 ((x3 + 1) + 1) C' r))))) else (L_p_templateFault_11 nf C x2 (x3 + 1) C' r))))
set_option maxHeartbeats 4000000 in
set_option maxRecDepth 100000 in
theorem L_p_templateFault_11_ok {l : Launch} {G : PG} {h : Nat} {u : Nat → Nat} {C' : CS} {r : Int32} {p : Program} {e : Env} {s : State} {m : MethodId} {below : List Frame} {meth : Method} {c : Code} {A : Nat → Prop} (F : bF p s m meth c cX5_templateFault 6 (some .int) ([.ref h] : List Value).toArray yX5_templateFault) (hK : pg_K G s) (hA : ∀ q, s.heap.size ≤ q → A q) : ∀ (nf : Nat) (C : CS) (x2 : Int32) (x3 : Int32) (H : Heap) (locs : List Loc) (ls : Array Slot), lv_has ls 6 [(3, .int x3), (2, .int x2), (1, .ref (u 33)), (0, .ref h)] → L_p_templateFault_11 nf C x2 x3 C' r → va_P G.1 vwCl (pW G h u C) H → va_D A (pW G h u C) → va_S A s.heap H locs → W p l e { frames := 1, cells := 0, slots := 0, locals := 21 } s m ([.ref h] : List Value).toArray below meth c H locs 0 0 (MQ below (va_Qi (fun (r9 : Int32) (_ : Unit) => r9 = r) (oB G A (fun (_ : Unit) => pW G h u C')) A) ([.ref h] : List Value).toArray s 0 0 A) (F0 m 11 ls []) := by
  have hx := F.1.1; have hb := F.1.2.1; have hml := F.1.2.2.1; have hts := F.1.2.2.2.2
  have hown : s.vm.findClass RX5 = some m.cls := F.1.2.2.2.1
  intro nf
  induction nf with
  | zero => intro C x2 x3 H locs ls hl hE; exact hE.elim
  | succ nf ih =>
    intro C x2 x3 H locs ls hl hE hP hD hS
    unfold L_p_templateFault_11 at hE
    refine lv_iload_n hx hb dX5_templateFault_11 rfl (lv_at hl 0 rfl) ?_
    refine lv_aload_n hx hb dX5_templateFault_12 rfl (lv_at hl 2 rfl) ?_
    refine kp_V (va_runV (As := []) (rest := [.int x3]) F.1 (v_row_size l G _ _ _ _ _ _) (cwV 0 hts (aw_V w_257 w_258 w_259 w_3 w_260) rfl rfl rfl (by decide +kernel) ⟨by decide, by decide⟩) ⟨cS_blind, va_recv (q := (RX3, TX3, 2)) (ci := 3) (q0 := 0) hK.1 (pP_r2 (C := C) hP) rfl rfl, cS_pre (pP_r2 (C := C) hP) (pD_r2 (C := C) hD) hK⟩ rfl rfl hl.1 rfl (lv_room (Nat.le_of_ble_eq_true rfl)) dX5_templateFault_13 ⟨Nat.le_refl _, Nat.le_refl _⟩) (fun v9 hp => ?_)
    subst hp
    refine lv_icmp_ge (tgt := 107) hx hb dX5_templateFault_16 (by decide) (fun h1 => ?_) (fun h1 => ?_)
    ·
      rw [if_pos h1] at hE
      refine lv_iload_n hx hb dX5_templateFault_107 rfl (lv_at hl 1 rfl) ?_
      refine lv_if_eq (tgt := 115) hx hb dX5_templateFault_108 (by decide) (fun h2 => ?_) (fun h2 => ?_)
      ·
        rw [if_pos h2] at hE
        refine lv_iconst (v := 0) hx hb dX5_templateFault_115 (by decide) ?_
        obtain ⟨rfl, rfl⟩ := hE
        exact en_i F hS _ () (by rfl) rfl hP hD (Nat.le_refl _) (Nat.le_refl _) dX5_templateFault_116
      ·
        rw [if_neg h2] at hE
        refine lv_iconst (v := 2) hx hb dX5_templateFault_111 (by decide) ?_
        refine lv_goto (tgt := 116) hx hb dX5_templateFault_112 (by decide) ?_
        obtain ⟨rfl, rfl⟩ := hE
        exact en_i F hS _ () (by rfl) rfl hP hD (Nat.le_refl _) (Nat.le_refl _) dX5_templateFault_116
    ·
      rw [if_neg h1] at hE
      refine lv_aload_n hx hb dX5_templateFault_19 rfl (lv_at hl 2 rfl) ?_
      refine lv_iload_n hx hb dX5_templateFault_20 rfl (lv_at hl 0 rfl) ?_
      obtain ⟨ho3, hE⟩ := hE
      refine kp_V (va_runV (As := [.int x3]) (rest := []) F.1 (v_row_at l G _ _ _ (kJ C 2) (kG C 2) x3 ho3.1 (by decide) ho3.2 _) (cwV 1 hts (aw_V w_795 w_336 w_337 w_3 w_338) rfl rfl rfl (by decide +kernel) ⟨by decide, by decide⟩) ⟨cS_blind, va_recv (q := (RX3, TX3, 2)) (ci := 3) (q0 := 0) hK.1 (pP_r2 (C := C) hP) rfl rfl, cS_pre (pP_r2 (C := C) hP) (pD_r2 (C := C) hD) hK⟩ rfl rfl hl.1 rfl (lv_room (Nat.le_of_ble_eq_true rfl)) dX5_templateFault_21 ⟨Nat.le_refl _, Nat.le_refl _⟩) (fun v9 hp => ?_)
      subst hp
      refine lv_istore hx hb dX5_templateFault_24 hl (by decide) rfl (fun ls hl => ?_)
      have hl : lv_has ls 6 [(4, .int (rw_at (kJ C 2) (kG C 2) x3)), (3, .int x3), (2, .int x2), (1, .ref (u 33)), (0, .ref h)] := hl
      refine lv_iload hx hb dX5_templateFault_26 (lv_at hl 0 rfl) ?_
      refine lv_bipush (v := 36) hx hb dX5_templateFault_28 (by decide) ?_
      refine lv_icmp_eq (tgt := 40) hx hb dX5_templateFault_30 (by decide) (fun h4 => ?_) (fun h4 => ?_)
      ·
        rw [if_pos h4] at hE
        refine lv_iinc (v := (x3 + 1)) (k := 1) hx hb dX5_templateFault_40 hl rfl rfl (by decide) rfl (fun ls hl => ?_)
        have hl : lv_has ls 6 [(3, .int (x3 + 1)), (4, .int (rw_at (kJ C 2) (kG C 2) x3)), (2, .int x2), (1, .ref (u 33)), (0, .ref h)] := hl
        refine lv_aload_n hx hb dX5_templateFault_43 rfl (lv_at hl 3 rfl) ?_
        refine lv_iload_n hx hb dX5_templateFault_44 rfl (lv_at hl 0 rfl) ?_
        obtain ⟨ho5, hE⟩ := hE
        refine kp_V (va_runV (As := [.int (x3 + 1)]) (rest := []) F.1 (v_row_at l G _ _ _ (kJ C 2) (kG C 2) (x3 + 1) ho5.1 (by decide) ho5.2 _) (cwV 1 hts (aw_V w_795 w_336 w_337 w_3 w_338) rfl rfl rfl (by decide +kernel) ⟨by decide, by decide⟩) ⟨cS_blind, va_recv (q := (RX3, TX3, 2)) (ci := 3) (q0 := 0) hK.1 (pP_r2 (C := C) hP) rfl rfl, cS_pre (pP_r2 (C := C) hP) (pD_r2 (C := C) hD) hK⟩ rfl rfl hl.1 rfl (lv_room (Nat.le_of_ble_eq_true rfl)) dX5_templateFault_45 ⟨Nat.le_refl _, Nat.le_refl _⟩) (fun v9 hp => ?_)
        subst hp
        refine lv_istore hx hb dX5_templateFault_48 hl (by decide) rfl (fun ls hl => ?_)
        have hl : lv_has ls 6 [(5, .int (rw_at (kJ C 2) (kG C 2) (x3 + 1))), (3, .int (x3 + 1)), (4, .int (rw_at (kJ C 2) (kG C 2) x3)), (2, .int x2), (1, .ref (u 33)), (0, .ref h)] := hl
        refine lv_iload hx hb dX5_templateFault_50 (lv_at hl 0 rfl) ?_
        refine lv_if_eq (tgt := 70) hx hb dX5_templateFault_52 (by decide) (fun h6 => ?_) (fun h6 => ?_)
        ·
          rw [if_pos h6] at hE
          refine lv_iconst (v := 1) hx hb dX5_templateFault_70 (by decide) ?_
          obtain ⟨rfl, rfl⟩ := hE
          exact en_i F hS _ () (by rfl) rfl hP hD (Nat.le_refl _) (Nat.le_refl _) dX5_templateFault_71
        ·
          rw [if_neg h6] at hE
          refine lv_iload hx hb dX5_templateFault_55 (lv_at hl 2 rfl) ?_
          refine lv_bipush (v := 36) hx hb dX5_templateFault_57 (by decide) ?_
          refine lv_icmp_ne (tgt := 72) hx hb dX5_templateFault_59 (by decide) (fun h7 => ?_) (fun h7 => ?_)
          ·
            rw [if_neg h7] at hE
            refine lv_iload_n hx hb dX5_templateFault_72 rfl (lv_at hl 3 rfl) ?_
            refine lv_if_ne (tgt := 95) hx hb dX5_templateFault_73 (by decide) (fun h8 => ?_) (fun h8 => ?_)
            ·
              rw [if_neg h8] at hE
              refine lv_iconst (v := 1) hx hb dX5_templateFault_95 (by decide) ?_
              refine lv_goto (tgt := 100) hx hb dX5_templateFault_96 (by decide) ?_
              refine lv_istore_n hx hb dX5_templateFault_100 rfl hl (by decide) rfl (fun ls hl => ?_)
              have hl : lv_has ls 6 [(2, .int 1), (5, .int (rw_at (kJ C 2) (kG C 2) (x3 + 1))), (3, .int (x3 + 1)), (4, .int (rw_at (kJ C 2) (kG C 2) x3)), (1, .ref (u 33)), (0, .ref h)] := hl
              refine lv_iinc (v := ((x3 + 1) + 1)) (k := 2) hx hb dX5_templateFault_101 hl rfl rfl (by decide) rfl (fun ls hl => ?_)
              have hl : lv_has ls 6 [(3, .int ((x3 + 1) + 1)), (2, .int 1), (5, .int (rw_at (kJ C 2) (kG C 2) (x3 + 1))), (4, .int (rw_at (kJ C 2) (kG C 2) x3)), (1, .ref (u 33)), (0, .ref h)] := hl
              refine lv_goto (tgt := 11) hx hb dX5_templateFault_104 (by decide) ?_
              exact ih C 1 ((x3 + 1) + 1) _ _ ls (lv_sub hl [0, 1, 4, 5] rfl) hE hP hD hS
            ·
              rw [if_pos h8] at hE
              refine lv_iload hx hb dX5_templateFault_76 (lv_at hl 2 rfl) ?_
              refine lv_bipush (v := 36) hx hb dX5_templateFault_78 (by decide) ?_
              refine lv_icmp_ne (tgt := 99) hx hb dX5_templateFault_80 (by decide) (fun h9 => ?_) (fun h9 => ?_)
              ·
                rw [if_neg h9] at hE
                refine lv_iconst (v := 0) hx hb dX5_templateFault_99 (by decide) ?_
                refine lv_istore_n hx hb dX5_templateFault_100 rfl hl (by decide) rfl (fun ls hl => ?_)
                have hl : lv_has ls 6 [(2, .int 0), (5, .int (rw_at (kJ C 2) (kG C 2) (x3 + 1))), (3, .int (x3 + 1)), (4, .int (rw_at (kJ C 2) (kG C 2) x3)), (1, .ref (u 33)), (0, .ref h)] := hl
                refine lv_iinc (v := ((x3 + 1) + 1)) (k := 2) hx hb dX5_templateFault_101 hl rfl rfl (by decide) rfl (fun ls hl => ?_)
                have hl : lv_has ls 6 [(3, .int ((x3 + 1) + 1)), (2, .int 0), (5, .int (rw_at (kJ C 2) (kG C 2) (x3 + 1))), (4, .int (rw_at (kJ C 2) (kG C 2) x3)), (1, .ref (u 33)), (0, .ref h)] := hl
                refine lv_goto (tgt := 11) hx hb dX5_templateFault_104 (by decide) ?_
                exact ih C 0 ((x3 + 1) + 1) _ _ ls (lv_sub hl [0, 1, 4, 5] rfl) hE hP hD hS
              ·
                rw [if_pos h9] at hE
                refine lv_aload_n hx hb dX5_templateFault_83 rfl (lv_at hl 5 rfl) ?_
                refine lv_iload hx hb dX5_templateFault_84 (lv_at hl 0 rfl) ?_
                refine lv_bipush (v := 48) hx hb dX5_templateFault_86 (by decide) ?_
                refine lv_isub hx hb dX5_templateFault_88 ?_
                obtain ⟨C10, r11, hg, hE⟩ := hE
                refine kA_i (va_runV (As := [.int ((rw_at (kJ C 2) (kG C 2) (x3 + 1)) - 48)]) (rest := []) F.1 (e_p_isGroup l G h u C ((rw_at (kJ C 2) (kG C 2) (x3 + 1)) - 48) C10 r11 hg _) (cwV 1 hts (aw_V w_765 w_767 ws_X5_isGroup w_1 w_768) rfl rfl rfl (by decide +kernel) ⟨by decide, by decide⟩) ⟨cS_blind, va_recv (q := (RX5, TX5, 13)) (ci := 5) (q0 := 0) hK.1 hP rfl pW_0, cS_pre hP hD hK⟩ rfl rfl hl.1 rfl (lv_room (Nat.le_of_ble_eq_true rfl)) dX5_templateFault_89 ⟨Nat.le_refl _, Nat.le_refl _⟩) hD hS hA (fun r9 u0 H locs hp hP hD hS => ?_)
                have hp := hp.symm; subst hp
                refine lv_if_ne (tgt := 99) hx hb dX5_templateFault_92 (by decide) (fun h12 => ?_) (fun h12 => ?_)
                ·
                  rw [if_neg h12] at hE
                  refine lv_iconst (v := 0) hx hb dX5_templateFault_99 (by decide) ?_
                  refine lv_istore_n hx hb dX5_templateFault_100 rfl hl (by decide) rfl (fun ls hl => ?_)
                  have hl : lv_has ls 6 [(2, .int 0), (5, .int (rw_at (kJ C 2) (kG C 2) (x3 + 1))), (3, .int (x3 + 1)), (4, .int (rw_at (kJ C 2) (kG C 2) x3)), (1, .ref (u 33)), (0, .ref h)] := hl
                  refine lv_iinc (v := ((x3 + 1) + 1)) (k := 2) hx hb dX5_templateFault_101 hl rfl rfl (by decide) rfl (fun ls hl => ?_)
                  have hl : lv_has ls 6 [(3, .int ((x3 + 1) + 1)), (2, .int 0), (5, .int (rw_at (kJ C 2) (kG C 2) (x3 + 1))), (4, .int (rw_at (kJ C 2) (kG C 2) x3)), (1, .ref (u 33)), (0, .ref h)] := hl
                  refine lv_goto (tgt := 11) hx hb dX5_templateFault_104 (by decide) ?_
                  exact ih C10 0 ((x3 + 1) + 1) _ _ ls (lv_sub hl [0, 1, 4, 5] rfl) hE hP hD hS
                ·
                  rw [if_pos h12] at hE
                  refine lv_iconst (v := 1) hx hb dX5_templateFault_95 (by decide) ?_
                  refine lv_goto (tgt := 100) hx hb dX5_templateFault_96 (by decide) ?_
                  refine lv_istore_n hx hb dX5_templateFault_100 rfl hl (by decide) rfl (fun ls hl => ?_)
                  have hl : lv_has ls 6 [(2, .int 1), (5, .int (rw_at (kJ C 2) (kG C 2) (x3 + 1))), (3, .int (x3 + 1)), (4, .int (rw_at (kJ C 2) (kG C 2) x3)), (1, .ref (u 33)), (0, .ref h)] := hl
                  refine lv_iinc (v := ((x3 + 1) + 1)) (k := 2) hx hb dX5_templateFault_101 hl rfl rfl (by decide) rfl (fun ls hl => ?_)
                  have hl : lv_has ls 6 [(3, .int ((x3 + 1) + 1)), (2, .int 1), (5, .int (rw_at (kJ C 2) (kG C 2) (x3 + 1))), (4, .int (rw_at (kJ C 2) (kG C 2) x3)), (1, .ref (u 33)), (0, .ref h)] := hl
                  refine lv_goto (tgt := 11) hx hb dX5_templateFault_104 (by decide) ?_
                  exact ih C10 1 ((x3 + 1) + 1) _ _ ls (lv_sub hl [0, 1, 4, 5] rfl) hE hP hD hS
          ·
            rw [if_pos h7] at hE
            refine lv_iload hx hb dX5_templateFault_62 (lv_at hl 0 rfl) ?_
            obtain ⟨r13, hg, hE⟩ := hE
            refine kp_V (va_runS (As := [.int (rw_at (kJ C 2) (kG C 2) (x3 + 1))]) (rest := []) F.1 (e_X5_isDigit l G (rw_at (kJ C 2) (kG C 2) (x3 + 1)) r13 hg _) (va_cwS 1 hts (aw_S w_796 w_797 w_1 w_798) rfl rfl rfl (by decide +kernel) ⟨by decide, by decide⟩) ⟨cS_blind, cS_pre va_P0 (va_D0 (A := fun _ => True)) hK⟩ rfl rfl hl.1 rfl (lv_room (Nat.le_of_ble_eq_true rfl)) dX5_templateFault_64 ⟨Nat.le_refl _, Nat.le_refl _⟩) (fun v9 hp => ?_)
            subst hp
            refine lv_if_ne (tgt := 72) hx hb dX5_templateFault_67 (by decide) (fun h14 => ?_) (fun h14 => ?_)
            ·
              rw [if_neg h14] at hE
              refine lv_iload_n hx hb dX5_templateFault_72 rfl (lv_at hl 3 rfl) ?_
              refine lv_if_ne (tgt := 95) hx hb dX5_templateFault_73 (by decide) (fun h15 => ?_) (fun h15 => ?_)
              ·
                rw [if_neg h15] at hE
                refine lv_iconst (v := 1) hx hb dX5_templateFault_95 (by decide) ?_
                refine lv_goto (tgt := 100) hx hb dX5_templateFault_96 (by decide) ?_
                refine lv_istore_n hx hb dX5_templateFault_100 rfl hl (by decide) rfl (fun ls hl => ?_)
                have hl : lv_has ls 6 [(2, .int 1), (5, .int (rw_at (kJ C 2) (kG C 2) (x3 + 1))), (3, .int (x3 + 1)), (4, .int (rw_at (kJ C 2) (kG C 2) x3)), (1, .ref (u 33)), (0, .ref h)] := hl
                refine lv_iinc (v := ((x3 + 1) + 1)) (k := 2) hx hb dX5_templateFault_101 hl rfl rfl (by decide) rfl (fun ls hl => ?_)
                have hl : lv_has ls 6 [(3, .int ((x3 + 1) + 1)), (2, .int 1), (5, .int (rw_at (kJ C 2) (kG C 2) (x3 + 1))), (4, .int (rw_at (kJ C 2) (kG C 2) x3)), (1, .ref (u 33)), (0, .ref h)] := hl
                refine lv_goto (tgt := 11) hx hb dX5_templateFault_104 (by decide) ?_
                exact ih C 1 ((x3 + 1) + 1) _ _ ls (lv_sub hl [0, 1, 4, 5] rfl) hE hP hD hS
              ·
                rw [if_pos h15] at hE
                refine lv_iload hx hb dX5_templateFault_76 (lv_at hl 2 rfl) ?_
                refine lv_bipush (v := 36) hx hb dX5_templateFault_78 (by decide) ?_
                refine lv_icmp_ne (tgt := 99) hx hb dX5_templateFault_80 (by decide) (fun h16 => ?_) (fun h16 => ?_)
                ·
                  rw [if_neg h16] at hE
                  refine lv_iconst (v := 0) hx hb dX5_templateFault_99 (by decide) ?_
                  refine lv_istore_n hx hb dX5_templateFault_100 rfl hl (by decide) rfl (fun ls hl => ?_)
                  have hl : lv_has ls 6 [(2, .int 0), (5, .int (rw_at (kJ C 2) (kG C 2) (x3 + 1))), (3, .int (x3 + 1)), (4, .int (rw_at (kJ C 2) (kG C 2) x3)), (1, .ref (u 33)), (0, .ref h)] := hl
                  refine lv_iinc (v := ((x3 + 1) + 1)) (k := 2) hx hb dX5_templateFault_101 hl rfl rfl (by decide) rfl (fun ls hl => ?_)
                  have hl : lv_has ls 6 [(3, .int ((x3 + 1) + 1)), (2, .int 0), (5, .int (rw_at (kJ C 2) (kG C 2) (x3 + 1))), (4, .int (rw_at (kJ C 2) (kG C 2) x3)), (1, .ref (u 33)), (0, .ref h)] := hl
                  refine lv_goto (tgt := 11) hx hb dX5_templateFault_104 (by decide) ?_
                  exact ih C 0 ((x3 + 1) + 1) _ _ ls (lv_sub hl [0, 1, 4, 5] rfl) hE hP hD hS
                ·
                  rw [if_pos h16] at hE
                  refine lv_aload_n hx hb dX5_templateFault_83 rfl (lv_at hl 5 rfl) ?_
                  refine lv_iload hx hb dX5_templateFault_84 (lv_at hl 0 rfl) ?_
                  refine lv_bipush (v := 48) hx hb dX5_templateFault_86 (by decide) ?_
                  refine lv_isub hx hb dX5_templateFault_88 ?_
                  obtain ⟨C17, r18, hg, hE⟩ := hE
                  refine kA_i (va_runV (As := [.int ((rw_at (kJ C 2) (kG C 2) (x3 + 1)) - 48)]) (rest := []) F.1 (e_p_isGroup l G h u C ((rw_at (kJ C 2) (kG C 2) (x3 + 1)) - 48) C17 r18 hg _) (cwV 1 hts (aw_V w_765 w_767 ws_X5_isGroup w_1 w_768) rfl rfl rfl (by decide +kernel) ⟨by decide, by decide⟩) ⟨cS_blind, va_recv (q := (RX5, TX5, 13)) (ci := 5) (q0 := 0) hK.1 hP rfl pW_0, cS_pre hP hD hK⟩ rfl rfl hl.1 rfl (lv_room (Nat.le_of_ble_eq_true rfl)) dX5_templateFault_89 ⟨Nat.le_refl _, Nat.le_refl _⟩) hD hS hA (fun r9 u0 H locs hp hP hD hS => ?_)
                  have hp := hp.symm; subst hp
                  refine lv_if_ne (tgt := 99) hx hb dX5_templateFault_92 (by decide) (fun h19 => ?_) (fun h19 => ?_)
                  ·
                    rw [if_neg h19] at hE
                    refine lv_iconst (v := 0) hx hb dX5_templateFault_99 (by decide) ?_
                    refine lv_istore_n hx hb dX5_templateFault_100 rfl hl (by decide) rfl (fun ls hl => ?_)
                    have hl : lv_has ls 6 [(2, .int 0), (5, .int (rw_at (kJ C 2) (kG C 2) (x3 + 1))), (3, .int (x3 + 1)), (4, .int (rw_at (kJ C 2) (kG C 2) x3)), (1, .ref (u 33)), (0, .ref h)] := hl
                    refine lv_iinc (v := ((x3 + 1) + 1)) (k := 2) hx hb dX5_templateFault_101 hl rfl rfl (by decide) rfl (fun ls hl => ?_)
                    have hl : lv_has ls 6 [(3, .int ((x3 + 1) + 1)), (2, .int 0), (5, .int (rw_at (kJ C 2) (kG C 2) (x3 + 1))), (4, .int (rw_at (kJ C 2) (kG C 2) x3)), (1, .ref (u 33)), (0, .ref h)] := hl
                    refine lv_goto (tgt := 11) hx hb dX5_templateFault_104 (by decide) ?_
                    exact ih C17 0 ((x3 + 1) + 1) _ _ ls (lv_sub hl [0, 1, 4, 5] rfl) hE hP hD hS
                  ·
                    rw [if_pos h19] at hE
                    refine lv_iconst (v := 1) hx hb dX5_templateFault_95 (by decide) ?_
                    refine lv_goto (tgt := 100) hx hb dX5_templateFault_96 (by decide) ?_
                    refine lv_istore_n hx hb dX5_templateFault_100 rfl hl (by decide) rfl (fun ls hl => ?_)
                    have hl : lv_has ls 6 [(2, .int 1), (5, .int (rw_at (kJ C 2) (kG C 2) (x3 + 1))), (3, .int (x3 + 1)), (4, .int (rw_at (kJ C 2) (kG C 2) x3)), (1, .ref (u 33)), (0, .ref h)] := hl
                    refine lv_iinc (v := ((x3 + 1) + 1)) (k := 2) hx hb dX5_templateFault_101 hl rfl rfl (by decide) rfl (fun ls hl => ?_)
                    have hl : lv_has ls 6 [(3, .int ((x3 + 1) + 1)), (2, .int 1), (5, .int (rw_at (kJ C 2) (kG C 2) (x3 + 1))), (4, .int (rw_at (kJ C 2) (kG C 2) x3)), (1, .ref (u 33)), (0, .ref h)] := hl
                    refine lv_goto (tgt := 11) hx hb dX5_templateFault_104 (by decide) ?_
                    exact ih C17 1 ((x3 + 1) + 1) _ _ ls (lv_sub hl [0, 1, 4, 5] rfl) hE hP hD hS
            ·
              rw [if_pos h14] at hE
              refine lv_iconst (v := 1) hx hb dX5_templateFault_70 (by decide) ?_
              obtain ⟨rfl, rfl⟩ := hE
              exact en_i F hS _ () (by rfl) rfl hP hD (Nat.le_refl _) (Nat.le_refl _) dX5_templateFault_71
      ·
        rw [if_neg h4] at hE
        refine lv_iload hx hb dX5_templateFault_33 (lv_at hl 0 rfl) ?_
        refine lv_bipush (v := 92) hx hb dX5_templateFault_35 (by decide) ?_
        refine lv_icmp_ne (tgt := 101) hx hb dX5_templateFault_37 (by decide) (fun h20 => ?_) (fun h20 => ?_)
        ·
          rw [if_neg h20] at hE
          refine lv_iinc (v := (x3 + 1)) (k := 1) hx hb dX5_templateFault_101 hl rfl rfl (by decide) rfl (fun ls hl => ?_)
          have hl : lv_has ls 6 [(3, .int (x3 + 1)), (4, .int (rw_at (kJ C 2) (kG C 2) x3)), (2, .int x2), (1, .ref (u 33)), (0, .ref h)] := hl
          refine lv_goto (tgt := 11) hx hb dX5_templateFault_104 (by decide) ?_
          exact ih C x2 (x3 + 1) _ _ ls (lv_sub hl [0, 2, 3, 4] rfl) hE hP hD hS
        ·
          rw [if_pos h20] at hE
          refine lv_iinc (v := (x3 + 1)) (k := 1) hx hb dX5_templateFault_40 hl rfl rfl (by decide) rfl (fun ls hl => ?_)
          have hl : lv_has ls 6 [(3, .int (x3 + 1)), (4, .int (rw_at (kJ C 2) (kG C 2) x3)), (2, .int x2), (1, .ref (u 33)), (0, .ref h)] := hl
          refine lv_aload_n hx hb dX5_templateFault_43 rfl (lv_at hl 3 rfl) ?_
          refine lv_iload_n hx hb dX5_templateFault_44 rfl (lv_at hl 0 rfl) ?_
          obtain ⟨ho21, hE⟩ := hE
          refine kp_V (va_runV (As := [.int (x3 + 1)]) (rest := []) F.1 (v_row_at l G _ _ _ (kJ C 2) (kG C 2) (x3 + 1) ho21.1 (by decide) ho21.2 _) (cwV 1 hts (aw_V w_795 w_336 w_337 w_3 w_338) rfl rfl rfl (by decide +kernel) ⟨by decide, by decide⟩) ⟨cS_blind, va_recv (q := (RX3, TX3, 2)) (ci := 3) (q0 := 0) hK.1 (pP_r2 (C := C) hP) rfl rfl, cS_pre (pP_r2 (C := C) hP) (pD_r2 (C := C) hD) hK⟩ rfl rfl hl.1 rfl (lv_room (Nat.le_of_ble_eq_true rfl)) dX5_templateFault_45 ⟨Nat.le_refl _, Nat.le_refl _⟩) (fun v9 hp => ?_)
          subst hp
          refine lv_istore hx hb dX5_templateFault_48 hl (by decide) rfl (fun ls hl => ?_)
          have hl : lv_has ls 6 [(5, .int (rw_at (kJ C 2) (kG C 2) (x3 + 1))), (3, .int (x3 + 1)), (4, .int (rw_at (kJ C 2) (kG C 2) x3)), (2, .int x2), (1, .ref (u 33)), (0, .ref h)] := hl
          refine lv_iload hx hb dX5_templateFault_50 (lv_at hl 0 rfl) ?_
          refine lv_if_eq (tgt := 70) hx hb dX5_templateFault_52 (by decide) (fun h22 => ?_) (fun h22 => ?_)
          ·
            rw [if_pos h22] at hE
            refine lv_iconst (v := 1) hx hb dX5_templateFault_70 (by decide) ?_
            obtain ⟨rfl, rfl⟩ := hE
            exact en_i F hS _ () (by rfl) rfl hP hD (Nat.le_refl _) (Nat.le_refl _) dX5_templateFault_71
          ·
            rw [if_neg h22] at hE
            refine lv_iload hx hb dX5_templateFault_55 (lv_at hl 2 rfl) ?_
            refine lv_bipush (v := 36) hx hb dX5_templateFault_57 (by decide) ?_
            refine lv_icmp_ne (tgt := 72) hx hb dX5_templateFault_59 (by decide) (fun h23 => ?_) (fun h23 => ?_)
            ·
              rw [if_neg h23] at hE
              refine lv_iload_n hx hb dX5_templateFault_72 rfl (lv_at hl 3 rfl) ?_
              refine lv_if_ne (tgt := 95) hx hb dX5_templateFault_73 (by decide) (fun h24 => ?_) (fun h24 => ?_)
              ·
                rw [if_neg h24] at hE
                refine lv_iconst (v := 1) hx hb dX5_templateFault_95 (by decide) ?_
                refine lv_goto (tgt := 100) hx hb dX5_templateFault_96 (by decide) ?_
                refine lv_istore_n hx hb dX5_templateFault_100 rfl hl (by decide) rfl (fun ls hl => ?_)
                have hl : lv_has ls 6 [(2, .int 1), (5, .int (rw_at (kJ C 2) (kG C 2) (x3 + 1))), (3, .int (x3 + 1)), (4, .int (rw_at (kJ C 2) (kG C 2) x3)), (1, .ref (u 33)), (0, .ref h)] := hl
                refine lv_iinc (v := ((x3 + 1) + 1)) (k := 2) hx hb dX5_templateFault_101 hl rfl rfl (by decide) rfl (fun ls hl => ?_)
                have hl : lv_has ls 6 [(3, .int ((x3 + 1) + 1)), (2, .int 1), (5, .int (rw_at (kJ C 2) (kG C 2) (x3 + 1))), (4, .int (rw_at (kJ C 2) (kG C 2) x3)), (1, .ref (u 33)), (0, .ref h)] := hl
                refine lv_goto (tgt := 11) hx hb dX5_templateFault_104 (by decide) ?_
                exact ih C 1 ((x3 + 1) + 1) _ _ ls (lv_sub hl [0, 1, 4, 5] rfl) hE hP hD hS
              ·
                rw [if_pos h24] at hE
                refine lv_iload hx hb dX5_templateFault_76 (lv_at hl 2 rfl) ?_
                refine lv_bipush (v := 36) hx hb dX5_templateFault_78 (by decide) ?_
                refine lv_icmp_ne (tgt := 99) hx hb dX5_templateFault_80 (by decide) (fun h25 => ?_) (fun h25 => ?_)
                ·
                  rw [if_neg h25] at hE
                  refine lv_iconst (v := 0) hx hb dX5_templateFault_99 (by decide) ?_
                  refine lv_istore_n hx hb dX5_templateFault_100 rfl hl (by decide) rfl (fun ls hl => ?_)
                  have hl : lv_has ls 6 [(2, .int 0), (5, .int (rw_at (kJ C 2) (kG C 2) (x3 + 1))), (3, .int (x3 + 1)), (4, .int (rw_at (kJ C 2) (kG C 2) x3)), (1, .ref (u 33)), (0, .ref h)] := hl
                  refine lv_iinc (v := ((x3 + 1) + 1)) (k := 2) hx hb dX5_templateFault_101 hl rfl rfl (by decide) rfl (fun ls hl => ?_)
                  have hl : lv_has ls 6 [(3, .int ((x3 + 1) + 1)), (2, .int 0), (5, .int (rw_at (kJ C 2) (kG C 2) (x3 + 1))), (4, .int (rw_at (kJ C 2) (kG C 2) x3)), (1, .ref (u 33)), (0, .ref h)] := hl
                  refine lv_goto (tgt := 11) hx hb dX5_templateFault_104 (by decide) ?_
                  exact ih C 0 ((x3 + 1) + 1) _ _ ls (lv_sub hl [0, 1, 4, 5] rfl) hE hP hD hS
                ·
                  rw [if_pos h25] at hE
                  refine lv_aload_n hx hb dX5_templateFault_83 rfl (lv_at hl 5 rfl) ?_
                  refine lv_iload hx hb dX5_templateFault_84 (lv_at hl 0 rfl) ?_
                  refine lv_bipush (v := 48) hx hb dX5_templateFault_86 (by decide) ?_
                  refine lv_isub hx hb dX5_templateFault_88 ?_
                  obtain ⟨C26, r27, hg, hE⟩ := hE
                  refine kA_i (va_runV (As := [.int ((rw_at (kJ C 2) (kG C 2) (x3 + 1)) - 48)]) (rest := []) F.1 (e_p_isGroup l G h u C ((rw_at (kJ C 2) (kG C 2) (x3 + 1)) - 48) C26 r27 hg _) (cwV 1 hts (aw_V w_765 w_767 ws_X5_isGroup w_1 w_768) rfl rfl rfl (by decide +kernel) ⟨by decide, by decide⟩) ⟨cS_blind, va_recv (q := (RX5, TX5, 13)) (ci := 5) (q0 := 0) hK.1 hP rfl pW_0, cS_pre hP hD hK⟩ rfl rfl hl.1 rfl (lv_room (Nat.le_of_ble_eq_true rfl)) dX5_templateFault_89 ⟨Nat.le_refl _, Nat.le_refl _⟩) hD hS hA (fun r9 u0 H locs hp hP hD hS => ?_)
                  have hp := hp.symm; subst hp
                  refine lv_if_ne (tgt := 99) hx hb dX5_templateFault_92 (by decide) (fun h28 => ?_) (fun h28 => ?_)
                  ·
                    rw [if_neg h28] at hE
                    refine lv_iconst (v := 0) hx hb dX5_templateFault_99 (by decide) ?_
                    refine lv_istore_n hx hb dX5_templateFault_100 rfl hl (by decide) rfl (fun ls hl => ?_)
                    have hl : lv_has ls 6 [(2, .int 0), (5, .int (rw_at (kJ C 2) (kG C 2) (x3 + 1))), (3, .int (x3 + 1)), (4, .int (rw_at (kJ C 2) (kG C 2) x3)), (1, .ref (u 33)), (0, .ref h)] := hl
                    refine lv_iinc (v := ((x3 + 1) + 1)) (k := 2) hx hb dX5_templateFault_101 hl rfl rfl (by decide) rfl (fun ls hl => ?_)
                    have hl : lv_has ls 6 [(3, .int ((x3 + 1) + 1)), (2, .int 0), (5, .int (rw_at (kJ C 2) (kG C 2) (x3 + 1))), (4, .int (rw_at (kJ C 2) (kG C 2) x3)), (1, .ref (u 33)), (0, .ref h)] := hl
                    refine lv_goto (tgt := 11) hx hb dX5_templateFault_104 (by decide) ?_
                    exact ih C26 0 ((x3 + 1) + 1) _ _ ls (lv_sub hl [0, 1, 4, 5] rfl) hE hP hD hS
                  ·
                    rw [if_pos h28] at hE
                    refine lv_iconst (v := 1) hx hb dX5_templateFault_95 (by decide) ?_
                    refine lv_goto (tgt := 100) hx hb dX5_templateFault_96 (by decide) ?_
                    refine lv_istore_n hx hb dX5_templateFault_100 rfl hl (by decide) rfl (fun ls hl => ?_)
                    have hl : lv_has ls 6 [(2, .int 1), (5, .int (rw_at (kJ C 2) (kG C 2) (x3 + 1))), (3, .int (x3 + 1)), (4, .int (rw_at (kJ C 2) (kG C 2) x3)), (1, .ref (u 33)), (0, .ref h)] := hl
                    refine lv_iinc (v := ((x3 + 1) + 1)) (k := 2) hx hb dX5_templateFault_101 hl rfl rfl (by decide) rfl (fun ls hl => ?_)
                    have hl : lv_has ls 6 [(3, .int ((x3 + 1) + 1)), (2, .int 1), (5, .int (rw_at (kJ C 2) (kG C 2) (x3 + 1))), (4, .int (rw_at (kJ C 2) (kG C 2) x3)), (1, .ref (u 33)), (0, .ref h)] := hl
                    refine lv_goto (tgt := 11) hx hb dX5_templateFault_104 (by decide) ?_
                    exact ih C26 1 ((x3 + 1) + 1) _ _ ls (lv_sub hl [0, 1, 4, 5] rfl) hE hP hD hS
            ·
              rw [if_pos h23] at hE
              refine lv_iload hx hb dX5_templateFault_62 (lv_at hl 0 rfl) ?_
              obtain ⟨r29, hg, hE⟩ := hE
              refine kp_V (va_runS (As := [.int (rw_at (kJ C 2) (kG C 2) (x3 + 1))]) (rest := []) F.1 (e_X5_isDigit l G (rw_at (kJ C 2) (kG C 2) (x3 + 1)) r29 hg _) (va_cwS 1 hts (aw_S w_796 w_797 w_1 w_798) rfl rfl rfl (by decide +kernel) ⟨by decide, by decide⟩) ⟨cS_blind, cS_pre va_P0 (va_D0 (A := fun _ => True)) hK⟩ rfl rfl hl.1 rfl (lv_room (Nat.le_of_ble_eq_true rfl)) dX5_templateFault_64 ⟨Nat.le_refl _, Nat.le_refl _⟩) (fun v9 hp => ?_)
              subst hp
              refine lv_if_ne (tgt := 72) hx hb dX5_templateFault_67 (by decide) (fun h30 => ?_) (fun h30 => ?_)
              ·
                rw [if_neg h30] at hE
                refine lv_iload_n hx hb dX5_templateFault_72 rfl (lv_at hl 3 rfl) ?_
                refine lv_if_ne (tgt := 95) hx hb dX5_templateFault_73 (by decide) (fun h31 => ?_) (fun h31 => ?_)
                ·
                  rw [if_neg h31] at hE
                  refine lv_iconst (v := 1) hx hb dX5_templateFault_95 (by decide) ?_
                  refine lv_goto (tgt := 100) hx hb dX5_templateFault_96 (by decide) ?_
                  refine lv_istore_n hx hb dX5_templateFault_100 rfl hl (by decide) rfl (fun ls hl => ?_)
                  have hl : lv_has ls 6 [(2, .int 1), (5, .int (rw_at (kJ C 2) (kG C 2) (x3 + 1))), (3, .int (x3 + 1)), (4, .int (rw_at (kJ C 2) (kG C 2) x3)), (1, .ref (u 33)), (0, .ref h)] := hl
                  refine lv_iinc (v := ((x3 + 1) + 1)) (k := 2) hx hb dX5_templateFault_101 hl rfl rfl (by decide) rfl (fun ls hl => ?_)
                  have hl : lv_has ls 6 [(3, .int ((x3 + 1) + 1)), (2, .int 1), (5, .int (rw_at (kJ C 2) (kG C 2) (x3 + 1))), (4, .int (rw_at (kJ C 2) (kG C 2) x3)), (1, .ref (u 33)), (0, .ref h)] := hl
                  refine lv_goto (tgt := 11) hx hb dX5_templateFault_104 (by decide) ?_
                  exact ih C 1 ((x3 + 1) + 1) _ _ ls (lv_sub hl [0, 1, 4, 5] rfl) hE hP hD hS
                ·
                  rw [if_pos h31] at hE
                  refine lv_iload hx hb dX5_templateFault_76 (lv_at hl 2 rfl) ?_
                  refine lv_bipush (v := 36) hx hb dX5_templateFault_78 (by decide) ?_
                  refine lv_icmp_ne (tgt := 99) hx hb dX5_templateFault_80 (by decide) (fun h32 => ?_) (fun h32 => ?_)
                  ·
                    rw [if_neg h32] at hE
                    refine lv_iconst (v := 0) hx hb dX5_templateFault_99 (by decide) ?_
                    refine lv_istore_n hx hb dX5_templateFault_100 rfl hl (by decide) rfl (fun ls hl => ?_)
                    have hl : lv_has ls 6 [(2, .int 0), (5, .int (rw_at (kJ C 2) (kG C 2) (x3 + 1))), (3, .int (x3 + 1)), (4, .int (rw_at (kJ C 2) (kG C 2) x3)), (1, .ref (u 33)), (0, .ref h)] := hl
                    refine lv_iinc (v := ((x3 + 1) + 1)) (k := 2) hx hb dX5_templateFault_101 hl rfl rfl (by decide) rfl (fun ls hl => ?_)
                    have hl : lv_has ls 6 [(3, .int ((x3 + 1) + 1)), (2, .int 0), (5, .int (rw_at (kJ C 2) (kG C 2) (x3 + 1))), (4, .int (rw_at (kJ C 2) (kG C 2) x3)), (1, .ref (u 33)), (0, .ref h)] := hl
                    refine lv_goto (tgt := 11) hx hb dX5_templateFault_104 (by decide) ?_
                    exact ih C 0 ((x3 + 1) + 1) _ _ ls (lv_sub hl [0, 1, 4, 5] rfl) hE hP hD hS
                  ·
                    rw [if_pos h32] at hE
                    refine lv_aload_n hx hb dX5_templateFault_83 rfl (lv_at hl 5 rfl) ?_
                    refine lv_iload hx hb dX5_templateFault_84 (lv_at hl 0 rfl) ?_
                    refine lv_bipush (v := 48) hx hb dX5_templateFault_86 (by decide) ?_
                    refine lv_isub hx hb dX5_templateFault_88 ?_
                    obtain ⟨C33, r34, hg, hE⟩ := hE
                    refine kA_i (va_runV (As := [.int ((rw_at (kJ C 2) (kG C 2) (x3 + 1)) - 48)]) (rest := []) F.1 (e_p_isGroup l G h u C ((rw_at (kJ C 2) (kG C 2) (x3 + 1)) - 48) C33 r34 hg _) (cwV 1 hts (aw_V w_765 w_767 ws_X5_isGroup w_1 w_768) rfl rfl rfl (by decide +kernel) ⟨by decide, by decide⟩) ⟨cS_blind, va_recv (q := (RX5, TX5, 13)) (ci := 5) (q0 := 0) hK.1 hP rfl pW_0, cS_pre hP hD hK⟩ rfl rfl hl.1 rfl (lv_room (Nat.le_of_ble_eq_true rfl)) dX5_templateFault_89 ⟨Nat.le_refl _, Nat.le_refl _⟩) hD hS hA (fun r9 u0 H locs hp hP hD hS => ?_)
                    have hp := hp.symm; subst hp
                    refine lv_if_ne (tgt := 99) hx hb dX5_templateFault_92 (by decide) (fun h35 => ?_) (fun h35 => ?_)
                    ·
                      rw [if_neg h35] at hE
                      refine lv_iconst (v := 0) hx hb dX5_templateFault_99 (by decide) ?_
                      refine lv_istore_n hx hb dX5_templateFault_100 rfl hl (by decide) rfl (fun ls hl => ?_)
                      have hl : lv_has ls 6 [(2, .int 0), (5, .int (rw_at (kJ C 2) (kG C 2) (x3 + 1))), (3, .int (x3 + 1)), (4, .int (rw_at (kJ C 2) (kG C 2) x3)), (1, .ref (u 33)), (0, .ref h)] := hl
                      refine lv_iinc (v := ((x3 + 1) + 1)) (k := 2) hx hb dX5_templateFault_101 hl rfl rfl (by decide) rfl (fun ls hl => ?_)
                      have hl : lv_has ls 6 [(3, .int ((x3 + 1) + 1)), (2, .int 0), (5, .int (rw_at (kJ C 2) (kG C 2) (x3 + 1))), (4, .int (rw_at (kJ C 2) (kG C 2) x3)), (1, .ref (u 33)), (0, .ref h)] := hl
                      refine lv_goto (tgt := 11) hx hb dX5_templateFault_104 (by decide) ?_
                      exact ih C33 0 ((x3 + 1) + 1) _ _ ls (lv_sub hl [0, 1, 4, 5] rfl) hE hP hD hS
                    ·
                      rw [if_pos h35] at hE
                      refine lv_iconst (v := 1) hx hb dX5_templateFault_95 (by decide) ?_
                      refine lv_goto (tgt := 100) hx hb dX5_templateFault_96 (by decide) ?_
                      refine lv_istore_n hx hb dX5_templateFault_100 rfl hl (by decide) rfl (fun ls hl => ?_)
                      have hl : lv_has ls 6 [(2, .int 1), (5, .int (rw_at (kJ C 2) (kG C 2) (x3 + 1))), (3, .int (x3 + 1)), (4, .int (rw_at (kJ C 2) (kG C 2) x3)), (1, .ref (u 33)), (0, .ref h)] := hl
                      refine lv_iinc (v := ((x3 + 1) + 1)) (k := 2) hx hb dX5_templateFault_101 hl rfl rfl (by decide) rfl (fun ls hl => ?_)
                      have hl : lv_has ls 6 [(3, .int ((x3 + 1) + 1)), (2, .int 1), (5, .int (rw_at (kJ C 2) (kG C 2) (x3 + 1))), (4, .int (rw_at (kJ C 2) (kG C 2) x3)), (1, .ref (u 33)), (0, .ref h)] := hl
                      refine lv_goto (tgt := 11) hx hb dX5_templateFault_104 (by decide) ?_
                      exact ih C33 1 ((x3 + 1) + 1) _ _ ls (lv_sub hl [0, 1, 4, 5] rfl) hE hP hD hS
              ·
                rw [if_pos h30] at hE
                refine lv_iconst (v := 1) hx hb dX5_templateFault_70 (by decide) ?_
                obtain ⟨rfl, rfl⟩ := hE
                exact en_i F hS _ () (by rfl) rfl hP hD (Nat.le_refl _) (Nat.le_refl _) dX5_templateFault_71
def E_p_templateFault (C : CS)  (C' : CS) (r : Int32) : Prop := ∃ nf : Nat, L_p_templateFault_11 nf C 0 0 C' r
set_option maxHeartbeats 4000000 in
set_option maxRecDepth 100000 in
theorem e_p_templateFault (l : Launch) (G : PG) (h : Nat) (u : Nat → Nat) (C : CS)  (C' : CS) (r : Int32) (hE : E_p_templateFault C C' r) : Ci l yX5_templateFault (Cond.code yX5_templateFault cX5_templateFault 6 (some .int) :: aW) { frames := 1, cells := 0, slots := 0, locals := 21 } G (pW G h u C) [.ref h] (fun (r9 : Int32) (_ : Unit) => r9 = r) (fun (_ : Unit) => pW G h u C') 0 0 := by
  refine ofB (y := yX5_templateFault) (G := G) (cc := cX5_templateFault) (maxL := 6) (ret := (some .int)) (Qc := fun A => va_Qi (fun (r9 : Int32) (_ : Unit) => r9 = r) (oB G A (fun (_ : Unit) => pW G h u C')) A) (by decide) rfl ?_
  intro p e s m below meth c A F hK hA hP hD
  have hS : va_S A s.heap s.heap [] := va_S.rf
  have hx := F.1.1; have hb := F.1.2.1; have hml := F.1.2.2.1; have hts := F.1.2.2.2.2
  have hown : s.vm.findClass RX5 = some m.cls := F.1.2.2.2.1
  have hl := lv_entry ([.ref h]) (n := 6) (Nat.le_of_ble_eq_true rfl)
  rw [lg_entry_eq]
  generalize (lg_sl ([.ref h]) ++ List.replicate (6 - (lg_sl ([.ref h])).length) Slot.unset).toArray = ls at hl ⊢
  have hl : lv_has ls 6 [(0, .ref h)] := hl
  unfold E_p_templateFault at hE
  refine lv_aload_n hx hb dX5_templateFault_0 rfl (lv_at hl 0 rfl) ?_
  refine va_get (D := G.1) (ci := 5) (v := .ref (u 30)) (C := RX5) (T := TX5) (N := 13) hx hb hts inX5 hown hK.1 hP 0 pW_0 rfl 2 (by decide) (hts _ w_192) (fun _ h9 => h9) rfl dX5_templateFault_1 ?_
  refine lv_iconst (v := 2) hx hb dX5_templateFault_4 (by decide) ?_
  refine va_aldq (D := G.1) hx hb hK.1 hP 1 5 pW_1 rfl (vp_in_nI (n := 2) (by decide) (by decide)) dX5_templateFault_5 ?_
  refine tp_v (.ref (u 33)) rfl ?_
  refine lv_astore_n hx hb dX5_templateFault_6 rfl hl (by decide) rfl (fun ls hl => ?_)
  have hl : lv_has ls 6 [(1, .ref (u 33)), (0, .ref h)] := hl
  refine lv_iconst (v := 0) hx hb dX5_templateFault_7 (by decide) ?_
  refine lv_istore_n hx hb dX5_templateFault_8 rfl hl (by decide) rfl (fun ls hl => ?_)
  have hl : lv_has ls 6 [(2, .int 0), (1, .ref (u 33)), (0, .ref h)] := hl
  refine lv_iconst (v := 0) hx hb dX5_templateFault_9 (by decide) ?_
  refine lv_istore_n hx hb dX5_templateFault_10 rfl hl (by decide) rfl (fun ls hl => ?_)
  have hl : lv_has ls 6 [(3, .int 0), (2, .int 0), (1, .ref (u 33)), (0, .ref h)] := hl
  obtain ⟨nf, hE⟩ := hE
  exact L_p_templateFault_11_ok F hK hA nf C 0 0 _ _ ls (lv_sub hl [0, 1, 2, 3] rfl) hE hP hD hS

theorem dX5_makeFromText_0 : decode cX5_makeFromText 0 = .ok (.iload_n 1, 1) := by decide +kernel
theorem dX5_makeFromText_1 : decode cX5_makeFromText 1 = .ok (.istore_n 3, 1) := by decide +kernel
theorem dX5_makeFromText_2 : decode cX5_makeFromText 2 = .ok (.iload_n 3, 1) := by decide +kernel
theorem dX5_makeFromText_3 : decode cX5_makeFromText 3 = .ok (.iload_n 2, 1) := by decide +kernel
theorem dX5_makeFromText_4 : decode cX5_makeFromText 4 = .ok (.if_icmp .ge 25, 3) := by decide +kernel
theorem dX5_makeFromText_7 : decode cX5_makeFromText 7 = .ok (.aload_n 0, 1) := by decide +kernel
theorem dX5_makeFromText_8 : decode cX5_makeFromText 8 = .ok (.getfield 37, 3) := by decide +kernel
theorem dX5_makeFromText_11 : decode cX5_makeFromText 11 = .ok (.aload_n 0, 1) := by decide +kernel
theorem dX5_makeFromText_12 : decode cX5_makeFromText 12 = .ok (.getfield 20, 3) := by decide +kernel
theorem dX5_makeFromText_15 : decode cX5_makeFromText 15 = .ok (.iload_n 3, 1) := by decide +kernel
theorem dX5_makeFromText_16 : decode cX5_makeFromText 16 = .ok (.invokevirtual 130, 3) := by decide +kernel
theorem dX5_makeFromText_19 : decode cX5_makeFromText 19 = .ok (.invokevirtual 51, 3) := by decide +kernel
theorem dX5_makeFromText_22 : decode cX5_makeFromText 22 = .ok (.pop, 1) := by decide +kernel
theorem dX5_makeFromText_23 : decode cX5_makeFromText 23 = .ok (.iinc 3 1, 3) := by decide +kernel
theorem dX5_makeFromText_26 : decode cX5_makeFromText 26 = .ok (.goto (-24), 3) := by decide +kernel
theorem dX5_makeFromText_29 : decode cX5_makeFromText 29 = .ok (.return_, 1) := by decide +kernel
def L_p_makeFromText_2 : Nat → CS → Int32 → Int32 → Int32 → CS → Int32 → Prop
  | 0, _, _, _, _, _, _ => False
  | nf + 1, C, x1, x2, x3, C', r => if x2 ≤ x3 then (C' = C ∧ r = 0) else (rOK 8 (tJ (kT C)) (tG (kT C)) ∧ (if (kJ C 3) < 296 then (L_p_makeFromText_2 nf (uJ C 3 ((kJ C 3) + 1) (upd (kG C 3) (kJ C 3) (vp_nar .char (rw_at (tJ (kT C)) (tG (kT C)) x3)))) x1 x2 (x3 + 1) C' r) else ((kJ C 3) = 296 ∧ (L_p_makeFromText_2 nf (uJ C 3 296 (kG C 3)) x1 x2 (x3 + 1) C' r))))
set_option maxHeartbeats 4000000 in
set_option maxRecDepth 100000 in
theorem L_p_makeFromText_2_ok {l : Launch} {G : PG} {h : Nat} {u : Nat → Nat} {a1 : Int32} {a2 : Int32} {C' : CS} {r : Int32} {p : Program} {e : Env} {s : State} {m : MethodId} {below : List Frame} {meth : Method} {c : Code} {A : Nat → Prop} (F : bF p s m meth c cX5_makeFromText 4 none ([.ref h, .int a1, .int a2] : List Value).toArray yX5_makeFromText) (hK : pg_K G s) (hA : ∀ q, s.heap.size ≤ q → A q) : ∀ (nf : Nat) (C : CS) (x1 : Int32) (x2 : Int32) (x3 : Int32) (H : Heap) (locs : List Loc) (ls : Array Slot), lv_has ls 4 [(3, .int x3), (0, .ref h), (1, .int x1), (2, .int x2)] → L_p_makeFromText_2 nf C x1 x2 x3 C' r → va_P G.1 vwCl (pW G h u C) H → va_D A (pW G h u C) → va_S A s.heap H locs → W p l e { frames := 1, cells := 0, slots := 0, locals := 21 } s m ([.ref h, .int a1, .int a2] : List Value).toArray below meth c H locs 0 0 (MQ below (va_Qv (fun (_ : Unit) => True) (oB G A (fun (_ : Unit) => pW G h u C')) A) ([.ref h, .int a1, .int a2] : List Value).toArray s 0 0 A) (F0 m 2 ls []) := by
  have hx := F.1.1; have hb := F.1.2.1; have hml := F.1.2.2.1; have hts := F.1.2.2.2.2
  have hown : s.vm.findClass RX5 = some m.cls := F.1.2.2.2.1
  intro nf
  induction nf with
  | zero => intro C x1 x2 x3 H locs ls hl hE; exact hE.elim
  | succ nf ih =>
    intro C x1 x2 x3 H locs ls hl hE hP hD hS
    unfold L_p_makeFromText_2 at hE
    refine lv_iload_n hx hb dX5_makeFromText_2 rfl (lv_at hl 0 rfl) ?_
    refine lv_iload_n hx hb dX5_makeFromText_3 rfl (lv_at hl 3 rfl) ?_
    refine lv_icmp_ge (tgt := 29) hx hb dX5_makeFromText_4 (by decide) (fun h1 => ?_) (fun h1 => ?_)
    ·
      rw [if_pos h1] at hE
      obtain ⟨rfl, rfl⟩ := hE
      exact en_v F hS () trivial hP hD (Nat.le_refl _) (Nat.le_refl _) dX5_makeFromText_29
    ·
      rw [if_neg h1] at hE
      refine lv_aload_n hx hb dX5_makeFromText_7 rfl (lv_at hl 1 rfl) ?_
      refine va_get (D := G.1) (ci := 5) (v := .ref (u 35)) (C := RX5) (T := TX5) (N := 13) hx hb hts inX5 hown hK.1 hP 0 pW_0 rfl 9 (by decide) (hts _ w_199) (fun _ h9 => h9) rfl dX5_makeFromText_8 ?_
      refine lv_aload_n hx hb dX5_makeFromText_11 rfl (lv_at hl 1 rfl) ?_
      refine va_get (D := G.1) (ci := 5) (v := .ref (u 7)) (C := RX5) (T := TX5) (N := 13) hx hb hts inX5 hown hK.1 hP 0 pW_0 rfl 1 (by decide) (hts _ w_191) (fun _ h9 => h9) rfl dX5_makeFromText_12 ?_
      refine lv_iload_n hx hb dX5_makeFromText_15 rfl (lv_at hl 0 rfl) ?_
      obtain ⟨ho2, hE⟩ := hE
      refine kp_V (va_runV (As := [.int x3]) (rest := [.ref (u 35)]) F.1 (v_row_at l G _ _ _ (tJ (kT C)) (tG (kT C)) x3 ho2.1 (by decide) ho2.2 _) (cwV 1 hts (aw_V w_795 w_336 w_337 w_3 w_338) rfl rfl rfl (by decide +kernel) ⟨by decide, by decide⟩) ⟨cS_blind, va_recv (q := (RX3, TX3, 2)) (ci := 3) (q0 := 0) hK.1 (pP_r1 (C := C) hP) rfl rfl, cS_pre (pP_r1 (C := C) hP) (pD_r1 (C := C) hD) hK⟩ rfl rfl hl.1 rfl (lv_room (Nat.le_of_ble_eq_true rfl)) dX5_makeFromText_16 ⟨Nat.le_refl _, Nat.le_refl _⟩) (fun v9 hp => ?_)
      subst hp
      by_cases hj3 : (kJ C 3) < 296
      ·
        rw [if_pos hj3] at hE
        have hPc := (hP.perm (zr3 (G := G) (h := h) (u := u) (C := C) rfl)).appR; have hDc := (hD.perm (zr3 (G := G) (h := h) (u := u) (C := C) rfl)).appR
        refine kz_i (w2 := fun _ => pW G h u (uJ C 3 ((kJ C 3) + 1) (upd (kG C 3) (kJ C 3) (vp_nar .char (rw_at (tJ (kT C)) (tG (kT C)) x3))))) (va_runV (As := [.int (rw_at (tJ (kT C)) (tG (kT C)) x3)]) (rest := []) F.1 (c_row_add l G (u 35) (u 36) 296 (kJ C 3) (kG C 3) (rw_at (tJ (kT C)) (tG (kT C)) x3) hj3 (by decide) _) (cwV 1 hts (aw_V w_237 w_238 w_239 w_3 w_240) rfl rfl rfl (by decide +kernel) ⟨by decide, by decide⟩) ⟨cS_blind, va_recv (q := (RX3, TX3, 2)) (ci := 3) (q0 := 0) hK.1 hPc rfl rfl, cS_pre hPc hDc hK⟩ rfl rfl hl.1 rfl (lv_room (Nat.le_of_ble_eq_true rfl)) dX5_makeFromText_19 ⟨Nat.le_refl _, Nat.le_refl _⟩) hP hD hS hA (zr3 (G := G) (h := h) (u := u) (C := C) rfl) (fun _ => zr3b) (fun r9 u0 H locs hp hP hD hS => ?_)
        subst hp
        refine lv_pop hx hb dX5_makeFromText_22 rfl ?_
        refine lv_iinc (v := (x3 + 1)) (k := 0) hx hb dX5_makeFromText_23 hl rfl rfl (by decide) rfl (fun ls hl => ?_)
        have hl : lv_has ls 4 [(3, .int (x3 + 1)), (0, .ref h), (1, .int x1), (2, .int x2)] := hl
        refine lv_goto (tgt := 2) hx hb dX5_makeFromText_26 (by decide) ?_
        exact ih (uJ C 3 ((kJ C 3) + 1) (upd (kG C 3) (kJ C 3) (vp_nar .char (rw_at (tJ (kT C)) (tG (kT C)) x3)))) x1 x2 (x3 + 1) _ _ ls (lv_sub hl [0, 1, 2, 3] rfl) hE hP hD hS
      rw [if_neg hj3] at hE
      obtain ⟨hj4, hE⟩ := hE
      have hPc := (hP.perm (zr3 (G := G) (h := h) (u := u) (C := C) hj4)).appR; have hDc := (hD.perm (zr3 (G := G) (h := h) (u := u) (C := C) hj4)).appR
      refine kz_i (w2 := fun _ => pW G h u (uJ C 3 296 (kG C 3))) (va_runV (As := [.int (rw_at (tJ (kT C)) (tG (kT C)) x3)]) (rest := []) F.1 (c_row_addF l G (u 35) (u 36) 296 (kG C 3) (rw_at (tJ (kT C)) (tG (kT C)) x3) (by decide) _) (cwV 1 hts (aw_V w_237 w_238 w_239 w_3 w_240) rfl rfl rfl (by decide +kernel) ⟨by decide, by decide⟩) ⟨cS_blind, va_recv (q := (RX3, TX3, 2)) (ci := 3) (q0 := 0) hK.1 hPc rfl rfl, cS_pre hPc hDc hK⟩ rfl rfl hl.1 rfl (lv_room (Nat.le_of_ble_eq_true rfl)) dX5_makeFromText_19 ⟨Nat.le_refl _, Nat.le_refl _⟩) hP hD hS hA (zr3 (G := G) (h := h) (u := u) (C := C) hj4) (fun _ => zr3b) (fun r9 u0 H locs hp hP hD hS => ?_)
      subst hp
      refine lv_pop hx hb dX5_makeFromText_22 rfl ?_
      refine lv_iinc (v := (x3 + 1)) (k := 0) hx hb dX5_makeFromText_23 hl rfl rfl (by decide) rfl (fun ls hl => ?_)
      have hl : lv_has ls 4 [(3, .int (x3 + 1)), (0, .ref h), (1, .int x1), (2, .int x2)] := hl
      refine lv_goto (tgt := 2) hx hb dX5_makeFromText_26 (by decide) ?_
      exact ih (uJ C 3 296 (kG C 3)) x1 x2 (x3 + 1) _ _ ls (lv_sub hl [0, 1, 2, 3] rfl) hE hP hD hS
def E_p_makeFromText (C : CS) (a1 : Int32) (a2 : Int32) (C' : CS) (r : Int32) : Prop := ∃ nf : Nat, L_p_makeFromText_2 nf C a1 a2 a1 C' r
set_option maxHeartbeats 4000000 in
set_option maxRecDepth 100000 in
theorem e_p_makeFromText (l : Launch) (G : PG) (h : Nat) (u : Nat → Nat) (C : CS) (a1 : Int32) (a2 : Int32) (C' : CS) (r : Int32) (hE : E_p_makeFromText C a1 a2 C' r) : Cv l yX5_makeFromText (Cond.code yX5_makeFromText cX5_makeFromText 4 none :: aW) { frames := 1, cells := 0, slots := 0, locals := 21 } G (pW G h u C) [.ref h, .int a1, .int a2] (fun (_ : Unit) => True) (fun (_ : Unit) => pW G h u C') 0 0 := by
  refine ofB (y := yX5_makeFromText) (G := G) (cc := cX5_makeFromText) (maxL := 4) (ret := none) (Qc := fun A => va_Qv (fun (_ : Unit) => True) (oB G A (fun (_ : Unit) => pW G h u C')) A) (by decide) rfl ?_
  intro p e s m below meth c A F hK hA hP hD
  have hS : va_S A s.heap s.heap [] := va_S.rf
  have hx := F.1.1; have hb := F.1.2.1; have hml := F.1.2.2.1; have hts := F.1.2.2.2.2
  have hown : s.vm.findClass RX5 = some m.cls := F.1.2.2.2.1
  have hl := lv_entry ([.ref h, .int a1, .int a2]) (n := 4) (Nat.le_of_ble_eq_true rfl)
  rw [lg_entry_eq]
  generalize (lg_sl ([.ref h, .int a1, .int a2]) ++ List.replicate (4 - (lg_sl ([.ref h, .int a1, .int a2])).length) Slot.unset).toArray = ls at hl ⊢
  have hl : lv_has ls 4 [(0, .ref h), (1, .int a1), (2, .int a2)] := hl
  unfold E_p_makeFromText at hE
  refine lv_iload_n hx hb dX5_makeFromText_0 rfl (lv_at hl 1 rfl) ?_
  refine lv_istore_n hx hb dX5_makeFromText_1 rfl hl (by decide) rfl (fun ls hl => ?_)
  have hl : lv_has ls 4 [(3, .int a1), (0, .ref h), (1, .int a1), (2, .int a2)] := hl
  obtain ⟨nf, hE⟩ := hE
  exact L_p_makeFromText_2_ok F hK hA nf C a1 a2 a1 _ _ ls (lv_sub hl [0, 1, 2, 3] rfl) hE hP hD hS

theorem dX5_makeFromTemplate_0 : decode cX5_makeFromTemplate 0 = .ok (.aload_n 0, 1) := by decide +kernel
theorem dX5_makeFromTemplate_1 : decode cX5_makeFromTemplate 1 = .ok (.getfield 26, 3) := by decide +kernel
theorem dX5_makeFromTemplate_4 : decode cX5_makeFromTemplate 4 = .ok (.iconst 2, 1) := by decide +kernel
theorem dX5_makeFromTemplate_5 : decode cX5_makeFromTemplate 5 = .ok (.aaload, 1) := by decide +kernel
theorem dX5_makeFromTemplate_6 : decode cX5_makeFromTemplate 6 = .ok (.astore_n 1, 1) := by decide +kernel
theorem dX5_makeFromTemplate_7 : decode cX5_makeFromTemplate 7 = .ok (.iconst 0, 1) := by decide +kernel
theorem dX5_makeFromTemplate_8 : decode cX5_makeFromTemplate 8 = .ok (.istore_n 2, 1) := by decide +kernel
theorem dX5_makeFromTemplate_9 : decode cX5_makeFromTemplate 9 = .ok (.iload_n 2, 1) := by decide +kernel
theorem dX5_makeFromTemplate_10 : decode cX5_makeFromTemplate 10 = .ok (.aload_n 1, 1) := by decide +kernel
theorem dX5_makeFromTemplate_11 : decode cX5_makeFromTemplate 11 = .ok (.invokevirtual 90, 3) := by decide +kernel
theorem dX5_makeFromTemplate_14 : decode cX5_makeFromTemplate 14 = .ok (.if_icmp .ge 75, 3) := by decide +kernel
theorem dX5_makeFromTemplate_17 : decode cX5_makeFromTemplate 17 = .ok (.aload_n 1, 1) := by decide +kernel
theorem dX5_makeFromTemplate_18 : decode cX5_makeFromTemplate 18 = .ok (.iload_n 2, 1) := by decide +kernel
theorem dX5_makeFromTemplate_19 : decode cX5_makeFromTemplate 19 = .ok (.invokevirtual 130, 3) := by decide +kernel
theorem dX5_makeFromTemplate_22 : decode cX5_makeFromTemplate 22 = .ok (.istore_n 3, 1) := by decide +kernel
theorem dX5_makeFromTemplate_23 : decode cX5_makeFromTemplate 23 = .ok (.iload_n 3, 1) := by decide +kernel
theorem dX5_makeFromTemplate_24 : decode cX5_makeFromTemplate 24 = .ok (.bipush 36, 2) := by decide +kernel
theorem dX5_makeFromTemplate_26 : decode cX5_makeFromTemplate 26 = .ok (.if_icmp .ne 35, 3) := by decide +kernel
theorem dX5_makeFromTemplate_29 : decode cX5_makeFromTemplate 29 = .ok (.iinc 2 1, 3) := by decide +kernel
theorem dX5_makeFromTemplate_32 : decode cX5_makeFromTemplate 32 = .ok (.aload_n 1, 1) := by decide +kernel
theorem dX5_makeFromTemplate_33 : decode cX5_makeFromTemplate 33 = .ok (.iload_n 2, 1) := by decide +kernel
theorem dX5_makeFromTemplate_34 : decode cX5_makeFromTemplate 34 = .ok (.invokevirtual 130, 3) := by decide +kernel
theorem dX5_makeFromTemplate_37 : decode cX5_makeFromTemplate 37 = .ok (.bipush 48, 2) := by decide +kernel
theorem dX5_makeFromTemplate_39 : decode cX5_makeFromTemplate 39 = .ok (.isub, 1) := by decide +kernel
theorem dX5_makeFromTemplate_40 : decode cX5_makeFromTemplate 40 = .ok (.istore 4, 2) := by decide +kernel
theorem dX5_makeFromTemplate_42 : decode cX5_makeFromTemplate 42 = .ok (.aload_n 0, 1) := by decide +kernel
theorem dX5_makeFromTemplate_43 : decode cX5_makeFromTemplate 43 = .ok (.aload_n 0, 1) := by decide +kernel
theorem dX5_makeFromTemplate_44 : decode cX5_makeFromTemplate 44 = .ok (.iload 4, 2) := by decide +kernel
theorem dX5_makeFromTemplate_46 : decode cX5_makeFromTemplate 46 = .ok (.invokevirtual 107, 3) := by decide +kernel
theorem dX5_makeFromTemplate_49 : decode cX5_makeFromTemplate 49 = .ok (.aload_n 0, 1) := by decide +kernel
theorem dX5_makeFromTemplate_50 : decode cX5_makeFromTemplate 50 = .ok (.iload 4, 2) := by decide +kernel
theorem dX5_makeFromTemplate_52 : decode cX5_makeFromTemplate 52 = .ok (.invokevirtual 111, 3) := by decide +kernel
theorem dX5_makeFromTemplate_55 : decode cX5_makeFromTemplate 55 = .ok (.invokevirtual 117, 3) := by decide +kernel
theorem dX5_makeFromTemplate_58 : decode cX5_makeFromTemplate 58 = .ok (.goto 25, 3) := by decide +kernel
theorem dX5_makeFromTemplate_61 : decode cX5_makeFromTemplate 61 = .ok (.iload_n 3, 1) := by decide +kernel
theorem dX5_makeFromTemplate_62 : decode cX5_makeFromTemplate 62 = .ok (.bipush 92, 2) := by decide +kernel
theorem dX5_makeFromTemplate_64 : decode cX5_makeFromTemplate 64 = .ok (.if_icmp .ne 6, 3) := by decide +kernel
theorem dX5_makeFromTemplate_67 : decode cX5_makeFromTemplate 67 = .ok (.iinc 2 1, 3) := by decide +kernel
theorem dX5_makeFromTemplate_70 : decode cX5_makeFromTemplate 70 = .ok (.aload_n 0, 1) := by decide +kernel
theorem dX5_makeFromTemplate_71 : decode cX5_makeFromTemplate 71 = .ok (.getfield 37, 3) := by decide +kernel
theorem dX5_makeFromTemplate_74 : decode cX5_makeFromTemplate 74 = .ok (.aload_n 1, 1) := by decide +kernel
theorem dX5_makeFromTemplate_75 : decode cX5_makeFromTemplate 75 = .ok (.iload_n 2, 1) := by decide +kernel
theorem dX5_makeFromTemplate_76 : decode cX5_makeFromTemplate 76 = .ok (.invokevirtual 130, 3) := by decide +kernel
theorem dX5_makeFromTemplate_79 : decode cX5_makeFromTemplate 79 = .ok (.invokevirtual 51, 3) := by decide +kernel
theorem dX5_makeFromTemplate_82 : decode cX5_makeFromTemplate 82 = .ok (.pop, 1) := by decide +kernel
theorem dX5_makeFromTemplate_83 : decode cX5_makeFromTemplate 83 = .ok (.iinc 2 1, 3) := by decide +kernel
theorem dX5_makeFromTemplate_86 : decode cX5_makeFromTemplate 86 = .ok (.goto (-77), 3) := by decide +kernel
theorem dX5_makeFromTemplate_89 : decode cX5_makeFromTemplate 89 = .ok (.return_, 1) := by decide +kernel
def L_p_makeFromTemplate_9 : Nat → CS → Int32 → CS → Int32 → Prop
  | 0, _, _, _, _ => False
  | nf + 1, C, x2, C', r => if (nI (kJ C 2)) ≤ x2 then (C' = C ∧ r = 0) else (rOK 8 (kJ C 2) (kG C 2) ∧ (if (rw_at (kJ C 2) (kG C 2) x2) = 36 then (rOK 8 (kJ C 2) (kG C 2) ∧ (∃ (C12 : CS) (r13 : Int32), E_p_groupFrom C ((rw_at (kJ C 2) (kG C 2) (x2 + 1)) - 48) C12 r13 ∧ (∃ (C14 : CS) (r15 : Int32), E_p_groupTo C12 ((rw_at (kJ C 2) (kG C 2) (x2 + 1)) - 48) C14 r15 ∧ (∃ (C16 : CS), E_p_makeFromText C14 r13 r15 C16 0 ∧ (L_p_makeFromTemplate_9 nf C16 ((x2 + 1) + 1) C' r))))) else (if (rw_at (kJ C 2) (kG C 2) x2) = 92 then (rOK 8 (kJ C 2) (kG C 2) ∧ (if (kJ C 3) < 296 then (L_p_makeFromTemplate_9 nf (uJ C 3 ((kJ C 3) + 1) (upd (kG C 3) (kJ C 3) (vp_nar .char (rw_at (kJ C 2) (kG C 2) (x2 + 1))))) ((x2 + 1) + 1) C' r) else ((kJ C 3) = 296 ∧ (L_p_makeFromTemplate_9 nf (uJ C 3 296 (kG C 3)) ((x2 + 1) + 1) C' r)))) else (rOK 8 (kJ C 2) (kG C 2) ∧ (if (kJ C 3) < 296 then (L_p_makeFromTemplate_9 nf (uJ C 3 ((kJ C 3) + 1) (upd (kG C 3) (kJ C 3) (vp_nar .char (rw_at (kJ C 2) (kG C 2) x2)))) (x2 + 1) C' r) else ((kJ C 3) = 296 ∧ (L_p_makeFromTemplate_9 nf (uJ C 3 296 (kG C 3)) (x2 + 1) C' r)))))))
set_option maxHeartbeats 4000000 in
set_option maxRecDepth 100000 in
theorem L_p_makeFromTemplate_9_ok {l : Launch} {G : PG} {h : Nat} {u : Nat → Nat} {C' : CS} {r : Int32} {p : Program} {e : Env} {s : State} {m : MethodId} {below : List Frame} {meth : Method} {c : Code} {A : Nat → Prop} (F : bF p s m meth c cX5_makeFromTemplate 5 none ([.ref h] : List Value).toArray yX5_makeFromTemplate) (hK : pg_K G s) (hA : ∀ q, s.heap.size ≤ q → A q) : ∀ (nf : Nat) (C : CS) (x2 : Int32) (H : Heap) (locs : List Loc) (ls : Array Slot), lv_has ls 5 [(2, .int x2), (1, .ref (u 33)), (0, .ref h)] → L_p_makeFromTemplate_9 nf C x2 C' r → va_P G.1 vwCl (pW G h u C) H → va_D A (pW G h u C) → va_S A s.heap H locs → W p l e { frames := 2, cells := 0, slots := 0, locals := 45 } s m ([.ref h] : List Value).toArray below meth c H locs 0 0 (MQ below (va_Qv (fun (_ : Unit) => True) (oB G A (fun (_ : Unit) => pW G h u C')) A) ([.ref h] : List Value).toArray s 0 0 A) (F0 m 9 ls []) := by
  have hx := F.1.1; have hb := F.1.2.1; have hml := F.1.2.2.1; have hts := F.1.2.2.2.2
  have hown : s.vm.findClass RX5 = some m.cls := F.1.2.2.2.1
  intro nf
  induction nf with
  | zero => intro C x2 H locs ls hl hE; exact hE.elim
  | succ nf ih =>
    intro C x2 H locs ls hl hE hP hD hS
    unfold L_p_makeFromTemplate_9 at hE
    refine lv_iload_n hx hb dX5_makeFromTemplate_9 rfl (lv_at hl 0 rfl) ?_
    refine lv_aload_n hx hb dX5_makeFromTemplate_10 rfl (lv_at hl 1 rfl) ?_
    refine kp_V (va_runV (As := []) (rest := [.int x2]) F.1 (v_row_size l G _ _ _ _ _ _) (cwV 0 hts (aw_V w_257 w_258 w_259 w_3 w_260) rfl rfl rfl (by decide +kernel) ⟨by decide, by decide⟩) ⟨cS_blind, va_recv (q := (RX3, TX3, 2)) (ci := 3) (q0 := 0) hK.1 (pP_r2 (C := C) hP) rfl rfl, cS_pre (pP_r2 (C := C) hP) (pD_r2 (C := C) hD) hK⟩ rfl rfl hl.1 rfl (lv_room (Nat.le_of_ble_eq_true rfl)) dX5_makeFromTemplate_11 ⟨Nat.le_refl _, Nat.le_refl _⟩) (fun v9 hp => ?_)
    subst hp
    refine lv_icmp_ge (tgt := 89) hx hb dX5_makeFromTemplate_14 (by decide) (fun h1 => ?_) (fun h1 => ?_)
    ·
      rw [if_pos h1] at hE
      obtain ⟨rfl, rfl⟩ := hE
      exact en_v F hS () trivial hP hD (Nat.le_refl _) (Nat.le_refl _) dX5_makeFromTemplate_89
    ·
      rw [if_neg h1] at hE
      refine lv_aload_n hx hb dX5_makeFromTemplate_17 rfl (lv_at hl 1 rfl) ?_
      refine lv_iload_n hx hb dX5_makeFromTemplate_18 rfl (lv_at hl 0 rfl) ?_
      obtain ⟨ho2, hE⟩ := hE
      refine kp_V (va_runV (As := [.int x2]) (rest := []) F.1 (v_row_at l G _ _ _ (kJ C 2) (kG C 2) x2 ho2.1 (by decide) ho2.2 _) (cwV 1 hts (aw_V w_795 w_336 w_337 w_3 w_338) rfl rfl rfl (by decide +kernel) ⟨by decide, by decide⟩) ⟨cS_blind, va_recv (q := (RX3, TX3, 2)) (ci := 3) (q0 := 0) hK.1 (pP_r2 (C := C) hP) rfl rfl, cS_pre (pP_r2 (C := C) hP) (pD_r2 (C := C) hD) hK⟩ rfl rfl hl.1 rfl (lv_room (Nat.le_of_ble_eq_true rfl)) dX5_makeFromTemplate_19 ⟨Nat.le_refl _, Nat.le_refl _⟩) (fun v9 hp => ?_)
      subst hp
      refine lv_istore_n hx hb dX5_makeFromTemplate_22 rfl hl (by decide) rfl (fun ls hl => ?_)
      have hl : lv_has ls 5 [(3, .int (rw_at (kJ C 2) (kG C 2) x2)), (2, .int x2), (1, .ref (u 33)), (0, .ref h)] := hl
      refine lv_iload_n hx hb dX5_makeFromTemplate_23 rfl (lv_at hl 0 rfl) ?_
      refine lv_bipush (v := 36) hx hb dX5_makeFromTemplate_24 (by decide) ?_
      refine lv_icmp_ne (tgt := 61) hx hb dX5_makeFromTemplate_26 (by decide) (fun h3 => ?_) (fun h3 => ?_)
      ·
        rw [if_neg h3] at hE
        refine lv_iload_n hx hb dX5_makeFromTemplate_61 rfl (lv_at hl 0 rfl) ?_
        refine lv_bipush (v := 92) hx hb dX5_makeFromTemplate_62 (by decide) ?_
        refine lv_icmp_ne (tgt := 70) hx hb dX5_makeFromTemplate_64 (by decide) (fun h4 => ?_) (fun h4 => ?_)
        ·
          rw [if_neg h4] at hE
          refine lv_aload_n hx hb dX5_makeFromTemplate_70 rfl (lv_at hl 3 rfl) ?_
          refine va_get (D := G.1) (ci := 5) (v := .ref (u 35)) (C := RX5) (T := TX5) (N := 13) hx hb hts inX5 hown hK.1 hP 0 pW_0 rfl 9 (by decide) (hts _ w_199) (fun _ h9 => h9) rfl dX5_makeFromTemplate_71 ?_
          refine lv_aload_n hx hb dX5_makeFromTemplate_74 rfl (lv_at hl 2 rfl) ?_
          refine lv_iload_n hx hb dX5_makeFromTemplate_75 rfl (lv_at hl 1 rfl) ?_
          obtain ⟨ho5, hE⟩ := hE
          refine kp_V (va_runV (As := [.int x2]) (rest := [.ref (u 35)]) F.1 (v_row_at l G _ _ _ (kJ C 2) (kG C 2) x2 ho5.1 (by decide) ho5.2 _) (cwV 1 hts (aw_V w_795 w_336 w_337 w_3 w_338) rfl rfl rfl (by decide +kernel) ⟨by decide, by decide⟩) ⟨cS_blind, va_recv (q := (RX3, TX3, 2)) (ci := 3) (q0 := 0) hK.1 (pP_r2 (C := C) hP) rfl rfl, cS_pre (pP_r2 (C := C) hP) (pD_r2 (C := C) hD) hK⟩ rfl rfl hl.1 rfl (lv_room (Nat.le_of_ble_eq_true rfl)) dX5_makeFromTemplate_76 ⟨Nat.le_refl _, Nat.le_refl _⟩) (fun v9 hp => ?_)
          subst hp
          by_cases hj6 : (kJ C 3) < 296
          ·
            rw [if_pos hj6] at hE
            have hPc := (hP.perm (zr3 (G := G) (h := h) (u := u) (C := C) rfl)).appR; have hDc := (hD.perm (zr3 (G := G) (h := h) (u := u) (C := C) rfl)).appR
            refine kz_i (w2 := fun _ => pW G h u (uJ C 3 ((kJ C 3) + 1) (upd (kG C 3) (kJ C 3) (vp_nar .char (rw_at (kJ C 2) (kG C 2) x2))))) (va_runV (As := [.int (rw_at (kJ C 2) (kG C 2) x2)]) (rest := []) F.1 (c_row_add l G (u 35) (u 36) 296 (kJ C 3) (kG C 3) (rw_at (kJ C 2) (kG C 2) x2) hj6 (by decide) _) (cwV 1 hts (aw_V w_237 w_238 w_239 w_3 w_240) rfl rfl rfl (by decide +kernel) ⟨by decide, by decide⟩) ⟨cS_blind, va_recv (q := (RX3, TX3, 2)) (ci := 3) (q0 := 0) hK.1 hPc rfl rfl, cS_pre hPc hDc hK⟩ rfl rfl hl.1 rfl (lv_room (Nat.le_of_ble_eq_true rfl)) dX5_makeFromTemplate_79 ⟨Nat.le_refl _, Nat.le_refl _⟩) hP hD hS hA (zr3 (G := G) (h := h) (u := u) (C := C) rfl) (fun _ => zr3b) (fun r9 u0 H locs hp hP hD hS => ?_)
            subst hp
            refine lv_pop hx hb dX5_makeFromTemplate_82 rfl ?_
            refine lv_iinc (v := (x2 + 1)) (k := 1) hx hb dX5_makeFromTemplate_83 hl rfl rfl (by decide) rfl (fun ls hl => ?_)
            have hl : lv_has ls 5 [(2, .int (x2 + 1)), (3, .int (rw_at (kJ C 2) (kG C 2) x2)), (1, .ref (u 33)), (0, .ref h)] := hl
            refine lv_goto (tgt := 9) hx hb dX5_makeFromTemplate_86 (by decide) ?_
            exact ih (uJ C 3 ((kJ C 3) + 1) (upd (kG C 3) (kJ C 3) (vp_nar .char (rw_at (kJ C 2) (kG C 2) x2)))) (x2 + 1) _ _ ls (lv_sub hl [0, 2, 3] rfl) hE hP hD hS
          rw [if_neg hj6] at hE
          obtain ⟨hj7, hE⟩ := hE
          have hPc := (hP.perm (zr3 (G := G) (h := h) (u := u) (C := C) hj7)).appR; have hDc := (hD.perm (zr3 (G := G) (h := h) (u := u) (C := C) hj7)).appR
          refine kz_i (w2 := fun _ => pW G h u (uJ C 3 296 (kG C 3))) (va_runV (As := [.int (rw_at (kJ C 2) (kG C 2) x2)]) (rest := []) F.1 (c_row_addF l G (u 35) (u 36) 296 (kG C 3) (rw_at (kJ C 2) (kG C 2) x2) (by decide) _) (cwV 1 hts (aw_V w_237 w_238 w_239 w_3 w_240) rfl rfl rfl (by decide +kernel) ⟨by decide, by decide⟩) ⟨cS_blind, va_recv (q := (RX3, TX3, 2)) (ci := 3) (q0 := 0) hK.1 hPc rfl rfl, cS_pre hPc hDc hK⟩ rfl rfl hl.1 rfl (lv_room (Nat.le_of_ble_eq_true rfl)) dX5_makeFromTemplate_79 ⟨Nat.le_refl _, Nat.le_refl _⟩) hP hD hS hA (zr3 (G := G) (h := h) (u := u) (C := C) hj7) (fun _ => zr3b) (fun r9 u0 H locs hp hP hD hS => ?_)
          subst hp
          refine lv_pop hx hb dX5_makeFromTemplate_82 rfl ?_
          refine lv_iinc (v := (x2 + 1)) (k := 1) hx hb dX5_makeFromTemplate_83 hl rfl rfl (by decide) rfl (fun ls hl => ?_)
          have hl : lv_has ls 5 [(2, .int (x2 + 1)), (3, .int (rw_at (kJ C 2) (kG C 2) x2)), (1, .ref (u 33)), (0, .ref h)] := hl
          refine lv_goto (tgt := 9) hx hb dX5_makeFromTemplate_86 (by decide) ?_
          exact ih (uJ C 3 296 (kG C 3)) (x2 + 1) _ _ ls (lv_sub hl [0, 2, 3] rfl) hE hP hD hS
        ·
          rw [if_pos h4] at hE
          refine lv_iinc (v := (x2 + 1)) (k := 1) hx hb dX5_makeFromTemplate_67 hl rfl rfl (by decide) rfl (fun ls hl => ?_)
          have hl : lv_has ls 5 [(2, .int (x2 + 1)), (3, .int (rw_at (kJ C 2) (kG C 2) x2)), (1, .ref (u 33)), (0, .ref h)] := hl
          refine lv_aload_n hx hb dX5_makeFromTemplate_70 rfl (lv_at hl 3 rfl) ?_
          refine va_get (D := G.1) (ci := 5) (v := .ref (u 35)) (C := RX5) (T := TX5) (N := 13) hx hb hts inX5 hown hK.1 hP 0 pW_0 rfl 9 (by decide) (hts _ w_199) (fun _ h9 => h9) rfl dX5_makeFromTemplate_71 ?_
          refine lv_aload_n hx hb dX5_makeFromTemplate_74 rfl (lv_at hl 2 rfl) ?_
          refine lv_iload_n hx hb dX5_makeFromTemplate_75 rfl (lv_at hl 0 rfl) ?_
          obtain ⟨ho8, hE⟩ := hE
          refine kp_V (va_runV (As := [.int (x2 + 1)]) (rest := [.ref (u 35)]) F.1 (v_row_at l G _ _ _ (kJ C 2) (kG C 2) (x2 + 1) ho8.1 (by decide) ho8.2 _) (cwV 1 hts (aw_V w_795 w_336 w_337 w_3 w_338) rfl rfl rfl (by decide +kernel) ⟨by decide, by decide⟩) ⟨cS_blind, va_recv (q := (RX3, TX3, 2)) (ci := 3) (q0 := 0) hK.1 (pP_r2 (C := C) hP) rfl rfl, cS_pre (pP_r2 (C := C) hP) (pD_r2 (C := C) hD) hK⟩ rfl rfl hl.1 rfl (lv_room (Nat.le_of_ble_eq_true rfl)) dX5_makeFromTemplate_76 ⟨Nat.le_refl _, Nat.le_refl _⟩) (fun v9 hp => ?_)
          subst hp
          by_cases hj9 : (kJ C 3) < 296
          ·
            rw [if_pos hj9] at hE
            have hPc := (hP.perm (zr3 (G := G) (h := h) (u := u) (C := C) rfl)).appR; have hDc := (hD.perm (zr3 (G := G) (h := h) (u := u) (C := C) rfl)).appR
            refine kz_i (w2 := fun _ => pW G h u (uJ C 3 ((kJ C 3) + 1) (upd (kG C 3) (kJ C 3) (vp_nar .char (rw_at (kJ C 2) (kG C 2) (x2 + 1)))))) (va_runV (As := [.int (rw_at (kJ C 2) (kG C 2) (x2 + 1))]) (rest := []) F.1 (c_row_add l G (u 35) (u 36) 296 (kJ C 3) (kG C 3) (rw_at (kJ C 2) (kG C 2) (x2 + 1)) hj9 (by decide) _) (cwV 1 hts (aw_V w_237 w_238 w_239 w_3 w_240) rfl rfl rfl (by decide +kernel) ⟨by decide, by decide⟩) ⟨cS_blind, va_recv (q := (RX3, TX3, 2)) (ci := 3) (q0 := 0) hK.1 hPc rfl rfl, cS_pre hPc hDc hK⟩ rfl rfl hl.1 rfl (lv_room (Nat.le_of_ble_eq_true rfl)) dX5_makeFromTemplate_79 ⟨Nat.le_refl _, Nat.le_refl _⟩) hP hD hS hA (zr3 (G := G) (h := h) (u := u) (C := C) rfl) (fun _ => zr3b) (fun r9 u0 H locs hp hP hD hS => ?_)
            subst hp
            refine lv_pop hx hb dX5_makeFromTemplate_82 rfl ?_
            refine lv_iinc (v := ((x2 + 1) + 1)) (k := 0) hx hb dX5_makeFromTemplate_83 hl rfl rfl (by decide) rfl (fun ls hl => ?_)
            have hl : lv_has ls 5 [(2, .int ((x2 + 1) + 1)), (3, .int (rw_at (kJ C 2) (kG C 2) x2)), (1, .ref (u 33)), (0, .ref h)] := hl
            refine lv_goto (tgt := 9) hx hb dX5_makeFromTemplate_86 (by decide) ?_
            exact ih (uJ C 3 ((kJ C 3) + 1) (upd (kG C 3) (kJ C 3) (vp_nar .char (rw_at (kJ C 2) (kG C 2) (x2 + 1))))) ((x2 + 1) + 1) _ _ ls (lv_sub hl [0, 2, 3] rfl) hE hP hD hS
          rw [if_neg hj9] at hE
          obtain ⟨hj10, hE⟩ := hE
          have hPc := (hP.perm (zr3 (G := G) (h := h) (u := u) (C := C) hj10)).appR; have hDc := (hD.perm (zr3 (G := G) (h := h) (u := u) (C := C) hj10)).appR
          refine kz_i (w2 := fun _ => pW G h u (uJ C 3 296 (kG C 3))) (va_runV (As := [.int (rw_at (kJ C 2) (kG C 2) (x2 + 1))]) (rest := []) F.1 (c_row_addF l G (u 35) (u 36) 296 (kG C 3) (rw_at (kJ C 2) (kG C 2) (x2 + 1)) (by decide) _) (cwV 1 hts (aw_V w_237 w_238 w_239 w_3 w_240) rfl rfl rfl (by decide +kernel) ⟨by decide, by decide⟩) ⟨cS_blind, va_recv (q := (RX3, TX3, 2)) (ci := 3) (q0 := 0) hK.1 hPc rfl rfl, cS_pre hPc hDc hK⟩ rfl rfl hl.1 rfl (lv_room (Nat.le_of_ble_eq_true rfl)) dX5_makeFromTemplate_79 ⟨Nat.le_refl _, Nat.le_refl _⟩) hP hD hS hA (zr3 (G := G) (h := h) (u := u) (C := C) hj10) (fun _ => zr3b) (fun r9 u0 H locs hp hP hD hS => ?_)
          subst hp
          refine lv_pop hx hb dX5_makeFromTemplate_82 rfl ?_
          refine lv_iinc (v := ((x2 + 1) + 1)) (k := 0) hx hb dX5_makeFromTemplate_83 hl rfl rfl (by decide) rfl (fun ls hl => ?_)
          have hl : lv_has ls 5 [(2, .int ((x2 + 1) + 1)), (3, .int (rw_at (kJ C 2) (kG C 2) x2)), (1, .ref (u 33)), (0, .ref h)] := hl
          refine lv_goto (tgt := 9) hx hb dX5_makeFromTemplate_86 (by decide) ?_
          exact ih (uJ C 3 296 (kG C 3)) ((x2 + 1) + 1) _ _ ls (lv_sub hl [0, 2, 3] rfl) hE hP hD hS
      ·
        rw [if_pos h3] at hE
        refine lv_iinc (v := (x2 + 1)) (k := 1) hx hb dX5_makeFromTemplate_29 hl rfl rfl (by decide) rfl (fun ls hl => ?_)
        have hl : lv_has ls 5 [(2, .int (x2 + 1)), (3, .int (rw_at (kJ C 2) (kG C 2) x2)), (1, .ref (u 33)), (0, .ref h)] := hl
        refine lv_aload_n hx hb dX5_makeFromTemplate_32 rfl (lv_at hl 2 rfl) ?_
        refine lv_iload_n hx hb dX5_makeFromTemplate_33 rfl (lv_at hl 0 rfl) ?_
        obtain ⟨ho11, hE⟩ := hE
        refine kp_V (va_runV (As := [.int (x2 + 1)]) (rest := []) F.1 (v_row_at l G _ _ _ (kJ C 2) (kG C 2) (x2 + 1) ho11.1 (by decide) ho11.2 _) (cwV 1 hts (aw_V w_795 w_336 w_337 w_3 w_338) rfl rfl rfl (by decide +kernel) ⟨by decide, by decide⟩) ⟨cS_blind, va_recv (q := (RX3, TX3, 2)) (ci := 3) (q0 := 0) hK.1 (pP_r2 (C := C) hP) rfl rfl, cS_pre (pP_r2 (C := C) hP) (pD_r2 (C := C) hD) hK⟩ rfl rfl hl.1 rfl (lv_room (Nat.le_of_ble_eq_true rfl)) dX5_makeFromTemplate_34 ⟨Nat.le_refl _, Nat.le_refl _⟩) (fun v9 hp => ?_)
        subst hp
        refine lv_bipush (v := 48) hx hb dX5_makeFromTemplate_37 (by decide) ?_
        refine lv_isub hx hb dX5_makeFromTemplate_39 ?_
        refine lv_istore hx hb dX5_makeFromTemplate_40 hl (by decide) rfl (fun ls hl => ?_)
        have hl : lv_has ls 5 [(4, .int ((rw_at (kJ C 2) (kG C 2) (x2 + 1)) - 48)), (2, .int (x2 + 1)), (3, .int (rw_at (kJ C 2) (kG C 2) x2)), (1, .ref (u 33)), (0, .ref h)] := hl
        refine lv_aload_n hx hb dX5_makeFromTemplate_42 rfl (lv_at hl 4 rfl) ?_
        refine lv_aload_n hx hb dX5_makeFromTemplate_43 rfl (lv_at hl 4 rfl) ?_
        refine lv_iload hx hb dX5_makeFromTemplate_44 (lv_at hl 0 rfl) ?_
        obtain ⟨C12, r13, hg, hE⟩ := hE
        refine kA_i (va_runV (As := [.int ((rw_at (kJ C 2) (kG C 2) (x2 + 1)) - 48)]) (rest := [.ref h]) F.1 (e_p_groupFrom l G h u C ((rw_at (kJ C 2) (kG C 2) (x2 + 1)) - 48) C12 r13 hg _) (cwV 1 hts (aw_V w_769 w_771 ws_X5_groupFrom w_1 w_772) rfl rfl rfl (by decide +kernel) ⟨by decide, by decide⟩) ⟨cS_blind, va_recv (q := (RX5, TX5, 13)) (ci := 5) (q0 := 0) hK.1 hP rfl pW_0, cS_pre hP hD hK⟩ rfl rfl hl.1 rfl (lv_room (Nat.le_of_ble_eq_true rfl)) dX5_makeFromTemplate_46 ⟨Nat.le_refl _, Nat.le_refl _⟩) hD hS hA (fun r9 u0 H locs hp hP hD hS => ?_)
        have hp := hp.symm; subst hp
        refine lv_aload_n hx hb dX5_makeFromTemplate_49 rfl (lv_at hl 4 rfl) ?_
        refine lv_iload hx hb dX5_makeFromTemplate_50 (lv_at hl 0 rfl) ?_
        obtain ⟨C14, r15, hg, hE⟩ := hE
        refine kA_i (va_runV (As := [.int ((rw_at (kJ C 2) (kG C 2) (x2 + 1)) - 48)]) (rest := [.int r13, .ref h]) F.1 (e_p_groupTo l G h u C12 ((rw_at (kJ C 2) (kG C 2) (x2 + 1)) - 48) C14 r15 hg _) (cwV 1 hts (aw_V w_780 w_782 ws_X5_groupTo w_1 w_783) rfl rfl rfl (by decide +kernel) ⟨by decide, by decide⟩) ⟨cS_blind, va_recv (q := (RX5, TX5, 13)) (ci := 5) (q0 := 0) hK.1 hP rfl pW_0, cS_pre hP hD hK⟩ rfl rfl hl.1 rfl (lv_room (Nat.le_of_ble_eq_true rfl)) dX5_makeFromTemplate_52 ⟨Nat.le_refl _, Nat.le_refl _⟩) hD hS hA (fun r9 u0 H locs hp hP hD hS => ?_)
        have hp := hp.symm; subst hp
        obtain ⟨C16, hg, hE⟩ := hE
        refine kA_v (va_runV (As := [.int r13, .int r15]) (rest := []) F.1 (e_p_makeFromText l G h u C14 r13 r15 C16 0 hg _) (cwV 2 hts (aw_V w_799 w_801 ws_X5_makeFromText w_1 w_802) rfl rfl rfl (by decide +kernel) ⟨by decide, by decide⟩) ⟨cS_blind, va_recv (q := (RX5, TX5, 13)) (ci := 5) (q0 := 0) hK.1 hP rfl pW_0, cS_pre hP hD hK⟩ rfl rfl hl.1 rfl (lv_room (Nat.le_of_ble_eq_true rfl)) dX5_makeFromTemplate_55 ⟨Nat.le_refl _, Nat.le_refl _⟩) hD hS hA (fun u0 H locs hp hP hD hS => ?_)
        refine lv_goto (tgt := 83) hx hb dX5_makeFromTemplate_58 (by decide) ?_
        refine lv_iinc (v := ((x2 + 1) + 1)) (k := 1) hx hb dX5_makeFromTemplate_83 hl rfl rfl (by decide) rfl (fun ls hl => ?_)
        have hl : lv_has ls 5 [(2, .int ((x2 + 1) + 1)), (4, .int ((rw_at (kJ C 2) (kG C 2) (x2 + 1)) - 48)), (3, .int (rw_at (kJ C 2) (kG C 2) x2)), (1, .ref (u 33)), (0, .ref h)] := hl
        refine lv_goto (tgt := 9) hx hb dX5_makeFromTemplate_86 (by decide) ?_
        exact ih C16 ((x2 + 1) + 1) _ _ ls (lv_sub hl [0, 3, 4] rfl) hE hP hD hS
def E_p_makeFromTemplate (C : CS)  (C' : CS) (r : Int32) : Prop := ∃ nf : Nat, L_p_makeFromTemplate_9 nf C 0 C' r
set_option maxHeartbeats 4000000 in
set_option maxRecDepth 100000 in
theorem e_p_makeFromTemplate (l : Launch) (G : PG) (h : Nat) (u : Nat → Nat) (C : CS)  (C' : CS) (r : Int32) (hE : E_p_makeFromTemplate C C' r) : Cv l yX5_makeFromTemplate (Cond.code yX5_makeFromTemplate cX5_makeFromTemplate 5 none :: aW) { frames := 2, cells := 0, slots := 0, locals := 45 } G (pW G h u C) [.ref h] (fun (_ : Unit) => True) (fun (_ : Unit) => pW G h u C') 0 0 := by
  refine ofB (y := yX5_makeFromTemplate) (G := G) (cc := cX5_makeFromTemplate) (maxL := 5) (ret := none) (Qc := fun A => va_Qv (fun (_ : Unit) => True) (oB G A (fun (_ : Unit) => pW G h u C')) A) (by decide) rfl ?_
  intro p e s m below meth c A F hK hA hP hD
  have hS : va_S A s.heap s.heap [] := va_S.rf
  have hx := F.1.1; have hb := F.1.2.1; have hml := F.1.2.2.1; have hts := F.1.2.2.2.2
  have hown : s.vm.findClass RX5 = some m.cls := F.1.2.2.2.1
  have hl := lv_entry ([.ref h]) (n := 5) (Nat.le_of_ble_eq_true rfl)
  rw [lg_entry_eq]
  generalize (lg_sl ([.ref h]) ++ List.replicate (5 - (lg_sl ([.ref h])).length) Slot.unset).toArray = ls at hl ⊢
  have hl : lv_has ls 5 [(0, .ref h)] := hl
  unfold E_p_makeFromTemplate at hE
  refine lv_aload_n hx hb dX5_makeFromTemplate_0 rfl (lv_at hl 0 rfl) ?_
  refine va_get (D := G.1) (ci := 5) (v := .ref (u 30)) (C := RX5) (T := TX5) (N := 13) hx hb hts inX5 hown hK.1 hP 0 pW_0 rfl 2 (by decide) (hts _ w_192) (fun _ h9 => h9) rfl dX5_makeFromTemplate_1 ?_
  refine lv_iconst (v := 2) hx hb dX5_makeFromTemplate_4 (by decide) ?_
  refine va_aldq (D := G.1) hx hb hK.1 hP 1 5 pW_1 rfl (vp_in_nI (n := 2) (by decide) (by decide)) dX5_makeFromTemplate_5 ?_
  refine tp_v (.ref (u 33)) rfl ?_
  refine lv_astore_n hx hb dX5_makeFromTemplate_6 rfl hl (by decide) rfl (fun ls hl => ?_)
  have hl : lv_has ls 5 [(1, .ref (u 33)), (0, .ref h)] := hl
  refine lv_iconst (v := 0) hx hb dX5_makeFromTemplate_7 (by decide) ?_
  refine lv_istore_n hx hb dX5_makeFromTemplate_8 rfl hl (by decide) rfl (fun ls hl => ?_)
  have hl : lv_has ls 5 [(2, .int 0), (1, .ref (u 33)), (0, .ref h)] := hl
  obtain ⟨nf, hE⟩ := hE
  exact L_p_makeFromTemplate_9_ok F hK hA nf C 0 _ _ ls (lv_sub hl [0, 1, 2] rfl) hE hP hD hS

theorem dX5_addPiece_0 : decode cX5_addPiece 0 = .ok (.aload_n 0, 1) := by decide +kernel
theorem dX5_addPiece_1 : decode cX5_addPiece 1 = .ok (.getfield 134, 3) := by decide +kernel
theorem dX5_addPiece_4 : decode cX5_addPiece 4 = .ok (.aload_n 0, 1) := by decide +kernel
theorem dX5_addPiece_5 : decode cX5_addPiece 5 = .ok (.getfield 40, 3) := by decide +kernel
theorem dX5_addPiece_8 : decode cX5_addPiece 8 = .ok (.arraylength, 1) := by decide +kernel
theorem dX5_addPiece_9 : decode cX5_addPiece 9 = .ok (.if_icmp .ge 45, 3) := by decide +kernel
theorem dX5_addPiece_12 : decode cX5_addPiece 12 = .ok (.aload_n 0, 1) := by decide +kernel
theorem dX5_addPiece_13 : decode cX5_addPiece 13 = .ok (.getfield 134, 3) := by decide +kernel
theorem dX5_addPiece_16 : decode cX5_addPiece 16 = .ok (.aload_n 0, 1) := by decide +kernel
theorem dX5_addPiece_17 : decode cX5_addPiece 17 = .ok (.getfield 44, 3) := by decide +kernel
theorem dX5_addPiece_20 : decode cX5_addPiece 20 = .ok (.arraylength, 1) := by decide +kernel
theorem dX5_addPiece_21 : decode cX5_addPiece 21 = .ok (.if_icmp .ge 33, 3) := by decide +kernel
theorem dX5_addPiece_24 : decode cX5_addPiece 24 = .ok (.aload_n 0, 1) := by decide +kernel
theorem dX5_addPiece_25 : decode cX5_addPiece 25 = .ok (.getfield 40, 3) := by decide +kernel
theorem dX5_addPiece_28 : decode cX5_addPiece 28 = .ok (.aload_n 0, 1) := by decide +kernel
theorem dX5_addPiece_29 : decode cX5_addPiece 29 = .ok (.getfield 134, 3) := by decide +kernel
theorem dX5_addPiece_32 : decode cX5_addPiece 32 = .ok (.iload_n 1, 1) := by decide +kernel
theorem dX5_addPiece_33 : decode cX5_addPiece 33 = .ok (.iastore, 1) := by decide +kernel
theorem dX5_addPiece_34 : decode cX5_addPiece 34 = .ok (.aload_n 0, 1) := by decide +kernel
theorem dX5_addPiece_35 : decode cX5_addPiece 35 = .ok (.getfield 44, 3) := by decide +kernel
theorem dX5_addPiece_38 : decode cX5_addPiece 38 = .ok (.aload_n 0, 1) := by decide +kernel
theorem dX5_addPiece_39 : decode cX5_addPiece 39 = .ok (.getfield 134, 3) := by decide +kernel
theorem dX5_addPiece_42 : decode cX5_addPiece 42 = .ok (.iload_n 2, 1) := by decide +kernel
theorem dX5_addPiece_43 : decode cX5_addPiece 43 = .ok (.iastore, 1) := by decide +kernel
theorem dX5_addPiece_44 : decode cX5_addPiece 44 = .ok (.aload_n 0, 1) := by decide +kernel
theorem dX5_addPiece_45 : decode cX5_addPiece 45 = .ok (.dup, 1) := by decide +kernel
theorem dX5_addPiece_46 : decode cX5_addPiece 46 = .ok (.getfield 134, 3) := by decide +kernel
theorem dX5_addPiece_49 : decode cX5_addPiece 49 = .ok (.iconst 1, 1) := by decide +kernel
theorem dX5_addPiece_50 : decode cX5_addPiece 50 = .ok (.iadd, 1) := by decide +kernel
theorem dX5_addPiece_51 : decode cX5_addPiece 51 = .ok (.putfield 134, 3) := by decide +kernel
theorem dX5_addPiece_54 : decode cX5_addPiece 54 = .ok (.return_, 1) := by decide +kernel
def E_p_addPiece (C : CS) (a1 : Int32) (a2 : Int32) (C' : CS) (r : Int32) : Prop := if 10 ≤ (kI C 12) then (C' = C ∧ r = 0) else (if 10 ≤ (kI C 12) then (C' = C ∧ r = 0) else (vp_in (kI C 12) 10 ∧ (vp_in (kI (uP C 10 ((kI C 12).toNatClampNeg) a1) 12) 10 ∧ (C' = (uI (uP (uP C 10 ((kI C 12).toNatClampNeg) a1) 11 ((kI (uP C 10 ((kI C 12).toNatClampNeg) a1) 12).toNatClampNeg) a2) 12 ((kI (uP (uP C 10 ((kI C 12).toNatClampNeg) a1) 11 ((kI (uP C 10 ((kI C 12).toNatClampNeg) a1) 12).toNatClampNeg) a2) 12) + 1)) ∧ r = 0))))
set_option maxHeartbeats 4000000 in
set_option maxRecDepth 100000 in
theorem e_p_addPiece (l : Launch) (G : PG) (h : Nat) (u : Nat → Nat) (C : CS) (a1 : Int32) (a2 : Int32) (C' : CS) (r : Int32) (hE : E_p_addPiece C a1 a2 C' r) : Cv l yX5_addPiece (Cond.code yX5_addPiece cX5_addPiece 3 none :: aW) { frames := 0, cells := 0, slots := 0, locals := 0 } G (pW G h u C) [.ref h, .int a1, .int a2] (fun (_ : Unit) => True) (fun (_ : Unit) => pW G h u C') 0 0 := by
  refine ofB (y := yX5_addPiece) (G := G) (cc := cX5_addPiece) (maxL := 3) (ret := none) (Qc := fun A => va_Qv (fun (_ : Unit) => True) (oB G A (fun (_ : Unit) => pW G h u C')) A) (by decide) rfl ?_
  intro p e s m below meth c A F hK hA hP hD
  have hS : va_S A s.heap s.heap [] := va_S.rf
  have hx := F.1.1; have hb := F.1.2.1; have hml := F.1.2.2.1; have hts := F.1.2.2.2.2
  have hown : s.vm.findClass RX5 = some m.cls := F.1.2.2.2.1
  have hl := lv_entry ([.ref h, .int a1, .int a2]) (n := 3) (Nat.le_of_ble_eq_true rfl)
  rw [lg_entry_eq]
  generalize (lg_sl ([.ref h, .int a1, .int a2]) ++ List.replicate (3 - (lg_sl ([.ref h, .int a1, .int a2])).length) Slot.unset).toArray = ls at hl ⊢
  have hl : lv_has ls 3 [(0, .ref h), (1, .int a1), (2, .int a2)] := hl
  unfold E_p_addPiece at hE
  refine lv_aload_n hx hb dX5_addPiece_0 rfl (lv_at hl 0 rfl) ?_
  refine va_get (D := G.1) (ci := 5) (v := .int (kI C 12)) (C := RX5) (T := TX5) (N := 13) hx hb hts inX5 hown hK.1 hP 0 pW_0 rfl 12 (by decide) (hts _ w_202) (fun _ h9 => h9) rfl dX5_addPiece_1 ?_
  refine lv_aload_n hx hb dX5_addPiece_4 rfl (lv_at hl 0 rfl) ?_
  refine va_get (D := G.1) (ci := 5) (v := .ref (u 37)) (C := RX5) (T := TX5) (N := 13) hx hb hts inX5 hown hK.1 hP 0 pW_0 rfl 10 (by decide) (hts _ w_200) (fun _ h9 => h9) rfl dX5_addPiece_5 ?_
  refine va_alen (D := G.1) (v := 10) hx hb hK.1 hP 6 0 pW_6 rfl rfl dX5_addPiece_8 ?_
  refine lv_icmp_ge (tgt := 54) hx hb dX5_addPiece_9 (by decide) (fun h1 => ?_) (fun h1 => ?_)
  ·
    rw [if_pos h1] at hE
    obtain ⟨rfl, rfl⟩ := hE
    exact en_v F hS () trivial hP hD (Nat.le_refl _) (Nat.le_refl _) dX5_addPiece_54
  ·
    rw [if_neg h1] at hE
    refine lv_aload_n hx hb dX5_addPiece_12 rfl (lv_at hl 0 rfl) ?_
    refine va_get (D := G.1) (ci := 5) (v := .int (kI C 12)) (C := RX5) (T := TX5) (N := 13) hx hb hts inX5 hown hK.1 hP 0 pW_0 rfl 12 (by decide) (hts _ w_202) (fun _ h9 => h9) rfl dX5_addPiece_13 ?_
    refine lv_aload_n hx hb dX5_addPiece_16 rfl (lv_at hl 0 rfl) ?_
    refine va_get (D := G.1) (ci := 5) (v := .ref (u 38)) (C := RX5) (T := TX5) (N := 13) hx hb hts inX5 hown hK.1 hP 0 pW_0 rfl 11 (by decide) (hts _ w_201) (fun _ h9 => h9) rfl dX5_addPiece_17 ?_
    refine va_alen (D := G.1) (v := 10) hx hb hK.1 hP 7 0 pW_7 rfl rfl dX5_addPiece_20 ?_
    refine lv_icmp_ge (tgt := 54) hx hb dX5_addPiece_21 (by decide) (fun h2 => ?_) (fun h2 => ?_)
    ·
      rw [if_pos h2] at hE
      obtain ⟨rfl, rfl⟩ := hE
      exact en_v F hS () trivial hP hD (Nat.le_refl _) (Nat.le_refl _) dX5_addPiece_54
    ·
      rw [if_neg h2] at hE
      refine lv_aload_n hx hb dX5_addPiece_24 rfl (lv_at hl 0 rfl) ?_
      refine va_get (D := G.1) (ci := 5) (v := .ref (u 37)) (C := RX5) (T := TX5) (N := 13) hx hb hts inX5 hown hK.1 hP 0 pW_0 rfl 10 (by decide) (hts _ w_200) (fun _ h9 => h9) rfl dX5_addPiece_25 ?_
      refine lv_aload_n hx hb dX5_addPiece_28 rfl (lv_at hl 0 rfl) ?_
      refine va_get (D := G.1) (ci := 5) (v := .int (kI C 12)) (C := RX5) (T := TX5) (N := 13) hx hb hts inX5 hown hK.1 hP 0 pW_0 rfl 12 (by decide) (hts _ w_202) (fun _ h9 => h9) rfl dX5_addPiece_29 ?_
      refine lv_iload_n hx hb dX5_addPiece_32 rfl (lv_at hl 1 rfl) ?_
      obtain ⟨hin, hE⟩ := hE
      refine va_iast (D := G.1) hx hb hK.1 hP hD hS 6 0 pW_6 rfl hin dX5_addPiece_33 (fun H locs hP hD hS => ?_)
      rw [pW_a6] at hP hD
      refine lv_aload_n hx hb dX5_addPiece_34 rfl (lv_at hl 0 rfl) ?_
      refine va_get (D := G.1) (ci := 5) (v := .ref (u 38)) (C := RX5) (T := TX5) (N := 13) hx hb hts inX5 hown hK.1 hP 0 pW_0 rfl 11 (by decide) (hts _ w_201) (fun _ h9 => h9) rfl dX5_addPiece_35 ?_
      refine lv_aload_n hx hb dX5_addPiece_38 rfl (lv_at hl 0 rfl) ?_
      refine va_get (D := G.1) (ci := 5) (v := .int (kI (uP C 10 ((kI C 12).toNatClampNeg) a1) 12)) (C := RX5) (T := TX5) (N := 13) hx hb hts inX5 hown hK.1 hP 0 pW_0 rfl 12 (by decide) (hts _ w_202) (fun _ h9 => h9) rfl dX5_addPiece_39 ?_
      refine lv_iload_n hx hb dX5_addPiece_42 rfl (lv_at hl 2 rfl) ?_
      obtain ⟨hin, hE⟩ := hE
      refine va_iast (D := G.1) hx hb hK.1 hP hD hS 7 0 pW_7 rfl hin dX5_addPiece_43 (fun H locs hP hD hS => ?_)
      rw [pW_a7] at hP hD
      refine lv_aload_n hx hb dX5_addPiece_44 rfl (lv_at hl 0 rfl) ?_
      refine lv_dup hx hb dX5_addPiece_45 rfl ?_
      refine va_get (D := G.1) (ci := 5) (v := .int (kI (uP (uP C 10 ((kI C 12).toNatClampNeg) a1) 11 ((kI (uP C 10 ((kI C 12).toNatClampNeg) a1) 12).toNatClampNeg) a2) 12)) (C := RX5) (T := TX5) (N := 13) hx hb hts inX5 hown hK.1 hP 0 pW_0 rfl 12 (by decide) (hts _ w_202) (fun _ h9 => h9) rfl dX5_addPiece_46 ?_
      refine lv_iconst (v := 1) hx hb dX5_addPiece_49 (by decide) ?_
      refine lv_iadd hx hb dX5_addPiece_50 ?_
      refine va_put (D := G.1) (ci := 5) (v := .int ((kI (uP (uP C 10 ((kI C 12).toNatClampNeg) a1) 11 ((kI (uP C 10 ((kI C 12).toNatClampNeg) a1) 12).toNatClampNeg) a2) 12) + 1)) (ty := .int) (C := RX5) (T := TX5) (N := 13) hx hb hts inX5 tyX5 tyX5_ok nmX5 hown hK.1 hP hD hS 0 pW_0 rfl 12 (by decide) (hts _ w_202) (fun _ h9 => h9) rfl (by decide +kernel) rfl rfl (Nat.le_of_ble_eq_true rfl) dX5_addPiece_51 (fun H locs hP hD hS => ?_)
      rw [pW_f12] at hP hD
      obtain ⟨rfl, rfl⟩ := hE
      exact en_v F hS () trivial hP hD (Nat.le_refl _) (Nat.le_refl _) dX5_addPiece_54

theorem dX5_dropEmptyPiecesAtEnd_0 : decode cX5_dropEmptyPiecesAtEnd 0 = .ok (.aload_n 0, 1) := by decide +kernel
theorem dX5_dropEmptyPiecesAtEnd_1 : decode cX5_dropEmptyPiecesAtEnd 1 = .ok (.getfield 134, 3) := by decide +kernel
theorem dX5_dropEmptyPiecesAtEnd_4 : decode cX5_dropEmptyPiecesAtEnd 4 = .ok (.ifCond .le 41, 3) := by decide +kernel
theorem dX5_dropEmptyPiecesAtEnd_7 : decode cX5_dropEmptyPiecesAtEnd 7 = .ok (.aload_n 0, 1) := by decide +kernel
theorem dX5_dropEmptyPiecesAtEnd_8 : decode cX5_dropEmptyPiecesAtEnd 8 = .ok (.getfield 40, 3) := by decide +kernel
theorem dX5_dropEmptyPiecesAtEnd_11 : decode cX5_dropEmptyPiecesAtEnd 11 = .ok (.aload_n 0, 1) := by decide +kernel
theorem dX5_dropEmptyPiecesAtEnd_12 : decode cX5_dropEmptyPiecesAtEnd 12 = .ok (.getfield 134, 3) := by decide +kernel
theorem dX5_dropEmptyPiecesAtEnd_15 : decode cX5_dropEmptyPiecesAtEnd 15 = .ok (.iconst 1, 1) := by decide +kernel
theorem dX5_dropEmptyPiecesAtEnd_16 : decode cX5_dropEmptyPiecesAtEnd 16 = .ok (.isub, 1) := by decide +kernel
theorem dX5_dropEmptyPiecesAtEnd_17 : decode cX5_dropEmptyPiecesAtEnd 17 = .ok (.iaload, 1) := by decide +kernel
theorem dX5_dropEmptyPiecesAtEnd_18 : decode cX5_dropEmptyPiecesAtEnd 18 = .ok (.aload_n 0, 1) := by decide +kernel
theorem dX5_dropEmptyPiecesAtEnd_19 : decode cX5_dropEmptyPiecesAtEnd 19 = .ok (.getfield 44, 3) := by decide +kernel
theorem dX5_dropEmptyPiecesAtEnd_22 : decode cX5_dropEmptyPiecesAtEnd 22 = .ok (.aload_n 0, 1) := by decide +kernel
theorem dX5_dropEmptyPiecesAtEnd_23 : decode cX5_dropEmptyPiecesAtEnd 23 = .ok (.getfield 134, 3) := by decide +kernel
theorem dX5_dropEmptyPiecesAtEnd_26 : decode cX5_dropEmptyPiecesAtEnd 26 = .ok (.iconst 1, 1) := by decide +kernel
theorem dX5_dropEmptyPiecesAtEnd_27 : decode cX5_dropEmptyPiecesAtEnd 27 = .ok (.isub, 1) := by decide +kernel
theorem dX5_dropEmptyPiecesAtEnd_28 : decode cX5_dropEmptyPiecesAtEnd 28 = .ok (.iaload, 1) := by decide +kernel
theorem dX5_dropEmptyPiecesAtEnd_29 : decode cX5_dropEmptyPiecesAtEnd 29 = .ok (.if_icmp .ne 16, 3) := by decide +kernel
theorem dX5_dropEmptyPiecesAtEnd_32 : decode cX5_dropEmptyPiecesAtEnd 32 = .ok (.aload_n 0, 1) := by decide +kernel
theorem dX5_dropEmptyPiecesAtEnd_33 : decode cX5_dropEmptyPiecesAtEnd 33 = .ok (.dup, 1) := by decide +kernel
theorem dX5_dropEmptyPiecesAtEnd_34 : decode cX5_dropEmptyPiecesAtEnd 34 = .ok (.getfield 134, 3) := by decide +kernel
theorem dX5_dropEmptyPiecesAtEnd_37 : decode cX5_dropEmptyPiecesAtEnd 37 = .ok (.iconst 1, 1) := by decide +kernel
theorem dX5_dropEmptyPiecesAtEnd_38 : decode cX5_dropEmptyPiecesAtEnd 38 = .ok (.isub, 1) := by decide +kernel
theorem dX5_dropEmptyPiecesAtEnd_39 : decode cX5_dropEmptyPiecesAtEnd 39 = .ok (.putfield 134, 3) := by decide +kernel
theorem dX5_dropEmptyPiecesAtEnd_42 : decode cX5_dropEmptyPiecesAtEnd 42 = .ok (.goto (-42), 3) := by decide +kernel
theorem dX5_dropEmptyPiecesAtEnd_45 : decode cX5_dropEmptyPiecesAtEnd 45 = .ok (.return_, 1) := by decide +kernel
def L_p_dropEmptyPiecesAtEnd_0 : Nat → CS → CS → Int32 → Prop
  | 0, _, _, _ => False
  | nf + 1, C, C', r => if (kI C 12) ≤ 0 then (C' = C ∧ r = 0) else (vp_in ((kI C 12) - 1) 10 ∧ (vp_in ((kI C 12) - 1) 10 ∧ (if (kP C 10 ((kI C 12) - 1).toNatClampNeg) = (kP C 11 ((kI C 12) - 1).toNatClampNeg) then (L_p_dropEmptyPiecesAtEnd_0 nf (uI C 12 ((kI C 12) - 1)) C' r) else (C' = C ∧ r = 0))))
set_option maxHeartbeats 4000000 in
set_option maxRecDepth 100000 in
theorem L_p_dropEmptyPiecesAtEnd_0_ok {l : Launch} {G : PG} {h : Nat} {u : Nat → Nat} {C' : CS} {r : Int32} {p : Program} {e : Env} {s : State} {m : MethodId} {below : List Frame} {meth : Method} {c : Code} {A : Nat → Prop} (F : bF p s m meth c cX5_dropEmptyPiecesAtEnd 1 none ([.ref h] : List Value).toArray yX5_dropEmptyPiecesAtEnd) (hK : pg_K G s) (hA : ∀ q, s.heap.size ≤ q → A q) : ∀ (nf : Nat) (C : CS) (H : Heap) (locs : List Loc) (ls : Array Slot), lv_has ls 1 [(0, .ref h)] → L_p_dropEmptyPiecesAtEnd_0 nf C C' r → va_P G.1 vwCl (pW G h u C) H → va_D A (pW G h u C) → va_S A s.heap H locs → W p l e { frames := 0, cells := 0, slots := 0, locals := 0 } s m ([.ref h] : List Value).toArray below meth c H locs 0 0 (MQ below (va_Qv (fun (_ : Unit) => True) (oB G A (fun (_ : Unit) => pW G h u C')) A) ([.ref h] : List Value).toArray s 0 0 A) (F0 m 0 ls []) := by
  have hx := F.1.1; have hb := F.1.2.1; have hml := F.1.2.2.1; have hts := F.1.2.2.2.2
  have hown : s.vm.findClass RX5 = some m.cls := F.1.2.2.2.1
  intro nf
  induction nf with
  | zero => intro C H locs ls hl hE; exact hE.elim
  | succ nf ih =>
    intro C H locs ls hl hE hP hD hS
    unfold L_p_dropEmptyPiecesAtEnd_0 at hE
    refine lv_aload_n hx hb dX5_dropEmptyPiecesAtEnd_0 rfl (lv_at hl 0 rfl) ?_
    refine va_get (D := G.1) (ci := 5) (v := .int (kI C 12)) (C := RX5) (T := TX5) (N := 13) hx hb hts inX5 hown hK.1 hP 0 pW_0 rfl 12 (by decide) (hts _ w_202) (fun _ h9 => h9) rfl dX5_dropEmptyPiecesAtEnd_1 ?_
    refine lv_if_le (tgt := 45) hx hb dX5_dropEmptyPiecesAtEnd_4 (by decide) (fun h1 => ?_) (fun h1 => ?_)
    ·
      rw [if_pos h1] at hE
      obtain ⟨rfl, rfl⟩ := hE
      exact en_v F hS () trivial hP hD (Nat.le_refl _) (Nat.le_refl _) dX5_dropEmptyPiecesAtEnd_45
    ·
      rw [if_neg h1] at hE
      refine lv_aload_n hx hb dX5_dropEmptyPiecesAtEnd_7 rfl (lv_at hl 0 rfl) ?_
      refine va_get (D := G.1) (ci := 5) (v := .ref (u 37)) (C := RX5) (T := TX5) (N := 13) hx hb hts inX5 hown hK.1 hP 0 pW_0 rfl 10 (by decide) (hts _ w_200) (fun _ h9 => h9) rfl dX5_dropEmptyPiecesAtEnd_8 ?_
      refine lv_aload_n hx hb dX5_dropEmptyPiecesAtEnd_11 rfl (lv_at hl 0 rfl) ?_
      refine va_get (D := G.1) (ci := 5) (v := .int (kI C 12)) (C := RX5) (T := TX5) (N := 13) hx hb hts inX5 hown hK.1 hP 0 pW_0 rfl 12 (by decide) (hts _ w_202) (fun _ h9 => h9) rfl dX5_dropEmptyPiecesAtEnd_12 ?_
      refine lv_iconst (v := 1) hx hb dX5_dropEmptyPiecesAtEnd_15 (by decide) ?_
      refine lv_isub hx hb dX5_dropEmptyPiecesAtEnd_16 ?_
      obtain ⟨hin, hE⟩ := hE
      refine va_iald (D := G.1) hx hb hK.1 hP 6 0 pW_6 rfl hin dX5_dropEmptyPiecesAtEnd_17 ?_
      refine lv_aload_n hx hb dX5_dropEmptyPiecesAtEnd_18 rfl (lv_at hl 0 rfl) ?_
      refine va_get (D := G.1) (ci := 5) (v := .ref (u 38)) (C := RX5) (T := TX5) (N := 13) hx hb hts inX5 hown hK.1 hP 0 pW_0 rfl 11 (by decide) (hts _ w_201) (fun _ h9 => h9) rfl dX5_dropEmptyPiecesAtEnd_19 ?_
      refine lv_aload_n hx hb dX5_dropEmptyPiecesAtEnd_22 rfl (lv_at hl 0 rfl) ?_
      refine va_get (D := G.1) (ci := 5) (v := .int (kI C 12)) (C := RX5) (T := TX5) (N := 13) hx hb hts inX5 hown hK.1 hP 0 pW_0 rfl 12 (by decide) (hts _ w_202) (fun _ h9 => h9) rfl dX5_dropEmptyPiecesAtEnd_23 ?_
      refine lv_iconst (v := 1) hx hb dX5_dropEmptyPiecesAtEnd_26 (by decide) ?_
      refine lv_isub hx hb dX5_dropEmptyPiecesAtEnd_27 ?_
      obtain ⟨hin, hE⟩ := hE
      refine va_iald (D := G.1) hx hb hK.1 hP 7 0 pW_7 rfl hin dX5_dropEmptyPiecesAtEnd_28 ?_
      refine lv_icmp_ne (tgt := 45) hx hb dX5_dropEmptyPiecesAtEnd_29 (by decide) (fun h2 => ?_) (fun h2 => ?_)
      ·
        rw [if_neg h2] at hE
        obtain ⟨rfl, rfl⟩ := hE
        exact en_v F hS () trivial hP hD (Nat.le_refl _) (Nat.le_refl _) dX5_dropEmptyPiecesAtEnd_45
      ·
        rw [if_pos h2] at hE
        refine lv_aload_n hx hb dX5_dropEmptyPiecesAtEnd_32 rfl (lv_at hl 0 rfl) ?_
        refine lv_dup hx hb dX5_dropEmptyPiecesAtEnd_33 rfl ?_
        refine va_get (D := G.1) (ci := 5) (v := .int (kI C 12)) (C := RX5) (T := TX5) (N := 13) hx hb hts inX5 hown hK.1 hP 0 pW_0 rfl 12 (by decide) (hts _ w_202) (fun _ h9 => h9) rfl dX5_dropEmptyPiecesAtEnd_34 ?_
        refine lv_iconst (v := 1) hx hb dX5_dropEmptyPiecesAtEnd_37 (by decide) ?_
        refine lv_isub hx hb dX5_dropEmptyPiecesAtEnd_38 ?_
        refine va_put (D := G.1) (ci := 5) (v := .int ((kI C 12) - 1)) (ty := .int) (C := RX5) (T := TX5) (N := 13) hx hb hts inX5 tyX5 tyX5_ok nmX5 hown hK.1 hP hD hS 0 pW_0 rfl 12 (by decide) (hts _ w_202) (fun _ h9 => h9) rfl (by decide +kernel) rfl rfl (Nat.le_of_ble_eq_true rfl) dX5_dropEmptyPiecesAtEnd_39 (fun H locs hP hD hS => ?_)
        rw [pW_f12] at hP hD
        refine lv_goto (tgt := 0) hx hb dX5_dropEmptyPiecesAtEnd_42 (by decide) ?_
        exact ih (uI C 12 ((kI C 12) - 1)) _ _ ls (lv_sub hl [0] rfl) hE hP hD hS
def E_p_dropEmptyPiecesAtEnd (C : CS)  (C' : CS) (r : Int32) : Prop := ∃ nf : Nat, L_p_dropEmptyPiecesAtEnd_0 nf C C' r
set_option maxHeartbeats 4000000 in
set_option maxRecDepth 100000 in
theorem e_p_dropEmptyPiecesAtEnd (l : Launch) (G : PG) (h : Nat) (u : Nat → Nat) (C : CS)  (C' : CS) (r : Int32) (hE : E_p_dropEmptyPiecesAtEnd C C' r) : Cv l yX5_dropEmptyPiecesAtEnd (Cond.code yX5_dropEmptyPiecesAtEnd cX5_dropEmptyPiecesAtEnd 1 none :: aW) { frames := 0, cells := 0, slots := 0, locals := 0 } G (pW G h u C) [.ref h] (fun (_ : Unit) => True) (fun (_ : Unit) => pW G h u C') 0 0 := by
  refine ofB (y := yX5_dropEmptyPiecesAtEnd) (G := G) (cc := cX5_dropEmptyPiecesAtEnd) (maxL := 1) (ret := none) (Qc := fun A => va_Qv (fun (_ : Unit) => True) (oB G A (fun (_ : Unit) => pW G h u C')) A) (by decide) rfl ?_
  intro p e s m below meth c A F hK hA hP hD
  have hS : va_S A s.heap s.heap [] := va_S.rf
  have hx := F.1.1; have hb := F.1.2.1; have hml := F.1.2.2.1; have hts := F.1.2.2.2.2
  have hown : s.vm.findClass RX5 = some m.cls := F.1.2.2.2.1
  have hl := lv_entry ([.ref h]) (n := 1) (Nat.le_of_ble_eq_true rfl)
  rw [lg_entry_eq]
  generalize (lg_sl ([.ref h]) ++ List.replicate (1 - (lg_sl ([.ref h])).length) Slot.unset).toArray = ls at hl ⊢
  have hl : lv_has ls 1 [(0, .ref h)] := hl
  unfold E_p_dropEmptyPiecesAtEnd at hE
  obtain ⟨nf, hE⟩ := hE
  exact L_p_dropEmptyPiecesAtEnd_0_ok F hK hA nf C _ _ ls (lv_sub hl [0] rfl) hE hP hD hS

