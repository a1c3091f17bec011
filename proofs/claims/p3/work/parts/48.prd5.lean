/-! a loop behind an atom -/
def apd (R : RS) (d : Nat) (tl : Option Nat) (sq n : Nat) : RS := match tl with
  | none => ma (ma R 12 sq (nI n)) 21 d (nI n)
  | some t => ma (ma R 13 t (nI n)) 21 d (nI n)
theorem app_E {R : RS} {d sq n : Nat} {tl : Option Nat} (hd : R.1 16 = nI d) (hd4 : d ≤ 5) (htl : R.2.1 21 d = iO tl) (ht9 : ∀ t, tl = some t → t < 96) (hsq : R.2.1 20 d = nI sq) (hsq9 : sq < 96) : E_append R (nI n) (apd R d tl sq n) 0 := by
  have v : vp_in (R.1 16) 6 := by rw [hd]; exact v_in (by omega) (by omega)
  have e : (R.1 16).toNatClampNeg = d := by rw [hd, n_cl (by omega)]
  unfold E_append
  rw [e, htl, hsq]
  cases tl with
  | none =>
    refine ⟨v, ?_⟩
    rw [if_pos (show iO none = -1 from rfl), n_cl (by omega)]
    exact ⟨v, v_in hsq9 (by omega), v, rfl, rfl⟩
  | some t =>
    have := ht9 t rfl
    refine ⟨v, ?_⟩
    rw [show iO (some t) = nI t from rfl, if_neg (n_m1 (by omega)), n_cl (by omega)]
    exact ⟨v, v_in this (by omega), v, rfl, rfl⟩
def NewLp (R R' : RS) (n u m : Nat) (l : Lp) (a' : Nat) : Prop := Chg R R' n ∧ R'.1 4 = nI (u + 1) ∧ R'.1 17 = nI a' ∧ R'.2.1 8 n = nI 15 ∧ R'.2.1 9 n = nI l.1 ∧ R'.2.1 10 n = iO l.2.1 ∧ R'.2.1 11 n = nI l.2.2 ∧ R'.2.1 12 n = nI m ∧ R'.2.1 13 n = -1
def lpK (R : RS) (n u m : Nat) : RS := ma (crt R n u 15) 12 n (nI m)
def lpS (R : RS) (n u m : Nat) (x y : Int32) (p : Nat) (md p' : Nat) : RS := mf (ma (bS (lpK R n u m) n x y p) 11 n (nI md)) 17 (nI p')
section LOP
variable {R : RS} {X : Nat → Int32} {N β u : Nat}
theorem lpB_at {n m : Nat} {x y : Int32} {p : Nat} {k j : Nat} : (bS (lpK R n u m) n x y p).2.1 k j = if j = n then (if k = 8 then 15 else if k = 9 then x else if k = 10 then y else if k = 11 then 0 else if k = 12 then nI m else if k = 13 then -1 else R.2.1 k j) else R.2.1 k j := by
  unfold bS lpK crt
  show (ma (ma (ma (ma (ma (ma (ma (ma (ma (mf R 4 (nI (u + 1))) 8 n 15) 9 n 0) 10 n 0) 11 n 0) 12 n (-1)) 13 n (-1)) 12 n (nI m)) 9 n x) 10 n y).2.1 k j = _
  rw [ma_at, ma_at, ma_at, ma_at, ma_at, ma_at, ma_at, ma_at, ma_at]
  by_cases hj : j = n
  · subst hj
    simp only [and_true, if_true]
    by_cases k8 : k = 8
    · subst k8; simp
    · by_cases k9 : k = 9
      · subst k9; simp
      · by_cases k10 : k = 10
        · subst k10; simp
        · by_cases k11 : k = 11
          · subst k11; simp
          · by_cases k12 : k = 12
            · subst k12; simp
            · by_cases k13 : k = 13
              · subst k13; simp
              · simp [k8, k9, k10, k11, k12, k13]; rfl
  · simp [hj]; rfl
theorem lpB_l {n m : Nat} {x y : Int32} {p : Nat} {k j : Nat} (h : j ≠ n) : (bS (lpK R n u m) n x y p).2.2 k j = R.2.2 k j := by
  unfold bS lpK crt
  show (ml (ml R 14 n 0) 15 n 0).2.2 k j = _
  rw [ml_at, ml_at, if_neg (fun z => h z.2), if_neg (fun z => h z.2)]
theorem lpB_f {n m : Nat} {x y : Int32} {p : Nat} {k : Nat} (h1 : k ≠ 4) (h2 : k ≠ 17) : (bS (lpK R n u m) n x y p).1 k = R.1 k := by
  show (if k = 17 then _ else if k = 4 then _ else R.1 k) = R.1 k
  rw [if_neg h2, if_neg h1]
theorem lpS_at {n m : Nat} {x y : Int32} {p md p' : Nat} {k j : Nat} : (lpS R n u m x y p md p').2.1 k j = if j = n then (if k = 8 then 15 else if k = 9 then x else if k = 10 then y else if k = 11 then nI md else if k = 12 then nI m else if k = 13 then -1 else R.2.1 k j) else R.2.1 k j := by
  show (ma (bS (lpK R n u m) n x y p) 11 n (nI md)).2.1 k j = _
  rw [ma_at, lpB_at]
  by_cases hj : j = n
  · subst hj
    simp only [and_true, if_true]
    by_cases k11 : k = 11
    · subst k11; simp
    · simp [k11]
  · simp [hj]
theorem lpS_new {n m : Nat} {l : Lp} {p p' : Nat} : NewLp R (lpS R n u m (nI l.1) (iO l.2.1) p l.2.2 p') n u m l p' := by
  refine ⟨⟨fun k h1 h2 => ?_, fun k j h => ?_, fun k j h => ?_⟩, rfl, rfl, ?_, ?_, ?_, ?_, ?_, ?_⟩
  · show (if k = 17 then _ else (bS (lpK R n u m) n (nI l.1) (iO l.2.1) p).1 k) = _
    rw [if_neg h2, lpB_f h1 h2]
  · rw [lpS_at]
    by_cases hj : j = n
    · rw [if_pos hj]
      have : k < 8 ∨ 13 < k := h.resolve_left (fun z => z hj)
      rw [if_neg (by omega), if_neg (by omega), if_neg (by omega), if_neg (by omega), if_neg (by omega), if_neg (by omega)]
    · rw [if_neg hj]
  · have e : (lpS R n u m (nI l.1) (iO l.2.1) p l.2.2 p').2.2 = (bS (lpK R n u m) n (nI l.1) (iO l.2.1) p).2.2 := rfl
    rw [e, lpB_l h]
  · rw [lpS_at, if_pos rfl, if_pos rfl]; rfl
  · rw [lpS_at, if_pos rfl, if_neg (by decide), if_pos rfl]
  · rw [lpS_at, if_pos rfl, if_neg (by decide), if_neg (by decide), if_pos rfl]
  · rw [lpS_at, if_pos rfl, if_neg (by decide), if_neg (by decide), if_neg (by decide), if_pos rfl]
  · rw [lpS_at, if_pos rfl, if_neg (by decide), if_neg (by decide), if_neg (by decide), if_neg (by decide), if_pos rfl]
  · rw [lpS_at, if_pos rfl, if_neg (by decide), if_neg (by decide), if_neg (by decide), if_neg (by decide), if_neg (by decide), if_pos rfl]
theorem lpB_fail {n m : Nat} {x y : Int32} {p : Nat} (hm : m < 96) (hx : ∃ k, k ≤ 4 ∧ x = nI k) (hy : y = -1 ∨ ∃ k, k < 5 ∧ y = nI k) : FailN R (bS (lpK R n u m) n x y p) n := by
  refine ⟨⟨fun k h1 h2 => lpB_f h1 h2, fun k j h => ?_, fun k j h => lpB_l h⟩, Or.inr ?_⟩
  · rw [lpB_at]
    by_cases hj : j = n
    · rw [if_pos hj]
      have : k < 8 ∨ 13 < k := h.resolve_left (fun z => z hj)
      rw [if_neg (by omega), if_neg (by omega), if_neg (by omega), if_neg (by omega), if_neg (by omega), if_neg (by omega)]
    · rw [if_neg hj]
  · obtain ⟨k, hk, rfl⟩ := hx
    refine ⟨15, k, 0, ?_, by omega, ?_, hk, by omega, ?_, ?_, by omega, Or.inr ⟨m, hm, ?_⟩, Or.inl ?_⟩
    · rw [lpB_at, if_pos rfl, if_pos rfl]; rfl
    · rw [lpB_at, if_pos rfl, if_neg (by decide), if_pos rfl]
    · rw [lpB_at, if_pos rfl, if_neg (by decide), if_neg (by decide), if_pos rfl]; exact hy
    · rw [lpB_at, if_pos rfl, if_neg (by decide), if_neg (by decide), if_neg (by decide), if_pos rfl]; rfl
    · rw [lpB_at, if_pos rfl, if_neg (by decide), if_neg (by decide), if_neg (by decide), if_neg (by decide), if_pos rfl]
    · rw [lpB_at, if_pos rfl, if_neg (by decide), if_neg (by decide), if_neg (by decide), if_neg (by decide), if_neg (by decide), if_pos rfl]
theorem lpK_Rd {a n m : Nat} (h : Rd R X N a β u) : Rd (lpK R n u m) X N a β (u + 1) := by
  obtain ⟨h1, h2, h3, h4, h5, h6, h7, h8⟩ := crt_Rd (n := n) (kd := 15) h
  refine ⟨?_, ?_, h3, h4, h5, h6, h7, h8⟩
  · funext j
    show (ma (crt R n u 15) 12 n (nI m)).2.1 1 j = _
    rw [ma_at, if_neg (by omega), ← h1]
  · show (ma (crt R n u 15) 12 n (nI m)).2.1 2 0 = _
    rw [ma_at, if_neg (by omega), ← h2]
def mdI (c : Int32) : Nat := if c = 63 then 1 else if c = 43 then 2 else 0
def lopE (X : Nat → Int32) (N : Nat) (bh : Bool) (p lo : Nat) (hi : Option Nat) : Option (Nat × Option Lp) :=
  if hi = none ∧ bh = true then none else some (p + (if mdI (pk X N p) = 0 then 0 else 1), some (lo, hi, mdI (pk X N p)))
def lopQ (X : Nat → Int32) (N : Nat) (bh : Bool) (a : Nat) : Option (Nat × Option Lp) :=
  if pk X N a = 123 then (match bndP X N (a + 1) with | none => none | some (p, lo, hi) => lopE X N bh p lo hi)
  else if pk X N a = 63 then lopE X N bh (a + 1) 0 (some 1) else if pk X N a = 42 then lopE X N bh (a + 1) 0 none else if pk X N a = 43 then lopE X N bh (a + 1) 1 none
  else some (a, none)
theorem fin_E {a p n m d sq : Nat} {x y : Int32} {tl : Option Nat} (h : Rd R X N a β u) (hX : Xok X N) (hp : p ≤ N) (hn : n < 96) (hd : R.1 16 = nI d) (hd4 : d ≤ 5) (htl : R.2.1 21 d = iO tl) (ht9 : ∀ t, tl = some t → t < 96) (hsq : R.2.1 20 d = nI sq) (hsq9 : sq < 96) :
    E_peek (bS (lpK R n u m) n x y p) 0 (bS (lpK R n u m) n x y p) (pk X N p) ∧
    E_append (mf (ma (bS (lpK R n u m) n x y p) 11 n (if pk X N p = 63 then 1 else (if pk X N p = 43 then 2 else 0 : Int32) : Int32)) 17 (((bS (lpK R n u m) n x y p).1 17) + (if ((ma (bS (lpK R n u m) n x y p) 11 n (if pk X N p = 63 then 1 else (if pk X N p = 43 then 2 else 0 : Int32) : Int32)).2.1 11 n) = 0 then 0 else 1 : Int32))) (nI n) (apd (lpS R n u m x y p (mdI (pk X N p)) (p + (if mdI (pk X N p) = 0 then 0 else 1))) d tl sq n) 0 := by
  have hN := h.2.2.1
  refine ⟨peek_E (k := 0) (bS_Rd (lpK_Rd h) (by omega)) (by omega), ?_⟩
  have e : (if pk X N p = 63 then 1 else (if pk X N p = 43 then 2 else 0 : Int32) : Int32) = nI (mdI (pk X N p)) := by
    unfold mdI
    by_cases c1 : pk X N p = 63
    · rw [if_pos c1, if_pos c1]; rfl
    · rw [if_neg c1, if_neg c1]
      by_cases c2 : pk X N p = 43
      · rw [if_pos c2, if_pos c2]; rfl
      · rw [if_neg c2, if_neg c2]; rfl
  have md2 : mdI (pk X N p) ≤ 2 := by unfold mdI; split <;> (try split) <;> omega
  rw [e]
  have e2 : ((bS (lpK R n u m) n x y p).1 17) + (if ((ma (bS (lpK R n u m) n x y p) 11 n (nI (mdI (pk X N p)))).2.1 11 n) = 0 then 0 else 1 : Int32) = nI (p + (if mdI (pk X N p) = 0 then 0 else 1)) := by
    rw [ma_at, if_pos (show (11 : Nat) = 11 ∧ n = n from ⟨rfl, rfl⟩), show (bS (lpK R n u m) n x y p).1 17 = nI p from rfl, ← n_add]
    by_cases c : mdI (pk X N p) = 0
    · rw [if_pos c, c]; rfl
    · rw [if_neg c, if_neg (show ¬ nI (mdI (pk X N p)) = 0 from fun z => c ((n_eq (b := 0) (by omega) (by omega)).mp z))]; rfl
  rw [e2]
  have at' : ∀ k, 13 < k → (lpS R n u m x y p (mdI (pk X N p)) (p + (if mdI (pk X N p) = 0 then 0 else 1))).2.1 k d = R.2.1 k d := fun k hk => by
    rw [lpS_at]
    by_cases hj : d = n
    · rw [if_pos hj, if_neg (by omega), if_neg (by omega), if_neg (by omega), if_neg (by omega), if_neg (by omega), if_neg (by omega)]
    · rw [if_neg hj]
  exact app_E (R := lpS R n u m x y p (mdI (pk X N p)) (p + (if mdI (pk X N p) = 0 then 0 else 1))) hd hd4 (by rw [at' 21 (by omega)]; exact htl) ht9 (by rw [at' 20 (by omega)]; exact hsq) hsq9
set_option maxHeartbeats 8000000 in
theorem lop_E {a m d sq : Nat} {bh : Bool} {tl : Option Nat} (h : Rd R X N a β u) (hX : Xok X N) (ha : a ≤ N) (hu : u < 48) (hm : m < 96) (hd : R.1 16 = nI d) (hd4 : d ≤ 4) (hb : R.2.1 22 d = if bh then 1 else 0) (htl : R.2.1 21 d = iO tl) (ht9 : ∀ t, tl = some t → t < 96) (hsq : R.2.1 20 d = nI sq) (hsq9 : sq < 96) :
    match lopQ X N bh a with
    | some (a', none) => a' = a ∧ E_loop R (nI m) (apd R d tl sq m) 1
    | some (a', some l) => (∃ R1, NewLp R R1 (48 - β + u) u m l a' ∧ E_loop R (nI m) (apd R1 d tl sq (48 - β + u)) 1) ∧ a + lpc l ≤ a' ∧ a' ≤ N ∧ wfL l ∧ l.2.2 ≤ 2
    | none => ∃ R', E_loop R (nI m) R' 0 ∧ FailN R R' (48 - β + u) := by
  have hβ := h.2.2.2.2.2.2.1
  have hN := h.2.2.1
  have hn : 48 - β + u < 96 := by omega
  have p0 : E_peek R 0 R (pk X N a) := peek_E (k := 0) h (by omega)
  have cr := crt_E (kd := 15) h hu
  have v : vp_in (nI (48 - β + u)) 96 := v_in hn (by omega)
  have cl : (nI (48 - β + u)).toNatClampNeg = 48 - β + u := n_cl (by omega)
  have v6 : vp_in (nI d) 6 := v_in (by omega) (by omega)
  have cld : (nI d).toNatClampNeg = d := n_cl (by omega)
  have m1 : ¬ nI m = -1 := n_m1 (by omega)
  have md2 : ∀ c, mdI c ≤ 2 := fun c => by unfold mdI; split <;> (try split) <;> omega
  have e17 : (crt R (48 - β + u) u 15).1 17 + 1 = nI (a + 1) := by show R.1 17 + 1 = _; rw [h.2.2.2.1]; exact (nI_succ a).symm
  have fin := fun (x y : Int32) (p : Nat) (hp : p ≤ N) => fin_E (m := m) (x := x) (y := y) (p := p) (tl := tl) h hX hp hn hd (by omega) htl ht9 hsq hsq9
  have b22 : ∀ x y p, (bS (lpK R (48 - β + u) u m) (48 - β + u) x y p).2.1 22 d = if bh then 1 else 0 := fun x y p => by
    rw [lpB_at, ← hb]
    by_cases hj : d = 48 - β + u
    · rw [if_pos hj]; simp
    · rw [if_neg hj]
  have c22 : (crt R (48 - β + u) u 15).2.1 22 d = if bh then 1 else 0 := by
    rw [← hb]
    show (ma (ma (ma (ma (ma (ma (mf R 4 (nI (u + 1))) 8 (48 - β + u) 15) 9 (48 - β + u) 0) 10 (48 - β + u) 0) 11 (48 - β + u) 0) 12 (48 - β + u) (-1)) 13 (48 - β + u) (-1)).2.1 22 d = _
    rw [ma_at, if_neg (by omega), ma_at, if_neg (by omega), ma_at, if_neg (by omega), ma_at, if_neg (by omega), ma_at, if_neg (by omega), ma_at, if_neg (by omega)]; rfl
  have f16 : ∀ x y p, (bS (lpK R (48 - β + u) u m) (48 - β + u) x y p).1 16 = nI d := fun x y p => by rw [← hd]; rfl
  have g16 : (crt R (48 - β + u) u 15).1 16 = nI d := by rw [← hd]; rfl
  unfold lopQ
  generalize hc : pk X N a = c at *
  have go : ∀ R' r, (c = 63 ∨ c = 42 ∨ c = 43 ∨ c = 123) → (∃ (R5 : RS) (r6 : Int32), E_create R 15 R5 r6 ∧ (vp_in r6 96 ∧ (vp_in r6 96 ∧ (vp_in r6 96 ∧ (if c = 123 then (∃ (R32 : RS) (r33 : Int32), E_bounds (mf (ma (ma (ma R5 12 r6.toNatClampNeg (nI m)) 9 r6.toNatClampNeg (if c = 43 then 1 else 0 : Int32)) 10 r6.toNatClampNeg (if c = 63 then 1 else (-1) : Int32)) 17 ((R5.1 17) + 1)) r6 R32 r33 ∧ (if r33 = 0 then (R' = R32 ∧ r = 0) else (vp_in r6 96 ∧ (if (R32.2.1 10 r6.toNatClampNeg) = (-1) then (vp_in (R32.1 16) 6 ∧ (if (R32.2.1 22 (R32.1 16).toNatClampNeg) = 0 then (∃ (R46 : RS) (r47 : Int32), E_peek R32 0 R46 r47 ∧ (vp_in r6 96 ∧ (vp_in r6 96 ∧ (∃ R53 : RS, E_append (mf (ma R46 11 r6.toNatClampNeg (if r47 = 63 then 1 else (if r47 = 43 then 2 else 0 : Int32) : Int32)) 17 ((R46.1 17) + (if ((ma R46 11 r6.toNatClampNeg (if r47 = 63 then 1 else (if r47 = 43 then 2 else 0 : Int32) : Int32)).2.1 11 r6.toNatClampNeg) = 0 then 0 else 1 : Int32))) r6 R53 0 ∧ (R' = R53 ∧ r = 1))))) else (R' = R32 ∧ r = 0))) else (∃ (R36 : RS) (r37 : Int32), E_peek R32 0 R36 r37 ∧ (vp_in r6 96 ∧ (vp_in r6 96 ∧ (∃ R43 : RS, E_append (mf (ma R36 11 r6.toNatClampNeg (if r37 = 63 then 1 else (if r37 = 43 then 2 else 0 : Int32) : Int32)) 17 ((R36.1 17) + (if ((ma R36 11 r6.toNatClampNeg (if r37 = 63 then 1 else (if r37 = 43 then 2 else 0 : Int32) : Int32)).2.1 11 r6.toNatClampNeg) = 0 then 0 else 1 : Int32))) r6 R43 0 ∧ (R' = R43 ∧ r = 1))))))))) else (vp_in r6 96 ∧ (if ((mf (ma (ma (ma R5 12 r6.toNatClampNeg (nI m)) 9 r6.toNatClampNeg (if c = 43 then 1 else 0 : Int32)) 10 r6.toNatClampNeg (if c = 63 then 1 else (-1) : Int32)) 17 ((R5.1 17) + 1)).2.1 10 r6.toNatClampNeg) = (-1) then (vp_in (R5.1 16) 6 ∧ (if (R5.2.1 22 (R5.1 16).toNatClampNeg) = 0 then (∃ (R23 : RS) (r24 : Int32), E_peek (mf (ma (ma (ma R5 12 r6.toNatClampNeg (nI m)) 9 r6.toNatClampNeg (if c = 43 then 1 else 0 : Int32)) 10 r6.toNatClampNeg (if c = 63 then 1 else (-1) : Int32)) 17 ((R5.1 17) + 1)) 0 R23 r24 ∧ (vp_in r6 96 ∧ (vp_in r6 96 ∧ (∃ R30 : RS, E_append (mf (ma R23 11 r6.toNatClampNeg (if r24 = 63 then 1 else (if r24 = 43 then 2 else 0 : Int32) : Int32)) 17 ((R23.1 17) + (if ((ma R23 11 r6.toNatClampNeg (if r24 = 63 then 1 else (if r24 = 43 then 2 else 0 : Int32) : Int32)).2.1 11 r6.toNatClampNeg) = 0 then 0 else 1 : Int32))) r6 R30 0 ∧ (R' = R30 ∧ r = 1))))) else (R' = (mf (ma (ma (ma R5 12 r6.toNatClampNeg (nI m)) 9 r6.toNatClampNeg (if c = 43 then 1 else 0 : Int32)) 10 r6.toNatClampNeg (if c = 63 then 1 else (-1) : Int32)) 17 ((R5.1 17) + 1)) ∧ r = 0))) else (∃ (R13 : RS) (r14 : Int32), E_peek (mf (ma (ma (ma R5 12 r6.toNatClampNeg (nI m)) 9 r6.toNatClampNeg (if c = 43 then 1 else 0 : Int32)) 10 r6.toNatClampNeg (if c = 63 then 1 else (-1) : Int32)) 17 ((R5.1 17) + 1)) 0 R13 r14 ∧ (vp_in r6 96 ∧ (vp_in r6 96 ∧ (∃ R20 : RS, E_append (mf (ma R13 11 r6.toNatClampNeg (if r14 = 63 then 1 else (if r14 = 43 then 2 else 0 : Int32) : Int32)) 17 ((R13.1 17) + (if ((ma R13 11 r6.toNatClampNeg (if r14 = 63 then 1 else (if r14 = 43 then 2 else 0 : Int32) : Int32)).2.1 11 r6.toNatClampNeg) = 0 then 0 else 1 : Int32))) r6 R20 0 ∧ (R' = R20 ∧ r = 1)))))))))))) → E_loop R (nI m) R' r := fun R' r hq hh => by
    unfold E_loop
    rw [if_neg m1]
    refine ⟨_, _, p0, ?_⟩
    by_cases q1 : c = 63
    · rw [if_pos q1]; exact hh
    · rw [if_neg q1]
      by_cases q2 : c = 42
      · rw [if_pos q2]; exact hh
      · rw [if_neg q2]
        by_cases q3 : c = 43
        · rw [if_pos q3]; exact hh
        · rw [if_neg q3, if_pos ((hq.resolve_left q1).resolve_left q2 |>.resolve_left q3)]; exact hh
  have bx : ∃ k, k ≤ 4 ∧ (if c = 43 then 1 else 0 : Int32) = nI k := by
    by_cases q : c = 43
    · rw [if_pos q]; exact ⟨1, by omega, rfl⟩
    · rw [if_neg q]; exact ⟨0, by omega, rfl⟩
  have byy : (if c = 63 then 1 else (-1) : Int32) = -1 ∨ ∃ k, k < 5 ∧ (if c = 63 then 1 else (-1) : Int32) = nI k := by
    by_cases q : c = 63
    · rw [if_pos q]; exact Or.inr ⟨1, by omega, rfl⟩
    · rw [if_neg q]; exact Or.inl rfl
  have go1 : ∀ R' r, (c = 63 ∨ c = 42 ∨ c = 43) → a + 1 ≤ N → (if (if c = 63 then 1 else (-1) : Int32) = -1 ∧ bh = true then (R' = bS (lpK R (48 - β + u) u m) (48 - β + u) (if c = 43 then 1 else 0 : Int32) (if c = 63 then 1 else (-1) : Int32) (a + 1) ∧ r = 0) else (R' = (apd (lpS R (48 - β + u) u m (if c = 43 then 1 else 0 : Int32) (if c = 63 then 1 else (-1) : Int32) (a + 1) (mdI (pk X N (a + 1))) (a + 1 + (if mdI (pk X N (a + 1)) = 0 then 0 else 1))) d tl sq (48 - β + u)) ∧ r = 1)) → E_loop R (nI m) R' r := fun R' r hq hp hh => by
    have h123 : ¬ c = 123 := by rcases hq with q | q | q <;> (rw [q]; decide)
    refine go R' r (by rcases hq with q | q | q <;> simp [q]) ⟨_, _, cr, v, v, v, ?_⟩
    rw [if_neg h123]
    refine ⟨v, ?_⟩
    rw [cl, e17, g16, cld, c22]
    change if (bS (lpK R (48 - β + u) u m) (48 - β + u) (if c = 43 then 1 else 0 : Int32) (if c = 63 then 1 else (-1) : Int32) (a + 1)).2.1 10 (48 - β + u) = -1 then _ else _
    rw [bS_g10]
    have fa := fin (if c = 43 then 1 else 0 : Int32) (if c = 63 then 1 else (-1) : Int32) (a + 1) hp
    by_cases y1 : (if c = 63 then 1 else (-1) : Int32) = -1
    · rw [if_pos y1]
      refine ⟨v6, ?_⟩
      cases bh with
      | true =>
        rw [if_pos ⟨y1, rfl⟩] at hh
        rw [if_neg (by decide)]; exact hh
      | false =>
        rw [if_neg (fun z => by cases z.2)] at hh
        rw [if_pos (by rfl)]
        exact ⟨_, _, fa.1, v, v, _, fa.2, hh⟩
    · rw [if_neg y1]
      rw [if_neg (fun z => y1 z.1)] at hh
      exact ⟨_, _, fa.1, v, v, _, fa.2, hh⟩
  have wn : ∀ (lo : Nat) (hi : Option Nat) (p : Nat), lo ≤ 4 → (∀ M, hi = some M → lo ≤ M ∧ M ≤ 4) → wfL ((lo, hi, mdI (pk X N p)) : Lp) := fun lo hi p w1 w2 => ⟨w1, w2⟩
  have pin : ∀ p, p ≤ N → p + (if mdI (pk X N p) = 0 then 0 else 1) ≤ N := fun p hp => by
    by_cases q : mdI (pk X N p) = 0
    · rw [if_pos q]; omega
    · rw [if_neg q]
      have : p < N := pkN_lt (fun z => q (by rw [z]; decide))
      omega
  have pos : ¬ c = 0 → a < N := fun z => pkN_lt (X := X) (by rw [hc]; exact z)
  by_cases q0 : c = 123
  · rw [if_pos q0]
    have a1 := pos (by rw [q0]; decide)
    have bn := bnd_E (n := 48 - β + u) (a := a + 1) (x0 := (if c = 43 then 1 else 0 : Int32)) (y0 := (if c = 63 then 1 else (-1) : Int32)) (lpK_Rd (n := 48 - β + u) (m := m) h) hX (by omega) hn bx byy
    have go2 : ∀ x y p rb R' r, E_bounds (bS (lpK R (48 - β + u) u m) (48 - β + u) (if c = 43 then 1 else 0 : Int32) (if c = 63 then 1 else (-1) : Int32) (a + 1)) (nI (48 - β + u)) (bS (lpK R (48 - β + u) u m) (48 - β + u) x y p) rb → (if rb = 0 then (R' = bS (lpK R (48 - β + u) u m) (48 - β + u) x y p ∧ r = 0) else p ≤ N ∧ (if y = -1 ∧ bh = true then (R' = bS (lpK R (48 - β + u) u m) (48 - β + u) x y p ∧ r = 0) else (R' = (apd (lpS R (48 - β + u) u m x y p (mdI (pk X N p)) (p + (if mdI (pk X N p) = 0 then 0 else 1))) d tl sq (48 - β + u)) ∧ r = 1))) → E_loop R (nI m) R' r := fun x y p rb R' r hbn hh => by
      refine go R' r (Or.inr (Or.inr (Or.inr q0))) ⟨_, _, cr, v, v, v, ?_⟩
      rw [if_pos q0]
      rw [cl, e17]
      refine ⟨_, _, hbn, ?_⟩
      by_cases r0 : rb = 0
      · rw [if_pos r0] at hh ⊢; exact hh
      · rw [if_neg r0] at hh ⊢
        obtain ⟨hp, hh⟩ := hh
        have fa := fin x y p hp
        refine ⟨v, ?_⟩
        rw [bS_g10, f16, cld, b22]
        by_cases y1 : y = -1
        · rw [if_pos y1]
          refine ⟨v6, ?_⟩
          cases bh with
          | true =>
            rw [if_pos ⟨y1, rfl⟩] at hh
            rw [if_neg (by decide)]; exact hh
          | false =>
            rw [if_neg (fun z => by cases z.2)] at hh
            rw [if_pos (by rfl)]
            exact ⟨_, _, fa.1, v, v, _, fa.2, hh⟩
        · rw [if_neg y1]
          rw [if_neg (fun z => y1 z.1)] at hh
          exact ⟨_, _, fa.1, v, v, _, fa.2, hh⟩
    cases e : bndP X N (a + 1) with
    | none =>
      rw [e] at bn
      obtain ⟨x, y, p, b1, b2, b3⟩ := bn
      refine ⟨_, go2 x y p 0 _ _ b1 ?_, lpB_fail (u := u) (p := p) hm b2 b3⟩
      rw [if_pos rfl]; exact ⟨rfl, rfl⟩
    | some w =>
      obtain ⟨p, lo, hi⟩ := w
      rw [e] at bn
      obtain ⟨b1, b2, b3, b4, b5, b6⟩ := bn
      dsimp only
      unfold lopE
      have hy : iO hi = -1 ↔ hi = none := iO_none (fun M hM => by have := b4 M hM; omega)
      by_cases z : hi = none ∧ bh = true
      · rw [if_pos z]
        refine ⟨_, go2 _ _ p 1 _ _ b1 ?_, lpB_fail (u := u) (p := p) hm ⟨lo, b3, rfl⟩ (Or.inl (hy.mpr z.1))⟩
        rw [if_neg (by decide), if_pos ⟨hy.mpr z.1, z.2⟩]; exact ⟨b2, rfl, rfl⟩
      · rw [if_neg z]
        refine ⟨⟨_, lpS_new (l := (lo, hi, mdI (pk X N p))) (p := p), go2 _ _ p 1 _ _ b1 ?_⟩, ?_, pin p b2, wn lo hi p b3 b4, md2 _⟩
        · rw [if_neg (by decide), if_neg (fun k => z ⟨hy.mp k.1, k.2⟩)]; exact ⟨b2, rfl, rfl⟩
        · unfold lpc
          dsimp only
          have mm : (if mdI (pk X N p) = 0 then 0 else 1) ≤ 1 := by split <;> omega
          cases hi with
          | none =>
            have := b5 rfl
            dsimp only
            by_cases k1 : lo ≤ 1
            · rw [if_pos k1]; omega
            · rw [if_neg k1]; omega
          | some M =>
            have k6 := b6 M rfl
            dsimp only
            by_cases k1 : lo = 0 ∧ M = 1
            · rw [if_pos k1]; omega
            · rw [if_neg k1]
              by_cases k2 : lo = M
              · rw [if_pos k2]; omega
              · rw [if_neg k2]; omega
  · rw [if_neg q0]
    by_cases q1 : c = 63
    · rw [if_pos q1]
      have a1 := pos (by rw [q1]; decide)
      unfold lopE
      rw [if_neg (fun z => by cases z.1)]
      refine ⟨⟨_, lpS_new (l := (0, some 1, mdI (pk X N (a + 1)))) (p := a + 1), go1 _ _ (Or.inl q1) (by omega) ?_⟩, ?_, pin _ (by omega), wn 0 (some 1) (a + 1) (by omega) (fun M hM => by cases hM; omega), md2 _⟩
      · rw [if_pos q1, if_neg (show ¬ ((1 : Int32) = -1 ∧ bh = true) from fun z => absurd z.1 (by decide)), if_neg (show ¬ c = 43 by rw [q1]; decide)]; exact ⟨rfl, rfl⟩
      · unfold lpc
        dsimp only
        rw [if_pos ⟨rfl, rfl⟩]; omega
    · rw [if_neg q1]
      by_cases q2 : c = 42
      · rw [if_pos q2]
        have a1 := pos (by rw [q2]; decide)
        unfold lopE
        by_cases z : (none : Option Nat) = none ∧ bh = true
        · rw [if_pos z]
          refine ⟨_, go1 _ _ (Or.inr (Or.inl q2)) (by omega) ?_, lpB_fail (u := u) (p := a + 1) hm bx byy⟩
          rw [if_pos ⟨by rw [if_neg q1], z.2⟩]; exact ⟨rfl, rfl⟩
        · rw [if_neg z]
          refine ⟨⟨_, lpS_new (l := (0, none, mdI (pk X N (a + 1)))) (p := a + 1), go1 _ _ (Or.inr (Or.inl q2)) (by omega) ?_⟩, ?_, pin _ (by omega), wn 0 none (a + 1) (by omega) (fun M hM => by cases hM), md2 _⟩
          · rw [if_neg (fun k => z ⟨rfl, k.2⟩), if_neg q1, if_neg (show ¬ c = 43 by rw [q2]; decide)]; exact ⟨rfl, rfl⟩
          · unfold lpc
            dsimp only
            rw [if_pos (by omega)]; omega
      · rw [if_neg q2]
        by_cases q3 : c = 43
        · rw [if_pos q3]
          have a1 := pos (by rw [q3]; decide)
          unfold lopE
          by_cases z : (none : Option Nat) = none ∧ bh = true
          · rw [if_pos z]
            refine ⟨_, go1 _ _ (Or.inr (Or.inr q3)) (by omega) ?_, lpB_fail (u := u) (p := a + 1) hm bx byy⟩
            rw [if_pos ⟨by rw [if_neg q1], z.2⟩]; exact ⟨rfl, rfl⟩
          · rw [if_neg z]
            refine ⟨⟨_, lpS_new (l := (1, none, mdI (pk X N (a + 1)))) (p := a + 1), go1 _ _ (Or.inr (Or.inr q3)) (by omega) ?_⟩, ?_, pin _ (by omega), wn 1 none (a + 1) (by omega) (fun M hM => by cases hM), md2 _⟩
            · rw [if_neg (fun k => z ⟨rfl, k.2⟩), if_neg q1, if_pos q3]; exact ⟨rfl, rfl⟩
            · unfold lpc
              dsimp only
              rw [if_pos (by omega)]; omega
        · rw [if_neg q3]
          refine ⟨rfl, ?_⟩
          unfold E_loop
          rw [if_neg m1]
          refine ⟨_, _, p0, ?_⟩
          rw [if_neg q1, if_neg q2, if_neg q3, if_neg q0]
          exact ⟨_, app_E hd (by omega) htl ht9 hsq hsq9, rfl, rfl⟩
end LOP
