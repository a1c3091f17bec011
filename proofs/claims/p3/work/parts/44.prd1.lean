/-! the reference's reading: peek, create, include -/
def pk (X : Nat → Int32) (N i : Nat) : Int32 := if i < N then X i else 0
/-- what a reading may rely on: the row 0 of N characters at X, the place at, the half's first node and the nodes used -/
def Rd (R : RS) (X : Nat → Int32) (N at_ β u : Nat) : Prop := R.2.1 1 = X ∧ R.2.1 2 0 = nI N ∧ N ≤ 14 ∧ R.1 17 = nI at_ ∧ at_ ≤ 40 ∧ R.1 3 = nI β ∧ (β = 0 ∨ β = 48) ∧ R.1 4 = nI u
theorem peek_E {R : RS} {X : Nat → Int32} {N a β u k : Nat} (h : Rd R X N a β u) (hk : k ≤ 5) : E_peek R (nI k) R (pk X N (a + k)) := by
  obtain ⟨h1, h2, h3, h4, h5, -⟩ := h
  unfold E_peek pk
  have e0 : (0 : Int32).toNatClampNeg = 0 := by decide
  rw [h4, n_add, e0, h2]
  refine ⟨v_in (n := 0) (by omega) (by omega), ?_⟩
  by_cases c : a + k < N
  · rw [if_neg (fun z => by have := (n_le (by omega) (by omega)).mp z; omega), if_pos c]
    refine ⟨v_in (by omega) (by omega), rfl, ?_⟩
    rw [n_cl (by omega), h1]
  · rw [if_pos ((n_le (by omega) (by omega)).mpr (by omega)), if_neg c]
    exact ⟨rfl, rfl⟩
theorem peekm_E {R : RS} {X : Nat → Int32} {N a β u : Nat} (h : Rd R X N (a + 1) β u) : E_peek R (-1) R (pk X N a) := by
  obtain ⟨h1, h2, h3, h4, h5, -⟩ := h
  unfold E_peek pk
  have e0 : (0 : Int32).toNatClampNeg = 0 := by decide
  have e1 : nI (a + 1) + -1 = nI a := by
    have := n_sub (a := a + 1) (b := 1) (by omega)
    rw [show nI (a + 1) + -1 = nI (a + 1) - nI 1 from (Int32.sub_eq_add_neg _ _).symm ▸ rfl, this]; rfl
  rw [h4, e1, e0, h2]
  refine ⟨v_in (n := 0) (by omega) (by omega), ?_⟩
  by_cases c : a < N
  · rw [if_neg (fun z => by have := (n_le (by omega) (by omega)).mp z; omega), if_pos c]
    refine ⟨v_in (by omega) (by omega), rfl, ?_⟩
    rw [n_cl (by omega), h1]
  · rw [if_pos ((n_le (by omega) (by omega)).mpr (by omega)), if_neg c]
    exact ⟨rfl, rfl⟩
/-- a node more -/
def crt (R : RS) (n : Nat) (u : Nat) (kd : Int32) : RS := ml (ml (ma (ma (ma (ma (ma (ma (mf R 4 (nI (u + 1))) 8 n kd) 9 n 0) 10 n 0) 11 n 0) 12 n (-1)) 13 n (-1)) 14 n 0) 15 n 0
theorem crt_E {R : RS} {X : Nat → Int32} {N a β u : Nat} {kd : Int32} (h : Rd R X N a β u) (hu : u < 48) : E_create R kd (crt R (48 - β + u) u kd) (nI (48 - β + u)) := by
  obtain ⟨-, -, -, -, -, h6, h7, h8⟩ := h
  have e : (48 - R.1 3) + R.1 4 = nI (48 - β + u) := by
    rw [h6, h8, show (48 : Int32) = nI 48 from rfl, n_sub (by omega), n_add]
  have v : vp_in ((48 - R.1 3) + R.1 4) 96 := by rw [e]; exact v_in (by omega) (by omega)
  unfold E_create
  refine ⟨v, v, v, v, v, v, v, v, ?_, e.symm⟩
  rw [e, n_cl (by omega), h8, show nI u + 1 = nI (u + 1) from (nI_succ u).symm]
  rfl
theorem ml_at {R : RS} {k i : Nat} {x : Int64} {j m : Nat} : (ml R k i x).2.2 j m = if j = k ∧ m = i then x else R.2.2 j m := by
  show va_up R.2.2 k (vp_updL (R.2.2 k) i x) j m = _
  unfold va_up vp_updL
  by_cases h : j = k
  · subst h; simp
  · simp [h]
theorem ml_2 {R : RS} {k i : Nat} {x : Int64} : (ml R k i x).2.1 = R.2.1 := rfl
theorem ml_1 {R : RS} {k i : Nat} {x : Int64} : (ml R k i x).1 = R.1 := rfl
def incP (x : Int64 × Int64) (c : Int32) : Int64 × Int64 := if 96 ≤ c then (x.1, x.2 ||| (1 <<< ((c - 96).toInt64 &&& 63))) else (x.1 ||| (1 <<< ((c - 32).toInt64 &&& 63)), x.2)
/-- a node's characters set anew -/
def setX (R : RS) (n : Nat) (x : Int64 × Int64) : RS := (R.1, R.2.1, va_up (va_up R.2.2 14 (vp_updL (R.2.2 14) n x.1)) 15 (vp_updL (R.2.2 15) n x.2))
theorem setX_at {R : RS} {n : Nat} {x : Int64 × Int64} {j m : Nat} : (setX R n x).2.2 j m = if j = 15 ∧ m = n then x.2 else if j = 14 ∧ m = n then x.1 else R.2.2 j m := by
  show va_up (va_up R.2.2 14 (vp_updL (R.2.2 14) n x.1)) 15 (vp_updL (R.2.2 15) n x.2) j m = _
  unfold va_up vp_updL
  by_cases h : j = 15
  · subst h; simp
  · by_cases h2 : j = 14
    · subst h2; simp
    · simp [h, h2]
theorem RS_ext {R R' : RS} (h1 : R.1 = R'.1) (h2 : R.2.1 = R'.2.1) (h3 : ∀ j m, R.2.2 j m = R'.2.2 j m) : R = R' := by
  obtain ⟨a, b, c⟩ := R
  obtain ⟨a', b', c'⟩ := R'
  dsimp only at h1 h2 h3
  subst h1; subst h2
  have : c = c' := by funext j m; exact h3 j m
  rw [this]
theorem inc_set {R : RS} {n : Nat} {x : Int64 × Int64} {c : Int32} (hn : n < 96) : E_include (setX R n x) (nI n) c (setX R n (incP x c)) 0 := by
  unfold E_include incP
  have v : vp_in (nI n) 96 := v_in hn (by omega)
  by_cases h : 96 ≤ c
  · rw [if_pos h, if_pos h]
    refine ⟨v, v, RS_ext rfl rfl (fun j m => ?_), rfl⟩
    rw [n_cl (by omega), ml_at, setX_at, setX_at, setX_at]
    by_cases a : j = 15 ∧ m = n
    · simp [a]
    · simp [a]
  · rw [if_neg h, if_neg h]
    refine ⟨v, v, RS_ext rfl rfl (fun j m => ?_), rfl⟩
    rw [n_cl (by omega), ml_at, setX_at, setX_at, setX_at]
    by_cases a : j = 14 ∧ m = n
    · simp [a]
    · simp [a]
theorem setX_self {R : RS} {n : Nat} : setX R n (R.2.2 14 n, R.2.2 15 n) = R := by
  refine RS_ext rfl rfl (fun j m => ?_)
  rw [setX_at]
  by_cases a : j = 15 ∧ m = n
  · rw [if_pos a, a.1, a.2]
  · rw [if_neg a]
    by_cases b : j = 14 ∧ m = n
    · rw [if_pos b, b.1, b.2]
    · rw [if_neg b]
/-- . \d \w -/
def kdT (kd : Int32) (c : Nat) : Bool := decide (kd = 46) || (decide (kd = 119) && decide (¬ wI (nI c) = 0)) || (decide (kd = 100) && (decide (48 ≤ c) && decide (c ≤ 57)))
def inkL (kd : Int32) : Nat → Nat → Int64 × Int64 → Int64 × Int64
  | 0, _, x => x
  | n + 1, c, x => inkL kd n (c + 1) (if kdT kd c then incP x (nI c) else x)
def inkP (kd : Int32) (x : Int64 × Int64) : Int64 × Int64 := inkL kd 95 32 x
theorem ink_loop {R : RS} {n : Nat} {kd : Int32} (hn : n < 96) : ∀ (m c : Nat) (x : Int64 × Int64), c + m = 127 → L_includeKind_3 (m + 1) (setX R n x) (nI n) kd (nI c) (setX R n (inkL kd m c x)) 0
  | 0, c, x, hc => by
    rw [L_includeKind_3.eq_2, if_pos (show (127 : Int32) ≤ nI c from (n_le (a := 127) (by omega) (by omega)).mpr (by omega))]
    exact ⟨rfl, rfl⟩
  | m + 1, c, x, hc => by
    have ih := fun x' => ink_loop (R := R) (kd := kd) hn m (c + 1) x' (by omega)
    have ec : nI c + 1 = nI (c + 1) := (nI_succ c).symm
    have inc := inc_set (R := R) (x := x) (c := nI c) hn
    rw [L_includeKind_3.eq_2, if_neg (show ¬ (127 : Int32) ≤ nI c from fun z => by have := (n_le (a := 127) (by omega) (by omega)).mp z; omega)]
    have l48 : nI c < 48 ↔ c < 48 := n_lt (b := 48) (by omega) (by omega)
    have l57 : (57 : Int32) < nI c ↔ 57 < c := n_lt (a := 57) (by omega) (by omega)
    by_cases a : kd = 46
    · rw [if_pos a]
      have e : inkL kd (m + 1) c x = inkL kd m (c + 1) (incP x (nI c)) := by show inkL kd m (c + 1) (if kdT kd c then _ else _) = _; rw [if_pos (by unfold kdT; simp [a])]
      rw [e, ec]; exact ⟨_, inc, ih _⟩
    · rw [if_neg a]
      by_cases b : kd = 119
      · rw [if_pos b]
        refine ⟨wI (nI c), isW_E _, ?_⟩
        by_cases w0 : wI (nI c) = 0
        · rw [if_pos w0, if_neg (by rw [b]; decide)]
          have e : inkL kd (m + 1) c x = inkL kd m (c + 1) x := by show inkL kd m (c + 1) (if kdT kd c then _ else _) = _; rw [if_neg (by unfold kdT; simp [b, w0])]
          rw [e, ec]; exact ih _
        · rw [if_neg w0]
          have e : inkL kd (m + 1) c x = inkL kd m (c + 1) (incP x (nI c)) := by show inkL kd m (c + 1) (if kdT kd c then _ else _) = _; rw [if_pos (by unfold kdT; simp [b, w0])]
          rw [e, ec]; exact ⟨_, inc, ih _⟩
      · rw [if_neg b]
        by_cases d : kd = 100
        · rw [if_pos d]
          by_cases g1 : c < 48
          · rw [if_pos (l48.mpr g1)]
            have e : inkL kd (m + 1) c x = inkL kd m (c + 1) x := by show inkL kd m (c + 1) (if kdT kd c then _ else _) = _; rw [if_neg (by unfold kdT; simp [d]; omega)]
            rw [e, ec]; exact ih _
          · rw [if_neg (fun z => g1 (l48.mp z))]
            by_cases g2 : 57 < c
            · rw [if_pos (l57.mpr g2)]
              have e : inkL kd (m + 1) c x = inkL kd m (c + 1) x := by show inkL kd m (c + 1) (if kdT kd c then _ else _) = _; rw [if_neg (by unfold kdT; simp [d]; omega)]
              rw [e, ec]; exact ih _
            · rw [if_neg (fun z => g2 (l57.mp z))]
              have e : inkL kd (m + 1) c x = inkL kd m (c + 1) (incP x (nI c)) := by show inkL kd m (c + 1) (if kdT kd c then _ else _) = _; rw [if_pos (by unfold kdT; simp [d]; omega)]
              rw [e, ec]; exact ⟨_, inc, ih _⟩
        · rw [if_neg d]
          have e : inkL kd (m + 1) c x = inkL kd m (c + 1) x := by show inkL kd m (c + 1) (if kdT kd c then _ else _) = _; rw [if_neg (by unfold kdT; simp [a, b, d])]
          rw [e, ec]; exact ih _
theorem ink_E {R : RS} {n : Nat} {kd : Int32} {x : Int64 × Int64} (hn : n < 96) : E_includeKind (setX R n x) (nI n) kd (setX R n (inkP kd x)) 0 := ⟨96, ink_loop hn 95 32 x (by omega)⟩
/-! the reference's reading: items, escapes, atoms -/
def spI (a1 : Int32) : Int32 := (if a1 = 124 then 1 else (if a1 = 40 then 1 else (if a1 = 41 then 1 else (if a1 = 91 then 1 else (if a1 = 93 then 1 else (if a1 = 123 then 1 else (if a1 = 125 then 1 else (if a1 = 42 then 1 else (if a1 = 43 then 1 else (if a1 = 63 then 1 else (if a1 = 46 then 1 else (if a1 = 94 then 1 else (if a1 = 36 then 1 else (if a1 = 92 then 1 else 0 : Int32) : Int32) : Int32) : Int32) : Int32) : Int32) : Int32) : Int32) : Int32) : Int32) : Int32) : Int32) : Int32) : Int32)
def baI (a1 : Int32) : Int32 := (if a1 = 91 then 1 else (if a1 = 93 then 1 else (if a1 = 94 then 1 else (if a1 = 45 then 1 else (if a1 = 92 then 1 else (if a1 = 0 then 1 else 0 : Int32) : Int32) : Int32) : Int32) : Int32) : Int32)
def foI (a1 : Int32) : Int32 := (if a1 < 48 then 0 else (if 52 < a1 then 0 else 1 : Int32) : Int32)
theorem i01 {p : Prop} [Decidable p] {x : Int32} (h : x = 0 ∨ x = 1) : (if p then (1 : Int32) else x) = 0 ∨ (if p then (1 : Int32) else x) = 1 := by
  by_cases hp : p
  · rw [if_pos hp]; exact Or.inr rfl
  · rw [if_neg hp]; exact h
theorem sp_01 (c : Int32) : spI c = 0 ∨ spI c = 1 := i01 (i01 (i01 (i01 (i01 (i01 (i01 (i01 (i01 (i01 (i01 (i01 (i01 (i01 (Or.inl rfl))))))))))))))
theorem sp_E (c : Int32) : E_isSpecial c (spI c) := by
  unfold E_isSpecial
  refine ⟨?_, rfl⟩
  exact nar01 (sp_01 c)
theorem ba_01 (c : Int32) : baI c = 0 ∨ baI c = 1 := by
  unfold baI
  repeat' split
  all_goals first | exact Or.inl rfl | exact Or.inr rfl
theorem ba_E (c : Int32) : E_isBarred c (baI c) := by
  unfold E_isBarred
  refine ⟨?_, rfl⟩
  exact nar01 (ba_01 c)
theorem fo_01 (c : Int32) : foI c = 0 ∨ foI c = 1 := by
  unfold foI
  repeat' split
  all_goals first | exact Or.inl rfl | exact Or.inr rfl
theorem fo_E (c : Int32) : E_isFour c (foI c) := by
  unfold E_isFour
  refine ⟨?_, rfl⟩
  exact nar01 (fo_01 c)
/-- the place moved -/
theorem Rd.to {R : RS} {X : Nat → Int32} {N a β u a' : Nat} (h : Rd R X N a β u) (ha : a' ≤ 40) : Rd (mf R 17 (nI a')) X N a' β u := ⟨h.1, h.2.1, h.2.2.1, rfl, ha, h.2.2.2.2.2.1, h.2.2.2.2.2.2.1, h.2.2.2.2.2.2.2⟩
theorem Rd.setX {R : RS} {X : Nat → Int32} {N a β u n : Nat} {x : Int64 × Int64} (h : Rd R X N a β u) : Rd (setX R n x) X N a β u := h
theorem mf_mf {R : RS} {k : Nat} {x y : Int32} : mf (mf R k x) k y = mf R k y := by
  unfold mf
  have : upd (upd R.1 k x) k y = upd R.1 k y := by funext j; unfold upd; split <;> rfl
  rw [this]
theorem setX_mf {R : RS} {k n : Nat} {y : Int32} {x : Int64 × Int64} : setX (mf R k y) n x = mf (setX R n x) k y := rfl
/-- c .. d -/
def rngL : Nat → Nat → Int64 × Int64 → Int64 × Int64
  | 0, _, x => x
  | n + 1, c, x => rngL n (c + 1) (incP x (nI c))
theorem rng_loop {R : RS} {n a c0 d : Nat} (hn : n < 96) (hd : d < 1000) (h17 : R.1 17 = nI a) : ∀ (m c : Nat) (x : Int64 × Int64), c + m = d + 1 → L_item_133 (m + 1) (setX R n x) (nI n) (nI c0) (nI d) (nI c) (mf (setX R n (rngL m c x)) 17 (nI (a + 3))) 1
  | 0, c, x, hc => by
    rw [L_item_133.eq_2, if_pos ((n_lt (by omega) (by omega)).mpr (by omega))]
    refine ⟨?_, rfl⟩
    show mf (setX R n x) 17 (nI (a + 3)) = mf (setX R n x) 17 (R.1 17 + 3)
    rw [h17, show (3 : Int32) = nI 3 from rfl, n_add]
  | m + 1, c, x, hc => by
    rw [L_item_133.eq_2, if_neg (fun z => by have := (n_lt (by omega) (by omega)).mp z; omega), show nI c + 1 = nI (c + 1) from (nI_succ c).symm]
    exact ⟨_, inc_set hn, rng_loop hn hd h17 m (c + 1) _ (by omega)⟩
def itmP (X : Nat → Int32) (N a : Nat) (x : Int64 × Int64) : Option (Nat × (Int64 × Int64)) :=
  if pk X N a = 92 then
    (if pk X N (a + 1) = 100 ∨ pk X N (a + 1) = 119 then some (a + 2, inkP (pk X N (a + 1)) x)
     else if pk X N (a + 1) = 0 then none else if baI (pk X N (a + 1)) = 0 then none else some (a + 2, incP x (pk X N (a + 1))))
  else if baI (pk X N a) = 0 then
    (if pk X N (a + 1) = 45 then
      (if baI (pk X N (a + 2)) = 0 then (if pk X N a ≤ pk X N (a + 2) then some (a + 3, rngL ((pk X N (a + 2)).toNatClampNeg + 1 - (pk X N a).toNatClampNeg) (pk X N a).toNatClampNeg x) else none) else none)
     else some (a + 1, incP x (pk X N a)))
  else none
/-- the row's characters -/
def Xok (X : Nat → Int32) (N : Nat) : Prop := ∀ i, i < N → ∃ c, 32 ≤ c ∧ c ≤ 126 ∧ X i = nI c
theorem pk_n {X : Nat → Int32} {N : Nat} (h : Xok X N) (i : Nat) : ∃ c, c ≤ 126 ∧ pk X N i = nI c ∧ (i < N → 32 ≤ c) ∧ (N ≤ i → c = 0) := by
  unfold pk
  by_cases hi : i < N
  · obtain ⟨c, c1, c2, c3⟩ := h i hi
    rw [if_pos hi]; exact ⟨c, c2, c3, fun _ => c1, fun z => by omega⟩
  · rw [if_neg hi]; exact ⟨0, by omega, rfl, fun z => absurd z hi, fun _ => rfl⟩
theorem itm_E {R : RS} {X : Nat → Int32} {N a β u n : Nat} {x : Int64 × Int64} (h : Rd R X N a β u) (hX : Xok X N) (ha : a ≤ 30) (hn : n < 96) :
    match itmP X N a x with
    | some (a', x') => E_item (setX R n x) (nI n) (mf (setX R n x') 17 (nI a')) 1
    | none => ∃ a', a' ≤ a + 2 ∧ E_item (setX R n x) (nI n) (mf (setX R n x) 17 (nI a')) 0 := by
  have p0 : E_peek (setX R n x) 0 (setX R n x) (pk X N a) := peek_E (k := 0) h.setX (by omega)
  have p1 : E_peek (setX R n x) 1 (setX R n x) (pk X N (a + 1)) := peek_E (k := 1) h.setX (by omega)
  have p2 : E_peek (setX R n x) 2 (setX R n x) (pk X N (a + 2)) := peek_E (k := 2) h.setX (by omega)
  have h17 : (setX R n x).1 17 = nI a := h.2.2.2.1
  have e1 : (setX R n x).1 17 + 1 = nI (a + 1) := by rw [h17]; exact n_add a 1
  have e2 : (setX R n x).1 17 + 2 = nI (a + 2) := by rw [h17]; exact n_add a 2
  have same : setX R n x = mf (setX R n x) 17 (nI a) := by
    unfold mf
    have : upd (setX R n x).1 17 (nI a) = (setX R n x).1 := by funext j; unfold upd; split; rename_i e; rw [e, h17]; rfl
    rw [this]
  unfold itmP
  by_cases c0 : pk X N a = 92
  · rw [if_pos c0]
    have go : ∀ R' r, (if pk X N (a + 1) = 100 then (∃ R19 : RS, E_includeKind (mf (setX R n x) 17 (nI (a + 2))) (nI n) (pk X N (a + 1)) R19 0 ∧ (R' = R19 ∧ r = 1)) else (if pk X N (a + 1) = 119 then (∃ R27 : RS, E_includeKind (mf (setX R n x) 17 (nI (a + 2))) (nI n) (pk X N (a + 1)) R27 0 ∧ (R' = R27 ∧ r = 1)) else (if pk X N (a + 1) = 0 then (R' = (mf (setX R n x) 17 (nI (a + 2))) ∧ r = 0) else (∃ r23 : Int32, E_isBarred (pk X N (a + 1)) r23 ∧ (if r23 = 0 then (R' = (mf (setX R n x) 17 (nI (a + 2))) ∧ r = 0) else (∃ R25 : RS, E_include (mf (setX R n x) 17 (nI (a + 2))) (nI n) (pk X N (a + 1)) R25 0 ∧ (R' = R25 ∧ r = 1))))))) → E_item (setX R n x) (nI n) R' r := fun R' r hh => by
      unfold E_item
      refine ⟨_, _, p0, ?_⟩
      rw [if_pos c0]
      refine ⟨_, _, p1, ?_⟩
      rw [e2]; exact hh
    by_cases d1 : pk X N (a + 1) = 100
    · rw [if_pos (Or.inl d1)]
      refine go _ _ ?_
      rw [if_pos d1]
      exact ⟨_, ink_E (R := mf R 17 (nI (a + 2))) hn, rfl, rfl⟩
    · by_cases d2 : pk X N (a + 1) = 119
      · rw [if_pos (Or.inr d2)]
        refine go _ _ ?_
        rw [if_neg d1, if_pos d2]
        exact ⟨_, ink_E (R := mf R 17 (nI (a + 2))) hn, rfl, rfl⟩
      · rw [if_neg (fun z => z.elim d1 d2)]
        by_cases d3 : pk X N (a + 1) = 0
        · rw [if_pos d3]
          refine ⟨a + 2, by omega, go _ _ ?_⟩
          rw [if_neg d1, if_neg d2, if_pos d3]
          exact ⟨rfl, rfl⟩
        · rw [if_neg d3]
          by_cases d4 : baI (pk X N (a + 1)) = 0
          · rw [if_pos d4]
            refine ⟨a + 2, by omega, go _ _ ?_⟩
            rw [if_neg d1, if_neg d2, if_neg d3]
            refine ⟨_, ba_E _, ?_⟩
            rw [if_pos d4]; exact ⟨rfl, rfl⟩
          · rw [if_neg d4]
            refine go _ _ ?_
            rw [if_neg d1, if_neg d2, if_neg d3]
            refine ⟨_, ba_E _, ?_⟩
            rw [if_neg d4]; exact ⟨_, inc_set (R := mf R 17 (nI (a + 2))) hn, rfl, rfl⟩
  · rw [if_neg c0]
    by_cases b0 : baI (pk X N a) = 0
    · rw [if_pos b0]
      by_cases d1 : pk X N (a + 1) = 45
      · rw [if_pos d1]
        have go : ∀ R' r, (if baI (pk X N (a + 2)) = 0 then (if pk X N a ≤ pk X N (a + 2) then (∃ nf : Nat, L_item_133 nf (setX R n x) (nI n) (pk X N a) (pk X N (a + 2)) (pk X N a) R' r) else (R' = setX R n x ∧ r = 0)) else (R' = setX R n x ∧ r = 0)) → E_item (setX R n x) (nI n) R' r := fun R' r hh => by
          unfold E_item
          refine ⟨_, _, p0, ?_⟩
          rw [if_neg c0]
          refine ⟨_, ba_E _, ?_⟩
          rw [if_pos b0]
          refine ⟨_, _, p1, ?_⟩
          rw [if_pos d1]
          exact ⟨_, _, p2, _, ba_E _, hh⟩
        by_cases b2 : baI (pk X N (a + 2)) = 0
        · rw [if_pos b2]
          by_cases le : pk X N a ≤ pk X N (a + 2)
          · rw [if_pos le]
            refine go _ _ ?_
            rw [if_pos b2, if_pos le]
            obtain ⟨c, c1, c2, -⟩ := pk_n hX a
            obtain ⟨d, d2, d3, -⟩ := pk_n hX (a + 2)
            rw [c2, d3] at le ⊢
            rw [n_cl (by omega), n_cl (by omega)]
            have hle := (n_le (by omega) (by omega)).mp le
            exact ⟨_, rng_loop (c0 := c) hn (by omega) h.2.2.2.1 (d + 1 - c) c x (by omega)⟩
          · rw [if_neg le]
            refine ⟨a, by omega, go _ _ ?_⟩
            rw [if_pos b2, if_neg le]; exact ⟨same.symm, rfl⟩
        · rw [if_neg b2]
          refine ⟨a, by omega, go _ _ ?_⟩
          rw [if_neg b2]; exact ⟨same.symm, rfl⟩
      · rw [if_neg d1]
        show E_item _ _ _ _
        unfold E_item
        refine ⟨_, _, p0, ?_⟩
        rw [if_neg c0]
        refine ⟨_, ba_E _, ?_⟩
        rw [if_pos b0]
        refine ⟨_, _, p1, ?_⟩
        rw [if_neg d1]
        refine ⟨_, inc_set hn, ?_, rfl⟩
        show mf (setX R n (incP x (pk X N a))) 17 (nI (a + 1)) = mf (setX R n (incP x (pk X N a))) 17 ((setX R n x).1 17 + 1)
        rw [e1]
    · rw [if_neg b0]
      refine ⟨a, by omega, ?_⟩
      unfold E_item
      refine ⟨_, _, p0, ?_⟩
      rw [if_neg c0]
      refine ⟨_, ba_E _, ?_⟩
      rw [if_neg b0]; exact ⟨same.symm, rfl⟩
