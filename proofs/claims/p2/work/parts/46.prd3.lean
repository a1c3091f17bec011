/-! items, escapes, atoms -/
theorem crt_Rd {R : RS} {X : Nat → Int32} {N a β u n : Nat} {kd : Int32} (h : Rd R X N a β u) : Rd (crt R n u kd) X N a β (u + 1) := by
  obtain ⟨h1, h2, h3, h4, h5, h6, h7, h8⟩ := h
  refine ⟨?_, ?_, h3, h4, h5, h6, h7, rfl⟩
  · funext m
    show (ma (ma (ma (ma (ma (ma (mf R 4 (nI (u + 1))) 8 n kd) 9 n 0) 10 n 0) 11 n 0) 12 n (-1)) 13 n (-1)).2.1 1 m = _
    rw [ma_at, if_neg (by omega), ma_at, if_neg (by omega), ma_at, if_neg (by omega), ma_at, if_neg (by omega), ma_at, if_neg (by omega), ma_at, if_neg (by omega), ← h1]; rfl
  · show (ma (ma (ma (ma (ma (ma (mf R 4 (nI (u + 1))) 8 n kd) 9 n 0) 10 n 0) 11 n 0) 12 n (-1)) 13 n (-1)).2.1 2 0 = _
    rw [ma_at, if_neg (by omega), ma_at, if_neg (by omega), ma_at, if_neg (by omega), ma_at, if_neg (by omega), ma_at, if_neg (by omega), ma_at, if_neg (by omega), ← h2]; rfl
theorem pkN_lt {X : Nat → Int32} {N i : Nat} (h : pk X N i ≠ 0) : i < N := by
  unfold pk at h
  by_cases c : i < N
  · exact c
  · rw [if_neg c] at h; exact absurd rfl h
theorem ba_0 {c : Int32} (h : baI c = 0) : c ≠ 0 := by
  intro z; rw [z] at h; exact absurd h (by decide)
theorem itmP_le {X : Nat → Int32} {N a : Nat} {x : Int64 × Int64} {o : Nat × (Int64 × Int64)} (h : itmP X N a x = some o) : a < o.1 ∧ o.1 ≤ N := by
  unfold itmP at h
  by_cases c0 : pk X N a = 92
  · rw [if_pos c0] at h
    by_cases d1 : pk X N (a + 1) = 100 ∨ pk X N (a + 1) = 119
    · rw [if_pos d1] at h
      have := pkN_lt (X := X) (N := N) (i := a + 1) (by rcases d1 with z | z <;> (rw [z]; decide))
      cases h; exact ⟨by show a < a + 2; omega, by show a + 2 ≤ N; omega⟩
    · rw [if_neg d1] at h
      by_cases d3 : pk X N (a + 1) = 0
      · rw [if_pos d3] at h; cases h
      · rw [if_neg d3] at h
        have := pkN_lt d3
        by_cases d4 : baI (pk X N (a + 1)) = 0
        · rw [if_pos d4] at h; cases h
        · rw [if_neg d4] at h
          cases h; exact ⟨by show a < a + 2; omega, by show a + 2 ≤ N; omega⟩
  · rw [if_neg c0] at h
    by_cases b0 : baI (pk X N a) = 0
    · rw [if_pos b0] at h
      have := pkN_lt (ba_0 b0)
      by_cases d1 : pk X N (a + 1) = 45
      · rw [if_pos d1] at h
        by_cases b2 : baI (pk X N (a + 2)) = 0
        · rw [if_pos b2] at h
          have := pkN_lt (ba_0 b2)
          by_cases le : pk X N a ≤ pk X N (a + 2)
          · rw [if_pos le] at h; cases h; exact ⟨by show a < a + 3; omega, by show a + 3 ≤ N; omega⟩
          · rw [if_neg le] at h; cases h
        · rw [if_neg b2] at h; cases h
      · rw [if_neg d1] at h; cases h; exact ⟨by show a < a + 1; omega, by show a + 1 ≤ N; omega⟩
    · rw [if_neg b0] at h; cases h
def itsL (X : Nat → Int32) (N : Nat) (ng : Bool) : Nat → Nat → Nat → Int64 × Int64 → Option (Nat × (Int64 × Int64))
  | 0, _, _, _ => none
  | f + 1, m, a, x => if pk X N a = 93 then (if m = 0 then none else some (a + 1, if ng then (x.1 ^^^ (-1), x.2 ^^^ (-1)) else x))
      else match itmP X N a x with
        | none => none
        | some (a', x') => itsL X N ng f (m + 1) a' x'
theorem mf_self {R : RS} {k : Nat} {x : Int32} (h : R.1 k = x) : mf R k x = R := by
  unfold mf; rw [upd_self h]
section ITS
variable {R : RS} {X : Nat → Int32} {N a0 β u n : Nat}
theorem neg_set {x : Int64 × Int64} : ml (ml (setX R n x) 14 n (x.1 ^^^ (-1))) 15 n (x.2 ^^^ (-1)) = setX R n (x.1 ^^^ (-1), x.2 ^^^ (-1)) := by
  refine RS_ext rfl rfl (fun j m => ?_)
  rw [ml_at, ml_at, setX_at, setX_at]
  by_cases a1 : j = 15 ∧ m = n
  · simp [a1]
  · by_cases a2 : j = 14 ∧ m = n
    · simp [a2]
    · rw [if_neg a1, if_neg a2, if_neg a1, if_neg a2, if_neg a1, if_neg a2]
theorem its_loop (h : Rd R X N a0 β u) (hX : Xok X N) (hn : n < 96) (ng : Bool) : ∀ (f m a : Nat) (x : Int64 × Int64), N - a < f → a ≤ N → m + f ≤ 40 →
    match itsL X N ng f m a x with
    | some (a', x') => ∃ nf, L_items_38 nf (mf (setX R n x) 17 (nI a)) (nI n) (if ng then 1 else 0) (nI m) (mf (setX R n x') 17 (nI a')) (nI n) ∧ a < a' ∧ a' ≤ N
    | none => ∃ nf a' x', L_items_38 nf (mf (setX R n x) 17 (nI a)) (nI n) (if ng then 1 else 0) (nI m) (mf (setX R n x') 17 (nI a')) (-1)
  | 0, _, _, _, hf, _, _ => absurd hf (by omega)
  | f + 1, m, a, x, hf, ha, hm => by
    have hN : N ≤ 14 := h.2.2.1
    have h1 : Rd (mf R 17 (nI a)) X N a β u := h.to (by omega)
    have p0 : E_peek (mf (setX R n x) 17 (nI a)) 0 (mf (setX R n x) 17 (nI a)) (pk X N a) := peek_E (k := 0) (h1.setX (n := n) (x := x)) (by omega)
    unfold itsL
    by_cases c : pk X N a = 93
    · rw [if_pos c]
      have hlt : a < N := pkN_lt (by rw [c]; decide)
      have go : ∀ R' r, (if (nI m) = 0 then (R' = (mf (mf (setX R n x) 17 (nI a)) 17 (nI (a + 1))) ∧ r = (-1)) else (if (if ng then (1 : Int32) else 0) = 0 then (R' = (mf (mf (setX R n x) 17 (nI a)) 17 (nI (a + 1))) ∧ r = nI n) else (R' = (ml (ml (mf (mf (setX R n x) 17 (nI a)) 17 (nI (a + 1))) 14 n (x.1 ^^^ (-1))) 15 n (x.2 ^^^ (-1))) ∧ r = nI n))) → L_items_38 1 (mf (setX R n x) 17 (nI a)) (nI n) (if ng then 1 else 0) (nI m) R' r := fun R' r hh => by
        rw [L_items_38.eq_2]
        refine ⟨_, _, p0, ?_⟩
        rw [if_pos c]
        have e1 : (mf (setX R n x) 17 (nI a)).1 17 + 1 = nI (a + 1) := (nI_succ a).symm
        have v : vp_in (nI n) 96 := v_in hn (by omega)
        have s1 : (mf (setX R n x) 17 (nI a)).2.2 14 n = x.1 := by show (setX R n x).2.2 14 n = _; rw [setX_at]; simp
        have s2 : (mf (setX R n x) 17 (nI a)).2.2 15 n = x.2 := by show (setX R n x).2.2 15 n = _; rw [setX_at]; simp
        rw [e1, n_cl (by omega), s1, s2]
        by_cases m0 : nI m = 0
        · rw [if_pos m0] at hh ⊢; exact hh
        · rw [if_neg m0] at hh ⊢
          by_cases g0 : (if ng then (1 : Int32) else 0) = 0
          · rw [if_pos g0] at hh ⊢; exact hh
          · rw [if_neg g0] at hh ⊢; exact ⟨v, v, v, v, hh⟩
      by_cases m0 : m = 0
      · rw [if_pos m0]
        refine ⟨1, a + 1, x, go _ _ ?_⟩
        rw [if_pos (by rw [m0]; rfl), mf_mf]; exact ⟨rfl, rfl⟩
      · rw [if_neg m0]
        have m1 : ¬ nI m = 0 := fun z => m0 ((n_eq (a := m) (b := 0) (by omega) (by omega)).mp z)
        cases ng with
        | true =>
          refine ⟨1, go _ _ ?_, by omega, by omega⟩
          rw [if_neg m1, if_neg (by decide), mf_mf]
          refine ⟨?_, rfl⟩
          show mf (setX R n (x.1 ^^^ (-1), x.2 ^^^ (-1))) 17 (nI (a + 1)) = mf (ml (ml (setX R n x) 14 n (x.1 ^^^ (-1))) 15 n (x.2 ^^^ (-1))) 17 (nI (a + 1))
          rw [neg_set]
        | false =>
          refine ⟨1, go _ _ ?_, by omega, by omega⟩
          rw [if_neg m1, if_pos (by rfl), mf_mf]
          exact ⟨rfl, rfl⟩
    · rw [if_neg c]
      have it := itm_E (R := mf R 17 (nI a)) (n := n) (x := x) h1 hX (by omega) hn
      have go : ∀ nf R13 r14 R' r, E_item (mf (setX R n x) 17 (nI a)) (nI n) R13 r14 → (if r14 = 0 then (R' = R13 ∧ r = (-1)) else (L_items_38 nf R13 (nI n) (if ng then 1 else 0) (nI (m + 1)) R' r)) → L_items_38 (nf + 1) (mf (setX R n x) 17 (nI a)) (nI n) (if ng then 1 else 0) (nI m) R' r := fun nf R13 r14 R' r hi hh => by
        rw [L_items_38.eq_2]
        refine ⟨_, _, p0, ?_⟩
        rw [if_neg c]
        rw [nI_succ m] at hh
        exact ⟨_, _, hi, hh⟩
      cases e : itmP X N a x with
      | none =>
        rw [e] at it
        obtain ⟨a', -, hi⟩ := it
        refine ⟨1, a', x, go 0 _ _ _ _ hi ?_⟩
        rw [if_pos rfl]
        exact ⟨mf_mf.symm, rfl⟩
      | some o =>
        obtain ⟨a', x'⟩ := o
        rw [e] at it
        have le := itmP_le e
        dsimp only at le it
        have ih := its_loop h hX hn ng f (m + 1) a' x' (by omega) (by omega) (by omega)
        have hi : E_item (mf (setX R n x) 17 (nI a)) (nI n) (mf (setX R n x') 17 (nI a')) 1 := by
          have := it
          rw [show setX (mf R 17 (nI a)) n x' = mf (setX R n x') 17 (nI a) from rfl, mf_mf] at this
          exact this
        dsimp only
        cases e2 : itsL X N ng f (m + 1) a' x' with
        | none =>
          rw [e2] at ih
          obtain ⟨nf, a2, x2, hl⟩ := ih
          refine ⟨nf + 1, a2, x2, go nf _ _ _ _ hi ?_⟩
          rw [if_neg (by decide)]; exact hl
        | some o2 =>
          rw [e2] at ih
          obtain ⟨nf, hl, b1, b2⟩ := ih
          refine ⟨nf + 1, go nf _ _ _ _ hi ?_, by omega, b2⟩
          rw [if_neg (by decide)]; exact hl
end ITS
section ESC
variable {R : RS} {X : Nat → Int32} {N a0 β u : Nat}
def mkA (R : RS) (n u kd a' g : Nat) : RS := ma (mkL R n u kd a' (0, 0)) 9 n (nI g)
theorem mkA_new {n kd a' g : Nat} : NewN R (mkA R n u kd a' g) n u (kd, g, (0, 0)) a' := by
  obtain ⟨⟨c1, c2, c3⟩, b1, b2, b3, b4, b5, b6, b7, b8, b9, b10⟩ := mkL_new (R := R) (u := u) (n := n) (kd := kd) (a' := a') (x := (0, 0))
  unfold mkA
  refine ⟨⟨c1, fun k m h => ?_, c3⟩, b1, b2, ?_, ?_, ?_, ?_, ?_, ?_, b9, b10⟩
  · rw [ma_at, if_neg (by omega)]; exact c2 k m h
  · rw [ma_at, if_neg (by omega)]; exact b3
  · rw [ma_at, if_pos (by omega)]
  · rw [ma_at, if_neg (by omega)]; exact b5
  · rw [ma_at, if_neg (by omega)]; exact b6
  · rw [ma_at, if_neg (by omega)]; exact b7
  · rw [ma_at, if_neg (by omega)]; exact b8
theorem mf17_fail {n a' : Nat} : FailN R (mf R 17 (nI a')) n := ⟨⟨fun k _ h2 => by show (if k = 17 then _ else R.1 k) = R.1 k; rw [if_neg h2], fun _ _ _ => rfl, fun _ _ _ => rfl⟩, Or.inl fun _ => rfl⟩
def escP (X : Nat → Int32) (N o : Nat) (bh : Bool) (a : Nat) : Option (Nat × Lf) :=
  if pk X N a < 49 ∨ 52 < pk X N a then
    (if pk X N a = 98 then some (a + 1, (5, 0, (0, 0))) else if pk X N a = 66 then some (a + 1, (6, 0, (0, 0)))
     else if pk X N a = 100 ∨ pk X N a = 119 then some (a + 1, (2, 0, inkP (pk X N a) (0, 0)))
     else if pk X N a = 45 ∨ ¬ spI (pk X N a) = 0 then some (a + 1, (2, 0, incP (0, 0) (pk X N a))) else none)
  else if o < (pk X N a - 48).toNatClampNeg ∨ bh then none else some (a + 1, (7, (pk X N a - 48).toNatClampNeg, (0, 0)))
theorem setX_mkL {n kd a' : Nat} {x y : Int64 × Int64} : setX (mkL R n u kd a' x) n y = mkL R n u kd a' y := by
  refine RS_ext rfl rfl (fun j m => ?_)
  unfold mkL
  show (setX (setX (crt R n u (nI kd)) n x) n y).2.2 j m = (setX (crt R n u (nI kd)) n y).2.2 j m
  rw [setX_at, setX_at, setX_at]
  by_cases a1 : j = 15 ∧ m = n
  · rw [if_pos a1, if_pos a1]
  · by_cases a2 : j = 14 ∧ m = n
    · rw [if_neg a1, if_pos a2, if_neg a1, if_pos a2]
    · simp [a1, a2]
theorem inc_mkL {n kd a' : Nat} {x : Int64 × Int64} {c : Int32} (hn : n < 96) : E_include (mkL R n u kd a' x) (nI n) c (mkL R n u kd a' (incP x c)) 0 := by
  have := inc_set (R := mkL R n u kd a' x) (x := x) (c := c) hn
  rw [setX_mkL, setX_mkL] at this; exact this
theorem ink_mkL {n kd a' : Nat} {x : Int64 × Int64} {k : Int32} (hn : n < 96) : E_includeKind (mkL R n u kd a' x) (nI n) k (mkL R n u kd a' (inkP k x)) 0 := by
  have := ink_E (R := mkL R n u kd a' x) (x := x) (kd := k) hn
  rw [setX_mkL, setX_mkL] at this; exact this
set_option maxHeartbeats 4000000 in
theorem esc_E {a o d : Nat} {bh : Bool} (h : Rd R X N a0 β u) (hX : Xok X N) (ha : a ≤ 20) (hu : u < 48) (ho : R.1 6 = nI o) (ho4 : o ≤ 4) (hd : R.1 16 = nI d) (hd4 : d ≤ 4) (hb : R.2.1 22 d = if bh then 1 else 0) :
    match escP X N o bh a with
    | some (a', l) => (∃ R', E_escape (mf R 17 (nI a)) R' (nI (48 - β + u)) ∧ NewN R R' (48 - β + u) u l a') ∧ a < a' ∧ a' ≤ N ∧ 2 ≤ l.1 ∧ l.1 ≤ 7 ∧ l.2.1 ≤ 4 ∧ (l.1 = 7 → 1 ≤ l.2.1)
    | none => ∃ R', E_escape (mf R 17 (nI a)) R' (-1) ∧ FailN R R' (48 - β + u) := by
  have hβ := h.2.2.2.2.2.2.1
  have h1 : Rd (mf R 17 (nI a)) X N a β u := h.to (by omega)
  have p0 : E_peek (mf R 17 (nI a)) 0 (mf R 17 (nI a)) (pk X N a) := peek_E (k := 0) h1 (by omega)
  have hn : 48 - β + u < 96 := by omega
  have cr : ∀ kd : Nat, E_create (mf (mf R 17 (nI a)) 17 (nI (a + 1))) (nI kd) (mkL R (48 - β + u) u kd (a + 1) (0, 0)) (nI (48 - β + u)) := fun kd => by rw [mf_mf]; exact crt_mk h hu
  have e1 : (mf R 17 (nI a)).1 17 + 1 = nI (a + 1) := (nI_succ a).symm
  obtain ⟨c', c1, c2, c3, c4⟩ := pk_n hX a
  have lt : ¬ pk X N a = 0 → a < N := pkN_lt
  unfold escP
  generalize hc : pk X N a = c at *
  by_cases q : c < 49 ∨ 52 < c
  · rw [if_pos q]
    have go : ∀ R' r, (if c = 98 then (∃ (R7 : RS) (r8 : Int32), E_create (mf (mf R 17 (nI a)) 17 (nI (a + 1))) (if c = 98 then 5 else 6 : Int32) R7 r8 ∧ (R' = R7 ∧ r = r8)) else (if c = 66 then (∃ (R57 : RS) (r58 : Int32), E_create (mf (mf R 17 (nI a)) 17 (nI (a + 1))) (if c = 98 then 5 else 6 : Int32) R57 r58 ∧ (R' = R57 ∧ r = r58)) else (if c = 100 then (∃ (R11 : RS) (r12 : Int32), E_create (mf (mf R 17 (nI a)) 17 (nI (a + 1))) 2 R11 r12 ∧ (if c = 100 then (∃ R14 : RS, E_includeKind R11 r12 c R14 0 ∧ (R' = R14 ∧ r = r12)) else (if c = 119 then (∃ R19 : RS, E_includeKind R11 r12 c R19 0 ∧ (R' = R19 ∧ r = r12)) else (∃ R17 : RS, E_include R11 r12 c R17 0 ∧ (R' = R17 ∧ r = r12))))) else (if c = 119 then (∃ (R22 : RS) (r23 : Int32), E_create (mf (mf R 17 (nI a)) 17 (nI (a + 1))) 2 R22 r23 ∧ (if c = 100 then (∃ R25 : RS, E_includeKind R22 r23 c R25 0 ∧ (R' = R25 ∧ r = r23)) else (if c = 119 then (∃ R30 : RS, E_includeKind R22 r23 c R30 0 ∧ (R' = R30 ∧ r = r23)) else (∃ R28 : RS, E_include R22 r23 c R28 0 ∧ (R' = R28 ∧ r = r23))))) else (if c = 45 then (∃ (R33 : RS) (r34 : Int32), E_create (mf (mf R 17 (nI a)) 17 (nI (a + 1))) 2 R33 r34 ∧ (if c = 100 then (∃ R36 : RS, E_includeKind R33 r34 c R36 0 ∧ (R' = R36 ∧ r = r34)) else (if c = 119 then (∃ R41 : RS, E_includeKind R33 r34 c R41 0 ∧ (R' = R41 ∧ r = r34)) else (∃ R39 : RS, E_include R33 r34 c R39 0 ∧ (R' = R39 ∧ r = r34))))) else (∃ r43 : Int32, E_isSpecial c r43 ∧ (if r43 = 0 then (R' = (mf (mf R 17 (nI a)) 17 (nI (a + 1))) ∧ r = (-1)) else (∃ (R45 : RS) (r46 : Int32), E_create (mf (mf R 17 (nI a)) 17 (nI (a + 1))) 2 R45 r46 ∧ (if c = 100 then (∃ R48 : RS, E_includeKind R45 r46 c R48 0 ∧ (R' = R48 ∧ r = r46)) else (if c = 119 then (∃ R53 : RS, E_includeKind R45 r46 c R53 0 ∧ (R' = R53 ∧ r = r46)) else (∃ R51 : RS, E_include R45 r46 c R51 0 ∧ (R' = R51 ∧ r = r46)))))))))))) → E_escape (mf R 17 (nI a)) R' r := fun R' r hh => by
      unfold E_escape
      refine ⟨_, _, p0, ?_⟩
      rw [e1]
      by_cases q1 : c < 49
      · rw [if_pos q1]; exact hh
      · rw [if_neg q1, if_pos (q.resolve_left q1)]; exact hh
    by_cases d1 : c = 98
    · rw [if_pos d1]
      refine ⟨⟨mkL R (48 - β + u) u 5 (a + 1) (0, 0), go _ _ ?_, mkL_new⟩, by omega, lt (by rw [d1]; decide), by decide, by decide, by decide, by decide⟩
      rw [if_pos d1, if_pos d1]
      exact ⟨_, _, cr 5, rfl, rfl⟩
    · rw [if_neg d1]
      by_cases d2 : c = 66
      · rw [if_pos d2]
        refine ⟨⟨mkL R (48 - β + u) u 6 (a + 1) (0, 0), go _ _ ?_, mkL_new⟩, by omega, lt (by rw [d2]; decide), by decide, by decide, by decide, by decide⟩
        rw [if_neg d1, if_pos d2, if_neg d1]
        exact ⟨_, _, cr 6, rfl, rfl⟩
      · rw [if_neg d2]
        by_cases d3 : c = 100
        · rw [if_pos (Or.inl d3)]
          refine ⟨⟨mkL R (48 - β + u) u 2 (a + 1) (inkP c (0, 0)), go _ _ ?_, mkL_new⟩, by omega, lt (by rw [d3]; decide), by show 2 ≤ 2; decide, by show 2 ≤ 7; decide, by show 0 ≤ 4; decide, fun z => absurd z (by show ¬ 2 = 7; decide)⟩
          rw [if_neg d1, if_neg d2, if_pos d3]
          refine ⟨_, _, cr 2, ?_⟩
          rw [if_pos d3]
          exact ⟨_, ink_mkL hn, rfl, rfl⟩
        · by_cases d4 : c = 119
          · rw [if_pos (Or.inr d4)]
            refine ⟨⟨mkL R (48 - β + u) u 2 (a + 1) (inkP c (0, 0)), go _ _ ?_, mkL_new⟩, by omega, lt (by rw [d4]; decide), by show 2 ≤ 2; decide, by show 2 ≤ 7; decide, by show 0 ≤ 4; decide, fun z => absurd z (by show ¬ 2 = 7; decide)⟩
            rw [if_neg d1, if_neg d2, if_neg d3, if_pos d4]
            refine ⟨_, _, cr 2, ?_⟩
            rw [if_neg d3, if_pos d4]
            exact ⟨_, ink_mkL hn, rfl, rfl⟩
          · rw [if_neg (fun z => z.elim d3 d4)]
            by_cases d5 : c = 45
            · rw [if_pos (Or.inl d5)]
              refine ⟨⟨mkL R (48 - β + u) u 2 (a + 1) (incP (0, 0) c), go _ _ ?_, mkL_new⟩, by omega, lt (by rw [d5]; decide), by show 2 ≤ 2; decide, by show 2 ≤ 7; decide, by show 0 ≤ 4; decide, fun z => absurd z (by show ¬ 2 = 7; decide)⟩
              rw [if_neg d1, if_neg d2, if_neg d3, if_neg d4, if_pos d5]
              refine ⟨_, _, cr 2, ?_⟩
              rw [if_neg d3, if_neg d4]
              exact ⟨_, inc_mkL hn, rfl, rfl⟩
            · by_cases d6 : spI c = 0
              · rw [if_neg (fun z => z.elim d5 (fun y => y d6))]
                refine ⟨mf R 17 (nI (a + 1)), go _ _ ?_, mf17_fail⟩
                rw [if_neg d1, if_neg d2, if_neg d3, if_neg d4, if_neg d5]
                refine ⟨_, sp_E c, ?_⟩
                rw [if_pos d6, mf_mf]; exact ⟨rfl, rfl⟩
              · rw [if_pos (Or.inr d6)]
                refine ⟨⟨mkL R (48 - β + u) u 2 (a + 1) (incP (0, 0) c), go _ _ ?_, mkL_new⟩, by omega, lt (fun z => d6 (by rw [z]; decide)), by show 2 ≤ 2; decide, by show 2 ≤ 7; decide, by show 0 ≤ 4; decide, fun z => absurd z (by show ¬ 2 = 7; decide)⟩
                rw [if_neg d1, if_neg d2, if_neg d3, if_neg d4, if_neg d5]
                refine ⟨_, sp_E c, ?_⟩
                rw [if_neg d6]
                refine ⟨_, _, cr 2, ?_⟩
                rw [if_neg d3, if_neg d4]
                exact ⟨_, inc_mkL hn, rfl, rfl⟩
  · rw [if_neg q]
    have q1 : ¬ c < 49 := fun z => q (Or.inl z)
    have q2 : ¬ 52 < c := fun z => q (Or.inr z)
    have k1 : 49 ≤ c' := by
      rw [c2] at q1
      rcases Nat.lt_or_ge c' 49 with z | z
      · exact absurd ((n_lt (a := c') (b := 49) (by omega) (by omega)).mpr z) q1
      · exact z
    have k2 : c' ≤ 52 := by
      rw [c2] at q2
      rcases Nat.lt_or_ge 52 c' with z | z
      · exact absurd ((n_lt (a := 52) (b := c') (by omega) (by omega)).mpr z) q2
      · exact z
    have eg : c - 48 = nI (c' - 48) := by rw [c2]; exact n_sub (a := c') (b := 48) (by omega)
    have eg' : (c - 48).toNatClampNeg = c' - 48 := by rw [eg, n_cl (by omega)]
    have v6 : vp_in (R.1 16) 6 := by rw [hd]; exact v_in (by omega) (by omega)
    have e16 : (R.1 16).toNatClampNeg = d := by rw [hd, n_cl (by omega)]
    rw [eg']
    have go : ∀ R' r, (if nI o < nI (c' - 48) then (R' = (mf (mf R 17 (nI a)) 17 (nI (a + 1))) ∧ r = (-1)) else (if R.2.1 22 d = 0 then (∃ (R117 : RS) (r118 : Int32), E_create (mf (mf R 17 (nI a)) 17 (nI (a + 1))) 7 R117 r118 ∧ (vp_in r118 96 ∧ (R' = (ma R117 9 r118.toNatClampNeg (nI (c' - 48))) ∧ r = r118))) else (R' = (mf (mf R 17 (nI a)) 17 (nI (a + 1))) ∧ r = (-1)))) → E_escape (mf R 17 (nI a)) R' r := fun R' r hh => by
      unfold E_escape
      refine ⟨_, _, p0, ?_⟩
      rw [if_neg q1, if_neg q2, e1, eg]
      show if R.1 6 < nI (c' - 48) then _ else _
      rw [ho]
      by_cases g : nI o < nI (c' - 48)
      · rw [if_pos g] at hh ⊢; exact hh
      · rw [if_neg g] at hh ⊢
        refine ⟨v6, ?_⟩
        show if R.2.1 22 (R.1 16).toNatClampNeg = 0 then _ else _
        rw [e16]; exact hh
    by_cases g : o < c' - 48
    · rw [if_pos (Or.inl g)]
      refine ⟨mf R 17 (nI (a + 1)), go _ _ ?_, mf17_fail⟩
      rw [if_pos ((n_lt (by omega) (by omega)).mpr g), mf_mf]; exact ⟨rfl, rfl⟩
    · have g' : ¬ nI o < nI (c' - 48) := fun z => g ((n_lt (by omega) (by omega)).mp z)
      cases bh with
      | true =>
        rw [if_pos (Or.inr rfl)]
        refine ⟨mf R 17 (nI (a + 1)), go _ _ ?_, mf17_fail⟩
        rw [if_neg g', hb, if_neg (by decide), mf_mf]; exact ⟨rfl, rfl⟩
      | false =>
        rw [if_neg (fun z => z.elim g (fun y => by cases y))]
        refine ⟨⟨mkA R (48 - β + u) u 7 (a + 1) (c' - 48), go _ _ ?_, mkA_new⟩, by omega, lt (by rw [c2]; exact fun z => by have := (n_eq (a := c') (b := 0) (by omega) (by omega)).mp z; omega), by show 2 ≤ 7; decide, by show 7 ≤ 7; decide, by show c' - 48 ≤ 4; omega, fun _ => by show 1 ≤ c' - 48; omega⟩
        rw [if_neg g', hb, if_pos (show (if false = true then (1 : Int32) else 0) = 0 from rfl)]
        refine ⟨_, _, cr 7, v_in hn (by omega), ?_, rfl⟩
        rw [n_cl (by omega)]; rfl
end ESC
section ATM
variable {R : RS} {X : Nat → Int32} {N a0 β u : Nat}
def itsP (X : Nat → Int32) (N a : Nat) : Option (Nat × (Int64 × Int64)) := if pk X N a = 94 then itsL X N true 16 0 (a + 1) (0, 0) else itsL X N false 16 0 a (0, 0)
theorem mkL_fail {n kd a' : Nat} {x : Int64 × Int64} (hk : kd ≤ 6) : FailN R (mkL R n u kd a' x) n := by
  have h := mkL_new (R := R) (u := u) (n := n) (kd := kd) (a' := a') (x := x)
  exact ⟨h.1, Or.inr (h.ok (by show kd ≤ 15; omega) (by show 0 ≤ 4; omega) (by show kd = 7 ∨ kd = 8 → 1 ≤ 0; omega))⟩
theorem its_E {a : Nat} (h : Rd R X N a0 β u) (hX : Xok X N) (ha : a ≤ N) (hu : u < 48) :
    match itsP X N a with
    | some (a', x) => E_items (mf R 17 (nI a)) (mkL R (48 - β + u) u 2 a' x) (nI (48 - β + u)) ∧ a < a' ∧ a' ≤ N
    | none => ∃ a' x, E_items (mf R 17 (nI a)) (mkL R (48 - β + u) u 2 a' x) (-1) := by
  have hβ := h.2.2.2.2.2.2.1
  have hN := h.2.2.1
  have hn : 48 - β + u < 96 := by omega
  have cr := crt_mk (R := R) (kd := 2) (a' := a) h hu
  have hc : Rd (crt R (48 - β + u) u (nI 2)) X N a0 β (u + 1) := crt_Rd h
  have h1 : Rd (mf (setX (crt R (48 - β + u) u (nI 2)) (48 - β + u) (0, 0)) 17 (nI a)) X N a β (u + 1) := (hc.setX).to (by omega)
  have p0 := peek_E (k := 0) h1 (by omega)
  have go : ∀ R' r, (if pk X N a = 94 then (∃ nf : Nat, L_items_38 nf (mf (setX (crt R (48 - β + u) u (nI 2)) (48 - β + u) (0, 0)) 17 (nI (a + 1))) (nI (48 - β + u)) 1 (nI 0) R' r) else (∃ nf : Nat, L_items_38 nf (mf (setX (crt R (48 - β + u) u (nI 2)) (48 - β + u) (0, 0)) 17 (nI a)) (nI (48 - β + u)) 0 (nI 0) R' r)) → E_items (mf R 17 (nI a)) R' r := fun R' r hh => by
    unfold E_items
    refine ⟨_, _, cr, _, _, p0, ?_⟩
    by_cases c : pk X N a = 94
    · rw [if_pos c] at hh
      rw [show pk X N (a + 0) = pk X N a from rfl, if_pos c, if_neg (by decide)]
      have e1 : (mkL R (48 - β + u) u 2 a (0, 0)).1 17 + 1 = nI (a + 1) := (nI_succ a).symm
      obtain ⟨nf, hh⟩ := hh
      refine ⟨nf, ?_⟩
      show L_items_38 nf (mf (mf (setX (crt R (48 - β + u) u (nI 2)) (48 - β + u) (0, 0)) 17 (nI a)) 17 ((mkL R (48 - β + u) u 2 a (0, 0)).1 17 + 1)) _ _ _ R' r
      rw [e1, mf_mf]; exact hh
    · rw [if_neg c] at hh
      rw [show pk X N (a + 0) = pk X N a from rfl, if_neg c, if_pos rfl]
      exact hh
  unfold itsP
  by_cases c : pk X N a = 94
  · rw [if_pos c]
    have := pkN_lt (X := X) (N := N) (i := a) (by rw [c]; decide)
    have l := its_loop hc hX hn true 16 0 (a + 1) (0, 0) (by omega) (by omega) (by omega)
    cases e : itsL X N true 16 0 (a + 1) (0, 0) with
    | none =>
      rw [e] at l
      obtain ⟨nf, a', x', hl⟩ := l
      refine ⟨a', x', go _ _ ?_⟩
      rw [if_pos c]; exact ⟨nf, hl⟩
    | some o =>
      rw [e] at l
      obtain ⟨nf, hl, b1, b2⟩ := l
      refine ⟨go _ _ ?_, by omega, b2⟩
      rw [if_pos c]; exact ⟨nf, hl⟩
  · rw [if_neg c]
    have l := its_loop hc hX hn false 16 0 a (0, 0) (by omega) (by omega) (by omega)
    cases e : itsL X N false 16 0 a (0, 0) with
    | none =>
      rw [e] at l
      obtain ⟨nf, a', x', hl⟩ := l
      refine ⟨a', x', go _ _ ?_⟩
      rw [if_neg c]; exact ⟨nf, hl⟩
    | some o =>
      rw [e] at l
      obtain ⟨nf, hl, b1, b2⟩ := l
      refine ⟨go _ _ ?_, by omega, b2⟩
      rw [if_neg c]; exact ⟨nf, hl⟩
def atmP (X : Nat → Int32) (N o : Nat) (bh : Bool) (a : Nat) : Option (Nat × Lf) :=
  if pk X N a = 92 then escP X N o bh (a + 1) else if pk X N a = 91 then (match itsP X N (a + 1) with | some (a', x) => some (a', (2, 0, x)) | none => none)
  else if pk X N a = 94 then some (a + 1, (3, 0, (0, 0))) else if pk X N a = 36 then some (a + 1, (4, 0, (0, 0))) else if pk X N a = 46 then some (a + 1, (2, 0, inkP 46 (0, 0)))
  else if spI (pk X N a) = 0 then some (a + 1, (2, 0, incP (0, 0) (pk X N a))) else none
set_option maxHeartbeats 4000000 in
theorem atm_E {a o d : Nat} {bh : Bool} (h : Rd R X N a β u) (hX : Xok X N) (ha : a < N) (hu : u < 48) (ho : R.1 6 = nI o) (ho4 : o ≤ 4) (hd : R.1 16 = nI d) (hd4 : d ≤ 4) (hb : R.2.1 22 d = if bh then 1 else 0) :
    match atmP X N o bh a with
    | some (a', l) => (∃ R', E_atom R (pk X N a) R' (nI (48 - β + u)) ∧ NewN R R' (48 - β + u) u l a') ∧ a < a' ∧ a' ≤ N ∧ 2 ≤ l.1 ∧ l.1 ≤ 7 ∧ l.2.1 ≤ 4 ∧ (l.1 = 7 → 1 ≤ l.2.1)
    | none => ∃ R', E_atom R (pk X N a) R' (-1) ∧ FailN R R' (48 - β + u) := by
  have hβ := h.2.2.2.2.2.2.1
  have hN := h.2.2.1
  have hn : 48 - β + u < 96 := by omega
  have e1 : R.1 17 + 1 = nI (a + 1) := by rw [h.2.2.2.1]; exact (nI_succ a).symm
  have cr : ∀ kd : Nat, E_create (mf R 17 (nI (a + 1))) (nI kd) (mkL R (48 - β + u) u kd (a + 1) (0, 0)) (nI (48 - β + u)) := fun kd => crt_mk h hu
  have es := esc_E (a := a + 1) (o := o) (d := d) (bh := bh) h hX (by omega) hu ho ho4 hd hd4 hb
  have it := its_E (a := a + 1) h hX (by omega) hu
  unfold atmP E_atom
  rw [e1]
  generalize hc : pk X N a = c at *
  by_cases d1 : c = 92
  · rw [if_pos d1]
    cases e : escP X N o bh (a + 1) with
    | none =>
      rw [e] at es
      obtain ⟨R', r1, r2⟩ := es
      refine ⟨R', ?_, r2⟩
      rw [if_pos d1]; exact ⟨_, _, r1, rfl, rfl⟩
    | some w =>
      rw [e] at es
      obtain ⟨⟨R', r1, r2⟩, q1, q2, q3⟩ := es
      refine ⟨⟨R', ?_, r2⟩, by omega, q2, q3⟩
      rw [if_pos d1]; exact ⟨_, _, r1, rfl, rfl⟩
  · rw [if_neg d1]
    by_cases d2 : c = 91
    · rw [if_pos d2]
      cases e : itsP X N (a + 1) with
      | none =>
        rw [e] at it
        obtain ⟨a', x, r1⟩ := it
        refine ⟨_, ?_, mkL_fail (a' := a') (x := x) (kd := 2) (u := u) (by omega)⟩
        rw [if_neg d1, if_pos d2]; exact ⟨_, _, r1, rfl, rfl⟩
      | some w =>
        rw [e] at it
        obtain ⟨r1, q1, q2⟩ := it
        refine ⟨⟨_, ?_, mkL_new⟩, by omega, q2, by show 2 ≤ 2; decide, by show 2 ≤ 7; decide, by show 0 ≤ 4; decide, fun z => absurd z (by show ¬ 2 = 7; decide)⟩
        rw [if_neg d1, if_pos d2]; exact ⟨_, _, r1, rfl, rfl⟩
    · rw [if_neg d2]
      by_cases d3 : c = 94
      · rw [if_pos d3]
        refine ⟨⟨mkL R (48 - β + u) u 3 (a + 1) (0, 0), ?_, mkL_new⟩, by omega, by omega, by decide, by decide, by decide, by decide⟩
        rw [if_neg d1, if_neg d2, if_pos d3]; exact ⟨_, _, cr 3, rfl, rfl⟩
      · rw [if_neg d3]
        by_cases d4 : c = 36
        · rw [if_pos d4]
          refine ⟨⟨mkL R (48 - β + u) u 4 (a + 1) (0, 0), ?_, mkL_new⟩, by omega, by omega, by decide, by decide, by decide, by decide⟩
          rw [if_neg d1, if_neg d2, if_neg d3, if_pos d4]; exact ⟨_, _, cr 4, rfl, rfl⟩
        · rw [if_neg d4]
          by_cases d5 : c = 46
          · rw [if_pos d5]
            refine ⟨⟨mkL R (48 - β + u) u 2 (a + 1) (inkP 46 (0, 0)), ?_, mkL_new⟩, by omega, by omega, by show 2 ≤ 2; decide, by show 2 ≤ 7; decide, by show 0 ≤ 4; decide, fun z => absurd z (by show ¬ 2 = 7; decide)⟩
            rw [if_neg d1, if_neg d2, if_neg d3, if_neg d4, if_pos d5]
            refine ⟨_, _, cr 2, ?_⟩
            rw [if_pos d5]; exact ⟨_, ink_mkL hn, rfl, rfl⟩
          · rw [if_neg d5]
            by_cases d6 : spI c = 0
            · rw [if_pos d6]
              refine ⟨⟨mkL R (48 - β + u) u 2 (a + 1) (incP (0, 0) c), ?_, mkL_new⟩, by omega, by omega, by show 2 ≤ 2; decide, by show 2 ≤ 7; decide, by show 0 ≤ 4; decide, fun z => absurd z (by show ¬ 2 = 7; decide)⟩
              rw [if_neg d1, if_neg d2, if_neg d3, if_neg d4, if_neg d5]
              refine ⟨_, sp_E c, ?_⟩
              rw [if_pos d6]
              refine ⟨_, _, cr 2, ?_⟩
              rw [if_neg d5]; exact ⟨_, inc_mkL hn, rfl, rfl⟩
            · rw [if_neg d6]
              refine ⟨_, ?_, mf17_fail (a' := a + 1)⟩
              rw [if_neg d1, if_neg d2, if_neg d3, if_neg d4, if_neg d5]
              refine ⟨_, sp_E c, ?_⟩
              rw [if_neg d6]; exact ⟨rfl, rfl⟩
end ATM
