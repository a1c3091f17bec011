/-! a node more, as a leaf -/
def nodeOK (R : RS) (n : Nat) : Prop := ∃ k a m : Nat, R.2.1 8 n = nI k ∧ k ≤ 15 ∧ R.2.1 9 n = nI a ∧ a ≤ 4 ∧ (k = 7 ∨ k = 8 → 1 ≤ a) ∧ (R.2.1 10 n = -1 ∨ ∃ b, b < 5 ∧ R.2.1 10 n = nI b) ∧ R.2.1 11 n = nI m ∧ m ≤ 2 ∧ (R.2.1 12 n = -1 ∨ ∃ b, b < 96 ∧ R.2.1 12 n = nI b) ∧ (R.2.1 13 n = -1 ∨ ∃ b, b < 96 ∧ R.2.1 13 n = nI b)
/-- only the node n, the count of nodes and the place have changed -/
def Chg (R R' : RS) (n : Nat) : Prop := (∀ k, k ≠ 4 → k ≠ 17 → R'.1 k = R.1 k) ∧ (∀ k m, m ≠ n ∨ k < 8 ∨ 13 < k → R'.2.1 k m = R.2.1 k m) ∧ ∀ k m, m ≠ n → R'.2.2 k m = R.2.2 k m
def NewN (R R' : RS) (n u : Nat) (l : Lf) (a' : Nat) : Prop := Chg R R' n ∧ R'.1 4 = nI (u + 1) ∧ R'.1 17 = nI a' ∧ R'.2.1 8 n = nI l.1 ∧ R'.2.1 9 n = nI l.2.1 ∧ R'.2.1 10 n = 0 ∧ R'.2.1 11 n = 0 ∧ R'.2.1 12 n = -1 ∧ R'.2.1 13 n = -1 ∧ R'.2.2 14 n = l.2.2.1 ∧ R'.2.2 15 n = l.2.2.2
/-- a reading that fails: the node n as it was, or fit -/
def FailN (R R' : RS) (n : Nat) : Prop := Chg R R' n ∧ ((∀ k, R'.2.1 k n = R.2.1 k n) ∨ nodeOK R' n)
theorem NewN.ok {R R' : RS} {n u : Nat} {l : Lf} {a' : Nat} (h : NewN R R' n u l a') (h1 : l.1 ≤ 15) (h2 : l.2.1 ≤ 4) (h3 : l.1 = 7 ∨ l.1 = 8 → 1 ≤ l.2.1) : nodeOK R' n := by
  obtain ⟨-, -, -, a1, a2, a3, a4, a5, a6, -⟩ := h
  exact ⟨l.1, l.2.1, 0, a1, h1, a2, h2, h3, Or.inr ⟨0, by omega, a3⟩, a4, by omega, Or.inl a5, Or.inl a6⟩
section NEW
variable {R : RS} {X : Nat → Int32} {N a β u : Nat}
/-- the state behind create and what sets a leaf's characters -/
def mkL (R : RS) (n u kd a' : Nat) (x : Int64 × Int64) : RS := mf (setX (crt R n u (nI kd)) n x) 17 (nI a')
theorem mkL_new {n kd a' : Nat} {x : Int64 × Int64} : NewN R (mkL R n u kd a' x) n u (kd, 0, x) a' := by
  unfold mkL NewN Chg crt
  refine ⟨⟨fun k h1 h2 => ?_, fun k m h => ?_, fun k m h => ?_⟩, ?_, ?_, ?_, ?_, ?_, ?_, ?_, ?_, ?_, ?_⟩
  · show (if k = 17 then _ else if k = 4 then _ else R.1 k) = R.1 k
    rw [if_neg h2, if_neg h1]
  · show (ma (ma (ma (ma (ma (ma (mf R 4 (nI (u + 1))) 8 n (nI kd)) 9 n 0) 10 n 0) 11 n 0) 12 n (-1)) 13 n (-1)).2.1 k m = _
    rw [ma_at, if_neg (by omega), ma_at, if_neg (by omega), ma_at, if_neg (by omega), ma_at, if_neg (by omega), ma_at, if_neg (by omega), ma_at, if_neg (by omega)]; rfl
  · show (setX _ n x).2.2 k m = _
    rw [setX_at, if_neg (by omega), if_neg (by omega), ml_at, if_neg (by omega), ml_at, if_neg (by omega)]; rfl
  · rfl
  · rfl
  · show (ma (ma (ma (ma (ma (ma (mf R 4 (nI (u + 1))) 8 n (nI kd)) 9 n 0) 10 n 0) 11 n 0) 12 n (-1)) 13 n (-1)).2.1 8 n = _
    simp [ma_at]
  · show (ma (ma (ma (ma (ma (ma (mf R 4 (nI (u + 1))) 8 n (nI kd)) 9 n 0) 10 n 0) 11 n 0) 12 n (-1)) 13 n (-1)).2.1 9 n = _
    simp [ma_at]; rfl
  · show (ma (ma (ma (ma (ma (ma (mf R 4 (nI (u + 1))) 8 n (nI kd)) 9 n 0) 10 n 0) 11 n 0) 12 n (-1)) 13 n (-1)).2.1 10 n = _
    simp [ma_at]
  · show (ma (ma (ma (ma (ma (ma (mf R 4 (nI (u + 1))) 8 n (nI kd)) 9 n 0) 10 n 0) 11 n 0) 12 n (-1)) 13 n (-1)).2.1 11 n = _
    simp [ma_at]
  · show (ma (ma (ma (ma (ma (ma (mf R 4 (nI (u + 1))) 8 n (nI kd)) 9 n 0) 10 n 0) 11 n 0) 12 n (-1)) 13 n (-1)).2.1 12 n = _
    simp [ma_at]
  · show (ma (ma (ma (ma (ma (ma (mf R 4 (nI (u + 1))) 8 n (nI kd)) 9 n 0) 10 n 0) 11 n 0) 12 n (-1)) 13 n (-1)).2.1 13 n = _
    simp [ma_at]
  · show (setX _ n x).2.2 14 n = _
    rw [setX_at]; simp
  · show (setX _ n x).2.2 15 n = _
    rw [setX_at]; simp
theorem upd_self {f : Nat → Int32} {k : Nat} {x : Int32} (h : f k = x) : upd f k x = f := by
  funext j; unfold upd; split
  · rename_i e; rw [e, h]
  · rfl
/-- create, the place already moved -/
theorem crt_mk {kd a' : Nat} (h : Rd R X N a β u) (hu : u < 48) : E_create (mf R 17 (nI a')) (nI kd) (mkL R (48 - β + u) u kd a' (0, 0)) (nI (48 - β + u)) := by
  have hx : Rd (mf R 17 (nI (a' % 41))) X N (a' % 41) β u := h.to (by omega)
  have e := crt_E (R := mf R 17 (nI a')) (kd := nI kd) (X := X) (N := N) (a := a) (β := β) (u := u)
  obtain ⟨h1, h2, h3, h4, h5, h6, h7, h8⟩ := h
  have e2 : (48 - R.1 3) + R.1 4 = nI (48 - β + u) := by
    rw [h6, h8, show (48 : Int32) = nI 48 from rfl, n_sub (by omega), n_add]
  have v : vp_in ((48 - R.1 3) + R.1 4) 96 := by rw [e2]; exact v_in (by omega) (by omega)
  unfold E_create
  refine ⟨v, v, v, v, v, v, v, v, ?_, e2.symm⟩
  show mkL R (48 - β + u) u kd a' (0, 0) = ml (ml (ma (ma (ma (ma (ma (ma (mf (mf R 17 (nI a')) 4 (R.1 4 + 1)) 8 (((48 - R.1 3) + R.1 4).toNatClampNeg) (nI kd)) 9 (((48 - R.1 3) + R.1 4).toNatClampNeg) 0) 10 (((48 - R.1 3) + R.1 4).toNatClampNeg) 0) 11 (((48 - R.1 3) + R.1 4).toNatClampNeg) 0) 12 (((48 - R.1 3) + R.1 4).toNatClampNeg) (-1)) 13 (((48 - R.1 3) + R.1 4).toNatClampNeg) (-1)) 14 (((48 - R.1 3) + R.1 4).toNatClampNeg) 0) 15 (((48 - R.1 3) + R.1 4).toNatClampNeg) 0
  rw [e2, n_cl (by omega), h8, show nI u + 1 = nI (u + 1) from (nI_succ u).symm]
  refine RS_ext ?_ rfl (fun j m => ?_)
  · funext j
    show (if j = 17 then nI a' else if j = 4 then nI (u + 1) else R.1 j) = (if j = 4 then nI (u + 1) else if j = 17 then nI a' else R.1 j)
    by_cases j4 : j = 4
    · subst j4; rfl
    · rw [if_neg j4, if_neg j4]
  · show (setX (crt R (48 - β + u) u (nI kd)) (48 - β + u) (0, 0)).2.2 j m = (ml (ml R 14 (48 - β + u) 0) 15 (48 - β + u) 0).2.2 j m
    rw [setX_at, ml_at, ml_at]
    show (if j = 15 ∧ m = 48 - β + u then (0 : Int64) else if j = 14 ∧ m = 48 - β + u then (0 : Int64) else (ml (ml R 14 (48 - β + u) 0) 15 (48 - β + u) 0).2.2 j m) = _
    by_cases a1 : j = 15 ∧ m = 48 - β + u
    · simp [a1]
    · by_cases a2 : j = 14 ∧ m = 48 - β + u
      · simp [a2]
      · rw [if_neg a1, if_neg a2, ml_at, if_neg a1, ml_at, if_neg a2]; simp [a1, a2]
end NEW
