/-! bounds of a loop -/
theorem RS_ext2 {R R' : RS} (h1 : R.1 = R'.1) (h2 : ∀ j m, R.2.1 j m = R'.2.1 j m) (h3 : R.2.2 = R'.2.2) : R = R' := by
  obtain ⟨a, b, c⟩ := R
  obtain ⟨a', b', c'⟩ := R'
  dsimp only at h1 h2 h3
  subst h1; subst h3
  have : b = b' := by funext j m; exact h2 j m
  rw [this]
def bS (R : RS) (n : Nat) (x y : Int32) (p : Nat) : RS := mf (ma (ma R 9 n x) 10 n y) 17 (nI p)
section BND
variable {R : RS} {X : Nat → Int32} {N a0 β u n : Nat}
theorem bS_9 {x y z : Int32} {p : Nat} : ma (bS R n x y p) 9 n z = bS R n z y p := by
  refine RS_ext2 rfl (fun j m => ?_) rfl
  unfold bS
  show (ma (ma (ma R 9 n x) 10 n y) 9 n z).2.1 j m = (ma (ma R 9 n z) 10 n y).2.1 j m
  rw [ma_at, ma_at, ma_at, ma_at, ma_at]
  by_cases a1 : j = 9 ∧ m = n
  · simp [a1]
  · simp [a1]
theorem bS_10 {x y z : Int32} {p : Nat} : ma (bS R n x y p) 10 n z = bS R n x z p := by
  refine RS_ext2 rfl (fun j m => ?_) rfl
  unfold bS
  show (ma (ma (ma R 9 n x) 10 n y) 10 n z).2.1 j m = (ma (ma R 9 n x) 10 n z).2.1 j m
  rw [ma_at, ma_at, ma_at, ma_at, ma_at]
  by_cases a1 : j = 10 ∧ m = n
  · simp [a1]
  · simp [a1]
theorem bS_17 {x y : Int32} {p p' : Nat} : mf (bS R n x y p) 17 (nI p') = bS R n x y p' := by
  unfold bS; rw [mf_mf]
theorem bS_g9 {x y : Int32} {p : Nat} : (bS R n x y p).2.1 9 n = x := by
  show (ma (ma R 9 n x) 10 n y).2.1 9 n = x
  rw [ma_at, ma_at]; simp
theorem bS_g10 {x y : Int32} {p : Nat} : (bS R n x y p).2.1 10 n = y := by
  show (ma (ma R 9 n x) 10 n y).2.1 10 n = y
  rw [ma_at]; simp
theorem bS_Rd {x y : Int32} {p : Nat} (h : Rd R X N a0 β u) (hp : p ≤ 40) : Rd (bS R n x y p) X N p β u := by
  obtain ⟨h1, h2, h3, h4, h5, h6, h7, h8⟩ := h
  refine ⟨?_, ?_, h3, rfl, hp, h6, h7, h8⟩
  · funext m
    show (ma (ma R 9 n x) 10 n y).2.1 1 m = _
    rw [ma_at, if_neg (by omega), ma_at, if_neg (by omega), ← h1]
  · show (ma (ma R 9 n x) 10 n y).2.1 2 0 = _
    rw [ma_at, if_neg (by omega), ma_at, if_neg (by omega), ← h2]
def foN (c : Int32) : Nat := (c - 48).toNatClampNeg
theorem fo_n {X : Nat → Int32} {N i : Nat} (hX : Xok X N) (h : ¬ foI (pk X N i) = 0) : i < N ∧ pk X N i - 48 = nI (foN (pk X N i)) ∧ foN (pk X N i) ≤ 4 := by
  obtain ⟨c, c1, c2, c3, c4⟩ := pk_n hX i
  rw [c2] at h
  unfold foI at h
  have k1 : 48 ≤ c := by
    rcases Nat.lt_or_ge c 48 with z | z
    · rw [if_pos (show nI c < 48 from (n_lt (a := c) (b := 48) (by omega) (by omega)).mpr z)] at h; exact absurd rfl h
    · exact z
  rw [if_neg (fun z => by have := (n_lt (a := c) (b := 48) (by omega) (by omega)).mp z; omega)] at h
  have k2 : c ≤ 52 := by
    rcases Nat.lt_or_ge 52 c with z | z
    · rw [if_pos (show 52 < nI c from (n_lt (a := 52) (b := c) (by omega) (by omega)).mpr z)] at h; exact absurd rfl h
    · exact z
  have e : pk X N i - 48 = nI (c - 48) := by rw [c2]; exact n_sub (a := c) (b := 48) (by omega)
  have e2 : foN (pk X N i) = c - 48 := by unfold foN; rw [e, n_cl (by omega)]
  refine ⟨?_, by rw [e2]; exact e, by omega⟩
  rcases Nat.lt_or_ge i N with z | z
  · exact z
  · have := c4 z; omega
def bndP (X : Nat → Int32) (N a : Nat) : Option (Nat × Nat × Option Nat) :=
  if foI (pk X N a) = 0 then none
  else if pk X N (a + 1) = 44 then
    (if foI (pk X N (a + 2)) = 0 then (if pk X N (a + 2) = 125 then some (a + 3, foN (pk X N a), none) else none)
     else if pk X N (a + 3) = 125 then (if foN (pk X N (a + 2)) < foN (pk X N a) then none else some (a + 4, foN (pk X N a), some (foN (pk X N (a + 2))))) else none)
  else if pk X N (a + 1) = 125 then some (a + 2, foN (pk X N a), some (foN (pk X N a))) else none
set_option maxHeartbeats 4000000 in
theorem bnd_E {a : Nat} {x0 y0 : Int32} (h : Rd R X N a0 β u) (hX : Xok X N) (ha : a ≤ 30) (hn : n < 96) (hx0 : ∃ k, k ≤ 4 ∧ x0 = nI k) (hy0 : y0 = -1 ∨ ∃ k, k < 5 ∧ y0 = nI k) :
    match bndP X N a with
    | some (a', lo, hi) => E_bounds (bS R n x0 y0 a) (nI n) (bS R n (nI lo) (iO hi) a') 1 ∧ a' ≤ N ∧ lo ≤ 4 ∧ (∀ M, hi = some M → lo ≤ M ∧ M ≤ 4) ∧ (hi = none → a + 3 ≤ a') ∧ ∀ M, hi = some M → (M = lo ∧ a + 2 ≤ a') ∨ a + 4 ≤ a'
    | none => ∃ x y p, E_bounds (bS R n x0 y0 a) (nI n) (bS R n x y p) 0 ∧ (∃ k, k ≤ 4 ∧ x = nI k) ∧ (y = -1 ∨ ∃ k, k < 5 ∧ y = nI k) := by
  have v : vp_in (nI n) 96 := v_in hn (by omega)
  have pe : ∀ (x y : Int32) (p k : Nat), p ≤ 40 → k ≤ 5 → E_peek (bS R n x y p) (nI k) (bS R n x y p) (pk X N (p + k)) := fun x y p k h1 h2 => peek_E (bS_Rd h h1) h2
  have pm : ∀ (x y : Int32) (p : Nat), p ≤ 39 → E_peek (bS R n x y (p + 1)) (-1) (bS R n x y (p + 1)) (pk X N p) := fun x y p h1 => peekm_E (bS_Rd h (by omega))
  have s17 : ∀ (x y : Int32) (p : Nat), (bS R n x y p).1 17 + 1 = nI (p + 1) := fun x y p => (nI_succ p).symm
  have cl : (nI n).toNatClampNeg = n := n_cl (by omega)
  unfold bndP
  by_cases c0 : foI (pk X N a) = 0
  · rw [if_pos c0]
    refine ⟨x0, y0, a, ?_, hx0, hy0⟩
    unfold E_bounds
    refine ⟨_, _, pe _ _ a 0 (by omega) (by omega), _, fo_E _, ?_⟩
    rw [if_pos (by exact c0)]; exact ⟨rfl, rfl⟩
  · rw [if_neg c0]
    obtain ⟨l1, l2, l3⟩ := fo_n hX c0
    have st : ∀ R' r, (∃ (R7 : RS) (r8 : Int32), E_peek (bS R n (nI (foN (pk X N a))) (nI (foN (pk X N a))) (a + 1)) 0 R7 r8 ∧ (if r8 = 44 then (∃ (R16 : RS) (r17 : Int32), E_peek (mf R7 17 ((R7.1 17) + 1)) 0 R16 r17 ∧ (∃ r18 : Int32, E_isFour r17 r18 ∧ (if r18 = 0 then (∃ (R22 : RS) (r23 : Int32), E_peek (mf (mf (ma R16 10 n (-1)) 17 ((R16.1 17) + (if ((ma R16 10 n (-1)).2.1 10 n) = (-1) then 0 else 1 : Int32))) 17 (((R16.1 17) + (if ((ma R16 10 n (-1)).2.1 10 n) = (-1) then 0 else 1 : Int32)) + 1)) (-1) R22 r23 ∧ (if r23 = 125 then (if (R22.2.1 10 n) = (-1) then (R' = R22 ∧ r = 1) else (narrow .boolean (.int (if (R22.2.1 10 n) < (R22.2.1 9 n) then 0 else 1 : Int32)) = .int (if (R22.2.1 10 n) < (R22.2.1 9 n) then 0 else 1 : Int32) ∧ R' = R22 ∧ r = (if (R22.2.1 10 n) < (R22.2.1 9 n) then 0 else 1 : Int32))) else (R' = R22 ∧ r = 0))) else (∃ (R28 : RS) (r29 : Int32), E_peek R16 0 R28 r29 ∧ ((∃ (R32 : RS) (r33 : Int32), E_peek (mf (mf (ma R28 10 n (r29 - 48)) 17 ((R28.1 17) + (if ((ma R28 10 n (r29 - 48)).2.1 10 n) = (-1) then 0 else 1 : Int32))) 17 (((R28.1 17) + (if ((ma R28 10 n (r29 - 48)).2.1 10 n) = (-1) then 0 else 1 : Int32)) + 1)) (-1) R32 r33 ∧ (if r33 = 125 then (if (R32.2.1 10 n) = (-1) then (R' = R32 ∧ r = 1) else (narrow .boolean (.int (if (R32.2.1 10 n) < (R32.2.1 9 n) then 0 else 1 : Int32)) = .int (if (R32.2.1 10 n) < (R32.2.1 9 n) then 0 else 1 : Int32) ∧ R' = R32 ∧ r = (if (R32.2.1 10 n) < (R32.2.1 9 n) then 0 else 1 : Int32))) else (R' = R32 ∧ r = 0)))))))) else (∃ (R10 : RS) (r11 : Int32), E_peek (mf R7 17 ((R7.1 17) + 1)) (-1) R10 r11 ∧ (if r11 = 125 then (if (R10.2.1 10 n) = (-1) then (R' = R10 ∧ r = 1) else (narrow .boolean (.int (if (R10.2.1 10 n) < (R10.2.1 9 n) then 0 else 1 : Int32)) = .int (if (R10.2.1 10 n) < (R10.2.1 9 n) then 0 else 1 : Int32) ∧ R' = R10 ∧ r = (if (R10.2.1 10 n) < (R10.2.1 9 n) then 0 else 1 : Int32))) else (R' = R10 ∧ r = 0))))) → E_bounds (bS R n x0 y0 a) (nI n) R' r := fun R' r hh => by
      unfold E_bounds
      rw [cl]
      refine ⟨_, _, pe _ _ a 0 (by omega) (by omega), _, fo_E _, ?_⟩
      rw [if_neg (by exact c0)]
      refine ⟨_, _, pe _ _ a 0 (by omega) (by omega), v, v, v, ?_⟩
      rw [show pk X N (a + 0) = pk X N a from rfl, l2, bS_9, bS_10, bS_g9, s17, bS_17]
      obtain ⟨R7, r8, q1, q2⟩ := hh
      refine ⟨R7, r8, q1, ?_⟩
      by_cases w : r8 = 44
      · rw [if_pos w] at q2 ⊢
        obtain ⟨R16, r17, q3, r18, q4, q5⟩ := q2
        refine ⟨R16, r17, q3, r18, q4, ?_⟩
        by_cases w2 : r18 = 0
        · rw [if_pos w2] at q5 ⊢
          obtain ⟨R22, r23, q6, q7⟩ := q5
          refine ⟨v, v, R22, r23, q6, ?_⟩
          by_cases w3 : r23 = 125
          · rw [if_pos w3] at q7 ⊢
            refine ⟨v, ?_⟩
            by_cases w4 : R22.2.1 10 n = -1
            · rw [if_pos w4] at q7 ⊢; exact q7
            · rw [if_neg w4] at q7 ⊢; exact ⟨v, v, q7⟩
          · rw [if_neg w3] at q7 ⊢; exact q7
        · rw [if_neg w2] at q5 ⊢
          obtain ⟨R28, r29, q8, R32, r33, q6, q7⟩ := q5
          refine ⟨R28, r29, q8, v, v, R32, r33, q6, ?_⟩
          by_cases w3 : r33 = 125
          · rw [if_pos w3] at q7 ⊢
            refine ⟨v, ?_⟩
            by_cases w4 : R32.2.1 10 n = -1
            · rw [if_pos w4] at q7 ⊢; exact q7
            · rw [if_neg w4] at q7 ⊢; exact ⟨v, v, q7⟩
          · rw [if_neg w3] at q7 ⊢; exact q7
      · rw [if_neg w] at q2 ⊢
        obtain ⟨R22, r23, q6, q7⟩ := q2
        refine ⟨R22, r23, q6, ?_⟩
        by_cases w3 : r23 = 125
        · rw [if_pos w3] at q7 ⊢
          refine ⟨v, ?_⟩
          by_cases w4 : R22.2.1 10 n = -1
          · rw [if_pos w4] at q7 ⊢; exact q7
          · rw [if_neg w4] at q7 ⊢; exact ⟨v, v, q7⟩
        · rw [if_neg w3] at q7 ⊢; exact q7
    have nm1 : ∀ k : Nat, k ≤ 4 → ¬ nI k = -1 := fun k hk z => by
      have : (nI k).toNatClampNeg = (-1 : Int32).toNatClampNeg ∧ nI k = -1 := ⟨by rw [z], z⟩
      have h2 : ∀ j : Fin 5, ¬ nI j.1 = -1 := by decide
      exact h2 ⟨k, by omega⟩ z
    by_cases c1 : pk X N (a + 1) = 44
    · rw [if_pos c1]
      have a1 : a + 1 < N := pkN_lt (by rw [c1]; decide)
      by_cases c2 : foI (pk X N (a + 2)) = 0
      · rw [if_pos c2]
        have go : ∀ R' r, (if pk X N (a + 2) = 125 then (R' = bS R n (nI (foN (pk X N a))) (-1) (a + 3) ∧ r = 1) else (R' = bS R n (nI (foN (pk X N a))) (-1) (a + 3) ∧ r = 0)) → E_bounds (bS R n x0 y0 a) (nI n) R' r := fun R' r hh => by
          refine st R' r ⟨_, _, pe _ _ (a + 1) 0 (by omega) (by omega), ?_⟩
          rw [if_pos (by exact c1), s17, bS_17]
          refine ⟨_, _, pe _ _ (a + 2) 0 (by omega) (by omega), _, fo_E _, ?_⟩
          rw [if_pos (by exact c2), bS_10, bS_g10, if_pos rfl]
          rw [show (bS R n (nI (foN (pk X N a))) (nI (foN (pk X N a))) (a + 1 + 1)).1 17 = nI (a + 2) from rfl, show nI (a + 2) + 0 = nI (a + 2) from Int32.add_zero _, bS_17, ← nI_succ, bS_17]
          refine ⟨_, _, pm _ _ (a + 2) (by omega), ?_⟩
          by_cases w : pk X N (a + 2) = 125
          · rw [if_pos w] at hh ⊢; rw [bS_g10, if_pos rfl]; exact hh
          · rw [if_neg w] at hh ⊢; exact hh
        by_cases w : pk X N (a + 2) = 125
        · rw [if_pos w]
          have := pkN_lt (X := X) (N := N) (i := a + 2) (by rw [w]; decide)
          refine ⟨go _ _ ?_, by omega, l3, fun M hM => (by cases hM), fun _ => Nat.le_refl _, fun M hM => (by cases hM)⟩
          rw [if_pos w]; exact ⟨rfl, rfl⟩
        · rw [if_neg w]
          refine ⟨_, _, a + 3, go _ _ ?_, ⟨_, l3, rfl⟩, Or.inl rfl⟩
          rw [if_neg w]; exact ⟨rfl, rfl⟩
      · rw [if_neg c2]
        obtain ⟨m1, m2, m3⟩ := fo_n hX c2
        have go : ∀ R' r, (if pk X N (a + 3) = 125 then (R' = bS R n (nI (foN (pk X N a))) (nI (foN (pk X N (a + 2)))) (a + 4) ∧ r = (if nI (foN (pk X N (a + 2))) < nI (foN (pk X N a)) then 0 else 1 : Int32)) else (R' = bS R n (nI (foN (pk X N a))) (nI (foN (pk X N (a + 2)))) (a + 4) ∧ r = 0)) → E_bounds (bS R n x0 y0 a) (nI n) R' r := fun R' r hh => by
          refine st R' r ⟨_, _, pe _ _ (a + 1) 0 (by omega) (by omega), ?_⟩
          rw [if_pos (by exact c1), s17, bS_17]
          refine ⟨_, _, pe _ _ (a + 2) 0 (by omega) (by omega), _, fo_E _, ?_⟩
          rw [if_neg (by exact c2)]
          refine ⟨_, _, pe _ _ (a + 2) 0 (by omega) (by omega), ?_⟩
          rw [show pk X N (a + 2 + 0) = pk X N (a + 2) from rfl, m2, bS_10, bS_g10, if_neg (nm1 _ m3)]
          rw [show (bS R n (nI (foN (pk X N a))) (nI (foN (pk X N a))) (a + 1 + 1)).1 17 = nI (a + 2) from rfl, ← nI_succ, bS_17, ← nI_succ, bS_17]
          refine ⟨_, _, pm _ _ (a + 3) (by omega), ?_⟩
          by_cases w : pk X N (a + 3) = 125
          · rw [if_pos w] at hh ⊢; rw [bS_g10, if_neg (nm1 _ m3), bS_g9]
            refine ⟨?_, hh⟩
            by_cases w2 : nI (foN (pk X N (a + 2))) < nI (foN (pk X N a))
            · rw [if_pos w2]; exact nar01 (Or.inl rfl)
            · rw [if_neg w2]; exact nar01 (Or.inr rfl)
          · rw [if_neg w] at hh ⊢; exact hh
        by_cases w : pk X N (a + 3) = 125
        · rw [if_pos w]
          have := pkN_lt (X := X) (N := N) (i := a + 3) (by rw [w]; decide)
          by_cases w2 : foN (pk X N (a + 2)) < foN (pk X N a)
          · rw [if_pos w2]
            refine ⟨_, _, a + 4, go _ _ ?_, ⟨_, l3, rfl⟩, Or.inr ⟨foN (pk X N (a + 2)), by omega, rfl⟩⟩
            rw [if_pos w, if_pos ((n_lt (by omega) (by omega)).mpr w2)]; exact ⟨rfl, rfl⟩
          · rw [if_neg w2]
            refine ⟨go _ _ ?_, by omega, l3, fun M hM => (by cases hM; omega), fun z => (by cases z), fun M hM => Or.inr (Nat.le_refl _)⟩
            rw [if_pos w, if_neg (fun z => w2 ((n_lt (by omega) (by omega)).mp z))]; exact ⟨rfl, rfl⟩
        · rw [if_neg w]
          refine ⟨_, _, a + 4, go _ _ ?_, ⟨_, l3, rfl⟩, Or.inr ⟨foN (pk X N (a + 2)), by omega, rfl⟩⟩
          rw [if_neg w]; exact ⟨rfl, rfl⟩
    · rw [if_neg c1]
      have go : ∀ R' r, (if pk X N (a + 1) = 125 then (R' = bS R n (nI (foN (pk X N a))) (nI (foN (pk X N a))) (a + 2) ∧ r = 1) else (R' = bS R n (nI (foN (pk X N a))) (nI (foN (pk X N a))) (a + 2) ∧ r = 0)) → E_bounds (bS R n x0 y0 a) (nI n) R' r := fun R' r hh => by
        refine st R' r ⟨_, _, pe _ _ (a + 1) 0 (by omega) (by omega), ?_⟩
        rw [if_neg (by exact c1), s17, bS_17]
        refine ⟨_, _, pm _ _ (a + 1) (by omega), ?_⟩
        by_cases w : pk X N (a + 1) = 125
        · rw [if_pos w] at hh ⊢; rw [bS_g10, if_neg (nm1 _ l3), bS_g9, if_neg (fun z => by have := (n_lt (by omega) (by omega)).mp z; omega)]
          exact ⟨nar01 (Or.inr rfl), hh⟩
        · rw [if_neg w] at hh ⊢; exact hh
      by_cases w : pk X N (a + 1) = 125
      · rw [if_pos w]
        have := pkN_lt (X := X) (N := N) (i := a + 1) (by rw [w]; decide)
        refine ⟨go _ _ ?_, by omega, l3, fun M hM => (by cases hM; omega), fun z => (by cases z), fun M hM => Or.inl (by cases hM; exact ⟨rfl, Nat.le_refl _⟩)⟩
        rw [if_pos w]; exact ⟨rfl, rfl⟩
      · rw [if_neg w]
        refine ⟨_, _, a + 2, go _ _ ?_, ⟨_, l3, rfl⟩, Or.inr ⟨foN (pk X N a), by omega, rfl⟩⟩
        rw [if_neg w]; exact ⟨rfl, rfl⟩
end BND
