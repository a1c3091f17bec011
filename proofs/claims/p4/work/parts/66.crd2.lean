/-! the class's reader: loops -/
def isLpc (c : Int32) : Prop := c = 63 ∨ c = 42 ∨ c = 43 ∨ c = 123
/-- the place behind a loop's bounds -/
def lpB (X : Nat → Int32) (N : Nat) (bh : Bool) (a : Nat) : Option Nat :=
  if pk X N a = 123 then (match bndP X N (a + 1) with | none => none | some (p, _, hi) => if hi = none ∧ bh = true then none else some p)
  else if pk X N a = 63 then some (a + 1) else if bh = true then none else some (a + 1)
theorem lopQ_no {X : Nat → Int32} {N a : Nat} {bh : Bool} (h : ¬ isLpc (pk X N a)) : lopQ X N bh a = some (a, none) := by
  unfold lopQ
  rw [if_neg (fun z => h (Or.inr (Or.inr (Or.inr z)))), if_neg (fun z => h (Or.inl z)), if_neg (fun z => h (Or.inr (Or.inl z))), if_neg (fun z => h (Or.inr (Or.inr (Or.inl z))))]
theorem lopQ_yes {X : Nat → Int32} {N a : Nat} {bh : Bool} (h : isLpc (pk X N a)) : match lpB X N bh a with
    | none => lopQ X N bh a = none
    | some p => ∃ l, lopQ X N bh a = some (p + (if mdI (pk X N p) = 0 then 0 else 1), some l) := by
  unfold lpB lopQ
  by_cases c1 : pk X N a = 123
  · rw [if_pos c1, if_pos c1]
    cases e : bndP X N (a + 1) with
    | none => rfl
    | some w =>
      obtain ⟨p, lo, hi⟩ := w
      dsimp only
      unfold lopE
      by_cases z : hi = none ∧ bh = true
      · rw [if_pos z, if_pos z]
      · rw [if_neg z, if_neg z]; exact ⟨_, rfl⟩
  · rw [if_neg c1, if_neg c1]
    by_cases c2 : pk X N a = 63
    · rw [if_pos c2, if_pos c2]
      unfold lopE
      rw [if_neg (fun z => by cases z.1)]; exact ⟨_, rfl⟩
    · rw [if_neg c2, if_neg c2]
      have h2 : lopQ X N bh a = lopQ X N bh a := rfl
      by_cases b : bh = true
      · rw [if_pos b]
        by_cases c3 : pk X N a = 42
        · rw [if_pos c3]; unfold lopE; rw [if_pos ⟨rfl, b⟩]
        · rw [if_neg c3, if_pos (((h.resolve_left c2).resolve_left c3).resolve_right c1)]; unfold lopE; rw [if_pos ⟨rfl, b⟩]
      · rw [if_neg b]
        by_cases c3 : pk X N a = 42
        · rw [if_pos c3]; unfold lopE; rw [if_neg (fun z => b z.2)]; exact ⟨_, rfl⟩
        · rw [if_neg c3, if_pos (((h.resolve_left c2).resolve_left c3).resolve_right c1)]; unfold lopE; rw [if_neg (fun z => b z.2)]; exact ⟨_, rfl⟩
section RLP
variable {Q : QS} {a v o n J : Nat} {g : Nat → Int32}
theorem fo_iff {c : Nat} (hc : c ≤ 126) : (¬ foI (nI c) = 0) ↔ (¬ nI c < 48 ∧ nI c ≤ 52) := by
  have h : ∀ j : Fin 127, (¬ foI (nI j.1) = 0) ↔ (¬ nI j.1 < 48 ∧ nI j.1 ≤ 52) := by decide +kernel
  exact h ⟨c, by omega⟩
theorem count_r {bd : Int32} (hJ : J ≤ 14) (hX : Xok g J) (h : St Q a bd v o n) (ha : a ≤ 50) : ∃ Q', E_r_count J g Q Q' (pk g J a - 48) ∧ (if foI (pk g J a) = 0 then St Q' (a + 1) 1 v o n else St Q' (a + 1) bd v o n) ∧ ∀ k, k ≠ 2 → k ≠ 3 → Q'.1 k = Q.1 k := by
  obtain ⟨c, c1, c2, -⟩ := pk_n hX a
  have ff := fo_iff c1
  rw [← c2] at ff
  have es : nI a + 1 = nI (a + 1) := (nI_succ a).symm
  unfold E_r_count
  rw [h.1, rw_pk hJ (by omega), es]
  by_cases d1 : pk g J a < 48
  · refine ⟨rf (rf Q 2 (nI (a + 1))) 3 1, ?_, ?_, fun k h2 h3 => ?_⟩
    · rw [if_pos d1]; exact ⟨rfl, rfl⟩
    · rw [if_pos (Classical.byContradiction fun z => (ff.mp z).1 d1)]; exact h.atx.bad
    · show (if k = 3 then _ else if k = 2 then _ else Q.1 k) = _; rw [if_neg h3, if_neg h2]
  · by_cases d2 : pk g J a ≤ 52
    · refine ⟨rf Q 2 (nI (a + 1)), ?_, ?_, fun k h2 h3 => ?_⟩
      · rw [if_neg d1, if_pos d2]; exact ⟨rfl, rfl⟩
      · rw [if_neg (ff.mpr ⟨d1, d2⟩)]; exact h.atx
      · show (if k = 2 then _ else Q.1 k) = _; rw [if_neg h2]
    · refine ⟨rf (rf Q 2 (nI (a + 1))) 3 1, ?_, ?_, fun k h2 h3 => ?_⟩
      · rw [if_neg d1, if_neg d2]; exact ⟨rfl, rfl⟩
      · rw [if_pos (Classical.byContradiction fun z => d2 (ff.mp z).2)]; exact h.atx.bad
      · show (if k = 3 then _ else if k = 2 then _ else Q.1 k) = _; rw [if_neg h3, if_neg h2]
/-- counts in braces: as the bounds, or bad -/
theorem counts_r (hJ : J ≤ 14) (hX : Xok g J) (h : St Q a 0 v o n) (ha : a ≤ 30) : ∃ Q', E_r_readCounts J g Q Q' 0 ∧ ((∃ p lo hi, bndP g J a = some (p, lo, hi) ∧ St Q' p 0 v o n ∧ Q'.1 8 = nI lo ∧ Q'.1 9 = iO hi ∧ lo ≤ 4 ∧ ∀ M, hi = some M → lo ≤ M ∧ M ≤ 4) ∨ (bndP g J a = none ∧ ((∃ p, p ≤ 60 ∧ St Q' p 1 v o n) ∨ ∃ p lo M, p ≤ 60 ∧ St Q' p 0 v o n ∧ Q'.1 8 = nI lo ∧ Q'.1 9 = nI M ∧ M < lo ∧ lo ≤ 4))) := by
  obtain ⟨Q1, t1, t2, t3⟩ := count_r hJ hX h (by omega)
  have up : ∀ {Q1 : QS} {p : Nat} {bd : Int32} {x y : Int32}, St Q1 p bd v o n → St (rf (rf Q1 8 x) 9 y) p bd v o n := fun s => (s.rfx (by omega) (by omega) (by omega) (by omega)).rfx (by omega) (by omega) (by omega) (by omega)
  unfold bndP
  by_cases c0 : foI (pk g J a) = 0
  · rw [if_pos c0] at t2
    -- bad from here on
    have t2' := up (x := pk g J a - 48) (y := pk g J a - 48) t2
    obtain ⟨Q3, r, u1, u2, u3, u4⟩ := take_r (c := 44) hJ t2' (by omega)
    have fin : ∀ {Q9 : QS} {p : Nat}, p ≤ 50 → St Q9 p 1 v o n → ∃ Q', E_r_expect J g Q9 125 Q' 0 ∧ ∃ p, p ≤ 60 ∧ St Q' p 1 v o n := fun hp s => by
      obtain ⟨Q', w1, w2, -⟩ := expect_r (c := 125) hJ s (by omega)
      refine ⟨Q', w1, ?_⟩
      split at w2
      · exact ⟨_, by omega, w2⟩
      · exact ⟨_, by omega, w2⟩
    by_cases c1 : pk g J (a + 1) = 44
    · rw [if_pos c1] at u2
      obtain ⟨e1, s3⟩ := u2
      by_cases c2 : pk g J (a + 2) = 125
      · obtain ⟨Q', w1, w2⟩ := fin (by omega) (s3.rfx (k := 9) (x := -1) (by omega) (by omega) (by omega) (by omega))
        refine ⟨Q', ⟨Q1, _, t1, Q3, r, u1, ?_⟩, Or.inr ⟨if_pos c0, Or.inl w2⟩⟩
        rw [e1, if_neg (by decide), s3.1, rw_pk hJ (by omega), if_pos c2]
        exact ⟨Q', w1, rfl, rfl⟩
      · obtain ⟨Q9, x1, x2, -⟩ := count_r hJ hX s3 (by omega)
        have s9 : St Q9 (a + 1 + 1 + 1) 1 v o n := by split at x2 <;> exact x2
        obtain ⟨Q', w1, w2⟩ := fin (by omega) (s9.rfx (k := 9) (x := pk g J (a + 1 + 1) - 48) (by omega) (by omega) (by omega) (by omega))
        refine ⟨Q', ⟨Q1, _, t1, Q3, r, u1, ?_⟩, Or.inr ⟨if_pos c0, Or.inl w2⟩⟩
        rw [e1, if_neg (by decide), s3.1, rw_pk hJ (by omega), if_neg c2]
        exact ⟨Q9, _, x1, Q', w1, rfl, rfl⟩
    · rw [if_neg c1] at u2
      obtain ⟨e1, s3⟩ := u2
      obtain ⟨Q', w1, w2⟩ := fin (by omega) s3
      refine ⟨Q', ⟨Q1, _, t1, Q3, r, u1, ?_⟩, Or.inr ⟨if_pos c0, Or.inl w2⟩⟩
      rw [e1, if_pos rfl]
      exact ⟨Q', w1, rfl, rfl⟩
  · rw [if_neg c0] at t2
    obtain ⟨l1, l2, l3⟩ := fo_n hX c0
    have t2' := up (x := pk g J a - 48) (y := pk g J a - 48) t2
    obtain ⟨Q3, r, u1, u2, u3, u4⟩ := take_r (c := 44) hJ t2' (by omega)
    have q8 : Q3.1 8 = nI (foN (pk g J a)) := by rw [u4 8 (by omega), ← l2]; rfl
    have q9 : Q3.1 9 = nI (foN (pk g J a)) := by rw [u4 9 (by omega), ← l2]; rfl
    rw [if_neg c0]
    by_cases c1 : pk g J (a + 1) = 44
    · rw [if_pos c1] at u2 ⊢
      obtain ⟨e1, s3⟩ := u2
      have nf : foI (125 : Int32) = 0 := by decide
      by_cases c2 : pk g J (a + 2) = 125
      · obtain ⟨Q', w1, w2, -, w4⟩ := expect_r (c := 125) hJ (s3.rfx (k := 9) (x := -1) (by omega) (by omega) (by omega) (by omega)) (by omega)
        rw [if_pos (by exact c2)] at w2
        refine ⟨Q', ⟨Q1, _, t1, Q3, r, u1, ?_⟩, Or.inl ⟨a + 3, foN (pk g J a), none, ?_, w2, ?_, ?_, l3, fun M hM => by cases hM⟩⟩
        · rw [e1, if_neg (by decide), s3.1, rw_pk hJ (by omega), if_pos (by exact c2)]
          exact ⟨Q', w1, rfl, rfl⟩
        · rw [if_pos (by rw [c2]; exact nf), if_pos c2]
        · rw [w4 8 (by omega) (by omega)]; exact q8
        · rw [w4 9 (by omega) (by omega)]; rfl
      · obtain ⟨Q9, x1, x2, x3⟩ := count_r hJ hX s3 (by omega)
        by_cases c3 : foI (pk g J (a + 2)) = 0
        · have x2' : St Q9 (a + 1 + 1 + 1) 1 v o n := by rw [if_pos (by exact c3)] at x2; exact x2
          obtain ⟨Q', w1, w2, -⟩ := expect_r (c := 125) hJ (x2'.rfx (k := 9) (x := pk g J (a + 1 + 1) - 48) (by omega) (by omega) (by omega) (by omega)) (by omega)
          refine ⟨Q', ⟨Q1, _, t1, Q3, r, u1, ?_⟩, Or.inr ⟨?_, Or.inl ?_⟩⟩
          · rw [e1, if_neg (by decide), s3.1, rw_pk hJ (by omega), if_neg (by exact c2)]
            exact ⟨Q9, _, x1, Q', w1, rfl, rfl⟩
          · rw [if_pos c3, if_neg c2]
          · split at w2
            · exact ⟨_, by omega, w2⟩
            · exact ⟨_, by omega, w2⟩
        · have x2' : St Q9 (a + 1 + 1 + 1) 0 v o n := by rw [if_neg (by exact c3)] at x2; exact x2
          obtain ⟨m1, m2, m3⟩ := fo_n hX c3
          obtain ⟨Q', w1, w2, -, w4⟩ := expect_r (c := 125) hJ (x2'.rfx (k := 9) (x := pk g J (a + 1 + 1) - 48) (by omega) (by omega) (by omega) (by omega)) (by omega)
          have e8 : Q'.1 8 = nI (foN (pk g J a)) := by
            rw [w4 8 (by omega) (by omega)]
            show Q9.1 8 = _
            rw [x3 8 (by omega) (by omega)]; exact q8
          have e9 : Q'.1 9 = nI (foN (pk g J (a + 2))) := by
            rw [w4 9 (by omega) (by omega), ← m2]; rfl
          have hE : E_r_readCounts J g Q Q' 0 := by
            refine ⟨Q1, _, t1, Q3, r, u1, ?_⟩
            rw [e1, if_neg (by decide), s3.1, rw_pk hJ (by omega), if_neg (by exact c2)]
            exact ⟨Q9, _, x1, Q', w1, rfl, rfl⟩
          rw [if_neg c3]
          by_cases c4 : pk g J (a + 3) = 125
          · rw [if_pos (by exact c4)] at w2
            rw [if_pos c4]
            by_cases c5 : foN (pk g J (a + 2)) < foN (pk g J a)
            · rw [if_pos c5]
              exact ⟨Q', hE, Or.inr ⟨rfl, Or.inr ⟨_, _, _, by omega, w2, e8, e9, c5, l3⟩⟩⟩
            · rw [if_neg c5]
              exact ⟨Q', hE, Or.inl ⟨_, _, _, rfl, w2, e8, e9, l3, fun M hM => by cases hM; omega⟩⟩
          · rw [if_neg (by exact c4)] at w2
            rw [if_neg c4]
            exact ⟨Q', hE, Or.inr ⟨rfl, Or.inl ⟨_, by omega, w2⟩⟩⟩
    · rw [if_neg c1] at u2 ⊢
      obtain ⟨e1, s3⟩ := u2
      obtain ⟨Q', w1, w2, -, w4⟩ := expect_r (c := 125) hJ s3 (by omega)
      have hE : E_r_readCounts J g Q Q' 0 := by
        refine ⟨Q1, _, t1, Q3, r, u1, ?_⟩
        rw [e1, if_pos rfl]
        exact ⟨Q', w1, rfl, rfl⟩
      by_cases c4 : pk g J (a + 1) = 125
      · rw [if_pos c4] at w2
        rw [if_pos c4]
        refine ⟨Q', hE, Or.inl ⟨_, _, _, rfl, w2, ?_, ?_, l3, fun M hM => by cases hM; omega⟩⟩
        · rw [w4 8 (by omega) (by omega)]; exact q8
        · rw [w4 9 (by omega) (by omega)]; exact q9
      · rw [if_neg c4] at w2
        rw [if_neg c4]
        exact ⟨Q', hE, Or.inr ⟨rfl, Or.inl ⟨_, by omega, w2⟩⟩⟩
end RLP
