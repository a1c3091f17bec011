/-! the class's reader: items, escapes -/
def itmA (X : Nat → Int32) (N a : Nat) : Option Nat :=
  if pk X N a = 92 then
    (if pk X N (a + 1) = 100 ∨ pk X N (a + 1) = 119 then some (a + 2) else if pk X N (a + 1) = 0 then none else if baI (pk X N (a + 1)) = 0 then none else some (a + 2))
  else if baI (pk X N a) = 0 then
    (if pk X N (a + 1) = 45 then (if baI (pk X N (a + 2)) = 0 then (if pk X N a ≤ pk X N (a + 2) then some (a + 3) else none) else none) else some (a + 1))
  else none
theorem itm_A {X : Nat → Int32} {N a : Nat} {x : Int64 × Int64} : (itmP X N a x).map Prod.fst = itmA X N a := by
  unfold itmP itmA
  repeat' split
  all_goals rfl
def itsA (X : Nat → Int32) (N : Nat) : Nat → Nat → Nat → Option Nat
  | 0, _, _ => none
  | f + 1, m, a => if pk X N a = 93 then (if m = 0 then none else some (a + 1)) else match itmA X N a with
    | none => none
    | some a' => itsA X N f (m + 1) a'
theorem its_A {X : Nat → Int32} {N : Nat} {ng : Bool} : ∀ (f m a : Nat) (x : Int64 × Int64), (itsL X N ng f m a x).map Prod.fst = itsA X N f m a
  | 0, _, _, _ => rfl
  | f + 1, m, a, x => by
    unfold itsL itsA
    by_cases c : pk X N a = 93
    · rw [if_pos c, if_pos c]
      by_cases m0 : m = 0
      · rw [if_pos m0, if_pos m0]; rfl
      · rw [if_neg m0, if_neg m0]; rfl
    · rw [if_neg c, if_neg c]
      have e := itm_A (X := X) (N := N) (a := a) (x := x)
      cases h : itmP X N a x with
      | none => rw [h] at e; rw [← e]; rfl
      | some w => rw [h] at e; rw [← e]; exact its_A f (m + 1) w.1 w.2
theorem itmA_le {X : Nat → Int32} {N a a' : Nat} (h : itmA X N a = some a') : a < a' ∧ a' ≤ N := by
  have e := itm_A (X := X) (N := N) (a := a) (x := (0, 0))
  rw [h] at e
  cases h2 : itmP X N a (0, 0) with
  | none => rw [h2] at e; cases e
  | some w =>
    rw [h2] at e
    have := itmP_le h2
    cases e; exact this
section RIT
variable {Q : QS} {a v o n J : Nat} {g : Nat → Int32}
theorem isItem_r {bd : Int32} {c : Nat} (hc : c ≤ 126) (h : St Q a bd v o n) : ∃ r, E_r_isItem J g Q (nI c) Q r ∧ ((r = 1 ∧ baI (nI c) = 0) ∨ (r = 0 ∧ ¬ baI (nI c) = 0)) := by
  have z := zix1 hc
  unfold E_r_isItem
  by_cases c0 : nI c = 0
  · exact ⟨0, by rw [if_pos c0]; exact ⟨rfl, rfl⟩, Or.inr ⟨rfl, fun y => (z.mp y).1 c0⟩⟩
  · by_cases c1 : 0 ≤ zix 1 (nI c)
    · exact ⟨0, by rw [if_neg c0, if_pos c1]; exact ⟨rfl, rfl⟩, Or.inr ⟨rfl, fun y => (z.mp y).2 c1⟩⟩
    · exact ⟨1, by rw [if_neg c0, if_neg c1]; exact ⟨rfl, rfl⟩, Or.inl ⟨rfl, z.mpr ⟨c0, c1⟩⟩⟩
theorem itmL_r {x1 : Int32} {d : Nat} (hd : d ≤ 126) : ∀ (m c : Nat) (Q : QS), c + m = d + 1 → St Q a 0 v o n → ∃ Q', L_r_item_93 J g (m + 1) Q x1 (nI d) (nI c) Q' 0 ∧ St Q' a 0 v o n
  | 0, c, Q, hm, h => ⟨Q, by rw [L_r_item_93.eq_2, if_pos ((n_lt (by omega) (by omega)).mpr (by omega))]; exact ⟨rfl, rfl⟩, h⟩
  | m + 1, c, Q, hm, h => by
    obtain ⟨Q1, t1, t2⟩ := addItem_r (J := J) (g := g) (c := nI c) h
    obtain ⟨Q', s1, s2⟩ := itmL_r (x1 := x1) hd m (c + 1) Q1 (by omega) t2
    refine ⟨Q', ?_, s2⟩
    rw [L_r_item_93.eq_2, if_neg (fun z => by have := (n_lt (by omega) (by omega)).mp z; omega), show nI c + 1 = nI (c + 1) from (nI_succ c).symm]
    exact ⟨Q1, t1, s1⟩
theorem item_r (hJ : J ≤ 14) (hX : Xok g J) (h : St Q a 0 v o n) (ha : a ≤ 20) : ∃ Q', E_r_item J g Q Q' 0 ∧ match itmA g J a with
    | some a' => St Q' a' 0 v o n
    | none => ∃ p, p ≤ 60 ∧ St Q' p 1 v o n := by
  have es : nI a + 1 = nI (a + 1) := (nI_succ a).symm
  have es1 : nI (a + 1) + 1 = nI (a + 2) := (nI_succ (a + 1)).symm
  obtain ⟨c, c1, c2, -⟩ := pk_n hX a
  have s1 : St (rf Q 2 (nI (a + 1))) (a + 1) 0 v o n := h.atx
  unfold itmA
  by_cases c0 : pk g J a = 92
  · rw [if_pos c0]
    obtain ⟨d, d1, d2, -⟩ := pk_n hX (a + 1)
    have z1 := zix1 d1
    have z2 := zix1' d1
    rw [← d2] at z1 z2
    have s2 : St (rf (rf Q 2 (nI (a + 1))) 2 (nI (a + 2))) (a + 2) 0 v o n := s1.atx
    have go : ∀ Q', E_r_escapedItem J g (rf Q 2 (nI (a + 1))) Q' 0 → E_r_item J g Q Q' 0 := fun Q' hh => by
      unfold E_r_item
      rw [h.1, rw_pk hJ (by omega), if_pos c0, es]
      exact ⟨Q', hh, rfl, rfl⟩
    have ge : ∀ Q', (if pk g J (a + 1) = 100 then (if pk g J (a + 1) = 119 then (Q' = (rl (rl (rf (rf Q 2 (nI (a + 1))) 2 (nI (a + 2))) 6 ((Q.2.1 6) ||| 287948901175001088)) 7 ((Q.2.1 7) ||| 576460745995190270)) ∧ (0 : Int32) = 0) else (Q' = (rl (rl (rf (rf Q 2 (nI (a + 1))) 2 (nI (a + 2))) 6 ((Q.2.1 6) ||| 287948901175001088)) 7 ((Q.2.1 7) ||| 0)) ∧ (0 : Int32) = 0)) else (if pk g J (a + 1) = 119 then (if pk g J (a + 1) = 119 then (Q' = (rl (rl (rf (rf Q 2 (nI (a + 1))) 2 (nI (a + 2))) 6 ((Q.2.1 6) ||| 287948901175001088)) 7 ((Q.2.1 7) ||| 576460745995190270)) ∧ (0 : Int32) = 0) else (Q' = (rl (rl (rf (rf Q 2 (nI (a + 1))) 2 (nI (a + 2))) 6 ((Q.2.1 6) ||| 287948901175001088)) 7 ((Q.2.1 7) ||| 0)) ∧ (0 : Int32) = 0)) else (if (zix 1 (pk g J (a + 1))) < 0 then (Q' = (rf (rf (rf Q 2 (nI (a + 1))) 2 (nI (a + 2))) 3 1) ∧ (0 : Int32) = 0) else (∃ Q5 : QS, E_r_addItem J g (rf (rf Q 2 (nI (a + 1))) 2 (nI (a + 2))) (pk g J (a + 1)) Q5 0 ∧ (Q' = Q5 ∧ (0 : Int32) = 0))))) → E_r_escapedItem J g (rf Q 2 (nI (a + 1))) Q' 0 := fun Q' hh => by
      unfold E_r_escapedItem
      rw [show (rf Q 2 (nI (a + 1))).1 2 = nI (a + 1) from rfl, rw_pk hJ (by omega), es1]
      exact hh
    by_cases e1 : pk g J (a + 1) = 100
    · rw [if_pos (Or.inl e1)]
      refine ⟨_, go _ (ge _ ?_), (s2.rlx (k := 6) (x := (Q.2.1 6) ||| 287948901175001088)).rlx (k := 7) (x := (Q.2.1 7) ||| 0)⟩
      rw [if_pos e1, if_neg (by rw [e1]; decide)]; exact ⟨rfl, rfl⟩
    · by_cases e2 : pk g J (a + 1) = 119
      · rw [if_pos (Or.inr e2)]
        refine ⟨_, go _ (ge _ ?_), (s2.rlx (k := 6) (x := (Q.2.1 6) ||| 287948901175001088)).rlx (k := 7) (x := (Q.2.1 7) ||| 576460745995190270)⟩
        rw [if_neg e1, if_pos e2, if_pos e2]; exact ⟨rfl, rfl⟩
      · rw [if_neg (fun z => z.elim e1 e2)]
        by_cases e3 : pk g J (a + 1) = 0
        · rw [if_pos e3]
          have zz : zix 1 (pk g J (a + 1)) < 0 := by rw [e3]; decide
          refine ⟨_, go _ (ge _ ?_), a + 2, by omega, s2.bad (x := 1)⟩
          rw [if_neg e1, if_neg e2, if_pos zz]; exact ⟨rfl, rfl⟩
        · rw [if_neg e3]
          by_cases e4 : baI (pk g J (a + 1)) = 0
          · rw [if_pos e4]
            have zz : zix 1 (pk g J (a + 1)) < 0 := z2.mpr (z1.mp e4).2
            refine ⟨_, go _ (ge _ ?_), a + 2, by omega, s2.bad (x := 1)⟩
            rw [if_neg e1, if_neg e2, if_pos zz]; exact ⟨rfl, rfl⟩
          · rw [if_neg e4]
            have zz : ¬ zix 1 (pk g J (a + 1)) < 0 := fun y => e4 (z1.mpr ⟨e3, z2.mp y⟩)
            obtain ⟨Q5, t1, t2⟩ := addItem_r (J := J) (g := g) (c := pk g J (a + 1)) s2
            refine ⟨Q5, go _ (ge _ ?_), t2⟩
            rw [if_neg e1, if_neg e2, if_neg zz]; exact ⟨Q5, t1, rfl, rfl⟩
  · rw [if_neg c0]
    obtain ⟨Q2, r3, t1, t2, t3, t4⟩ := take_r (c := 45) hJ s1 (by omega)
    by_cases c4 : pk g J (a + 1) = 45
    · rw [if_pos c4] at t2
      obtain ⟨t2, s2⟩ := t2
      obtain ⟨d, d1, d2, -⟩ := pk_n hX (a + 2)
      have s3 : St (rf Q2 2 (nI (a + 3))) (a + 3) 0 v o n := s2.atx
      obtain ⟨r13, i1, i2⟩ := isItem_r (J := J) (g := g) c1 s3
      obtain ⟨r16, j1, j2⟩ := isItem_r (J := J) (g := g) d1 s3
      rw [← c2] at i1 i2
      rw [← d2] at j1 j2
      have go : ∀ Q', (if r13 = 0 then (Q' = (rf (rf Q2 2 (nI (a + 3))) 3 1) ∧ (0 : Int32) = 0) else (if r16 = 0 then (Q' = (rf (rf Q2 2 (nI (a + 3))) 3 1) ∧ (0 : Int32) = 0) else (if pk g J a ≤ pk g J (a + 2) then (∃ nf : Nat, L_r_item_93 J g nf (rf Q2 2 (nI (a + 3))) (pk g J a) (pk g J (a + 2)) (pk g J a) Q' 0) else (Q' = (rf (rf Q2 2 (nI (a + 3))) 3 1) ∧ (0 : Int32) = 0)))) → E_r_item J g Q Q' 0 := fun Q' hh => by
        unfold E_r_item
        rw [h.1, rw_pk hJ (by omega), if_neg c0, es]
        refine ⟨Q2, r3, t1, ?_⟩
        rw [t2, if_neg (by decide), s2.1, show nI (a + 1 + 1) + 1 = nI (a + 3) from (nI_succ (a + 2)).symm, rw_pk hJ (by omega)]
        refine ⟨_, r13, i1, ?_⟩
        by_cases z : r13 = 0
        · rw [if_pos z] at hh ⊢; exact hh
        · rw [if_neg z] at hh ⊢
          refine ⟨_, r16, j1, ?_⟩
          by_cases z2 : r16 = 0
          · rw [if_pos z2] at hh ⊢; exact hh
          · rw [if_neg z2] at hh ⊢; exact hh
      rcases i2 with ⟨i2, i3⟩ | ⟨i2, i3⟩
      · rw [if_pos i3, if_pos c4]
        have n13 : ¬ r13 = 0 := by rw [i2]; decide
        rcases j2 with ⟨j2, j3⟩ | ⟨j2, j3⟩
        · rw [if_pos j3]
          have n16 : ¬ r16 = 0 := by rw [j2]; decide
          by_cases le : pk g J a ≤ pk g J (a + 2)
          · rw [if_pos le]
            have hle : c ≤ d := by rw [c2, d2] at le; exact (n_le (by omega) (by omega)).mp le
            obtain ⟨Q', s4, s5⟩ := itmL_r (J := J) (g := g) (x1 := nI c) (a := a + 3) d1 (d + 1 - c) c (rf Q2 2 (nI (a + 3))) (by omega) s3
            refine ⟨Q', go _ ?_, s5⟩
            rw [if_neg n13, if_neg n16, if_pos le, c2, d2]; exact ⟨_, s4⟩
          · rw [if_neg le]
            refine ⟨_, go _ ?_, a + 3, by omega, s3.bad (x := 1)⟩
            rw [if_neg n13, if_neg n16, if_neg le]; exact ⟨rfl, rfl⟩
        · rw [if_neg j3]
          refine ⟨_, go _ ?_, a + 3, by omega, s3.bad (x := 1)⟩
          rw [if_neg n13, if_pos j2]; exact ⟨rfl, rfl⟩
      · rw [if_neg i3]
        refine ⟨_, go _ ?_, a + 3, by omega, s3.bad (x := 1)⟩
        rw [if_pos i2]; exact ⟨rfl, rfl⟩
    · rw [if_neg c4] at t2
      obtain ⟨t2, s2⟩ := t2
      obtain ⟨r13, i1, i2⟩ := isItem_r (J := J) (g := g) c1 s2
      rw [← c2] at i1 i2
      have go : ∀ Q', (if r13 = 0 then (Q' = (rf Q2 3 1) ∧ (0 : Int32) = 0) else (∃ nf : Nat, L_r_item_93 J g nf Q2 (pk g J a) (pk g J a) (pk g J a) Q' 0)) → E_r_item J g Q Q' 0 := fun Q' hh => by
        unfold E_r_item
        rw [h.1, rw_pk hJ (by omega), if_neg c0, es]
        refine ⟨Q2, r3, t1, ?_⟩
        rw [t2, if_pos rfl]
        refine ⟨_, r13, i1, ?_⟩
        by_cases z : r13 = 0
        · rw [if_pos z] at hh ⊢; exact hh
        · rw [if_neg z] at hh ⊢
          refine ⟨_, r13, i1, ?_⟩
          rw [if_neg z, if_pos (show pk g J a ≤ pk g J a by rw [Int32.le_iff_toInt_le]; omega)]; exact hh
      rcases i2 with ⟨i2, i3⟩ | ⟨i2, i3⟩
      · rw [if_pos i3, if_neg c4]
        obtain ⟨Q', s4, s5⟩ := itmL_r (J := J) (g := g) (x1 := nI c) (a := a + 1) c1 1 c Q2 (by omega) s2
        refine ⟨Q', go _ ?_, s5⟩
        rw [if_neg (by rw [i2]; decide), c2]; exact ⟨_, s4⟩
      · rw [if_neg i3]
        refine ⟨_, go _ ?_, a + 1, by omega, s2.bad (x := 1)⟩
        rw [if_pos i2]; exact ⟨rfl, rfl⟩
end RIT
