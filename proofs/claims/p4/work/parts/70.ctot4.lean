/-! the class's reader answers: brackets, pieces, levels -/
section TQ2
variable {J : Nat} {gg : Nat → Int32} {Q : QS} {CH : CT}
def ChOK (CH : CT) (d : Nat) : Prop := ∀ Q a1, cOK Q → Tq (CH Q a1 (nI d))
theorem q_nb {x : Int32} {P : QS → Int32 → Prop} (h : x = 0 ∨ x = 1) (g : Tq P) : Tq (fun S r => narrow .boolean (.int x) = .int x ∧ fits .boolean (.int x) = true ∧ P S r) := by
  obtain ⟨S, r, d, e⟩ := g
  exact ⟨S, r, ⟨nar01 h, by rcases h with rfl | rfl <;> rfl, d⟩, e⟩
theorem q_closed {a1 : Int32} {d : Nat} (hC : ChOK CH d) (h : cOK Q) : Tq (E_r_closedChoice J gg CH Q a1 (nI d)) := q_ex (hC _ _ h) (fun Q1 r2 _ h1 => q_exv (q_exp h1) (fun Q3 _ h3 => q_ret h3))
theorem q_group {d : Nat} (hC : ChOK CH d) (h : cOK Q) : Tq (E_r_group J gg CH Q (nI d)) := by
  refine q_if (fun _ => q_ex (q_add (by exact h)) (fun Q2 r3 _ h2 => q_ex (q_add h2) (fun Q4 r5 _ h4 => q_and h4 (q_and h4 (q_and h4 (q_ex (q_closed hC (by exact h4)) (fun Q9 r10 _ h9 => q_ret (by exact h9)))))))) (fun _ => q_ex (q_refuse h) (fun _ _ _ h1 => q_ret h1))
theorem q_together {d : Nat} (hC : ChOK CH d) (h : cOK Q) : Tq (E_r_together J gg CH Q (nI d)) := q_ex (q_add h) (fun Q1 r2 _ h1 => q_ex (q_closed hC h1) (fun Q3 r4 _ h3 => q_ret (by exact h3)))
set_option maxHeartbeats 4000000 in
theorem q_look {d : Nat} (hC : ChOK CH d) (h : cOK Q) : Tq (E_r_look J gg CH Q (nI d)) := by
  have en : ∀ {S : QS} {r2 r4 x y : Int32}, cOK S → (r2 = 0 ∨ r2 = 1) → (r4 = 0 ∨ r4 = 1) → Tq (fun Q' r => ∃ (Q36 : QS) (r37 : Int32), E_r_add J gg (rf S 4 x) 1 Q36 r37 ∧ (∃ (Q38 : QS) (r39 : Int32), E_r_closedChoice J gg CH Q36 r37 (nI d) Q38 r39 ∧ (∃ (Q40 : QS) (r41 : Int32), E_r_withBody J gg Q38 14 r39 Q40 r41 ∧ (if r2 = 0 then ((0 < Q40.2.2.1 ∧ Q40.2.2.1 ≤ 32) ∧ (narrow .boolean (.int r2) = .int r2 ∧ fits .boolean (.int r2) = true ∧ ((0 < Q40.2.2.1 ∧ Q40.2.2.1 ≤ 32) ∧ (narrow .boolean (.int r4) = .int r4 ∧ fits .boolean (.int r4) = true ∧ (Q' = (rn (rn (rf Q40 4 ((Q40.1 4) - 0)) (pn_ix Q40.2.2.1 r41) 9 r2) (pn_ix Q40.2.2.1 r41) 10 r4) ∧ r = r41))))) else ((0 < Q40.2.2.1 ∧ Q40.2.2.1 ≤ 32) ∧ (narrow .boolean (.int r2) = .int r2 ∧ fits .boolean (.int r2) = true ∧ ((0 < Q40.2.2.1 ∧ Q40.2.2.1 ≤ 32) ∧ (narrow .boolean (.int r4) = .int r4 ∧ fits .boolean (.int r4) = true ∧ (Q' = (rn (rn (rf Q40 4 ((Q40.1 4) - 1)) (pn_ix Q40.2.2.1 r41) 9 r2) (pn_ix Q40.2.2.1 r41) 10 r4) ∧ r = r41))))))))) := fun hS h2 h4 =>
    q_ex (q_add (by exact hS)) (fun Q1 r1 _ h1 => q_ex (q_closed hC h1) (fun Q3 r3 _ h3 => q_ex (q_body h3) (fun Q5 r5 _ h5 => q_if (fun _ => q_and h5 (q_nb h2 (q_and h5 (q_nb h4 (q_ret (by exact h5)))))) (fun _ => q_and h5 (q_nb h2 (q_and h5 (q_nb h4 (q_ret (by exact h5)))))))))
  refine q_take h (fun Q1 r2 h1 v2 => q_take h1 (fun Q3 r4 h3 v4 => q_if (fun _ => q_exv (q_exp h3) (fun Q32 _ h32 => q_if (fun _ => q_if (fun _ => en (y := 0) h32 v2 v4) (fun _ => en (y := 0) h32 v2 v4)) (fun _ => q_ex (q_refuse h32) (fun _ _ _ h9 => q_ret h9)))) (fun _ => q_if (fun _ => q_if (fun _ => en (y := 0) h3 v2 v4) (fun _ => en (y := 0) h3 v2 v4)) (fun _ => q_ex (q_refuse h3) (fun _ _ _ h9 => q_ret h9)))))
theorem q_bracket {d : Nat} (hd : d ≤ 100) (hC : d ≤ 4 → ChOK CH d) (h : cOK Q) : Tq (E_r_bracket J gg CH Q (nI d)) := by
  refine q_if (fun c => ?_) (fun _ => q_ex (q_refuse h) (fun _ _ _ h1 => q_ret h1))
  have hC' := hC ((n_le (a := d) (b := 4) (by omega) (by omega)).mp c)
  refine q_take h (fun Q2 r3 h2 _ => q_if (fun _ => q_ex (q_group hC' h2) (fun _ _ _ h1 => q_ret h1)) (fun _ => q_take h2 (fun Q5 r6 h5 _ => q_if (fun _ => q_take h5 (fun Q8 r9 h8 _ => q_if (fun _ => q_ex (q_look hC' h8) (fun _ _ _ h1 => q_ret h1)) (fun _ => q_ex (q_add h8) (fun Q13 r14 _ h13 => q_ex (q_closed hC' h13) (fun Q15 r16 _ h15 => q_ex (q_body h15) (fun Q17 r18 _ h17 => q_ret h17)))))) (fun _ => q_ex (q_together hC' h5) (fun _ _ _ h1 => q_ret h1)))))
theorem q_atom (hJ : J ≤ 14) (hX : Xok gg J) {d : Nat} (hd : d ≤ 90) (hC : d + 1 ≤ 4 → ChOK CH (d + 1)) (h : cOK Q) : Tq (E_r_atom J gg CH Q (nI d)) := by
  have br : Tq (fun Q' r => ∃ (Q5 : QS) (r6 : Int32), E_r_bracket J gg CH (rf Q 2 ((Q.1 2) + 1)) (nI d + 1) Q5 r6 ∧ (Q' = Q5 ∧ r = r6)) := by
    rw [← nI_succ]
    exact q_ex (q_bracket (by omega) hC (by exact h)) (fun _ _ _ h1 => q_ret h1)
  refine q_if (fun _ => q_ex (q_single (by exact h)) (fun _ _ _ h1 => q_ret h1)) (fun _ => q_if (fun _ => br) (fun _ => q_if (fun _ => q_ex (q_set (by exact h)) (fun _ _ _ h1 => q_ret h1)) (fun _ => q_if (fun _ => q_ex (q_items hJ hX (by exact h)) (fun _ _ _ h1 => q_ret h1)) (fun _ => q_if (fun _ => q_ex (q_escaped (by exact h)) (fun _ _ _ h1 => q_ret h1)) (fun _ => q_if (fun _ => q_ex (q_single (by exact h)) (fun _ _ _ h1 => q_ret h1)) (fun _ => q_if (fun _ => q_ex (q_char (by exact h)) (fun _ _ _ h1 => q_ret h1)) (fun _ => q_ex (q_refuse (by exact h)) (fun _ _ _ h1 => q_ret h1))))))))
theorem q_piece (hJ : J ≤ 14) (hX : Xok gg J) {d : Nat} (hd : d ≤ 90) (hC : d + 1 ≤ 4 → ChOK CH (d + 1)) (h : cOK Q) : Tq (E_r_onePiece J gg CH Q (nI d)) := by
  refine q_ex (q_atom hJ hX hd hC h) (fun Q1 r2 _ h1 => q_if (fun _ => q_ex (q_readLoop h1) (fun Q4 r5 _ h4 => q_if (fun _ => q_ret h4) (fun _ => q_ex (q_add h4) (fun Q7 r8 _ h7 => q_and h7 (q_take (by exact h7) (fun Q10 r11 h10 v11 => q_nb v11 (q_and h10 (q_ex (q_add (by exact h10)) (fun Q13 r14 _ h13 => q_and h13 (q_and h13 ?_)))))))))) (fun _ => q_ret h1))
  refine q_if (fun _ => q_take (by exact h13) (fun Q18 r19 h18 _ => q_if (fun _ => q_ret h18) (fun _ => q_ex (q_add h18) (fun Q21 r22 _ h21 => q_ex (q_body (by exact h21)) (fun Q23 r24 _ h23 => q_ret h23))))) (fun _ => q_ret (by exact h13))
theorem q_over (h : cOK Q) : Tq (E_r_isSequenceOver J gg Q) := q_if (fun _ => q_ret h) (fun _ => q_if (fun _ => q_ret h) (fun _ => q_if (fun _ => q_ret h) (fun _ => q_ret h)))
theorem q_seqL {x1 x3 : Int32} {d : Nat} (hP : ∀ Q, cOK Q → Tq (E_r_onePiece J gg CH Q (nI d))) : ∀ (m k : Nat) (Q : QS) (x4 : Int32), k + m = 14 → cOK Q → Tq (L_r_sequence_13 J gg CH (m + 1) Q x1 (nI d) x3 x4 (nI k))
  | 0, k, Q, x4, hk, h => by
    refine q_eq (fun S r => L_r_sequence_13.eq_2 J gg CH Q x1 (nI d) x3 x4 (nI k) S r 0) ?_
    exact q_if (fun _ => q_and h (q_ret (by exact h))) (fun z => absurd ((n_le (a := 14) (b := k) (by omega) (by omega)).mpr (by omega)) z)
  | m + 1, k, Q, x4, hk, h => by
    refine q_eq (fun S r => L_r_sequence_13.eq_2 J gg CH Q x1 (nI d) x3 x4 (nI k) S r (m + 1)) ?_
    refine q_if (fun _ => q_and h (q_ret (by exact h))) (fun _ => q_if (fun _ => q_ex (q_over h) (fun Q7 r8 _ h7 => q_if (fun _ => q_and h7 (q_ex (hP Q7 h7) (fun Q12 r13 _ h12 => ?_))) (fun _ => q_and h7 (q_ret (by exact h7))))) (fun _ => q_and h (q_ret (by exact h))))
    have ih := q_seqL (x1 := x1) (x3 := x3) hP m (k + 1) (rn Q12 (pn_ix Q7.2.2.1 x4) 2 r13) (Q12.1 5) (by omega) h12
    rw [nI_succ] at ih
    exact ih
theorem q_seq {a1 : Int32} {d : Nat} (hP : ∀ Q, cOK Q → Tq (E_r_onePiece J gg CH Q (nI d))) (h : cOK Q) : Tq (E_r_sequence J gg CH Q a1 (nI d)) := by
  refine q_ex (q_add h) (fun Q1 r2 _ h1 => q_nf (n := 15) ?_)
  exact q_seqL hP 14 0 Q1 r2 (by omega) h1
theorem q_choL {x1 x3 : Int32} {d : Nat} (hP : ∀ Q, cOK Q → Tq (E_r_onePiece J gg CH Q (nI d))) : ∀ (m k : Nat) (Q : QS) (x4 : Int32), k + m = 14 → cOK Q → Tq (L_r_choice_13 J gg CH (m + 1) Q x1 (nI d) x3 x4 (nI k))
  | 0, k, Q, x4, hk, h => by
    refine q_eq (fun S r => L_r_choice_13.eq_2 J gg CH Q x1 (nI d) x3 x4 (nI k) S r 0) ?_
    exact q_if (fun _ => q_ret h) (fun z => absurd ((n_le (a := 14) (b := k) (by omega) (by omega)).mpr (by omega)) z)
  | m + 1, k, Q, x4, hk, h => by
    refine q_eq (fun S r => L_r_choice_13.eq_2 J gg CH Q x1 (nI d) x3 x4 (nI k) S r (m + 1)) ?_
    refine q_if (fun _ => q_ret h) (fun _ => q_if (fun _ => q_if (fun _ => q_ex (q_seq hP (by exact h)) (fun Q6 r7 _ h6 => q_and h6 ?_)) (fun _ => q_ret h)) (fun _ => q_ret h))
    have ih := q_choL (x1 := x1) (x3 := x3) hP m (k + 1) (rn Q6 (pn_ix Q6.2.2.1 x4) 3 r7) r7 (by omega) h6
    rw [nI_succ] at ih
    exact ih
theorem q_choice {a1 : Int32} {d : Nat} (hP : ∀ Q, cOK Q → Tq (E_r_onePiece J gg CH Q (nI d))) (h : cOK Q) : Tq (E_r_choice J gg CH Q a1 (nI d)) := by
  refine q_ex (q_seq hP h) (fun Q1 r2 _ h1 => q_nf (n := 15) ?_)
  exact q_choL hP 14 0 Q1 r2 (by omega) h1
theorem q_CHk (hJ : J ≤ 14) (hX : Xok gg J) : ∀ (k d : Nat), 5 ≤ d + k → 1 ≤ k → d ≤ 4 → ChOK (CHk J gg k) d
  | 0, _, _, h, _ => absurd h (by omega)
  | k + 1, d, h1, h2, h3 => fun Q a1 h => by
    show Tq (E_r_choice J gg (CHk J gg k) Q a1 (nI d))
    exact q_choice (fun Q hQ => q_piece hJ hX (by omega) (fun h4 => q_CHk hJ hX k (d + 1) (by omega) (by omega) h4) hQ) h
theorem q_rp (hJ : J ≤ 14) (hX : Xok gg J) : Tq (E_rp J gg Q) := by
  refine q_exv ⟨_, ⟨rfl, rfl⟩, (by decide : 0 < 1 ∧ 1 ≤ 32)⟩ (fun Q1 _ h1 => q_ex (q_add h1) (fun Q3 r4 _ h3 => q_ex (q_choice (d := 0) (fun Q hQ => q_piece hJ hX (by omega) (fun h4 => q_CHk hJ hX 6 1 (by omega) (by omega) h4) hQ) h3) (fun Q5 r6 _ h5 => q_if (fun _ => q_if (fun _ => q_ret (by exact h5)) (fun _ => q_ret (by exact h5))) (fun _ => q_ret (by exact h5)))))
theorem rp_01 {Q' : QS} {r : Int32} (h : E_rp J gg Q Q' r) : r = 0 ∨ r = 1 := by
  obtain ⟨Q1, _, Q3, r4, _, Q5, r6, _, h⟩ := h
  split at h
  · split at h
    · exact Or.inr h.2
    · exact Or.inl h.2
  · exact Or.inl h.2
end TQ2
