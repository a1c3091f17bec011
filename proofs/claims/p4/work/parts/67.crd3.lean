theorem bnd_p {X : Nat → Int32} {N a p lo : Nat} {hi : Option Nat} (h : bndP X N a = some (p, lo, hi)) : a + 2 ≤ p ∧ p ≤ a + 4 := by
  unfold bndP at h
  split at h
  · cases h
  · split at h
    · split at h
      · split at h
        · cases h; omega
        · cases h
      · split at h
        · split at h
          · cases h
          · cases h; omega
        · cases h
    · split at h
      · cases h; omega
      · cases h
section RLQ
variable {Q : QS} {a v o n J : Nat} {g : Nat → Int32}
theorem bh_0 {v : Nat} (hv : v ≤ 100) : (nI v ≤ 0) ↔ ¬ decide (0 < v) = true := by
  rw [decide_eq_true_iff]
  constructor
  · intro h
    have := (n_le (a := v) (b := 0) (by omega) (by omega)).mp h
    omega
  · intro h
    exact (n_le (a := v) (b := 0) (by omega) (by omega)).mpr (by omega)
theorem readLoop_r (hJ : J ≤ 14) (hX : Xok g J) (h : St Q a 0 v o n) (ha : a ≤ 20) (hv : v ≤ 100) : ∃ Q' r, E_r_readLoop J g Q Q' r ∧ ((¬ isLpc (pk g J a) ∧ r = 0 ∧ Q' = Q) ∨ (isLpc (pk g J a) ∧ r = 1 ∧ match lpB g J (decide (0 < v)) a with
    | none => ∃ p, p ≤ 60 ∧ St Q' p 1 v o n
    | some p => St Q' p 0 v o n)) := by
  have es : nI a + 1 = nI (a + 1) := (nI_succ a).symm
  have up : ∀ {x y : Int32}, St (rf (rf (rf Q 2 (nI (a + 1))) 8 x) 9 y) (a + 1) 0 v o n := ((h.atx.rfx (by omega) (by omega) (by omega) (by omega)).rfx (by omega) (by omega) (by omega) (by omega))
  have q4 := h.2.2.1
  have hb := bh_0 hv
  unfold E_r_readLoop
  rw [h.1, rw_pk hJ (by omega), es]
  by_cases c1 : pk g J a = 63
  · refine ⟨rf (rf (rf Q 2 (nI (a + 1))) 8 0) 9 1, 1, ?_, Or.inr ⟨Or.inl c1, rfl, ?_⟩⟩
    · rw [c1, if_pos rfl, if_neg (by decide), if_pos rfl, if_neg (by decide)]; exact ⟨rfl, rfl⟩
    · unfold lpB
      rw [c1, if_neg (by decide), if_pos rfl]; exact up
  · by_cases c2 : pk g J a = 42
    · have go : ∀ Q' r, (if nI v ≤ 0 then (Q' = (rf (rf (rf Q 2 (nI (a + 1))) 8 0) 9 (-1)) ∧ r = 1) else (Q' = (rf (rf (rf (rf Q 2 (nI (a + 1))) 8 0) 9 (-1)) 3 1) ∧ r = 1)) → E_r_readLoop J g Q Q' r := fun Q' r hh => by
        unfold E_r_readLoop
        rw [h.1, rw_pk hJ (by omega), es, c2, if_neg (by decide), if_pos rfl, if_neg (by decide), if_neg (by decide), if_neg (by decide), q4]
        exact hh
      by_cases b : nI v ≤ 0
      · refine ⟨rf (rf (rf Q 2 (nI (a + 1))) 8 0) 9 (-1), 1, ?_, Or.inr ⟨Or.inr (Or.inl c2), rfl, ?_⟩⟩
        · have := go _ _ (by rw [if_pos b]; exact ⟨rfl, rfl⟩)
          unfold E_r_readLoop at this
          rw [h.1, rw_pk hJ (by omega), es] at this; exact this
        · unfold lpB
          rw [c2, if_neg (by decide), if_neg (by decide), if_neg (hb.mp b)]; exact up
      · refine ⟨rf (rf (rf (rf Q 2 (nI (a + 1))) 8 0) 9 (-1)) 3 1, 1, ?_, Or.inr ⟨Or.inr (Or.inl c2), rfl, ?_⟩⟩
        · have := go _ _ (by rw [if_neg b]; exact ⟨rfl, rfl⟩)
          unfold E_r_readLoop at this
          rw [h.1, rw_pk hJ (by omega), es] at this; exact this
        · unfold lpB
          rw [c2, if_neg (by decide), if_neg (by decide), if_pos (Classical.byContradiction fun z => b (hb.mpr z))]
          exact ⟨a + 1, by omega, up.bad⟩
    · by_cases c3 : pk g J a = 43
      · by_cases b : nI v ≤ 0
        · refine ⟨rf (rf (rf Q 2 (nI (a + 1))) 8 1) 9 (-1), 1, ?_, Or.inr ⟨Or.inr (Or.inr (Or.inl c3)), rfl, ?_⟩⟩
          · rw [c3, if_neg (by decide), if_neg (by decide), if_pos rfl, if_pos rfl, if_neg (by decide), if_neg (by decide), q4, if_pos b]; exact ⟨rfl, rfl⟩
          · unfold lpB
            rw [c3, if_neg (by decide), if_neg (by decide), if_neg (hb.mp b)]; exact up
        · refine ⟨rf (rf (rf (rf Q 2 (nI (a + 1))) 8 1) 9 (-1)) 3 1, 1, ?_, Or.inr ⟨Or.inr (Or.inr (Or.inl c3)), rfl, ?_⟩⟩
          · rw [c3, if_neg (by decide), if_neg (by decide), if_pos rfl, if_pos rfl, if_neg (by decide), if_neg (by decide), q4, if_neg b]; exact ⟨rfl, rfl⟩
          · unfold lpB
            rw [c3, if_neg (by decide), if_neg (by decide), if_pos (Classical.byContradiction fun z => b (hb.mpr z))]
            exact ⟨a + 1, by omega, up.bad⟩
      · by_cases c4 : pk g J a = 123
        · obtain ⟨Q6, t1, t2⟩ := counts_r hJ hX (up (x := 0) (y := -1)) (by omega)
          have go : ∀ Q' r, (if (Q6.1 9) = (-1) then (if (Q6.1 4) ≤ 0 then (Q' = Q6 ∧ r = 1) else (Q' = (rf Q6 3 1) ∧ r = 1)) else (if (Q6.1 8) ≤ (Q6.1 9) then (Q' = Q6 ∧ r = 1) else (Q' = (rf Q6 3 1) ∧ r = 1))) → E_r_readLoop J g Q Q' r := fun Q' r hh => by
            unfold E_r_readLoop
            rw [h.1, rw_pk hJ (by omega), es, c4, if_neg (by decide), if_neg (by decide), if_neg (by decide), if_pos rfl, if_neg (by decide), if_neg (by decide), if_pos rfl]
            exact ⟨Q6, t1, hh⟩
          have back : (∃ Q' r, E_r_readLoop J g Q Q' r ∧ ((¬ isLpc (pk g J a) ∧ r = 0 ∧ Q' = Q) ∨ (isLpc (pk g J a) ∧ r = 1 ∧ match lpB g J (decide (0 < v)) a with | none => ∃ p, p ≤ 60 ∧ St Q' p 1 v o n | some p => St Q' p 0 v o n))) := by
            unfold lpB
            rw [if_pos c4]
            rcases t2 with ⟨p, lo, hi, b1, b2, b3, b4, b5, b6⟩ | ⟨b1, b2⟩
            · rw [b1]
              dsimp only
              have v4 : Q6.1 4 = nI v := b2.2.2.1
              cases hi with
              | none =>
                by_cases b : nI v ≤ 0
                · refine ⟨Q6, 1, go _ _ (by rw [b4, if_pos (show iO none = -1 from rfl), v4, if_pos b]; exact ⟨rfl, rfl⟩), Or.inr ⟨Or.inr (Or.inr (Or.inr c4)), rfl, ?_⟩⟩
                  rw [if_neg (fun z => hb.mp b z.2)]; exact b2
                · refine ⟨rf Q6 3 1, 1, go _ _ (by rw [b4, if_pos (show iO none = -1 from rfl), v4, if_neg b]; exact ⟨rfl, rfl⟩), Or.inr ⟨Or.inr (Or.inr (Or.inr c4)), rfl, ?_⟩⟩
                  rw [if_pos ⟨rfl, Classical.byContradiction fun z => b (hb.mpr z)⟩]
                  exact ⟨p % 61, by omega, by
                    have hp : p ≤ 60 := by
                      have := bnd_p b1
                      omega
                    rw [Nat.mod_eq_of_lt (by omega)]; exact b2.bad⟩
              | some M =>
                have m6 := b6 M rfl
                refine ⟨Q6, 1, go _ _ ?_, Or.inr ⟨Or.inr (Or.inr (Or.inr c4)), rfl, ?_⟩⟩
                · rw [b4, b3, show iO (some M) = nI M from rfl, if_neg (show ¬ nI M = -1 from n_m1 (by omega)), if_pos ((n_le (by omega) (by omega)).mpr m6.1)]; exact ⟨rfl, rfl⟩
                · rw [if_neg (fun z => by cases z.1)]; exact b2
            · rw [b1]
              rcases b2 with ⟨p, p1, p2⟩ | ⟨p, lo, M, p1, p2, p3, p4, p5, p6⟩
              · by_cases q9 : Q6.1 9 = -1
                · by_cases q4' : Q6.1 4 ≤ 0
                  · exact ⟨Q6, 1, go _ _ (by rw [if_pos q9, if_pos q4']; exact ⟨rfl, rfl⟩), Or.inr ⟨Or.inr (Or.inr (Or.inr c4)), rfl, p, p1, p2⟩⟩
                  · exact ⟨rf Q6 3 1, 1, go _ _ (by rw [if_pos q9, if_neg q4']; exact ⟨rfl, rfl⟩), Or.inr ⟨Or.inr (Or.inr (Or.inr c4)), rfl, p, p1, p2.bad⟩⟩
                · by_cases q8 : Q6.1 8 ≤ Q6.1 9
                  · exact ⟨Q6, 1, go _ _ (by rw [if_neg q9, if_pos q8]; exact ⟨rfl, rfl⟩), Or.inr ⟨Or.inr (Or.inr (Or.inr c4)), rfl, p, p1, p2⟩⟩
                  · exact ⟨rf Q6 3 1, 1, go _ _ (by rw [if_neg q9, if_neg q8]; exact ⟨rfl, rfl⟩), Or.inr ⟨Or.inr (Or.inr (Or.inr c4)), rfl, p, p1, p2.bad⟩⟩
              · refine ⟨rf Q6 3 1, 1, go _ _ ?_, Or.inr ⟨Or.inr (Or.inr (Or.inr c4)), rfl, p, p1, p2.bad⟩⟩
                rw [p4, p3, if_neg (show ¬ nI M = -1 from n_m1 (by omega)), if_neg (fun z => by have := (n_le (by omega) (by omega)).mp z; omega)]; exact ⟨rfl, rfl⟩
          obtain ⟨Q', r, e1, e2⟩ := back
          refine ⟨Q', r, ?_, e2⟩
          unfold E_r_readLoop at e1
          rw [h.1, rw_pk hJ (by omega), es] at e1; exact e1
        · refine ⟨Q, 0, ?_, Or.inl ⟨fun z => z.elim c1 (fun z => z.elim c2 (fun z => z.elim c3 c4)), rfl, rfl⟩⟩
          rw [if_neg c1, if_neg c2, if_neg c3, if_neg c4]; exact ⟨rfl, rfl⟩
end RLQ
