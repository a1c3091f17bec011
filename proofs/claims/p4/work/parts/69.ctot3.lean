/-! the class's reader answers -/
def cOK (Q : QS) : Prop := 0 < Q.2.2.1 ∧ Q.2.2.1 ≤ 32
def Tq (P : QS → Int32 → Prop) : Prop := ∃ Q r, P Q r ∧ cOK Q
section TQ
theorem q_if {c : Prop} {d : Decidable c} {P Q : QS → Int32 → Prop} (h1 : c → Tq P) (h2 : ¬ c → Tq Q) : Tq (fun S r => @ite Prop c d (P S r) (Q S r)) := by
  by_cases h : c
  · obtain ⟨S, r, a, b⟩ := h1 h
    exact ⟨S, r, by show ite c (P S r) (Q S r); rw [if_pos h]; exact a, b⟩
  · obtain ⟨S, r, a, b⟩ := h2 h
    exact ⟨S, r, by show ite c (P S r) (Q S r); rw [if_neg h]; exact a, b⟩
theorem q_ex {A : QS → Int32 → Prop} {P : QS → Int32 → QS → Int32 → Prop} (h : Tq A) (g : ∀ S1 r1, A S1 r1 → cOK S1 → Tq (P S1 r1)) : Tq (fun S r => ∃ S1 r1, A S1 r1 ∧ P S1 r1 S r) := by
  obtain ⟨S1, r1, a, b⟩ := h
  obtain ⟨S, r, d, e⟩ := g S1 r1 a b
  exact ⟨S, r, ⟨S1, r1, a, d⟩, e⟩
theorem q_exv {A : QS → Prop} {P : QS → QS → Int32 → Prop} (h : ∃ S, A S ∧ cOK S) (g : ∀ S1, A S1 → cOK S1 → Tq (P S1)) : Tq (fun S r => ∃ S1, A S1 ∧ P S1 S r) := by
  obtain ⟨S1, a, b⟩ := h
  obtain ⟨S, r, d, e⟩ := g S1 a b
  exact ⟨S, r, ⟨S1, a, d⟩, e⟩
theorem q_eq {P Q : QS → Int32 → Prop} (h : ∀ S r, P S r = Q S r) (g : Tq Q) : Tq P := by
  obtain ⟨S, r, d, e⟩ := g
  exact ⟨S, r, (h S r).mpr d, e⟩
theorem q_nf {P : Nat → QS → Int32 → Prop} {n : Nat} (g : Tq (P n)) : Tq (fun S r => ∃ nf : Nat, P nf S r) := by
  obtain ⟨S, r, d, e⟩ := g
  exact ⟨S, r, ⟨n, d⟩, e⟩
theorem q_and {A : Prop} {P : QS → Int32 → Prop} (h : A) (g : Tq P) : Tq (fun S r => A ∧ P S r) := by
  obtain ⟨S, r, d, e⟩ := g
  exact ⟨S, r, ⟨h, d⟩, e⟩
theorem q_ret {S0 : QS} {r0 : Int32} (h : cOK S0) : Tq (fun S r => S = S0 ∧ r = r0) := ⟨S0, r0, ⟨rfl, rfl⟩, h⟩
variable {J : Nat} {gg : Nat → Int32} {Q : QS}
theorem q_take {c : Int32} {P : QS → Int32 → QS → Int32 → Prop} (h : cOK Q) (g : ∀ Q1 r, cOK Q1 → (r = 0 ∨ r = 1) → Tq (P Q1 r)) : Tq (fun Q' r => ∃ (Q1 : QS) (r2 : Int32), E_r_take J gg Q c Q1 r2 ∧ P Q1 r2 Q' r) := by
  unfold E_r_take
  by_cases e : rw_at J gg (Q.1 2) = c
  · obtain ⟨S, r, d, f⟩ := g (rf Q 2 ((Q.1 2) + 1)) 1 h (Or.inr rfl)
    exact ⟨S, r, ⟨_, _, by rw [if_pos e]; exact ⟨rfl, rfl⟩, d⟩, f⟩
  · obtain ⟨S, r, d, f⟩ := g (rf Q 2 ((Q.1 2) + 0)) 0 h (Or.inl rfl)
    exact ⟨S, r, ⟨_, _, by rw [if_neg e]; exact ⟨rfl, rfl⟩, d⟩, f⟩
theorem q_add {k : Int32} (h : cOK Q) : Tq (E_r_add J gg Q k) := by
  refine q_ex (q_if (fun c => ?_) (fun _ => q_ret h)) (fun Q1 r2 _ h1 => q_if (fun _ => q_ret h1) (fun _ => q_ret h1))
  have hn : Q.2.2.1 < 32 := (n_lt (a := Q.2.2.1) (b := 32) (by have := h.2; omega) (by omega)).mp c
  exact q_and (v_in hn (by omega)) (q_ret ⟨by show 0 < Q.2.2.1 + 1; omega, by show Q.2.2.1 + 1 ≤ 32; omega⟩)
theorem q_exp {c : Int32} (h : cOK Q) : ∃ Q', E_r_expect J gg Q c Q' 0 ∧ cOK Q' := by
  unfold E_r_expect E_r_take
  by_cases e : rw_at J gg (Q.1 2) = c
  · exact ⟨rf Q 2 ((Q.1 2) + 1), ⟨rf Q 2 ((Q.1 2) + 1), 1, by rw [if_pos e]; exact ⟨rfl, rfl⟩, by rw [if_neg (by decide)]; exact ⟨rfl, rfl⟩⟩, h⟩
  · exact ⟨rf (rf Q 2 ((Q.1 2) + 0)) 3 1, ⟨rf Q 2 ((Q.1 2) + 0), 0, by rw [if_neg e]; exact ⟨rfl, rfl⟩, by rw [if_pos rfl]; exact ⟨rfl, rfl⟩⟩, h⟩
theorem q_single {k : Int32} (h : cOK Q) : Tq (E_r_single J gg Q k) := q_ex (q_add h) (fun Q1 r2 _ h1 => q_ret h1)
theorem q_set {x y : Int64} (h : cOK Q) : Tq (E_r_set J gg Q x y) := q_ex (q_add h) (fun Q1 r2 _ h1 => q_and h1 (q_and h1 (q_ret h1)))
theorem q_body {k x : Int32} (h : cOK Q) : Tq (E_r_withBody J gg Q k x) := q_ex (q_single h) (fun Q1 r2 _ h1 => q_and h1 (q_ret h1))
theorem q_refuse (h : cOK Q) : Tq (E_r_refuse J gg Q) := q_ret h
theorem q_addItem {c : Int32} (h : cOK Q) : ∃ Q', E_r_addItem J gg Q c Q' 0 ∧ cOK Q' := by
  unfold E_r_addItem
  by_cases e : 64 ≤ c
  · exact ⟨_, by rw [if_pos e]; exact ⟨rfl, rfl⟩, by exact h⟩
  · exact ⟨_, by rw [if_neg e]; exact ⟨rfl, rfl⟩, by exact h⟩
theorem q_char {c : Int32} (h : cOK Q) : Tq (E_r_character J gg Q c) := q_exv (q_addItem h) (fun Q1 _ h1 => q_ex (q_set h1) (fun Q3 r4 _ h3 => q_ret h3))
theorem q_isItem {c : Int32} (h : cOK Q) : Tq (E_r_isItem J gg Q c) := q_if (fun _ => q_ret h) (fun _ => q_if (fun _ => q_ret h) (fun _ => q_ret h))
theorem q_count (h : cOK Q) : Tq (E_r_count J gg Q) := q_if (fun _ => q_ret h) (fun _ => q_if (fun _ => q_ret h) (fun _ => q_ret h))
theorem q_back {c : Int32} (h : cOK Q) : Tq (E_r_backReference J gg Q c) := q_if (fun _ => q_ex (q_refuse h) (fun _ _ _ h1 => q_ret h1)) (fun _ => q_if (fun _ => q_ex (q_single h) (fun _ _ _ h1 => q_and h1 (q_ret h1))) (fun _ => q_ex (q_refuse h) (fun _ _ _ h1 => q_ret h1)))
/-- an answer that is 0 -/
theorem q_0 {P : QS → Int32 → Prop} (h : Tq P) (z : ∀ S r, P S r → r = 0) : ∃ S, P S 0 ∧ cOK S := by
  obtain ⟨S, r, a, b⟩ := h
  have := z S r a
  subst this
  exact ⟨S, a, b⟩
theorem q_counts (h : cOK Q) : ∃ Q', E_r_readCounts J gg Q Q' 0 ∧ cOK Q' := by
  obtain ⟨Q', r, a, b⟩ : Tq (fun Q' r => r = 0 ∧ E_r_readCounts J gg Q Q' 0) := by
    obtain ⟨Q1, r2, c1, h1⟩ := q_count (J := J) (gg := gg) h
    obtain ⟨Q', r, ⟨Q3, r4, t1, t2⟩, h3⟩ : Tq (fun Q' r => ∃ (Q3 : QS) (r4 : Int32), E_r_take J gg (rf (rf Q1 8 r2) 9 r2) 44 Q3 r4 ∧ (if r4 = 0 then (∃ Q6 : QS, E_r_expect J gg Q3 125 Q6 0 ∧ (Q' = Q6 ∧ r = 0)) else (if (rw_at J gg (Q3.1 2)) = 125 then (∃ Q13 : QS, E_r_expect J gg (rf Q3 9 (-1)) 125 Q13 0 ∧ (Q' = Q13 ∧ r = 0)) else (∃ (Q9 : QS) (r10 : Int32), E_r_count J gg Q3 Q9 r10 ∧ (∃ Q11 : QS, E_r_expect J gg (rf Q9 9 r10) 125 Q11 0 ∧ (Q' = Q11 ∧ r = 0)))))) :=
      q_take (by exact h1) (fun Q3 r4 h3 _ => q_if (fun _ => q_exv (q_exp h3) (fun _ _ h4 => q_ret h4)) (fun _ => q_if (fun _ => q_exv (q_exp (by exact h3)) (fun _ _ h4 => q_ret h4)) (fun _ => q_ex (q_count h3) (fun Q9 r10 _ h9 => q_exv (q_exp (by exact h9)) (fun _ _ h4 => q_ret h4)))))
    have e : r = 0 := by
      split at t2
      · exact t2.choose_spec.2.2
      · split at t2
        · exact t2.choose_spec.2.2
        · obtain ⟨_, _, _, _, _, _, z⟩ := t2; exact z
    subst e
    exact ⟨Q', 0, ⟨rfl, Q1, r2, c1, Q3, r4, t1, t2⟩, h3⟩
  exact ⟨Q', a.2, b⟩
set_option maxHeartbeats 4000000 in
theorem q_readLoop (h : cOK Q) : Tq (E_r_readLoop J gg Q) := by
  unfold E_r_readLoop
  repeat' (first
    | exact q_ret (by assumption)
    | refine q_if (fun _ => ?_) (fun _ => ?_)
    | refine q_exv (q_counts (by assumption)) (fun _ _ _ => ?_))
theorem q_escItem (h : cOK Q) : Tq (E_r_escapedItem J gg Q) := by
  unfold E_r_escapedItem
  repeat' (first
    | exact q_ret (by assumption)
    | refine q_if (fun _ => ?_) (fun _ => ?_)
    | refine q_exv (q_addItem (by assumption)) (fun _ _ _ => ?_))
theorem escItem_0 {S : QS} {r : Int32} (h : E_r_escapedItem J gg Q S r) : r = 0 := by
  unfold E_r_escapedItem at h
  repeat' split at h
  all_goals first
    | exact h.2
    | (obtain ⟨_, _, _, z⟩ := h; exact z)
theorem q_itemL {x1 x2 : Int32} (hx : x2.toInt < 2147483647) : ∀ (m : Nat) (x3 : Int32) (Q : QS), x2.toInt + 1 - x3.toInt ≤ m → cOK Q → ∃ Q', L_r_item_93 J gg (m + 1) Q x1 x2 x3 Q' 0 ∧ cOK Q'
  | 0, x3, Q, hm, h => ⟨Q, by rw [L_r_item_93.eq_2, if_pos (by rw [Int32.lt_iff_toInt_lt]; omega)]; exact ⟨rfl, rfl⟩, h⟩
  | m + 1, x3, Q, hm, h => by
    by_cases c : x2 < x3
    · exact ⟨Q, by rw [L_r_item_93.eq_2, if_pos c]; exact ⟨rfl, rfl⟩, h⟩
    · obtain ⟨Q1, a1, h1⟩ := q_addItem (J := J) (gg := gg) (c := x3) h
      have c' : ¬ x2.toInt < x3.toInt := fun z => c (by rw [Int32.lt_iff_toInt_lt]; exact z)
      have e3 : (x3 + 1).toInt = x3.toInt + 1 := by
        have := x3.le_toInt
        rw [Int32.toInt_add, show (1 : Int32).toInt = 1 from rfl, Int.bmod_eq_of_le (by omega) (by omega)]
      obtain ⟨Q', b1, b2⟩ := q_itemL (x1 := x1) hx m (x3 + 1) Q1 (by omega) h1
      refine ⟨Q', ?_, b2⟩
      rw [L_r_item_93.eq_2, if_neg c]
      exact ⟨Q1, a1, b1⟩
theorem rw_max (hJ : J ≤ 14) (hX : Xok gg J) (i : Int32) : (rw_at J gg i).toInt < 2147483647 := by
  unfold rw_at
  by_cases c : i < 0 ∨ nI J ≤ i
  · rw [if_pos c]; decide
  · rw [if_neg c]
    have c1 : 0 ≤ i.toInt := by
      rcases Int.lt_or_le i.toInt 0 with z | z
      · exact absurd (Or.inl (by rw [Int32.lt_iff_toInt_lt]; exact z)) c
      · exact z
    have c2 : i.toInt < J := by
      rcases Int.lt_or_le i.toInt J with z | z
      · exact z
      · exact absurd (Or.inr (by rw [Int32.le_iff_toInt_le, nI_toInt (by omega)]; exact z)) c
    obtain ⟨c, d1, d2, d3⟩ := hX i.toNatClampNeg (by show i.toInt.toNat < J; omega)
    rw [d3, nI_toInt (by omega)]; omega
theorem q_item (hJ : J ≤ 14) (hX : Xok gg J) (h : cOK Q) : ∃ Q', E_r_item J gg Q Q' 0 ∧ cOK Q' := by
  have lp : ∀ {S : QS} {x1 x2 x3 : Int32}, cOK S → x2.toInt < 2147483647 → Tq (fun Q' r => ∃ nf : Nat, L_r_item_93 J gg nf S x1 x2 x3 Q' r) := fun {S x1 x2 x3} hS hx => by
    obtain ⟨Q', a, b⟩ := q_itemL (J := J) (gg := gg) (x1 := x1) hx (x2.toInt + 1 - x3.toInt).toNat x3 S (by omega) hS
    exact ⟨Q', 0, ⟨_, a⟩, b⟩
  have l0 : ∀ {S Q' : QS} {x1 x2 x3 r : Int32}, (∃ nf : Nat, L_r_item_93 J gg nf S x1 x2 x3 Q' r) → r = 0 := fun {S Q' x1 x2 x3 r} hh => by
    obtain ⟨nf, hh⟩ := hh
    induction nf generalizing S x3 with
    | zero => exact absurd hh (by intro z; exact z)
    | succ n ih =>
      rw [L_r_item_93.eq_2] at hh
      split at hh
      · exact hh.2
      · obtain ⟨_, _, z⟩ := hh; exact ih z
  have rr : Tq (E_r_item J gg Q) := by
    unfold E_r_item
    refine q_if (fun _ => q_exv (q_0 (q_escItem (by exact h)) (fun S r => escItem_0)) (fun _ _ h1 => q_ret h1)) (fun _ => q_take (by exact h) (fun Q2 r3 h2 _ => q_if (fun _ => q_ex (q_isItem h2) (fun Q5 r6 _ h5 => q_if (fun _ => q_ret (by exact h5)) (fun _ => q_ex (q_isItem h5) (fun Q8 r9 _ h8 => q_if (fun _ => q_ret (by exact h8)) (fun _ => q_if (fun _ => lp h8 (rw_max hJ hX _)) (fun _ => q_ret (by exact h8))))))) (fun _ => q_ex (q_isItem (by exact h2)) (fun Q5 r6 _ h5 => q_if (fun _ => q_ret (by exact h5)) (fun _ => q_ex (q_isItem h5) (fun Q8 r9 _ h8 => q_if (fun _ => q_ret (by exact h8)) (fun _ => q_if (fun _ => lp h8 (rw_max hJ hX _)) (fun _ => q_ret (by exact h8)))))))))
  refine q_0 rr (fun S r hh => ?_)
  unfold E_r_item at hh
  split at hh
  · obtain ⟨_, _, _, z⟩ := hh; exact z
  · obtain ⟨Q2, r3, _, hh⟩ := hh
    split at hh
    · obtain ⟨Q5, r6, _, hh⟩ := hh
      split at hh
      · exact hh.2
      · obtain ⟨Q8, r9, _, hh⟩ := hh
        split at hh
        · exact hh.2
        · split at hh
          · exact l0 hh
          · exact hh.2
    · obtain ⟨Q5, r6, _, hh⟩ := hh
      split at hh
      · exact hh.2
      · obtain ⟨Q8, r9, _, hh⟩ := hh
        split at hh
        · exact hh.2
        · split at hh
          · exact l0 hh
          · exact hh.2
theorem q_itemsL (hJ : J ≤ 14) (hX : Xok gg J) {x1 : Int32} : ∀ (m k : Nat) (Q : QS), k + m = 14 → cOK Q → Tq (L_r_items_23 J gg (m + 1) Q x1 (nI k))
  | 0, k, Q, hk, h => by
    refine q_eq (fun S r => L_r_items_23.eq_2 J gg Q x1 (nI k) S r 0) ?_
    refine q_if (fun _ => q_exv (q_exp h) (fun _ _ h1 => q_if (fun _ => q_ex (q_set h1) (fun _ _ _ h2 => q_ret h2)) (fun _ => q_ex (q_set h1) (fun _ _ _ h2 => q_ret h2)))) (fun z => absurd ((n_le (a := 14) (b := k) (by omega) (by omega)).mpr (by omega)) z)
  | m + 1, k, Q, hk, h => by
    refine q_eq (fun S r => L_r_items_23.eq_2 J gg Q x1 (nI k) S r (m + 1)) ?_
    have en : Tq (fun Q' r => ∃ Q6 : QS, E_r_expect J gg Q 93 Q6 0 ∧ (if x1 = 0 then (∃ (Q9 : QS) (r10 : Int32), E_r_set J gg Q6 (Q6.2.1 6) (Q6.2.1 7) Q9 r10 ∧ (Q' = Q9 ∧ r = r10)) else (∃ (Q11 : QS) (r12 : Int32), E_r_set J gg Q6 ((Q6.2.1 6) ^^^ (-1)) ((Q6.2.1 7) ^^^ (-1)) Q11 r12 ∧ (Q' = Q11 ∧ r = r12)))) := q_exv (q_exp h) (fun _ _ h1 => q_if (fun _ => q_ex (q_set h1) (fun _ _ _ h2 => q_ret h2)) (fun _ => q_ex (q_set h1) (fun _ _ _ h2 => q_ret h2)))
    refine q_if (fun _ => en) (fun _ => q_if (fun _ => q_if (fun _ => en) (fun _ => q_exv (q_item hJ hX h) (fun Q29 _ h29 => ?_))) (fun _ => en))
    have ih := q_itemsL hJ hX (x1 := x1) m (k + 1) Q29 (by omega) h29
    rw [nI_succ] at ih
    exact ih
theorem q_items (hJ : J ≤ 14) (hX : Xok gg J) (h : cOK Q) : Tq (E_r_items J gg Q) := by
  refine q_take h (fun Q1 r2 h1 _ => q_exv (q_item hJ hX (by exact h1)) (fun Q3 _ h3 => q_nf (n := 15) ?_))
  exact q_itemsL hJ hX 14 0 Q3 (by omega) h3
theorem q_escaped (h : cOK Q) : Tq (E_r_escaped J gg Q) := by
  unfold E_r_escaped
  repeat' (first
    | exact q_ret (by assumption)
    | refine q_if (fun _ => ?_) (fun _ => ?_)
    | refine q_ex (q_back (by assumption)) (fun _ _ _ _ => ?_)
    | refine q_ex (q_single (by assumption)) (fun _ _ _ _ => ?_)
    | refine q_ex (q_set (by assumption)) (fun _ _ _ _ => ?_)
    | refine q_ex (q_char (by assumption)) (fun _ _ _ _ => ?_)
    | refine q_ex (q_refuse (by assumption)) (fun _ _ _ _ => ?_))
end TQ
