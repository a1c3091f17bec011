/-! the search answers: steps and runs -/
section TOR
variable {T : TD} {RUN : RT}
def RunOK (RUN : RT) (d : Nat) : Prop := ∀ S a1 a2, wOK S → Tot wOK (RUN S a1 a2 (nI d))
theorem to_open {S : SS} {d : Nat} (h : wOK S) (hd : d ≤ 100) : ∃ S', E_s_openSearch T S (nI d) S' 0 ∧ wOK S' := by
  unfold E_s_openSearch
  by_cases c : (10 : Int32) ≤ nI d
  · exact ⟨S, by rw [if_pos c]; exact ⟨rfl, rfl⟩, h⟩
  · have : d < 10 := by
      rcases Nat.lt_or_ge d 10 with z | z
      · exact z
      · exact absurd ((n_le (a := 10) (by omega) (by omega)).mpr z) c
    exact ⟨sa (sf S 6 ((S.1.1 6) + 1)) 5 (nI d).toNatClampNeg ((((S.1.1 6) + 1) <<< ((4 : Int32) &&& 31)) ||| nI d), by rw [if_neg c]; exact ⟨v_in this (by omega), rfl, rfl⟩, (h.sf (by omega)).sa⟩
theorem to_behL {x1 : Int32} {d : Nat} {x3 : Int32} {x4 : Int64} (hR : RunOK RUN d) : ∀ (n : Nat) (S : SS) (x6 : Int32), wOK S → x6.toInt < n → Tot wOK (L_s_lookBehind_14 T RUN (n + 1) S x1 (nI d) x3 x4 x6)
  | 0, S, x6, h, hx => by
    refine t_eq (fun S' r => L_s_lookBehind_14.eq_2 T RUN S x1 (nI d) x3 x4 x6 S' r 0) ?_
    refine t_if (fun _ => t_ret h (Or.inl rfl)) (fun z => absurd ?_ z)
    rw [Int32.lt_iff_toInt_lt]; exact hx
  | n + 1, S, x6, h, hx => by
    refine t_eq (fun S' r => L_s_lookBehind_14.eq_2 T RUN S x1 (nI d) x3 x4 x6 S' r (n + 1)) ?_
    refine t_if (fun _ => t_ret h (Or.inl rfl)) (fun z => t_ex (hR _ _ _ ((h.sf (by omega)).ss)) (fun S2 r3 _ h2 _ => t_if (fun _ => ?_) (fun _ => t_ret h2 (Or.inr rfl))))
    refine to_behL hR n S2 (x6 + (-1)) h2 ?_
    rw [Int32.lt_iff_toInt_lt, show (0 : Int32).toInt = 0 from rfl] at z
    have := x6.toInt_lt
    rw [Int32.toInt_add, show (-1 : Int32).toInt = -1 from rfl, Int.bmod_eq_of_le (by omega) (by omega)]
    omega
theorem to_behind {S : SS} {a1 : Int32} {d : Nat} (hR : RunOK RUN d) (h : wOK S) : Tot wOK (E_s_lookBehind T RUN S a1 (nI d)) := by
  refine t_nf (n := (S.1.1 10).toInt.toNat + 1 + 1) ?_
  exact to_behL hR _ S _ h (by omega)
theorem to_atomic {S : SS} {i d : Nat} (hd : d < 10) (hR : RunOK RUN (d + 1)) (h : wOK S) : Tot wOK (E_s_atomic T RUN S i (nI d)) := by
  have es : nI d + 1 = nI (d + 1) := (nI_succ d).symm
  unfold E_s_atomic
  rw [es]
  refine t_exv (to_open h (by omega)) (fun S1 _ h1 => t_ex (hR _ _ _ h1) (fun S3 r4 _ h3 hr => t_exv (to_moveTo (((h3.sf (by omega)).sf (by omega)).sf (by omega))) (fun S5 _ h5 => t_retn h5 hr)))
theorem to_look {S : SS} {i d : Nat} (hd : d < 10) (hR : RunOK RUN (d + 1)) (h : wOK S) : Tot wOK (E_s_look T RUN S i (nI d)) := by
  have es : nI d + 1 = nI (d + 1) := (nI_succ d).symm
  unfold E_s_look
  rw [es]
  have f : ∀ {S3 : SS} {x y z : Int32}, wOK S3 → wOK (sf (sf (sf S3 9 x) 10 y) 11 z) := fun h3 => ((h3.sf (by omega)).sf (by omega)).sf (by omega)
  refine t_exv (to_open h (by omega)) (fun S1 _ h1 => t_if (fun _ => t_ex (hR _ _ _ h1) (fun S3 r4 _ h3 hr => ?_)) (fun _ => t_ex (to_behind hR h1) (fun S3 r4 _ h3 hr => ?_)))
  · exact t_if (fun _ => t_if (fun _ => t_ret (f h3) (Or.inl rfl)) (fun _ => t_ret (f h3) (Or.inr rfl))) (fun _ => t_if (fun _ => t_ret (f h3).ss (Or.inl rfl)) (fun _ => t_ret (f h3).ss (Or.inr rfl)))
  · exact t_if (fun _ => t_if (fun _ => t_ret (f h3) (Or.inl rfl)) (fun _ => t_ret (f h3) (Or.inr rfl))) (fun _ => t_if (fun _ => t_ret (f h3).ss (Or.inl rfl)) (fun _ => t_ret (f h3).ss (Or.inr rfl)))
theorem to_closed {a1 : Int64} {a2 a3 : Int32} : ∃ r, E_X5_spanClosed a1 a2 a3 r := by
  obtain ⟨r1, s1, _⟩ := to_sp (a1 := a1) (a2 := a2) (a3 := 8)
  exact ⟨_, r1, s1, rfl⟩
theorem to_step {S : SS} {i d : Nat} (hd : d < 10) (hR : RunOK RUN (d + 1)) (h : wOK S) : Tot wOK (E_s_step T RUN S i (nI d)) := by
  have h9 : wOK (sf S 9 (tA T i 2)) := h.sf (by omega)
  unfold E_s_step
  refine t_if (fun _ => t_ex (to_takeChar h9) (fun _ _ _ a b => t_retn a b)) (fun _ => ?_)
  refine t_if (fun _ => t_if (fun _ => t_ret h9 (Or.inr rfl)) (fun _ => t_ret h9 (Or.inl rfl))) (fun _ => ?_)
  refine t_if (fun _ => t_if (fun _ => t_ret h9 (Or.inr rfl)) (fun _ => t_ret h9 (Or.inl rfl))) (fun _ => ?_)
  refine t_if (fun _ => t_ex (to_isEdge h9) (fun _ _ _ a b => t_retn a b)) (fun _ => ?_)
  refine t_if (fun _ => t_ex (to_isEdge h9) (fun _ _ _ a b => t_if (fun _ => t_ret a (Or.inr rfl)) (fun _ => t_ret a (Or.inl rfl)))) (fun _ => ?_)
  refine t_if (fun _ => t_ex (to_takeSpan h9) (fun _ _ _ a b => t_retn a b)) (fun _ => ?_)
  refine t_if (fun _ => t_exo ⟨_, rfl⟩ (fun _ _ => t_ret h9.ss (Or.inr rfl))) (fun _ => ?_)
  refine t_if (fun _ => t_exo to_closed (fun _ _ => t_ret h9.ss (Or.inr rfl))) (fun _ => ?_)
  refine t_if (fun _ => t_if (fun _ => t_ret h9 (Or.inr rfl)) (fun _ => t_ex (to_letWait h9) (fun _ _ _ a b => t_if (fun _ => t_ret a (Or.inl rfl)) (fun _ => t_ret a (Or.inr rfl))))) (fun _ => ?_)
  refine t_if (fun _ => t_ret h9 (Or.inr rfl)) (fun _ => ?_)
  refine t_if (fun _ => t_exr ⟨_, _, ⟨rfl, rfl⟩, h9⟩ (fun _ _ _ a => t_ret (a.sf (by omega)) (Or.inr rfl))) (fun _ => ?_)
  refine t_if (fun _ => t_ex (to_wasHere h9 hd) (fun _ _ _ a b => t_if (fun _ => t_ex (to_loop a) (fun _ _ _ a b => t_if (fun _ => t_ret a (Or.inl rfl)) (fun _ => t_ret a (Or.inr rfl)))) (fun _ => t_ret a (Or.inl rfl)))) (fun _ => ?_)
  refine t_if (fun _ => t_ex (to_look hd hR h9) (fun _ _ _ a b => t_retn a b)) (fun _ => ?_)
  refine t_if (fun _ => t_ex (to_atomic hd hR h9) (fun _ _ _ a b => t_retn a b)) (fun _ => ?_)
  exact t_ret h9 (Or.inl rfl)
theorem to_take {S : SS} {b : Nat} (h : wOK S) (hb : b ≤ 256) (hw : ¬ S.1.1 2 ≤ nI b) : ∃ S', E_s_takeWaiting T S S' 0 ∧ wOK S' := by
  obtain ⟨w, w1, w2⟩ := h
  have wb : b < w := by
    rw [w2] at hw
    rcases Nat.lt_or_ge b w with z | z
    · exact z
    · exact absurd ((n_le (by omega) (by omega)).mpr z) hw
  have e : S.1.1 2 - 1 = nI (w - 1) := by rw [w2]; exact n_sub (a := w) (b := 1) (by omega)
  have v : vp_in (S.1.1 2 - 1) 256 := by rw [e]; exact v_in (by omega) (by omega)
  exact ⟨_, ⟨v, v, rfl, rfl⟩, ⟨w - 1, by omega, e⟩⟩
theorem to_runL {x1 x2 : Int32} {d b : Nat} (hd : d < 10) (hb : b ≤ 256) (hR : RunOK RUN (d + 1)) : ∀ (n : Nat) (S : SS) (x5 x6 : Int32), wOK S → (x5 = 0 ∨ x5 = 1) → x6.toInt + n = 10000000 → 0 ≤ x6.toInt → Tot wOK (L_s_run_33 T RUN (n + 1) S x1 x2 (nI d) (nI b) x5 x6)
  | 0, S, x5, x6, h, h5, h6, h0 => by
    refine t_eq (fun S' r => L_s_run_33.eq_2 T RUN S x1 x2 (nI d) (nI b) x5 x6 S' r 0) ?_
    refine t_if (fun _ => t_ret ⟨b, hb, rfl⟩ (Or.inl rfl)) (fun z => absurd ?_ z)
    rw [Int32.le_iff_toInt_le, show (10000000 : Int32).toInt = 10000000 from by decide]
    omega
  | n + 1, S, x5, x6, h, h5, h6, h0 => by
    have fin : ∀ {S : SS}, wOK (sf S 2 (nI b)) := ⟨b, hb, rfl⟩
    have i6 : (x6 + 1).toInt + n = 10000000 ∧ 0 ≤ (x6 + 1).toInt := by
      rw [Int32.toInt_add, show (1 : Int32).toInt = 1 from rfl, Int.bmod_eq_of_le (by omega) (by omega)]
      omega
    have nx : ∀ (S : SS) (x5 : Int32), wOK S → (x5 = 0 ∨ x5 = 1) → Tot wOK (L_s_run_33 T RUN (n + 1) S x1 x2 (nI d) (nI b) x5 (x6 + 1)) := fun S x5 h h5 => to_runL hd hb hR n S x5 (x6 + 1) h h5 i6.1 i6.2
    have on : ∀ (S : SS), wOK S → Tot wOK (fun S' r => if (tA T (pn_ix (tC T) (S.1.1 9)) 1) = 1 then (if x2 = (-1) then (S' = (sf S 2 (nI b)) ∧ r = 1) else (if x2 = (S.1.1 10) then (S' = (sf S 2 (nI b)) ∧ r = 1) else (L_s_run_33 T RUN (n + 1) S x1 x2 (nI d) (nI b) 0 (x6 + 1) S' r))) else (∃ (S22 : SS) (r23 : Int32), E_s_step T RUN S (pn_ix (tC T) (S.1.1 9)) (nI d) S22 r23 ∧ (L_s_run_33 T RUN (n + 1) S22 x1 x2 (nI d) (nI b) r23 (x6 + 1) S' r))) := fun S hS =>
      t_if (fun _ => t_if (fun _ => t_ret fin (Or.inr rfl)) (fun _ => t_if (fun _ => t_ret fin (Or.inr rfl)) (fun _ => nx S 0 hS (Or.inl rfl)))) (fun _ => t_ex (to_step hd hR hS) (fun S2 r2 _ a b => nx S2 r2 a b))
    refine t_eq (fun S' r => L_s_run_33.eq_2 T RUN S x1 x2 (nI d) (nI b) x5 x6 S' r (n + 1)) ?_
    refine t_if (fun _ => t_ret fin (Or.inl rfl)) (fun _ => t_if (fun c5 => t_if (fun _ => t_ret fin (Or.inl rfl)) (fun cw => t_if (fun _ => t_exv (to_take h hb cw) (fun S2 _ h2 => on S2 h2)) (fun z => absurd c5 z))) (fun c5 => t_if (fun z => absurd z c5) (fun _ => on S h)))
theorem to_run {S : SS} {a1 a2 : Int32} {d : Nat} (hR : d < 10 → RunOK RUN (d + 1)) (hd : d ≤ 100) (h : wOK S) : Tot wOK (E_s_run T RUN S a1 a2 (nI d)) := by
  obtain ⟨b, hb, e⟩ := id h
  unfold E_s_run
  refine t_if (fun c => ?_) (fun _ => t_ret h (Or.inl rfl))
  have hd' : d < 10 := (n_lt (a := d) (b := 10) (by omega) (by omega)).mp c
  rw [e]
  refine t_nf (n := 10000000 + 1) ?_
  exact to_runL hd' hb (hR hd') 10000000 _ 1 0 ((h.sf (by omega)).sf (by omega)) (Or.inr rfl) (by decide) (by decide)
theorem to_RUNk : ∀ (k d : Nat), 11 ≤ d + k → 1 ≤ k → d ≤ 100 → k ≤ 50 → RunOK (RUNk T k) d
  | 0, _, _, h, _, _ => absurd h (by omega)
  | k + 1, d, h1, h2, h3, h4 => fun S a1 a2 h => by
    show Tot wOK (E_s_run T (RUNk T k) S a1 a2 (nI d))
    exact to_run (fun hd => to_RUNk k (d + 1) (by omega) (by omega) (by omega) (by omega)) h3 h
theorem to_fw {S : SS} {a1 a2 : Int32} (h : ∃ x, S.1.1 2 = x) : Tot wOK (E_fw T S a1 a2) := by
  have h0 : wOK (ss (sf (sf S 2 0) 10 a1) 17527745802495) := ⟨0, by omega, rfl⟩
  exact t_ex (to_run (d := 0) (fun _ => to_RUNk 11 1 (by omega) (by omega) (by omega) (by omega)) (by omega) h0) (fun S1 r1 _ a b => t_retn a b)
end TOR
