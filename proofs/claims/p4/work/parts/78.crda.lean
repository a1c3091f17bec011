/-! the class's reader held against the pure one: a piece -/
section RP
variable {J : Nat} {g : Nat → Int32} {Q : QS} {CH : CT} {a b v o n d k : Nat}
/-- behind the node of a loop that is entered: lazy, possessive or none of both -/
def pc3 (J : Nat) (g : Nat → Int32) (a1 r8 : Int32) (i : Nat) (Q13 : QS) (r14 : Int32) (Q' : QS) (r : Int32) : Prop := if ((rf (rn (rn Q13 (pn_ix Q13.2.2.1 r14) 5 a1) (pn_ix Q13.2.2.1 r14) 2 r8) 5 r8).2.2.2.1 i 8) = 0 then (∃ (Q18 : QS) (r19 : Int32), E_r_take J g (rf (rn (rn Q13 (pn_ix Q13.2.2.1 r14) 5 a1) (pn_ix Q13.2.2.1 r14) 2 r8) 5 r8) 43 Q18 r19 ∧ (if r19 = 0 then (Q' = Q18 ∧ r = r14) else (∃ (Q21 : QS) (r22 : Int32), E_r_add J g Q18 1 Q21 r22 ∧ (∃ (Q23 : QS) (r24 : Int32), E_r_withBody J g (rn Q21 i 2 r22) 15 r14 Q23 r24 ∧ (Q' = Q23 ∧ r = r24))))) else (Q' = (rf (rn (rn Q13 (pn_ix Q13.2.2.1 r14) 5 a1) (pn_ix Q13.2.2.1 r14) 2 r8) 5 r8) ∧ r = r14)
def pc2 (J : Nat) (g : Nat → Int32) (a1 r8 : Int32) (i : Nat) (Q10 : QS) (r11 : Int32) (Q' : QS) (r : Int32) : Prop := narrow .boolean (.int r11) = .int r11 ∧ fits .boolean (.int r11) = true ∧ ((0 < Q10.2.2.1 ∧ Q10.2.2.1 ≤ 32) ∧ (∃ (Q13 : QS) (r14 : Int32), E_r_add J g (rn (rn Q10 i 8 r11) (pn_ix Q10.2.2.1 (Q10.1 5)) 2 r8) 12 Q13 r14 ∧ ((0 < Q13.2.2.1 ∧ Q13.2.2.1 ≤ 32) ∧ ((0 < Q13.2.2.1 ∧ Q13.2.2.1 ≤ 32) ∧ pc3 J g a1 r8 i Q13 r14 Q' r))))
def pc1 (J : Nat) (g : Nat → Int32) (a1 r2 : Int32) (Q4 : QS) (Q' : QS) (r : Int32) : Prop := ∃ (Q7 : QS) (r8 : Int32), E_r_add J g Q4 13 Q7 r8 ∧ ((0 < Q7.2.2.1 ∧ Q7.2.2.1 ≤ 32) ∧ (∃ (Q10 : QS) (r11 : Int32), E_r_take J g (rn (rn (rn (rn Q7 (pn_ix Q7.2.2.1 r8) 3 r2) (pn_ix Q7.2.2.1 r8) 5 a1) (pn_ix Q7.2.2.1 r8) 6 (Q7.1 8)) (pn_ix Q7.2.2.1 r8) 7 (Q7.1 9)) 63 Q10 r11 ∧ pc2 J g a1 r8 (pn_ix Q7.2.2.1 r8) Q10 r11 Q' r))
theorem pc3_b {a1 r8 r14 : Int32} {i : Nat} (h : cB Q) : Tg (fun Q' _ => cB Q') (pc3 J g a1 r8 i Q r14) := by
  have h1 : cB (rf (rn (rn Q (pn_ix Q.2.2.1 r14) 5 a1) (pn_ix Q.2.2.1 r14) 2 r8) 5 r8) := ((h.n (by omega)).n (by omega)).f (by omega)
  refine g_if (fun _ => g_ex (b_take h1) (fun Q18 r19 _ h18 => g_if (fun _ => g_ret h18.1) (fun _ => g_ex (b_add h18.1) (fun Q21 r22 _ h21 => g_ex (b_body (h21.n (by omega))) (fun Q23 r24 _ h23 => g_ret h23))))) (fun _ => g_ret h1)
theorem pc2_b {a1 r8 r11 : Int32} {i : Nat} (h : cB Q) (h01 : r11 = 0 ∨ r11 = 1) : Tg (fun Q' _ => cB Q') (pc2 J g a1 r8 i Q r11) := by
  exact g_nb h01 (g_and h.1 (g_ex (b_add ((h.n (by omega)).n (by omega))) (fun Q13 r14 _ h13 => g_and h13.1 (g_and h13.1 (pc3_b h13)))))
theorem pc1_b {a1 r2 : Int32} (h : cB Q) : Tg (fun Q' _ => cB Q') (pc1 J g a1 r2 Q) := by
  exact g_ex (b_add h) (fun Q7 r8 _ h7 => g_and h7.1 (g_ex (b_take ((((h7.n (by omega)).n (by omega)).n (by omega)).n (by omega))) (fun Q10 r11 _ h10 => pc2_b h10.1 h10.2)))
theorem md_63 {p : Nat} (h : pk g J p = 63) : (if mdI (pk g J p) = 0 then 0 else 1) = 1 := by rw [h]; decide
theorem md_43 {p : Nat} (h : pk g J p = 43) : (if mdI (pk g J p) = 0 then 0 else 1) = 1 := by rw [h]; decide
theorem md_no {p : Nat} (h : ¬ pk g J p = 63) (h2 : ¬ pk g J p = 43) : (if mdI (pk g J p) = 0 then 0 else 1) = 0 := by
  have : mdI (pk g J p) = 0 := by unfold mdI; rw [if_neg h, if_neg h2]
  rw [if_pos this]
theorem pc3_g {p i n3 : Nat} {a1 r8 r14 r11 : Int32} (hJ : J ≤ 14) (hp : p ≤ J) (hap : a ≤ p) (ho : o ≤ 4) (hs : (r11 = 1 ∧ pk g J p = 63 ∧ St Q (p + 1) 0 v o n3) ∨ (r11 = 0 ∧ ¬ pk g J p = 63 ∧ St Q p 0 v o n3)) (h8 : Q.2.2.2.1 i 8 = r11) (hn : n3 + 2 * a ≤ 2 * p + n) : Tg (fun Q' _ => Out (some (o, p + (if mdI (pk g J p) = 0 then 0 else 1))) J a n v Q') (pc3 J g a1 r8 i Q r14) := by
  have e8 : (rf (rn (rn Q (pn_ix Q.2.2.1 r14) 5 a1) (pn_ix Q.2.2.1 r14) 2 r8) 5 r8).2.2.2.1 i 8 = r11 := by
    show (rn (rn Q (pn_ix Q.2.2.1 r14) 5 a1) (pn_ix Q.2.2.1 r14) 2 r8).2.2.2.1 i 8 = r11
    rw [rn_at, if_neg (by omega), rn_at, if_neg (by omega)]; exact h8
  have up : ∀ {q : Nat}, St Q q 0 v o n3 → St (rf (rn (rn Q (pn_ix Q.2.2.1 r14) 5 a1) (pn_ix Q.2.2.1 r14) 2 r8) 5 r8) q 0 v o n3 := fun s => ((s.rnx (by omega)).rnx (by omega)).rfx (by omega) (by omega) (by omega) (by omega)
  rcases hs with ⟨e1, e2, s⟩ | ⟨e1, e2, s⟩
  · rw [e1] at e8
    rw [md_63 e2]
    have pl := pkx_lt e2 (by decide)
    exact g_if (fun z => absurd (e8.symm.trans z) (by decide)) (fun _ => g_ret (Or.inl ⟨o, p + 1, n3, rfl, by omega, by omega, ho, up s, by omega⟩))
  · rw [e1] at e8
    refine g_if (fun _ => ?_) (fun z => absurd e8 z)
    obtain ⟨Q18, r19, t1, t2, -⟩ := take_r (c := 43) (g := g) hJ (up s) (by omega)
    refine g_at t1 ?_
    by_cases c : pk g J p = 43
    · have pl := pkx_lt c (by decide)
      rw [if_pos c] at t2
      obtain ⟨er, s18⟩ := t2
      rw [md_43 c]
      refine g_if (fun z => absurd (er.symm.trans z) (by decide)) (fun _ => g_ex (add_r s18) (fun Q21 r22 _ h21 => ?_))
      rcases h21 with ⟨l1, s21, -, -⟩ | ⟨l1, s21, -⟩
      · obtain ⟨Q23, r24, b1, b2⟩ := body_r (J := J) (g := g) (k := 15) (x := r14) (s21.rnx (i := i) (k := 2) (x := r22) (by omega))
        refine g_at b1 (g_ret ?_)
        rcases b2 with ⟨l2, s2⟩ | ⟨l2, s2⟩
        · exact Or.inl ⟨o, p + 1, n3 + 1 + 1, rfl, by omega, by omega, ho, s2, by omega⟩
        · refine Or.inr ⟨s2.cb, fun o' a' e => ?_⟩
          cases e; omega
      · refine g_ex (b_body (s21.cb.n (by omega))) (fun Q23 r24 _ h23 => g_ret (Or.inr ⟨h23, fun o' a' e => ?_⟩))
        cases e; omega
    · rw [if_neg c] at t2
      obtain ⟨er, s18⟩ := t2
      rw [md_no e2 c]
      exact g_if (fun _ => g_ret (Or.inl ⟨o, p, n3, rfl, by omega, by omega, ho, s18, by omega⟩)) (fun z => absurd er z)
theorem pc1_g {p n1 : Nat} {a1 r2 : Int32} (hJ : J ≤ 14) (s : St Q p 0 v o n1) (hp : p ≤ J) (hap : a ≤ p) (hn : n1 + 2 * a + 2 ≤ 2 * p + n) (ho : o ≤ 4) : Tg (fun Q' _ => Out (some (o, p + (if mdI (pk g J p) = 0 then 0 else 1))) J a n v Q') (pc1 J g a1 r2 Q) := by
  have bd : 30 ≤ n1 → ∀ o' a', some (o, p + (if mdI (pk g J p) = 0 then 0 else 1)) = some (o', a') → 31 ≤ n1 → 32 + 2 * a < 2 * a' + n := fun _ o' a' e h => by
    generalize (if mdI (pk g J p) = 0 then 0 else 1) = w at e
    cases e; omega
  refine g_ex (add_r s) (fun Q7 r8 _ h7 => ?_)
  rcases h7 with ⟨l7, s7, -, -⟩ | ⟨l7, s7, -⟩
  · refine g_and s7.cok ?_
    obtain ⟨Q10, r11, t1, t2, -⟩ := take_r (c := 63) (g := g) hJ ((((s7.rnx (i := pn_ix Q7.2.2.1 r8) (k := 3) (x := r2) (by omega)).rnx (i := pn_ix Q7.2.2.1 r8) (k := 5) (x := a1) (by omega)).rnx (i := pn_ix Q7.2.2.1 r8) (k := 6) (x := Q7.1 8) (by omega)).rnx (i := pn_ix Q7.2.2.1 r8) (k := 7) (x := Q7.1 9) (by omega)) (by omega)
    refine g_at t1 ?_
    have go : ∀ {q : Nat}, St Q10 q 0 v o (n1 + 1) → (r11 = 0 ∨ r11 = 1) → ((r11 = 1 ∧ pk g J p = 63 ∧ q = p + 1) ∨ (r11 = 0 ∧ ¬ pk g J p = 63 ∧ q = p)) → Tg (fun Q' _ => Out (some (o, p + (if mdI (pk g J p) = 0 then 0 else 1))) J a n v Q') (pc2 J g a1 r8 (pn_ix Q7.2.2.1 r8) Q10 r11) := fun {q} s10 h01 hq => by
      refine g_nb h01 (g_and s10.cok (g_ex (add_r ((s10.rnx (by omega)).rnx (by omega))) (fun Q13 r14 _ h13 => ?_)))
      rcases h13 with ⟨l13, s13, -, e13⟩ | ⟨l13, s13, -⟩
      · refine g_and s13.cok (g_and s13.cok (pc3_g (n3 := n1 + 1 + 1) (r11 := r11) hJ hp hap ho ?_ ?_ (by omega)))
        · rcases hq with ⟨q1, q2, q3⟩ | ⟨q1, q2, q3⟩
          · rw [q3] at s13; exact Or.inl ⟨q1, q2, s13⟩
          · rw [q3] at s13; exact Or.inr ⟨q1, q2, s13⟩
        · rw [e13]
          show (rn (rn (rn (rn (rn Q10 (pn_ix Q7.2.2.1 r8) 8 r11) (pn_ix Q10.2.2.1 (Q10.1 5)) 2 r8) (n1 + 1) 1 12) (n1 + 1) 2 0) (n1 + 1) 3 0).2.2.2.1 (pn_ix Q7.2.2.1 r8) 8 = r11
          rw [rn_at, if_neg (by omega), rn_at, if_neg (by omega), rn_at, if_neg (by omega), rn_at, if_neg (by omega), rn_at, if_pos ⟨rfl, rfl⟩]
      · exact g_and s13.cok (g_and s13.cok (g_of (pc3_b s13.cb) (fun S r hS => Or.inr ⟨hS, fun o' a' e => bd (by omega) o' a' e (by omega)⟩)))
    by_cases c : pk g J p = 63
    · rw [if_pos c] at t2
      exact go t2.2 (Or.inr t2.1) (Or.inl ⟨t2.1, c, rfl⟩)
    · rw [if_neg c] at t2
      exact go t2.2 (Or.inl t2.1) (Or.inr ⟨t2.1, c, rfl⟩)
  · refine g_and s7.cok (g_ex (b_take ((((s7.cb.n (by omega)).n (by omega)).n (by omega)).n (by omega))) (fun Q10 r11 _ h10 => g_of (pc2_b h10.1 h10.2) (fun S r hS => Or.inr ⟨hS, fun o' a' e => bd (by omega) o' a' e (by omega)⟩)))
theorem to_le {bh : Bool} {o' a' : Nat} (ha : a < J) (ho : o ≤ 4) (h : toA (lvB g J k) g J bh o a = some (o', a')) : a < a' ∧ a' ≤ J ∧ o' ≤ 4 := by
  unfold toA at h
  by_cases c : pk g J a = 40
  · rw [if_pos c] at h; exact lvB_M k _ _ _ _ _ h ho
  · rw [if_neg c] at h
    cases e : atmA g J o bh a with
    | none => rw [e] at h; cases h
    | some a1 =>
      rw [e] at h
      have := atmA_le ha e
      cases h
      exact ⟨this.1, this.2, ho⟩
theorem piece_g (hJ : J ≤ 14) (hX : Xok g J) (hC : d < 4 → ∃ k', k = k' + 1 ∧ ChG CH J g k' (d + 1) ∧ ChB CH) (h4 : 4 ≤ d → k = 0) (s : St Q a 0 v o n) (ha : a < J) (hv : v ≤ d) (hd : d ≤ 4) (ho : o ≤ 4) : Tg (fun Q' _ => Out (pieA (lvB g J k) g J (decide (0 < v)) o a) J a n v Q') (E_r_onePiece J g CH Q (nI d)) := by
  refine g_ex (atom_g hJ hX hC h4 s ha hv hd ho) (fun Q1 r2 _ h1 => ?_)
  rw [pie_to]
  rcases h1 with ⟨o', a', n', q1, q2, q3, q4, q5, q6⟩ | ⟨q1, q2⟩
  · rw [q1]
    dsimp only
    refine g_if (fun _ => ?_) (fun z => absurd q5.2.1 z)
    obtain ⟨Q4, r5, l1, l2⟩ := readLoop_r hJ hX q5 (by omega) (by omega)
    refine g_at l1 ?_
    rcases l2 with ⟨m1, m2, m3⟩ | ⟨m1, m2, m3⟩
    · refine g_if (fun _ => g_ret ?_) (fun z => absurd m2 z)
      have e : lopA g J (decide (0 < v)) a' = some a' := by unfold lopA; rw [lopQ_no m1]; rfl
      rw [e, m3]
      exact Or.inl ⟨o', a', n', rfl, q2, q3, q4, q5, q6⟩
    · refine g_if (fun z => absurd (m2.symm.trans z) (by decide)) (fun _ => ?_)
      have y := lopQ_yes (bh := decide (0 < v)) m1
      cases e : lpB g J (decide (0 < v)) a' with
      | none =>
        rw [e] at y m3
        dsimp only at y m3
        obtain ⟨p, -, sb⟩ := m3
        have e2 : lopA g J (decide (0 < v)) a' = none := by unfold lopA; rw [y]; rfl
        rw [e2]
        exact g_of (pc1_b sb.cb) (fun S r hS => Or.inr ⟨hS, fun o2 a2 e => by cases e⟩)
      | some p =>
        rw [e] at y m3
        dsimp only at y m3
        obtain ⟨l, y⟩ := y
        have lp := lpB_le m1 e
        have e2 : lopA g J (decide (0 < v)) a' = some (p + (if mdI (pk g J p) = 0 then 0 else 1)) := by unfold lopA; rw [y]; rfl
        rw [e2]
        exact pc1_g hJ m3 lp.2 (by omega) (by omega) q4
  · refine g_if (fun z => absurd (q1.2.1.symm.trans z) (by decide)) (fun _ => g_ret (Or.inr ⟨q1, fun o2 a2 e => ?_⟩))
    cases et : toA (lvB g J k) g J (decide (0 < v)) o a with
    | none => rw [et] at e; cases e
    | some w =>
      obtain ⟨o3, a3⟩ := w
      rw [et] at e
      dsimp only at e
      have le3 := to_le ha ho et
      have l32 := q2 _ _ et
      cases e2 : lopA g J (decide (0 < v)) a3 with
      | none => rw [e2] at e; cases e
      | some a4 =>
        rw [e2] at e
        have l4 := lopA_le le3.2.1 e2
        cases e; omega
end RP
