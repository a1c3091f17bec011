/-! the class's reader held against the pure one: brackets -/
def clA (p : Option (Nat × Nat)) (N : Nat) : Option (Nat × Nat) := match p with
  | none => none
  | some (o2, a2) => if a2 < N then some (o2, a2 + 1) else none
/-- good and as the pure reader says, or bad and (the pure reader refuses, or there is no room for what it reads) -/
def Out (p : Option (Nat × Nat)) (N a E v : Nat) (Q' : QS) : Prop := (∃ o' a' n', p = some (o', a') ∧ a ≤ a' ∧ a' ≤ N ∧ o' ≤ 4 ∧ St Q' a' 0 v o' n' ∧ n' + 2 * a ≤ 2 * a' + E) ∨ (cB Q' ∧ ∀ o' a', p = some (o', a') → 32 + 2 * a < 2 * a' + E)
section RB
variable {J : Nat} {g : Nat → Int32} {Q : QS} {CH : CT} {a b v o n d k : Nat}
theorem Out.mv {p : Option (Nat × Nat)} {b E E' : Nat} {Q' : QS} (h : Out p J b E v Q') (h1 : a ≤ b) (h2 : E + 2 * a ≤ E' + 2 * b) : Out p J a E' v Q' := by
  rcases h with ⟨o', a', n', q1, q2, q3, q4, q5, q6⟩ | ⟨q1, q2⟩
  · exact Or.inl ⟨o', a', n', q1, by omega, q3, q4, q5, by omega⟩
  · exact Or.inr ⟨q1, fun o' a' e => by have := q2 o' a' e; omega⟩
theorem Out.st {p : Option (Nat × Nat)} {E : Nat} {Q1 Q' : QS} (h : Out p J a E v Q1) (f : ∀ a bd o n, St Q1 a bd v o n → St Q' a bd v o n) (f2 : cB Q1 → cB Q') : Out p J a E v Q' := by
  rcases h with ⟨o', a', n', q1, q2, q3, q4, q5, q6⟩ | ⟨q1, q2⟩
  · exact Or.inl ⟨o', a', n', q1, q2, q3, q4, f _ _ _ _ q5, q6⟩
  · exact Or.inr ⟨f2 q1, q2⟩
def ChG (CH : CT) (J : Nat) (g : Nat → Int32) (k d : Nat) : Prop := ∀ Q a1 a n v o, St Q a 0 v o n → a ≤ J → v ≤ d → o ≤ 4 → Tg (fun Q' _ => Out (lgX (lvB g J k) g J (decide (0 < v)) o a) J a (n + 1) v Q') (CH Q a1 (nI d))
theorem cl_M {p : Option (Nat × Nat)} {o' a' : Nat} (h : clA p J = some (o', a')) : ∃ a2, p = some (o', a2) ∧ a2 < J ∧ a' = a2 + 1 := by
  unfold clA at h
  cases p with
  | none => cases h
  | some w =>
    obtain ⟨o2, a2⟩ := w
    dsimp only at h
    by_cases c : a2 < J
    · rw [if_pos c] at h
      cases h
      exact ⟨a2, rfl, c, rfl⟩
    · rw [if_neg c] at h; cases h
theorem closed_g {a1 : Int32} (hJ : J ≤ 14) (hC : ChG CH J g k d) (s : St Q a 0 v o n) (ha : a ≤ J) (hv : v ≤ d) (ho : o ≤ 4) : Tg (fun Q' _ => Out (clA (lgX (lvB g J k) g J (decide (0 < v)) o a) J) J a (n - 1) v Q') (E_r_closedChoice J g CH Q a1 (nI d)) := by
  have n0 : 0 < n := s.2.2.2.2.2.1
  refine g_ex (hC Q a1 a n v o s ha hv ho) (fun Q1 r2 _ h1 => ?_)
  rcases h1 with ⟨o', a', n', q1, q2, q3, q4, q5, q6⟩ | ⟨q1, q2⟩
  · obtain ⟨Q3, e1, e2, -⟩ := expect_r (c := 41) (g := g) hJ q5 (by omega)
    refine ⟨Q3, r2, ⟨Q3, e1, rfl, rfl⟩, ?_⟩
    have l := lg_le (lvB_M k) ha ho q1
    rw [q1]
    by_cases c : a' < J
    · rw [if_pos (l.2.2.2 c)] at e2
      refine Or.inl ⟨o', a' + 1, n', ?_, by omega, by omega, q4, e2, by omega⟩
      show (if a' < J then some (o', a' + 1) else none) = _
      rw [if_pos c]
    · have : ¬ pk g J a' = 41 := by rw [pkx_gt (by omega)]; decide
      rw [if_neg this] at e2
      refine Or.inr ⟨e2.cb, fun o2 a2 e => ?_⟩
      have e : (if a' < J then some (o', a' + 1) else none) = some (o2, a2) := e
      rw [if_neg c] at e; cases e
  · obtain ⟨Q3, e1, e2⟩ := b_exp (J := J) (g := g) (c := 41) q1
    refine ⟨Q3, r2, ⟨Q3, e1, rfl, rfl⟩, Or.inr ⟨e2, fun o2 a2 e => ?_⟩⟩
    obtain ⟨a3, e3, e4, e5⟩ := cl_M e
    have := q2 _ _ e3
    omega
theorem closed_b {a1 : Int32} (hB : ChB CH) {p : Option (Nat × Nat)} {N b E : Nat} (h : cB Q) (hp : ∀ o' a', p = some (o', a') → 32 + 2 * b < 2 * a' + E) : Tg (fun Q' _ => Out p N b E v Q') (E_r_closedChoice J g CH Q a1 (nI d)) := g_of (b_closed hB h) (fun S r hS => Or.inr ⟨hS, hp⟩)
theorem group_g (hJ : J ≤ 14) (hC : ChG CH J g k d) (hB : ChB CH) (s : St Q (a + 1) 0 v o n) (ha : a < J) (hv : v ≤ d) (ho : o ≤ 4) (h63 : ¬ pk g J (a + 1) = 63) : Tg (fun Q' _ => Out (lvB g J (k + 1) (decide (0 < v)) o a) J a n v Q') (E_r_group J g CH Q (nI d)) := by
  have q13 : Q.1 13 = nI o := s.2.2.2.1
  have mono : ∀ o' a', lvB g J (k + 1) (decide (0 < v)) o a = some (o', a') → a < a' := fun o' a' e => (lvB_M (k + 1) _ _ _ _ _ e ho).1
  have n0 : 0 < n := s.2.2.2.2.2.1
  unfold E_r_group
  rw [q13]
  by_cases c : nI o < 4
  · have o4 : o < 4 := (n_lt (a := o) (b := 4) (by omega) (by omega)).mp c
    have ev : lvB g J (k + 1) (decide (0 < v)) o a = clA (lgX (lvB g J k) g J (decide (0 < v)) (o + 1) (a + 1)) J := by
      show brA (fun bh o a => lgA (lvB g J k) g J bh 16 o a) g J (decide (0 < v)) o a = _
      unfold brA hdP
      rw [if_neg h63, if_neg (by omega)]
      have : bhK (decide (0 < v)) 8 = decide (0 < v) := by unfold bhK; simp
      dsimp only
      rw [this]; rfl
    refine g_if (fun _ => ?_) (fun z => absurd c z)
    rw [show nI o + 1 = nI (o + 1) from (nI_succ o).symm]
    refine g_ex (add_r (s.grp (o' := o + 1))) (fun Q2 r3 _ h2 => ?_)
    have fin : ∀ {S : QS} {i : Nat} {x y : Int32}, Out (lvB g J (k + 1) (decide (0 < v)) o a) J a n v S → Out (lvB g J (k + 1) (decide (0 < v)) o a) J a n v (rf (rn S i 2 x) 5 y) := fun h => h.st (fun _ _ _ _ s => (s.rnx (by omega)).rfx (by omega) (by omega) (by omega) (by omega)) (fun h => (h.n (by omega)).f (by omega))
    rcases h2 with ⟨l2, s2, -, -⟩ | ⟨l2, s2, -⟩
    · refine g_ex (add_r s2) (fun Q4 r5 _ h4 => ?_)
      rcases h4 with ⟨l4, s4, -, -⟩ | ⟨l4, s4, -⟩
      · refine g_and s4.cok (g_and s4.cok (g_and s4.cok (g_ex (closed_g hJ hC ((s4.rnx (by omega)).rnx (by omega)) (by omega) hv (by omega)) (fun Q9 r10 _ h9 => g_ret (fin ?_)))))
        rw [ev]
        exact h9.mv (by omega) (by omega)
      · refine g_and s4.cok (g_and s4.cok (g_and s4.cok (g_ex (closed_b hB ((s4.cb.n (by omega)).n (by omega)) (fun o' a' e => ?_)) (fun Q9 r10 _ h9 => g_ret (fin h9)))))
        have := mono _ _ e; omega
    · refine g_ex (b_add s2.cb) (fun Q4 r5 _ h4 => g_and h4.1 (g_and h4.1 (g_and h4.1 (g_ex (closed_b hB ((h4.n (by omega)).n (by omega)) (fun o' a' e => ?_)) (fun Q9 r10 _ h9 => g_ret (fin h9))))))
      have := mono _ _ e; omega
  · refine g_if (fun z => absurd z c) (fun _ => ?_)
    obtain ⟨Q', f1, f2⟩ := refuse_r (J := J) (g := g) s
    refine ⟨Q', 0, ⟨Q', 0, f1, rfl, rfl⟩, Or.inr ⟨f2.cb, fun o' a' e => ?_⟩⟩
    have o4 : o = 4 := by
      rcases Nat.lt_or_ge o 4 with z | z
      · exact absurd ((n_lt (a := o) (b := 4) (by omega) (by omega)).mpr z) c
      · omega
    exfalso
    have e : brA (fun bh o a => lgA (lvB g J k) g J bh 16 o a) g J (decide (0 < v)) o a = some (o', a') := e
    unfold brA hdP at e
    rw [if_neg h63, if_pos o4] at e; cases e
theorem ev_q {kd sk : Nat} {v1 : Nat} (h63 : pk g J (a + 1) = 63) (hk : hdK g J a = some kd) (hs : (if pk g J (a + 2) = 60 then 4 else 3) = sk) (h8 : kd ≠ 8) (hv : bhK (decide (0 < v)) kd = decide (0 < v1)) : lvB g J (k + 1) (decide (0 < v)) o a = clA (lgX (lvB g J k) g J (decide (0 < v1)) o (a + sk)) J := by
  show brA (fun bh o a => lgA (lvB g J k) g J bh 16 o a) g J (decide (0 < v)) o a = _
  unfold brA hdP
  rw [if_pos h63, hk]
  dsimp only
  rw [hs, hv, if_neg h8]; rfl
theorem together_g (hJ : J ≤ 14) (hC : ChG CH J g k d) (hB : ChB CH) (s : St Q (a + 3) 0 v o n) (ha : a + 2 < J) (hv : v ≤ d) (ho : o ≤ 4) (h63 : pk g J (a + 1) = 63) (h58 : pk g J (a + 2) = 58) : Tg (fun Q' _ => Out (lvB g J (k + 1) (decide (0 < v)) o a) J a n v Q') (E_r_together J g CH Q (nI d)) := by
  have mono : ∀ o' a', lvB g J (k + 1) (decide (0 < v)) o a = some (o', a') → a < a' := fun o' a' e => (lvB_M (k + 1) _ _ _ _ _ e ho).1
  have n0 : 0 < n := s.2.2.2.2.2.1
  have ev : lvB g J (k + 1) (decide (0 < v)) o a = clA (lgX (lvB g J k) g J (decide (0 < v)) o (a + 3)) J := ev_q (kd := 9) (sk := 3) h63 (by unfold hdK; rw [if_pos h58]) (by rw [if_neg (by rw [h58]; decide)]) (by decide) (by unfold bhK; simp)
  refine g_ex (add_r s) (fun Q1 r2 _ h1 => ?_)
  rcases h1 with ⟨l1, s1, -, -⟩ | ⟨l1, s1, -⟩
  · refine g_ex (closed_g hJ hC s1 (by omega) hv ho) (fun Q3 r4 _ h3 => g_ret ?_)
    rw [ev]
    exact (h3.mv (a := a) (E' := n) (by omega) (by omega)).st (fun _ _ _ _ s => s.rfx (by omega) (by omega) (by omega) (by omega)) (fun h => h.f (by omega))
  · refine g_ex (closed_b hB (v := v) (N := J) (b := a) (E := n) (p := lvB g J (k + 1) (decide (0 < v)) o a) s1.cb (fun o' a' e => ?_)) (fun Q3 r4 _ h3 => g_ret (h3.st (fun _ _ _ _ s => s.rfx (by omega) (by omega) (by omega) (by omega)) (fun h => h.f (by omega))))
    have := mono _ _ e; omega
theorem body_g {p : Option (Nat × Nat)} {x y : Int32} {E : Nat} (h : Out p J a E v Q) (hE : ∀ o' a', p = some (o', a') → a < a') : Tg (fun Q' _ => Out p J a (E + 1) v Q') (E_r_withBody J g Q x y) := by
  rcases h with ⟨o', a', n', q1, q2, q3, q4, q5, q6⟩ | ⟨q1, q2⟩
  · obtain ⟨Q', r, b1, b2⟩ := body_r (J := J) (g := g) (k := x) (x := y) q5
    refine ⟨Q', r, b1, ?_⟩
    rcases b2 with ⟨c, s⟩ | ⟨c, s⟩
    · exact Or.inl ⟨o', a', n' + 1, q1, q2, q3, q4, s, by omega⟩
    · refine Or.inr ⟨s.cb, fun o2 a2 e => ?_⟩
      rw [q1] at e; cases e
      omega
  · exact g_of (b_body q1) (fun S r hS => Or.inr ⟨hS, fun o' a' e => by have := q2 o' a' e; omega⟩)
theorem atomic_g (hJ : J ≤ 14) (hC : ChG CH J g k d) (hB : ChB CH) (s : St Q (a + 3) 0 v o n) (ha : a + 2 < J) (hv : v ≤ d) (ho : o ≤ 4) (h63 : pk g J (a + 1) = 63) (h62 : pk g J (a + 2) = 62) : Tg (fun Q' _ => Out (lvB g J (k + 1) (decide (0 < v)) o a) J a n v Q') (fun Q' r => ∃ (Q13 : QS) (r14 : Int32), E_r_add J g Q 1 Q13 r14 ∧ (∃ (Q15 : QS) (r16 : Int32), E_r_closedChoice J g CH Q13 r14 (nI d) Q15 r16 ∧ (∃ (Q17 : QS) (r18 : Int32), E_r_withBody J g Q15 15 r16 Q17 r18 ∧ (Q' = Q17 ∧ r = r18)))) := by
  have mono : ∀ o' a', lvB g J (k + 1) (decide (0 < v)) o a = some (o', a') → a < a' := fun o' a' e => (lvB_M (k + 1) _ _ _ _ _ e ho).1
  have n0 : 0 < n := s.2.2.2.2.2.1
  have ev : lvB g J (k + 1) (decide (0 < v)) o a = clA (lgX (lvB g J k) g J (decide (0 < v)) o (a + 3)) J := ev_q (kd := 14) (sk := 3) h63 (by unfold hdK; rw [if_neg (by rw [h62]; decide), if_neg (by rw [h62]; decide), if_neg (by rw [h62]; decide), if_pos h62]) (by rw [if_neg (by rw [h62]; decide)]) (by decide) (by unfold bhK; simp)
  have m2 : ∀ o' a', clA (lgX (lvB g J k) g J (decide (0 < v)) o (a + 3)) J = some (o', a') → a < a' := fun o' a' e => mono o' a' (ev.trans e)
  refine g_ex (add_r s) (fun Q1 r2 _ h1 => ?_)
  rw [ev]
  rcases h1 with ⟨l1, s1, -, -⟩ | ⟨l1, s1, -⟩
  · refine g_ex (closed_g hJ hC s1 (by omega) hv ho) (fun Q3 r4 _ h3 => g_ex (body_g (E := n - 1) (h3.mv (a := a) (by omega) (by omega)) m2) (fun Q5 r6 _ h5 => g_ret (h5.mv (by omega) (by omega))))
  · refine g_ex (b_closed hB s1.cb) (fun Q3 r4 _ h3 => g_ex (b_body h3) (fun Q5 r6 _ h5 => g_ret (Or.inr ⟨h5, fun o' a' e => ?_⟩)))
    have := m2 _ _ e; omega
def lkV (r2 : Int32) (v : Nat) : Nat := if r2 = 0 then v else v + 1
theorem lk_g {r2 r4 x : Int32} {q : Option (Nat × Nat)} (hJ : J ≤ 14) (hC : ChG CH J g k d) (hB : ChB CH) (v2 : r2 = 0 ∨ r2 = 1) (v4 : r4 = 0 ∨ r4 = 1) (hx : x = nI (lkV r2 v)) (s : St Q b 0 v o n) (hb : b ≤ J) (hab : a + 3 ≤ b) (hv : v + 1 ≤ d) (hd : d ≤ 100) (ho : o ≤ 4) (ev : q = clA (lgX (lvB g J k) g J (decide (0 < lkV r2 v)) o b) J) (m2 : ∀ o' a', q = some (o', a') → a < a') : Tg (fun Q' _ => Out q J a n v Q') (fun Q' r => ∃ (Q36 : QS) (r37 : Int32), E_r_add J g (rf Q 4 x) 1 Q36 r37 ∧ (∃ (Q38 : QS) (r39 : Int32), E_r_closedChoice J g CH Q36 r37 (nI d) Q38 r39 ∧ (∃ (Q40 : QS) (r41 : Int32), E_r_withBody J g Q38 14 r39 Q40 r41 ∧ (if r2 = 0 then ((0 < Q40.2.2.1 ∧ Q40.2.2.1 ≤ 32) ∧ (narrow .boolean (.int r2) = .int r2 ∧ fits .boolean (.int r2) = true ∧ ((0 < Q40.2.2.1 ∧ Q40.2.2.1 ≤ 32) ∧ (narrow .boolean (.int r4) = .int r4 ∧ fits .boolean (.int r4) = true ∧ (Q' = (rn (rn (rf Q40 4 ((Q40.1 4) - 0)) (pn_ix Q40.2.2.1 r41) 9 r2) (pn_ix Q40.2.2.1 r41) 10 r4) ∧ r = r41))))) else ((0 < Q40.2.2.1 ∧ Q40.2.2.1 ≤ 32) ∧ (narrow .boolean (.int r2) = .int r2 ∧ fits .boolean (.int r2) = true ∧ ((0 < Q40.2.2.1 ∧ Q40.2.2.1 ≤ 32) ∧ (narrow .boolean (.int r4) = .int r4 ∧ fits .boolean (.int r4) = true ∧ (Q' = (rn (rn (rf Q40 4 ((Q40.1 4) - 1)) (pn_ix Q40.2.2.1 r41) 9 r2) (pn_ix Q40.2.2.1 r41) 10 r4) ∧ r = r41))))))))) := by
  subst hx
  have n0 : 0 < n := s.2.2.2.2.2.1
  have fin : ∀ {S : QS} {r41 : Int32}, Out q J a n (lkV r2 v) S → Tg (fun Q' _ => Out q J a n v Q') (fun Q' r => (if r2 = 0 then ((0 < S.2.2.1 ∧ S.2.2.1 ≤ 32) ∧ (narrow .boolean (.int r2) = .int r2 ∧ fits .boolean (.int r2) = true ∧ ((0 < S.2.2.1 ∧ S.2.2.1 ≤ 32) ∧ (narrow .boolean (.int r4) = .int r4 ∧ fits .boolean (.int r4) = true ∧ (Q' = (rn (rn (rf S 4 ((S.1 4) - 0)) (pn_ix S.2.2.1 r41) 9 r2) (pn_ix S.2.2.1 r41) 10 r4) ∧ r = r41))))) else ((0 < S.2.2.1 ∧ S.2.2.1 ≤ 32) ∧ (narrow .boolean (.int r2) = .int r2 ∧ fits .boolean (.int r2) = true ∧ ((0 < S.2.2.1 ∧ S.2.2.1 ≤ 32) ∧ (narrow .boolean (.int r4) = .int r4 ∧ fits .boolean (.int r4) = true ∧ (Q' = (rn (rn (rf S 4 ((S.1 4) - 1)) (pn_ix S.2.2.1 r41) 9 r2) (pn_ix S.2.2.1 r41) 10 r4) ∧ r = r41))))))) := fun {S r41} h => by
    have ck : 0 < S.2.2.1 ∧ S.2.2.1 ≤ 32 := by
      rcases h with ⟨o', a', n', q1, q2, q3, q4, q5, q6⟩ | ⟨q1, q2⟩
      · exact q5.cok
      · exact q1.1
    by_cases z : r2 = 0
    · refine g_if (fun _ => g_and ck (g_nb v2 (g_and ck (g_nb v4 (g_ret ?_))))) (fun y => absurd z y)
      have ez : lkV r2 v = v := by unfold lkV; rw [if_pos z]
      rw [ez] at h
      rcases h with ⟨o', a', n', q1, q2, q3, q4, q5, q6⟩ | ⟨q1, q2⟩
      · refine Or.inl ⟨o', a', n', q1, q2, q3, q4, ?_, q6⟩
        rw [q5.2.2.1, show nI v - 0 = nI v from Int32.sub_zero _]
        exact (q5.beh.rnx (by omega)).rnx (by omega)
      · exact Or.inr ⟨((q1.f (by omega)).n (by omega)).n (by omega), q2⟩
    · refine g_if (fun y => absurd y z) (fun _ => g_and ck (g_nb v2 (g_and ck (g_nb v4 (g_ret ?_)))))
      have ez : lkV r2 v = v + 1 := by unfold lkV; rw [if_neg z]
      rw [ez] at h
      rcases h with ⟨o', a', n', q1, q2, q3, q4, q5, q6⟩ | ⟨q1, q2⟩
      · refine Or.inl ⟨o', a', n', q1, q2, q3, q4, ?_, q6⟩
        rw [q5.2.2.1, show nI (v + 1) - 1 = nI v from n_sub (a := v + 1) (b := 1) (by omega)]
        exact (q5.beh.rnx (by omega)).rnx (by omega)
      · exact Or.inr ⟨((q1.f (by omega)).n (by omega)).n (by omega), q2⟩
  have lv : lkV r2 v ≤ d := by unfold lkV; split <;> omega
  refine g_ex (add_r (s.beh (v' := lkV r2 v))) (fun Q1 r1 _ h1 => ?_)
  rcases h1 with ⟨l1, s1, -, -⟩ | ⟨l1, s1, -⟩
  · refine g_ex (closed_g hJ hC s1 hb lv ho) (fun Q3 r3 _ h3 => ?_)
    rw [← ev] at h3
    exact g_ex (body_g (E := n - 1) (h3.mv (a := a) (by omega) (by omega)) m2) (fun Q5 r6 _ h5 => fin (h5.mv (by omega) (by omega)))
  · refine g_ex (b_closed hB s1.cb) (fun Q3 r3 _ h3 => g_ex (b_body h3) (fun Q5 r6 _ h5 => fin (Or.inr ⟨h5, fun o' a' e => ?_⟩)))
    have := m2 _ _ e; omega
end RB
