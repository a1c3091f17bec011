/-! the class's reader held against the pure one: looks, atoms, pieces -/
theorem g_at {F A : QS → Int32 → Prop} {P : QS → Int32 → QS → Int32 → Prop} {S1 : QS} {r1 : Int32} (h : A S1 r1) (g : Tg F (P S1 r1)) : Tg F (fun S r => ∃ S1 r1, A S1 r1 ∧ P S1 r1 S r) := by
  obtain ⟨S, r, d, e⟩ := g
  exact ⟨S, r, ⟨S1, r1, h, d⟩, e⟩
theorem g_atv {F : QS → Int32 → Prop} {A : QS → Prop} {P : QS → QS → Int32 → Prop} {S1 : QS} (h : A S1) (g : Tg F (P S1)) : Tg F (fun S r => ∃ S1, A S1 ∧ P S1 S r) := by
  obtain ⟨S, r, d, e⟩ := g
  exact ⟨S, r, ⟨S1, h, d⟩, e⟩
section RC
variable {J : Nat} {g : Nat → Int32} {Q : QS} {CH : CT} {a b v o n d k : Nat}
theorem hd_none (h63 : pk g J (a + 1) = 63) (hk : hdK g J a = none) {bh : Bool} : lvB g J (k + 1) bh o a = none := by
  show brA (fun bh o a => lgA (lvB g J k) g J bh 16 o a) g J bh o a = _
  unfold brA hdP
  rw [if_pos h63, hk]
theorem refuse_g {E : Nat} {p : Option (Nat × Nat)} {bd : Int32} {b : Nat} (s : St Q b bd v o n) (hp : p = none) : Tg (fun Q' _ => Out p J a E v Q') (fun Q' r => ∃ (Q58 : QS) (r59 : Int32), E_r_refuse J g Q Q58 r59 ∧ (Q' = Q58 ∧ r = r59)) := by
  obtain ⟨Q', f1, f2⟩ := refuse_r (J := J) (g := g) s
  exact ⟨Q', 0, ⟨Q', 0, f1, rfl, rfl⟩, Or.inr ⟨f2.cb, fun o' a' e => by rw [hp] at e; cases e⟩⟩
set_option maxHeartbeats 4000000 in
theorem look_g (hJ : J ≤ 14) (hC : ChG CH J g k d) (hB : ChB CH) (s : St Q (a + 2) 0 v o n) (ha : a < J) (hv : v + 1 ≤ d) (hd : d ≤ 100) (ho : o ≤ 4) (h63 : pk g J (a + 1) = 63) (h58 : ¬ pk g J (a + 2) = 58) (h62 : ¬ pk g J (a + 2) = 62) : Tg (fun Q' _ => Out (lvB g J (k + 1) (decide (0 < v)) o a) J a n v Q') (E_r_look J g CH Q (nI d)) := by
  have mono : ∀ o' a', lvB g J (k + 1) (decide (0 < v)) o a = some (o', a') → a < a' := fun o' a' e => (lvB_M (k + 1) _ _ _ _ _ e ho).1
  have e0 : nI v + 0 = nI v := Int32.add_zero _
  have e1 : nI v + 1 = nI (v + 1) := (nI_succ v).symm
  unfold E_r_look
  by_cases c60 : pk g J (a + 2) = 60
  · have a2 : a + 2 < J := pkx_lt c60 (by decide)
    obtain ⟨Q1, r2, t1, t2, -⟩ := take_r (c := 60) (g := g) hJ s (by omega)
    rw [if_pos c60] at t2
    obtain ⟨er, s1⟩ := t2
    obtain ⟨Q3, r4, u1, u2, -⟩ := take_r (c := 33) (g := g) hJ s1 (by omega)
    refine g_at t1 ?_
    refine g_at u1 ?_
    have lk : lkV r2 v = v + 1 := by unfold lkV; rw [er, if_neg (by decide)]
    have n2 : ¬ r2 = 0 := by rw [er]; decide
    have bk : ∀ kd, kd = 12 ∨ kd = 13 → bhK (decide (0 < v)) kd = decide (0 < lkV r2 v) := fun kd hk => by
      rw [lk]; unfold bhK; simp [hk]
    by_cases c33 : pk g J (a + 3) = 33
    · have a3 : a + 3 < J := pkx_lt c33 (by decide)
      rw [if_pos (by exact c33)] at u2
      obtain ⟨er4, s3⟩ := u2
      refine g_if (fun z => absurd (er4.symm.trans z) (by decide)) (fun _ => g_if (fun _ => g_if (fun z => absurd z n2) (fun _ => ?_)) (fun z => absurd s3.2.1 z))
      exact lk_g (b := a + 4) hJ hC hB (Or.inr er) (Or.inr er4) (by rw [s3.2.2.1, e1, lk]) s3 (by omega) (by omega) hv hd ho (ev_q (kd := 13) (sk := 4) h63 (by unfold hdK; rw [if_neg h58, if_neg (by rw [c60]; decide), if_neg (by rw [c60]; decide), if_neg h62, if_pos c60, if_neg (by rw [c33]; decide), if_pos c33]) (by rw [if_pos c60]) (by decide) (bk 13 (Or.inr rfl))) mono
    · rw [if_neg (by exact c33)] at u2
      obtain ⟨er4, s3⟩ := u2
      refine g_if (fun _ => ?_) (fun z => absurd er4 z)
      obtain ⟨Q32, x1, x2, -⟩ := expect_r (c := 61) (g := g) hJ s3 (by omega)
      refine g_atv x1 ?_
      by_cases c61 : pk g J (a + 3) = 61
      · have a3 : a + 3 < J := pkx_lt c61 (by decide)
        rw [if_pos (by exact c61)] at x2
        refine g_if (fun _ => g_if (fun z => absurd z n2) (fun _ => ?_)) (fun z => absurd x2.2.1 z)
        exact lk_g (b := a + 4) hJ hC hB (Or.inr er) (Or.inl er4) (by rw [x2.2.2.1, e1, lk]) x2 (by omega) (by omega) hv hd ho (ev_q (kd := 12) (sk := 4) h63 (by unfold hdK; rw [if_neg h58, if_neg (by rw [c60]; decide), if_neg (by rw [c60]; decide), if_neg h62, if_pos c60, if_pos c61]) (by rw [if_pos c60]) (by decide) (bk 12 (Or.inl rfl))) mono
      · rw [if_neg (by exact c61)] at x2
        refine g_if (fun z => absurd (x2.2.1.symm.trans z) (by decide)) (fun _ => refuse_g x2 (hd_none h63 ?_))
        unfold hdK
        rw [if_neg h58, if_neg (by rw [c60]; decide), if_neg (by rw [c60]; decide), if_neg h62, if_pos c60, if_neg c61, if_neg c33]
  · obtain ⟨Q1, r2, t1, t2, -⟩ := take_r (c := 60) (g := g) hJ s (by omega)
    rw [if_neg c60] at t2
    obtain ⟨er, s1⟩ := t2
    obtain ⟨Q3, r4, u1, u2, -⟩ := take_r (c := 33) (g := g) hJ s1 (by omega)
    refine g_at t1 ?_
    refine g_at u1 ?_
    have lk : lkV r2 v = v := by unfold lkV; rw [er, if_pos rfl]
    have bk : ∀ kd, kd = 10 ∨ kd = 11 → bhK (decide (0 < v)) kd = decide (0 < lkV r2 v) := fun kd hk => by
      rw [lk]; unfold bhK; rcases hk with rfl | rfl <;> simp
    by_cases c33 : pk g J (a + 2) = 33
    · have a2 : a + 2 < J := pkx_lt c33 (by decide)
      rw [if_pos c33] at u2
      obtain ⟨er4, s3⟩ := u2
      refine g_if (fun z => absurd (er4.symm.trans z) (by decide)) (fun _ => g_if (fun _ => g_if (fun _ => ?_) (fun z => absurd er z)) (fun z => absurd s3.2.1 z))
      exact lk_g (b := a + 3) hJ hC hB (Or.inl er) (Or.inr er4) (by rw [s3.2.2.1, e0, lk]) s3 (by omega) (by omega) hv hd ho (ev_q (kd := 11) (sk := 3) h63 (by unfold hdK; rw [if_neg h58, if_neg (by rw [c33]; decide), if_pos c33]) (by rw [if_neg c60]) (by decide) (bk 11 (Or.inr rfl))) mono
    · rw [if_neg c33] at u2
      obtain ⟨er4, s3⟩ := u2
      refine g_if (fun _ => ?_) (fun z => absurd er4 z)
      obtain ⟨Q32, x1, x2, -⟩ := expect_r (c := 61) (g := g) hJ s3 (by omega)
      refine g_atv x1 ?_
      by_cases c61 : pk g J (a + 2) = 61
      · have a2 : a + 2 < J := pkx_lt c61 (by decide)
        rw [if_pos c61] at x2
        refine g_if (fun _ => g_if (fun _ => ?_) (fun z => absurd er z)) (fun z => absurd x2.2.1 z)
        exact lk_g (b := a + 3) hJ hC hB (Or.inl er) (Or.inl er4) (by rw [x2.2.2.1, e0, lk]) x2 (by omega) (by omega) hv hd ho (ev_q (kd := 10) (sk := 3) h63 (by unfold hdK; rw [if_neg h58, if_pos c61]) (by rw [if_neg c60]) (by decide) (bk 10 (Or.inl rfl))) mono
      · rw [if_neg c61] at x2
        refine g_if (fun z => absurd (x2.2.1.symm.trans z) (by decide)) (fun _ => refuse_g x2 (hd_none h63 ?_))
        unfold hdK
        rw [if_neg h58, if_neg c61, if_neg c33, if_neg h62, if_neg c60]
theorem bracket_g (hJ : J ≤ 14) (hC : ChG CH J g k d) (hB : ChB CH) (s : St Q (a + 1) 0 v o n) (ha : a < J) (hv : v + 1 ≤ d) (hd : d ≤ 4) (ho : o ≤ 4) : Tg (fun Q' _ => Out (lvB g J (k + 1) (decide (0 < v)) o a) J a n v Q') (E_r_bracket J g CH Q (nI d)) := by
  unfold E_r_bracket
  refine g_if (fun _ => ?_) (fun z => absurd ((n_le (a := d) (b := 4) (by omega) (by omega)).mpr hd) z)
  obtain ⟨Q2, r3, t1, t2, -⟩ := take_r (c := 63) (g := g) hJ s (by omega)
  refine g_at t1 ?_
  by_cases c63 : pk g J (a + 1) = 63
  · have a1 : a + 1 < J := pkx_lt c63 (by decide)
    rw [if_pos c63] at t2
    obtain ⟨er, s2⟩ := t2
    refine g_if (fun z => absurd (er.symm.trans z) (by decide)) (fun _ => ?_)
    obtain ⟨Q5, r6, u1, u2, -⟩ := take_r (c := 58) (g := g) hJ s2 (by omega)
    refine g_at u1 ?_
    by_cases c58 : pk g J (a + 2) = 58
    · have a2 : a + 2 < J := pkx_lt c58 (by decide)
      rw [if_pos (by exact c58)] at u2
      obtain ⟨er6, s5⟩ := u2
      refine g_if (fun z => absurd (er6.symm.trans z) (by decide)) (fun _ => g_ex (together_g hJ hC hB s5 a2 (by omega) ho c63 c58) (fun _ _ _ h1 => g_ret h1))
    · rw [if_neg (by exact c58)] at u2
      obtain ⟨er6, s5⟩ := u2
      refine g_if (fun _ => ?_) (fun z => absurd er6 z)
      obtain ⟨Q8, r9, w1, w2, -⟩ := take_r (c := 62) (g := g) hJ s5 (by omega)
      refine g_at w1 ?_
      by_cases c62 : pk g J (a + 2) = 62
      · have a2 : a + 2 < J := pkx_lt c62 (by decide)
        rw [if_pos (by exact c62)] at w2
        obtain ⟨er9, s8⟩ := w2
        exact g_if (fun z => absurd (er9.symm.trans z) (by decide)) (fun _ => atomic_g hJ hC hB s8 a2 (by omega) ho c63 c62)
      · rw [if_neg (by exact c62)] at w2
        obtain ⟨er9, s8⟩ := w2
        exact g_if (fun _ => g_ex (look_g hJ hC hB s8 ha hv (by omega) ho c63 c58 c62) (fun _ _ _ h1 => g_ret h1)) (fun z => absurd er9 z)
  · rw [if_neg c63] at t2
    obtain ⟨er, s2⟩ := t2
    exact g_if (fun _ => g_ex (group_g hJ hC hB s2 ha (by omega) ho c63) (fun _ _ _ h1 => g_ret h1)) (fun z => absurd er z)
def toA (br : BrA) (X : Nat → Int32) (N : Nat) (bh : Bool) (o a : Nat) : Option (Nat × Nat) := if pk X N a = 40 then br bh o a else (atmA X N o bh a).map (fun a1 => (o, a1))
theorem pie_to {br : BrA} {X : Nat → Int32} {N : Nat} {bh : Bool} : pieA br X N bh o a = (match toA br X N bh o a with | none => none | some (o2, a2) => (lopA X N bh a2).map (fun a3 => (o2, a3))) := by
  unfold pieA toA
  by_cases c : pk X N a = 40
  · rw [if_pos c, if_pos c]
    cases br bh o a with
    | none => rfl
    | some w => rfl
  · rw [if_neg c, if_neg c]
    cases atmA X N o bh a with
    | none => rfl
    | some a1 => rfl
theorem atom_g (hJ : J ≤ 14) (hX : Xok g J) (hC : d < 4 → ∃ k', k = k' + 1 ∧ ChG CH J g k' (d + 1) ∧ ChB CH) (h4 : 4 ≤ d → k = 0) (s : St Q a 0 v o n) (ha : a < J) (hv : v ≤ d) (hd : d ≤ 4) (ho : o ≤ 4) : Tg (fun Q' _ => Out (toA (lvB g J k) g J (decide (0 < v)) o a) J a n v Q') (E_r_atom J g CH Q (nI d)) := by
  have es : nI a + 1 = nI (a + 1) := (nI_succ a).symm
  by_cases c : pk g J a = 40
  · have et : toA (lvB g J k) g J (decide (0 < v)) o a = lvB g J k (decide (0 < v)) o a := by unfold toA; rw [if_pos c]
    unfold E_r_atom
    rw [s.1, rw_pk hJ (by omega), es, et, show nI d + 1 = nI (d + 1) from (nI_succ d).symm]
    refine g_if (fun z => absurd (c.symm.trans z) (by decide)) (fun _ => g_if (fun _ => ?_) (fun z => absurd c z))
    have s1 : St (rf Q 2 (nI (a + 1))) (a + 1) 0 v o n := s.atx
    rcases Nat.lt_or_ge d 4 with z | z
    · obtain ⟨k', e1, e2, e3⟩ := hC z
      subst e1
      exact g_ex (bracket_g hJ e2 e3 s1 ha (by omega) (by omega) ho) (fun _ _ _ h1 => g_ret h1)
    · have e1 := h4 z
      subst e1
      have d4 : d = 4 := by omega
      subst d4
      refine g_ex (H := fun Q' _ => cB Q') ?_ (fun Q5 r6 _ h5 => g_ret (Or.inr ⟨h5, fun o' a' e => by cases e⟩))
      unfold E_r_bracket
      refine g_if (fun y => absurd y (by decide)) (fun _ => ?_)
      obtain ⟨Q', f1, f2⟩ := refuse_r (J := J) (g := g) s1
      exact ⟨Q', 0, ⟨Q', 0, f1, rfl, rfl⟩, f2.cb⟩
  · obtain ⟨Q', r, l1, l2⟩ := leaf_r (CH := CH) (x := nI d) hJ hX (by omega) ho s ha c
    refine ⟨Q', r, l1, ?_⟩
    have et : toA (lvB g J k) g J (decide (0 < v)) o a = ((atmP g J o (decide (0 < v)) a).map Prod.fst).map (fun a1 => (o, a1)) := by unfold toA; rw [if_neg c]; rfl
    have le : ∀ a', (atmP g J o (decide (0 < v)) a).map Prod.fst = some a' → a < a' ∧ a' ≤ J := fun a' e => atmA_le ha e
    rw [et]
    cases e : (atmP g J o (decide (0 < v)) a).map Prod.fst with
    | none =>
      rw [e] at l2
      exact Or.inr ⟨Bad.cb l2, fun o' a' y => by cases y⟩
    | some a' =>
      rw [e] at l2
      have le := le a' e
      rcases l2 with ⟨c1, s1⟩ | ⟨c1, s1⟩
      · exact Or.inl ⟨o, a', n + 1, rfl, by omega, le.2, ho, s1, by omega⟩
      · refine Or.inr ⟨s1.cb, fun o2 a2 y => ?_⟩
        cases y
        omega
end RC
