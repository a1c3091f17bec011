/-! the class's reader held against the pure one: sequences, choices, levels, a pattern -/
def Ovr (X : Nat → Int32) (N a : Nat) : Prop := N ≤ a ∨ pk X N a = 124 ∨ pk X N a = 41
/-- a sequence read: what is left to read of the level is the same, or bad -/
def SOut (br : BrA) (X : Nat → Int32) (N o a E v : Nat) (Q' : QS) : Prop := (∃ o' a' n', lgX br X N (decide (0 < v)) o a = lgX br X N (decide (0 < v)) o' a' ∧ Ovr X N a' ∧ a ≤ a' ∧ a' ≤ N ∧ o' ≤ 4 ∧ St Q' a' 0 v o' n' ∧ n' + 2 * a ≤ 2 * a' + E) ∨ (cB Q' ∧ ∀ o' a', lgX br X N (decide (0 < v)) o a = some (o', a') → 32 + 2 * a < 2 * a' + E)
def PcG (CH : CT) (J : Nat) (g : Nat → Int32) (k d : Nat) : Prop := ∀ Q a n v o, St Q a 0 v o n → a < J → v ≤ d → o ≤ 4 → Tg (fun Q' _ => Out (pieA (lvB g J k) g J (decide (0 < v)) o a) J a n v Q') (E_r_onePiece J g CH Q (nI d))
section RS2
variable {J : Nat} {g : Nat → Int32} {Q : QS} {CH : CT} {a b v o n d k : Nat}
theorem seqL_b {m : Nat} {x1 x2 x3 x4 x5 : Int32} (h : cB Q) : Tg (fun Q' _ => cB Q') (L_r_sequence_13 J g CH (m + 1) Q x1 x2 x3 x4 x5) := by
  refine g_eq (fun S r => L_r_sequence_13.eq_2 J g CH Q x1 x2 x3 x4 x5 S r m) ?_
  exact g_if (fun _ => g_and h.1 (g_ret (h.n (by omega)))) (fun _ => g_if (fun z => absurd (h.2.1.symm.trans z) (by decide)) (fun _ => g_and h.1 (g_ret (h.n (by omega)))))
theorem choL_b {m : Nat} {x1 x2 x3 x4 x5 : Int32} (h : cB Q) : Tg (fun Q' _ => cB Q') (L_r_choice_13 J g CH (m + 1) Q x1 x2 x3 x4 x5) := by
  refine g_eq (fun S r => L_r_choice_13.eq_2 J g CH Q x1 x2 x3 x4 x5 S r m) ?_
  exact g_if (fun _ => g_ret h) (fun _ => g_if (fun z => absurd (h.2.1.symm.trans z) (by decide)) (fun _ => g_ret h))
theorem over_1 (hJ : J ≤ 14) (s : St Q a 0 v o n) (ha : a ≤ J) (h : Ovr g J a) : E_r_isSequenceOver J g Q Q 1 := by
  unfold E_r_isSequenceOver
  rw [s.1, rw_pk hJ (by omega)]
  by_cases c0 : nI J ≤ nI a
  · rw [if_pos c0]; exact ⟨rfl, rfl⟩
  · rw [if_neg c0]
    by_cases c1 : pk g J a = 124
    · rw [if_pos c1]; exact ⟨rfl, rfl⟩
    · rw [if_neg c1]
      rcases h with z | z | z
      · exact absurd ((n_le (by omega) (by omega)).mpr z) c0
      · exact absurd z c1
      · rw [if_pos z]; exact ⟨rfl, rfl⟩
theorem over_0 (hJ : J ≤ 14) (s : St Q a 0 v o n) (ha : a ≤ J) (h : ¬ Ovr g J a) : E_r_isSequenceOver J g Q Q 0 := by
  unfold E_r_isSequenceOver
  rw [s.1, rw_pk hJ (by omega), if_neg (fun z => h (Or.inl ((n_le (by omega) (by omega)).mp z))), if_neg (fun z => h (Or.inr (Or.inl z))), if_neg (fun z => h (Or.inr (Or.inr z)))]
  exact ⟨rfl, rfl⟩
theorem seqL_g (hJ : J ≤ 14) (hP : PcG CH J g k d) (hv : v ≤ d) : ∀ (m c a n o : Nat) (Q : QS) (x1 x3 x4 : Int32), J - a ≤ m → c ≤ a → a ≤ J → o ≤ 4 → St Q a 0 v o n → Tg (fun Q' _ => SOut (lvB g J k) g J o a n v Q') (L_r_sequence_13 J g CH (m + 2) Q x1 (nI d) x3 x4 (nI c))
  | m, c, a, n, o, Q, x1, x3, x4, hm, hc, ha, ho, s => by
    refine g_eq (fun S r => L_r_sequence_13.eq_2 J g CH Q x1 (nI d) x3 x4 (nI c) S r (m + 1)) ?_
    have over : Ovr g J a → SOut (lvB g J k) g J o a n v (rn Q (pn_ix Q.2.2.1 x4) 2 x1) := fun z => Or.inl ⟨o, a, n, rfl, z, Nat.le_refl _, ha, ho, s.rnx (by omega), by omega⟩
    refine g_if (fun z => g_and s.cok (g_ret (over (Or.inl ?_)))) (fun z => g_if (fun _ => ?_) (fun y => absurd s.2.1 y))
    · have := (n_le (a := 14) (b := c) (by omega) (by omega)).mp z; omega
    by_cases hov : Ovr g J a
    · exact g_at (over_1 hJ s ha hov) (g_if (fun y => absurd y (by decide)) (fun _ => g_and s.cok (g_ret (over hov))))
    · refine g_at (over_0 hJ s ha hov) (g_if (fun _ => g_and s.cok ?_) (fun y => absurd rfl y))
      have c0 : ¬ J ≤ a := fun z => hov (Or.inl z)
      refine g_ex (hP Q a n v o s (by omega) hv ho) (fun Q12 r13 _ h12 => ?_)
      have lq := lgX_eq (X := g) (bh := decide (0 < v)) (lvB_M (X := g) (N := J) k) hJ ha ho
      rw [if_neg c0, if_neg (fun z => hov (Or.inr (Or.inl z))), if_neg (fun z => hov (Or.inr (Or.inr z)))] at lq
      rcases h12 with ⟨o', a', n', q1, q2, q3, q4, q5, q6⟩ | ⟨q1, q2⟩
      · have pl := pie_le (lvB_M k) (by omega : a < J) ho q1
        rw [q1] at lq
        dsimp only at lq
        match m, hm with
        | 0, hm => exact absurd hm (by omega)
        | m + 1, hm =>
          have ih := seqL_g hJ hP hv m (c + 1) a' n' o' (rn Q12 (pn_ix Q.2.2.1 x4) 2 r13) x1 x3 (Q12.1 5) (by omega) (by omega) q3 q4 (q5.rnx (by omega))
          rw [nI_succ] at ih
          refine g_of ih (fun S r hS => ?_)
          rcases hS with ⟨o2, a2, n2, w1, w2, w3, w4, w5, w6, w7⟩ | ⟨w1, w2⟩
          · exact Or.inl ⟨o2, a2, n2, lq.trans w1, w2, by omega, w4, w5, w6, by omega⟩
          · refine Or.inr ⟨w1, fun o2 a2 e => ?_⟩
            rw [lq] at e
            have := w2 o2 a2 e; omega
      · refine g_of (seqL_b (m := m) (q1.n (by omega))) (fun S r hS => Or.inr ⟨hS, fun o2 a2 e => ?_⟩)
        rw [lq] at e
        cases ep : pieA (lvB g J k) g J (decide (0 < v)) o a with
        | none => rw [ep] at e; cases e
        | some w =>
          obtain ⟨o3, a3⟩ := w
          rw [ep] at e
          dsimp only at e
          have pl := pie_le (lvB_M k) (by omega : a < J) ho ep
          have ll := lg_le (lvB_M k) pl.2.1 pl.2.2 e
          have := q2 _ _ ep; omega
theorem seq_g {a1 : Int32} (hJ : J ≤ 14) (hP : PcG CH J g k d) (hv : v ≤ d) (s : St Q a 0 v o n) (ha : a ≤ J) (ho : o ≤ 4) : Tg (fun Q' _ => SOut (lvB g J k) g J o a (n + 1) v Q') (E_r_sequence J g CH Q a1 (nI d)) := by
  refine g_ex (add_r s) (fun Q1 r2 _ h1 => g_nf (n := 16) ?_)
  rcases h1 with ⟨l1, s1, -, -⟩ | ⟨l1, s1, -⟩
  · exact seqL_g hJ hP hv 14 0 a (n + 1) o Q1 a1 r2 r2 (by omega) (by omega) ha ho s1
  · refine g_of (seqL_b (m := 15) s1.cb) (fun S r hS => Or.inr ⟨hS, fun o' a' e => ?_⟩)
    have := lg_le (lvB_M k) ha ho e; omega
theorem choL_g (hJ : J ≤ 14) (hP : PcG CH J g k d) (hv : v ≤ d) : ∀ (m c a n o : Nat) (Q : QS) (x1 x3 x4 : Int32), J - a ≤ m → c ≤ a → a ≤ J → o ≤ 4 → Ovr g J a → St Q a 0 v o n → Tg (fun Q' _ => Out (lgX (lvB g J k) g J (decide (0 < v)) o a) J a n v Q') (L_r_choice_13 J g CH (m + 2) Q x1 (nI d) x3 x4 (nI c))
  | m, c, a, n, o, Q, x1, x3, x4, hm, hc, ha, ho, hov, s => by
    refine g_eq (fun S r => L_r_choice_13.eq_2 J g CH Q x1 (nI d) x3 x4 (nI c) S r (m + 1)) ?_
    have lq := lgX_eq (X := g) (bh := decide (0 < v)) (lvB_M (X := g) (N := J) k) hJ ha ho
    have er : rw_at J g (Q.1 2) = pk g J a := by rw [s.1, rw_pk hJ (by omega)]
    have stop : ¬ pk g J a = 124 → Out (lgX (lvB g J k) g J (decide (0 < v)) o a) J a n v Q := fun z => by
      refine Or.inl ⟨o, a, n, ?_, Nat.le_refl _, ha, ho, s, by omega⟩
      rw [lq]
      by_cases c0 : J ≤ a
      · rw [if_pos c0]
      · rw [if_neg c0, if_neg z, if_pos ((hov.resolve_left c0).resolve_left z)]
    refine g_if (fun z => g_ret (stop ?_)) (fun z => g_if (fun _ => ?_) (fun y => absurd s.2.1 y))
    · have := (n_le (a := 14) (b := c) (by omega) (by omega)).mp z
      rw [pkx_gt (by omega)]; decide
    refine g_if (fun z => ?_) (fun z => g_ret (stop (fun y => z (er.trans y))))
    have c1 : pk g J a = 124 := er.symm.trans z
    have al := pkx_lt c1 (by decide)
    have e1 : Q.1 2 + 1 = nI (a + 1) := by rw [s.1]; exact (nI_succ a).symm
    rw [e1]
    rw [if_neg (by omega), if_pos c1] at lq
    refine g_ex (seq_g hJ hP hv s.atx (by omega) ho) (fun Q6 r7 _ h6 => ?_)
    rcases h6 with ⟨o', a', n', w1, w2, w3, w4, w5, w6, w7⟩ | ⟨w1, w2⟩
    · refine g_and w6.cok ?_
      match m, hm with
      | 0, hm => exact absurd hm (by omega)
      | m + 1, hm =>
        have ih := choL_g hJ hP hv m (c + 1) a' n' o' (rn Q6 (pn_ix Q6.2.2.1 x4) 3 r7) x1 x3 r7 (by omega) (by omega) w4 w5 w2 (w6.rnx (by omega))
        rw [nI_succ] at ih
        rw [lq, w1]
        exact g_of ih (fun S r hS => hS.mv (by omega) (by omega))
    · refine g_and w1.1 (g_of (choL_b (m := m) (w1.n (by omega))) (fun S r hS => Or.inr ⟨hS, fun o2 a2 e => ?_⟩))
      rw [lq] at e
      have := w2 _ _ e; omega
theorem choice_g {a1 : Int32} (hJ : J ≤ 14) (hP : PcG CH J g k d) (hv : v ≤ d) (s : St Q a 0 v o n) (ha : a ≤ J) (ho : o ≤ 4) : Tg (fun Q' _ => Out (lgX (lvB g J k) g J (decide (0 < v)) o a) J a (n + 1) v Q') (E_r_choice J g CH Q a1 (nI d)) := by
  refine g_ex (seq_g hJ hP hv s ha ho) (fun Q1 r2 _ h1 => g_nf (n := 16) ?_)
  rcases h1 with ⟨o', a', n', w1, w2, w3, w4, w5, w6, w7⟩ | ⟨w1, w2⟩
  · rw [w1]
    exact g_of (choL_g hJ hP hv 14 0 a' n' o' Q1 a1 r2 r2 (by omega) (by omega) w4 w5 w2 w6) (fun S r hS => hS.mv (by omega) (by omega))
  · exact g_of (choL_b (m := 15) w1) (fun S r hS => Or.inr ⟨hS, w2⟩)
theorem CHk_G (hJ : J ≤ 14) (hX : Xok g J) : ∀ (m d : Nat), d ≤ 4 → 5 ≤ d + m → ChG (CHk J g m) J g (4 - d) d
  | 0, d, h1, h2 => absurd h2 (by omega)
  | m + 1, d, h1, h2 => fun Q a1 a n v o s ha hv ho => by
    have hP : PcG (CHk J g m) J g (4 - d) d := fun Q a n v o s ha hv ho => piece_g hJ hX (fun h => ⟨4 - (d + 1), by omega, CHk_G hJ hX m (d + 1) (by omega) (by omega), CHk_B m (by omega)⟩) (fun h => by omega) s ha hv h1 ho
    exact choice_g hJ hP hv s ha ho
/-- a pattern read: as the pure reader reads it -/
theorem rp_g (hJ : J ≤ 14) (hX : Xok g J) (hN : NumOK Q) (h2 : Q.1 2 = 0) (h3 : Q.1 3 = 0) (h4 : Q.1 4 = 0) : ∃ Q' r, E_rp J g Q Q' r ∧ NumOK Q' ∧ (0 < Q'.2.2.1 ∧ Q'.2.2.1 ≤ 32) ∧ match pRd g J with
    | none => r = 0
    | some w => r = 1 ∧ Q'.1 13 = nI w.1 := by
  have s1 : St (rl (rf (rf (rc Q 1) 12 0) 13 0) 14 0) 0 0 0 0 1 := ⟨h2, h3, h4, rfl, rfl, by omega, by omega, hN⟩
  obtain ⟨Q3, r4, t1, t2⟩ := add_r (J := J) (g := g) (k := 1) s1
  rcases t2 with ⟨-, s3, -, -⟩ | ⟨z, -, -⟩
  · have hP : PcG (CHk J g 6) J g 4 0 := fun Q a n v o s ha hv ho => piece_g hJ hX (fun h => ⟨3, rfl, CHk_G hJ hX 6 1 (by omega) (by omega), CHk_B 6 (by omega)⟩) (fun h => by omega) s ha hv (by omega) ho
    obtain ⟨Q5, r6, u1, u2⟩ := choice_g (a1 := r4) hJ hP (Nat.le_refl 0) s3 (Nat.zero_le J) (by omega)
    have ev : lgX (lvB g J 4) g J (decide (0 < 0)) 0 0 = (pLv g J 4 false 0 0).map pj := (lv_pj 4 false 0 0).symm
    rw [ev] at u2
    have go : ∀ Q' r, (if (Q5.1 3) = 0 then (if (Q5.1 2) = (nI J) then (Q' = (rf Q5 12 r6) ∧ r = 1) else (Q' = (rf Q5 12 r6) ∧ r = 0)) else (Q' = (rf Q5 12 r6) ∧ r = 0)) → E_rp J g Q Q' r := fun Q' r hh => ⟨_, ⟨rfl, rfl⟩, Q3, r4, t1, Q5, r6, u1, hh⟩
    unfold pRd
    rcases u2 with ⟨o', a', n', q1, q2, q3, q4, q5, q6⟩ | ⟨q1, q2⟩
    · cases e : pLv g J 4 false 0 0 with
      | none => rw [e] at q1; cases q1
      | some w =>
        obtain ⟨o2, a2, c⟩ := w
        rw [e] at q1
        cases q1
        have q3 : a2 ≤ J := q3
        have q5 : St Q5 a2 0 0 o2 n' := q5
        dsimp only
        by_cases c0 : J ≤ a2
        · have ea : a2 = J := by omega
          rw [if_pos c0]
          refine ⟨rf Q5 12 r6, 1, go _ _ ?_, (q5.rfx (k := 12) (x := r6) (by omega) (by omega) (by omega) (by omega)).2.2.2.2.2.2.2, q5.cok, rfl, q5.2.2.2.1⟩
          rw [if_pos q5.2.1, q5.1, ea, if_pos rfl]; exact ⟨rfl, rfl⟩
        · rw [if_neg c0]
          refine ⟨rf Q5 12 r6, 0, go _ _ ?_, (q5.rfx (k := 12) (x := r6) (by omega) (by omega) (by omega) (by omega)).2.2.2.2.2.2.2, q5.cok, rfl⟩
          rw [if_pos q5.2.1, q5.1, if_neg (fun z => c0 (by have := (n_eq (by omega) (by omega)).mp z; omega))]; exact ⟨rfl, rfl⟩
    · have nb : ¬ Q5.1 3 = 0 := fun z => absurd (q1.2.1.symm.trans z) (by decide)
      refine ⟨rf Q5 12 r6, 0, go _ _ (by rw [if_neg nb]; exact ⟨rfl, rfl⟩), q1.2.2, q1.1, ?_⟩
      cases e : pLv g J 4 false 0 0 with
      | none => rfl
      | some w =>
        obtain ⟨o2, a2, c⟩ := w
        have l1 := q2 o2 a2 (by rw [e]; rfl)
        have l2 := lg_le (lvB_M 4) (Nat.zero_le J) (Nat.zero_le 4) (ev.trans (by rw [e]; rfl) : lgX (lvB g J 4) g J (decide (0 < 0)) 0 0 = some (o2, a2))
        omega
  · exact absurd z (by decide)
end RS2
