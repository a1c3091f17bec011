/-! the class's reader: a set's items, an escape, an atom that is a leaf -/
section RI7
variable {Q : QS} {a v o n J : Nat} {g : Nat → Int32}
theorem itEnd_r {x1 bd : Int32} (hJ : J ≤ 14) (h : St Q a bd v o n) (ha : a ≤ 100) : ∃ Q' r, (∃ Q6 : QS, E_r_expect J g Q 93 Q6 0 ∧ (if x1 = 0 then (∃ (Q9 : QS) (r10 : Int32), E_r_set J g Q6 (Q6.2.1 6) (Q6.2.1 7) Q9 r10 ∧ (Q' = Q9 ∧ r = r10)) else (∃ (Q11 : QS) (r12 : Int32), E_r_set J g Q6 ((Q6.2.1 6) ^^^ (-1)) ((Q6.2.1 7) ^^^ (-1)) Q11 r12 ∧ (Q' = Q11 ∧ r = r12)))) ∧ (if pk g J a = 93 then One Q' (a + 1) bd v o n else One Q' a 1 v o n) := by
  obtain ⟨Q6, e1, e2, -⟩ := expect_r (c := 93) hJ h ha
  have go : ∀ {p : Nat} {b : Int32}, St Q6 p b v o n → ∃ Q' r, (if x1 = 0 then (∃ (Q9 : QS) (r10 : Int32), E_r_set J g Q6 (Q6.2.1 6) (Q6.2.1 7) Q9 r10 ∧ (Q' = Q9 ∧ r = r10)) else (∃ (Q11 : QS) (r12 : Int32), E_r_set J g Q6 ((Q6.2.1 6) ^^^ (-1)) ((Q6.2.1 7) ^^^ (-1)) Q11 r12 ∧ (Q' = Q11 ∧ r = r12))) ∧ One Q' p b v o n := fun s => by
    by_cases z : x1 = 0
    · obtain ⟨Q9, r10, t1, t2⟩ := set_r (J := J) (g := g) (x := Q6.2.1 6) (y := Q6.2.1 7) s
      exact ⟨Q9, r10, by rw [if_pos z]; exact ⟨Q9, r10, t1, rfl, rfl⟩, t2⟩
    · obtain ⟨Q9, r10, t1, t2⟩ := set_r (J := J) (g := g) (x := (Q6.2.1 6) ^^^ (-1)) (y := (Q6.2.1 7) ^^^ (-1)) s
      exact ⟨Q9, r10, by rw [if_neg z]; exact ⟨Q9, r10, t1, rfl, rfl⟩, t2⟩
  by_cases c : pk g J a = 93
  · rw [if_pos c] at e2
    obtain ⟨Q', r, g1, g2⟩ := go e2
    exact ⟨Q', r, ⟨Q6, e1, g1⟩, by rw [if_pos c]; exact g2⟩
  · rw [if_neg c] at e2
    obtain ⟨Q', r, g1, g2⟩ := go e2
    exact ⟨Q', r, ⟨Q6, e1, g1⟩, by rw [if_neg c]; exact g2⟩
def Bad (Q' : QS) (v o : Nat) : Prop := ∃ p n', p ≤ 90 ∧ St Q' p 1 v o n'
theorem One.bad (h : One Q a 1 v o n) (ha : a ≤ 90) : Bad Q v o := by
  rcases h with ⟨-, s⟩ | ⟨-, s⟩
  · exact ⟨_, _, ha, s⟩
  · exact ⟨_, _, ha, s⟩
theorem itsL_r {x1 : Int32} (hJ : J ≤ 14) (hX : Xok g J) : ∀ (m k a : Nat) (Q : QS), J - a ≤ m → k + 2 ≤ a → a ≤ J → St Q a 0 v o n → ∃ Q' r, L_r_items_23 J g (m + 2) Q x1 (nI k) Q' r ∧ match itsA g J (m + 1) (k + 1) a with | some a' => One Q' a' 0 v o n | none => Bad Q' v o
  | m, k, a, Q, hm, hk, ha, h => by
    have n14 : ¬ (14 : Int32) ≤ nI k := fun z => by have := (n_le (a := 14) (b := k) (by omega) (by omega)).mp z; omega
    have b0 : Q.1 3 = 0 := h.2.1
    unfold itsA
    by_cases c : pk g J a = 93
    · obtain ⟨Q', r, e1, e2⟩ := itEnd_r (x1 := x1) hJ h (by omega)
      rw [if_pos c] at e2
      refine ⟨Q', r, ?_, ?_⟩
      · rw [L_r_items_23.eq_2, if_neg n14, if_pos b0, h.1, rw_pk hJ (by omega), if_pos c]; exact e1
      · rw [if_pos c, if_neg (by omega)]; exact e2
    · rw [if_neg c]
      obtain ⟨Q1, t1, t2⟩ := item_r hJ hX h (by omega)
      have go : ∀ Q' r, L_r_items_23 J g (m + 1) Q1 x1 (nI (k + 1)) Q' r → L_r_items_23 J g (m + 2) Q x1 (nI k) Q' r := fun Q' r hh => by
        rw [L_r_items_23.eq_2, if_neg n14, if_pos b0, h.1, rw_pk hJ (by omega), if_neg c, show nI k + 1 = nI (k + 1) from (nI_succ k).symm]
        exact ⟨Q1, t1, hh⟩
      cases e : itmA g J a with
      | none =>
        rw [e] at t2
        obtain ⟨p, p1, p2⟩ := t2
        obtain ⟨Q', r, e1, e2⟩ := itEnd_r (x1 := x1) (g := g) hJ p2 (by omega)
        refine ⟨Q', r, go _ _ ?_, ?_⟩
        · have b1 : ¬ Q1.1 3 = 0 := by rw [p2.2.1]; decide
          by_cases z : (14 : Int32) ≤ nI (k + 1)
          · rw [L_r_items_23.eq_2, if_pos z]; exact e1
          · rw [L_r_items_23.eq_2, if_neg z, if_neg b1]; exact e1
        · dsimp only
          split at e2
          · exact e2.bad (by omega)
          · exact e2.bad (by omega)
      | some a' =>
        rw [e] at t2
        have le := itmA_le e
        match m, hm with
        | 0, hm => exact absurd hm (by omega)
        | m + 1, hm =>
          obtain ⟨Q', r, i1, i2⟩ := itsL_r hJ hX m (k + 1) a' Q1 (by omega) (by omega) le.2 t2
          exact ⟨Q', r, go _ _ i1, i2⟩
theorem its_PA {X : Nat → Int32} {N a : Nat} : (itsP X N a).map Prod.fst = itsA X N 16 0 (if pk X N a = 94 then a + 1 else a) := by
  unfold itsP
  by_cases c : pk X N a = 94
  · rw [if_pos c, if_pos c]; exact its_A _ _ _ _
  · rw [if_neg c, if_neg c]; exact its_A _ _ _ _
theorem items_r (hJ : J ≤ 14) (hX : Xok g J) (h : St Q a 0 v o n) (h1 : 1 ≤ a) (ha : a ≤ J) : ∃ Q' r, E_r_items J g Q Q' r ∧ match (itsP g J a).map Prod.fst with | some a' => One Q' a' 0 v o n | none => Bad Q' v o := by
  rw [its_PA]
  obtain ⟨Q1, r2, t1, t2, -⟩ := take_r (c := 94) hJ h (by omega)
  have go : ∀ b : Nat, St Q1 b 0 v o n → 1 ≤ b → b ≤ J + 1 → ∃ Q' r, E_r_items J g Q Q' r ∧ match itsA g J 16 0 b with | some a' => One Q' a' 0 v o n | none => Bad Q' v o := fun b s hb hb2 => by
    obtain ⟨Q3, i1, i2⟩ := item_r hJ hX ((s.rlx (k := 6) (x := 0)).rlx (k := 7) (x := 0)) (by omega)
    unfold itsA
    by_cases c : pk g J b = 93
    · have e : itmA g J b = none := by
        unfold itmA
        rw [c, if_neg (by decide), if_neg (by decide)]
      rw [if_pos c, if_pos rfl]
      rw [e] at i2
      obtain ⟨p, p1, p2⟩ := i2
      obtain ⟨Q', r, e1, e2⟩ := itEnd_r (x1 := r2) (g := g) hJ p2 (by omega)
      refine ⟨Q', r, ⟨Q1, r2, t1, Q3, i1, 1, ?_⟩, ?_⟩
      · rw [L_r_items_23.eq_2, if_neg (by decide), if_neg (by rw [p2.2.1]; decide)]; exact e1
      · dsimp only
        split at e2
        · exact e2.bad (by omega)
        · exact e2.bad (by omega)
    · rw [if_neg c]
      cases e : itmA g J b with
      | none =>
        rw [e] at i2
        obtain ⟨p, p1, p2⟩ := i2
        obtain ⟨Q', r, e1, e2⟩ := itEnd_r (x1 := r2) (g := g) hJ p2 (by omega)
        refine ⟨Q', r, ⟨Q1, r2, t1, Q3, i1, 1, ?_⟩, ?_⟩
        · rw [L_r_items_23.eq_2, if_neg (by decide), if_neg (by rw [p2.2.1]; decide)]; exact e1
        · dsimp only
          split at e2
          · exact e2.bad (by omega)
          · exact e2.bad (by omega)
      | some a' =>
        rw [e] at i2
        have le := itmA_le e
        obtain ⟨Q', r, l1, l2⟩ := itsL_r (x1 := r2) hJ hX 14 0 a' Q3 (by omega) (by omega) le.2 i2
        exact ⟨Q', r, ⟨Q1, r2, t1, Q3, i1, _, l1⟩, l2⟩
  by_cases c : pk g J a = 94
  · rw [if_pos c] at t2 ⊢
    exact go (a + 1) t2.2 (by omega) (by omega)
  · rw [if_neg c] at t2 ⊢
    exact go a t2.2 h1 (by omega)
theorem back_r {d : Nat} (hd : d ≤ 4) (hv : v ≤ 100) (ho : o ≤ 4) (h : St Q a 0 v o n) (ha : a ≤ 90) : ∃ Q' r, E_r_backReference J g Q (nI d) Q' r ∧ (if o < d ∨ decide (0 < v) = true then Bad Q' v o else One Q' a 0 v o n) := by
  have q13 : Q.1 13 = nI o := h.2.2.2.1
  have q4 : Q.1 4 = nI v := h.2.2.1
  have hb := bh_0 hv
  unfold E_r_backReference
  rw [q13, q4]
  obtain ⟨Qr, f1, f2⟩ := refuse_r (J := J) (g := g) h
  by_cases c : o < d
  · exact ⟨Qr, 0, by rw [if_pos ((n_lt (by omega) (by omega)).mpr c)]; exact ⟨Qr, 0, f1, rfl, rfl⟩, by rw [if_pos (Or.inl c)]; exact ⟨a, n, by omega, f2⟩⟩
  · have c' : ¬ nI o < nI d := fun z => c ((n_lt (by omega) (by omega)).mp z)
    by_cases b : nI v ≤ 0
    · obtain ⟨Q5, r6, s1, s2⟩ := single_r (J := J) (g := g) (k := 7) (h.rlx (k := 14) (x := ((Q.2.1 14) ||| ((4095 : Int64) <<< (((nI d - 1) * 12).toInt64 &&& 63)))))
      refine ⟨_, r6, by rw [if_neg c', if_pos b]; exact ⟨Q5, r6, s1, s2.cok, rfl, rfl⟩, ?_⟩
      rw [if_neg (fun z => z.elim c (hb.mp b))]
      exact s2.map (fun _ _ _ _ _ s => s.rnx (by omega))
    · exact ⟨Qr, 0, by rw [if_neg c', if_neg b]; exact ⟨Qr, 0, f1, rfl, rfl⟩, by rw [if_pos (Or.inr (Classical.byContradiction fun z => b (hb.mpr z)))]; exact ⟨a, n, by omega, f2⟩⟩
set_option maxHeartbeats 4000000 in
theorem escaped_r (hJ : J ≤ 14) (hX : Xok g J) (hv : v ≤ 100) (ho : o ≤ 4) (h : St Q a 0 v o n) (ha : a ≤ 20) : ∃ Q' r, E_r_escaped J g Q Q' r ∧ match (escP g J o (decide (0 < v)) a).map Prod.fst with | some a' => One Q' a' 0 v o n | none => Bad Q' v o := by
  have es : nI a + 1 = nI (a + 1) := (nI_succ a).symm
  obtain ⟨c, c1, c2, -⟩ := pk_n hX a
  have z0 := zix0 c1
  rw [← c2] at z0
  have s1 : St (rf Q 2 (nI (a + 1))) (a + 1) 0 v o n := h.atx
  have digit : ∀ d : Nat, 1 ≤ d → d ≤ 4 → pk g J a = nI (48 + d) → ∃ Q' r, E_r_escaped J g Q Q' r ∧ match (escP g J o (decide (0 < v)) a).map Prod.fst with | some a' => One Q' a' 0 v o n | none => Bad Q' v o := fun d d1 d2 e => by
    obtain ⟨Q', r, b1, b2⟩ := back_r (J := J) (g := g) d2 hv ho s1 (by omega)
    have ed : pk g J a - 48 = nI d := by
      rw [e, show (48 : Int32) = nI 48 from by decide, n_sub (by omega), show 48 + d - 48 = d by omega]
    refine ⟨Q', r, ?_, ?_⟩
    · unfold E_r_escaped
      rw [h.1, rw_pk hJ (by omega), es, ed]
      rcases (show d = 1 ∨ d = 2 ∨ d = 3 ∨ d = 4 by omega) with z | z | z | z <;> subst z
      · rw [if_pos (show pk g J a = 49 from e)]; exact ⟨Q', r, b1, rfl, rfl⟩
      · rw [if_neg (by rw [e]; decide), if_pos (show pk g J a = 50 from e)]; exact ⟨Q', r, b1, rfl, rfl⟩
      · rw [if_neg (by rw [e]; decide), if_neg (by rw [e]; decide), if_pos (show pk g J a = 51 from e)]; exact ⟨Q', r, b1, rfl, rfl⟩
      · rw [if_neg (by rw [e]; decide), if_neg (by rw [e]; decide), if_neg (by rw [e]; decide), if_pos (show pk g J a = 52 from e)]; exact ⟨Q', r, b1, rfl, rfl⟩
    · unfold escP
      have r1 : ¬ (pk g J a < 49 ∨ 52 < pk g J a) := by
        rw [e]
        rcases (show d = 1 ∨ d = 2 ∨ d = 3 ∨ d = 4 by omega) with z | z | z | z <;> subst z <;> decide
      rw [if_neg r1, ed, n_cl (by omega)]
      by_cases z : o < d ∨ decide (0 < v) = true
      · rw [if_pos z]; rw [if_pos z] at b2; exact b2
      · rw [if_neg z]; rw [if_neg z] at b2; exact b2
  by_cases d1 : pk g J a = 49
  · exact digit 1 (by omega) (by omega) d1
  by_cases d2 : pk g J a = 50
  · exact digit 2 (by omega) (by omega) d2
  by_cases d3 : pk g J a = 51
  · exact digit 3 (by omega) (by omega) d3
  by_cases d4 : pk g J a = 52
  · exact digit 4 (by omega) (by omega) d4
  have r1 : pk g J a < 49 ∨ 52 < pk g J a := by
    have hh : ∀ j : Fin 127, ¬ nI j.1 = 49 → ¬ nI j.1 = 50 → ¬ nI j.1 = 51 → ¬ nI j.1 = 52 → nI j.1 < 49 ∨ 52 < nI j.1 := by decide +kernel
    rw [c2] at d1 d2 d3 d4 ⊢
    exact hh ⟨c, by omega⟩ d1 d2 d3 d4
  have go : ∀ Q' r, (if pk g J a = 66 then (∃ (Q14 : QS) (r15 : Int32), E_r_single J g (rf Q 2 (nI (a + 1))) 6 Q14 r15 ∧ (Q' = Q14 ∧ r = r15)) else (if pk g J a = 98 then (∃ (Q17 : QS) (r18 : Int32), E_r_single J g (rf Q 2 (nI (a + 1))) 5 Q17 r18 ∧ (Q' = Q17 ∧ r = r18)) else (if pk g J a = 100 then (∃ (Q20 : QS) (r21 : Int32), E_r_set J g (rf Q 2 (nI (a + 1))) 287948901175001088 0 Q20 r21 ∧ (Q' = Q20 ∧ r = r21)) else (if pk g J a = 119 then (∃ (Q23 : QS) (r24 : Int32), E_r_set J g (rf Q 2 (nI (a + 1))) 287948901175001088 576460745995190270 Q23 r24 ∧ (Q' = Q23 ∧ r = r24)) else (if pk g J a = 45 then (∃ (Q26 : QS) (r27 : Int32), E_r_character J g (rf Q 2 (nI (a + 1))) (pk g J a) Q26 r27 ∧ (Q' = Q26 ∧ r = r27)) else (if (zix 0 (pk g J a)) < 0 then (∃ (Q29 : QS) (r30 : Int32), E_r_refuse J g (rf Q 2 (nI (a + 1))) Q29 r30 ∧ (Q' = Q29 ∧ r = r30)) else (∃ (Q31 : QS) (r32 : Int32), E_r_character J g (rf Q 2 (nI (a + 1))) (pk g J a) Q31 r32 ∧ (Q' = Q31 ∧ r = r32)))))))) → E_r_escaped J g Q Q' r := fun Q' r hh => by
    unfold E_r_escaped
    rw [h.1, rw_pk hJ (by omega), es, if_neg d1, if_neg d2, if_neg d3, if_neg d4]; exact hh
  unfold escP
  rw [if_pos r1]
  by_cases e1 : pk g J a = 66
  · obtain ⟨Q', r, t1, t2⟩ := single_r (J := J) (g := g) (k := 6) s1
    refine ⟨Q', r, go _ _ (by rw [if_pos e1]; exact ⟨Q', r, t1, rfl, rfl⟩), ?_⟩
    rw [if_neg (by rw [e1]; decide), if_pos e1]; exact t2
  by_cases e2 : pk g J a = 98
  · obtain ⟨Q', r, t1, t2⟩ := single_r (J := J) (g := g) (k := 5) s1
    refine ⟨Q', r, go _ _ (by rw [if_neg e1, if_pos e2]; exact ⟨Q', r, t1, rfl, rfl⟩), ?_⟩
    rw [if_pos e2]; exact t2
  rw [if_neg e2, if_neg e1]
  by_cases e3 : pk g J a = 100
  · obtain ⟨Q', r, t1, t2⟩ := set_r (J := J) (g := g) (x := 287948901175001088) (y := 0) s1
    refine ⟨Q', r, go _ _ (by rw [if_neg e1, if_neg e2, if_pos e3]; exact ⟨Q', r, t1, rfl, rfl⟩), ?_⟩
    rw [if_pos (Or.inl e3)]; exact t2
  by_cases e4 : pk g J a = 119
  · obtain ⟨Q', r, t1, t2⟩ := set_r (J := J) (g := g) (x := 287948901175001088) (y := 576460745995190270) s1
    refine ⟨Q', r, go _ _ (by rw [if_neg e1, if_neg e2, if_neg e3, if_pos e4]; exact ⟨Q', r, t1, rfl, rfl⟩), ?_⟩
    rw [if_pos (Or.inr e4)]; exact t2
  rw [if_neg (fun z => z.elim e3 e4)]
  by_cases e5 : pk g J a = 45
  · obtain ⟨Q', r, t1, t2⟩ := character_r (J := J) (g := g) (c := pk g J a) s1
    refine ⟨Q', r, go _ _ (by rw [if_neg e1, if_neg e2, if_neg e3, if_neg e4, if_pos e5]; exact ⟨Q', r, t1, rfl, rfl⟩), ?_⟩
    rw [if_pos (Or.inl e5)]; exact t2
  by_cases e6 : zix 0 (pk g J a) < 0
  · obtain ⟨Q', t1, t2⟩ := refuse_r (J := J) (g := g) s1
    refine ⟨Q', 0, go _ _ (by rw [if_neg e1, if_neg e2, if_neg e3, if_neg e4, if_neg e5, if_pos e6]; exact ⟨Q', 0, t1, rfl, rfl⟩), ?_⟩
    rw [if_neg (fun z => z.elim e5 (fun y => y (z0.mp e6)))]; exact ⟨a + 1, n, by omega, t2⟩
  · obtain ⟨Q', r, t1, t2⟩ := character_r (J := J) (g := g) (c := pk g J a) s1
    refine ⟨Q', r, go _ _ (by rw [if_neg e1, if_neg e2, if_neg e3, if_neg e4, if_neg e5, if_neg e6]; exact ⟨Q', r, t1, rfl, rfl⟩), ?_⟩
    rw [if_pos (Or.inr (fun y => e6 (z0.mpr y)))]; exact t2
set_option maxHeartbeats 4000000 in
theorem leaf_r {CH : CT} {x : Int32} (hJ : J ≤ 14) (hX : Xok g J) (hv : v ≤ 100) (ho : o ≤ 4) (h : St Q a 0 v o n) (ha : a < J) (h40 : ¬ pk g J a = 40) : ∃ Q' r, E_r_atom J g CH Q x Q' r ∧ match (atmP g J o (decide (0 < v)) a).map Prod.fst with | some a' => One Q' a' 0 v o n | none => Bad Q' v o := by
  have es : nI a + 1 = nI (a + 1) := (nI_succ a).symm
  obtain ⟨c, c1, c2, -⟩ := pk_n hX a
  have z0 := zix0 c1
  rw [← c2] at z0
  have s1 : St (rf Q 2 (nI (a + 1))) (a + 1) 0 v o n := h.atx
  have go : ∀ Q' r, (if pk g J a = 36 then (∃ (Q2 : QS) (r3 : Int32), E_r_single J g (rf Q 2 (nI (a + 1))) 4 Q2 r3 ∧ (Q' = Q2 ∧ r = r3)) else (if pk g J a = 46 then (∃ (Q8 : QS) (r9 : Int32), E_r_set J g (rf Q 2 (nI (a + 1))) (-1) (-1) Q8 r9 ∧ (Q' = Q8 ∧ r = r9)) else (if pk g J a = 91 then (∃ (Q11 : QS) (r12 : Int32), E_r_items J g (rf Q 2 (nI (a + 1))) Q11 r12 ∧ (Q' = Q11 ∧ r = r12)) else (if pk g J a = 92 then (∃ (Q14 : QS) (r15 : Int32), E_r_escaped J g (rf Q 2 (nI (a + 1))) Q14 r15 ∧ (Q' = Q14 ∧ r = r15)) else (if pk g J a = 94 then (∃ (Q17 : QS) (r18 : Int32), E_r_single J g (rf Q 2 (nI (a + 1))) 3 Q17 r18 ∧ (Q' = Q17 ∧ r = r18)) else (if (zix 0 (pk g J a)) < 0 then (∃ (Q20 : QS) (r21 : Int32), E_r_character J g (rf Q 2 (nI (a + 1))) (pk g J a) Q20 r21 ∧ (Q' = Q20 ∧ r = r21)) else (∃ (Q22 : QS) (r23 : Int32), E_r_refuse J g (rf Q 2 (nI (a + 1))) Q22 r23 ∧ (Q' = Q22 ∧ r = r23)))))))) → E_r_atom J g CH Q x Q' r := fun Q' r hh => by
    unfold E_r_atom
    rw [h.1, rw_pk hJ (by omega), es]
    by_cases z : pk g J a = 36
    · rw [if_pos z] at hh ⊢; exact hh
    · rw [if_neg z] at hh ⊢; rw [if_neg h40]; exact hh
  unfold atmP
  by_cases e1 : pk g J a = 92
  · rw [if_pos e1]
    obtain ⟨Q', r, t1, t2⟩ := escaped_r hJ hX hv ho s1 (by omega)
    refine ⟨Q', r, go _ _ ?_, t2⟩
    rw [if_neg (by rw [e1]; decide), if_neg (by rw [e1]; decide), if_neg (by rw [e1]; decide), if_pos e1]; exact ⟨Q', r, t1, rfl, rfl⟩
  rw [if_neg e1]
  by_cases e2 : pk g J a = 91
  · rw [if_pos e2]
    obtain ⟨Q', r, t1, t2⟩ := items_r hJ hX s1 (by omega) (by omega)
    refine ⟨Q', r, go _ _ ?_, ?_⟩
    · rw [if_neg (by rw [e2]; decide), if_neg (by rw [e2]; decide), if_pos e2]; exact ⟨Q', r, t1, rfl, rfl⟩
    · cases e : itsP g J (a + 1) with
      | none => rw [e] at t2; exact t2
      | some w => rw [e] at t2; exact t2
  rw [if_neg e2]
  by_cases e3 : pk g J a = 94
  · rw [if_pos e3]
    obtain ⟨Q', r, t1, t2⟩ := single_r (J := J) (g := g) (k := 3) s1
    refine ⟨Q', r, go _ _ ?_, t2⟩
    rw [if_neg (by rw [e3]; decide), if_neg (by rw [e3]; decide), if_neg e2, if_neg e1, if_pos e3]; exact ⟨Q', r, t1, rfl, rfl⟩
  rw [if_neg e3]
  by_cases e4 : pk g J a = 36
  · rw [if_pos e4]
    obtain ⟨Q', r, t1, t2⟩ := single_r (J := J) (g := g) (k := 4) s1
    refine ⟨Q', r, go _ _ ?_, t2⟩
    rw [if_pos e4]; exact ⟨Q', r, t1, rfl, rfl⟩
  rw [if_neg e4]
  by_cases e5 : pk g J a = 46
  · rw [if_pos e5]
    obtain ⟨Q', r, t1, t2⟩ := set_r (J := J) (g := g) (x := -1) (y := -1) s1
    refine ⟨Q', r, go _ _ ?_, t2⟩
    rw [if_neg e4, if_pos e5]; exact ⟨Q', r, t1, rfl, rfl⟩
  rw [if_neg e5]
  by_cases e6 : zix 0 (pk g J a) < 0
  · rw [if_pos (z0.mp e6)]
    obtain ⟨Q', r, t1, t2⟩ := character_r (J := J) (g := g) (c := pk g J a) s1
    refine ⟨Q', r, go _ _ ?_, t2⟩
    rw [if_neg e4, if_neg e5, if_neg e2, if_neg e1, if_neg e3, if_pos e6]; exact ⟨Q', r, t1, rfl, rfl⟩
  · rw [if_neg (fun y => e6 (z0.mpr y))]
    obtain ⟨Q', t1, t2⟩ := refuse_r (J := J) (g := g) s1
    refine ⟨Q', 0, go _ _ ?_, a + 1, n, by omega, t2⟩
    rw [if_neg e4, if_neg e5, if_neg e2, if_neg e1, if_neg e3, if_neg e6]; exact ⟨Q', 0, t1, rfl, rfl⟩
end RI7
