/-! brackets -/
def kdI (c e : Int32) : Int32 := (if c = 58 then 9 else (if c = 61 then 10 else (if c = 33 then 11 else (if c = 62 then 14 else (if (if c = 60 then 1 else 0 : Int32) = 0 then (if (if c = 60 then 1 else 0 : Int32) = 0 then (-1) else (if e = 33 then 13 else (-1) : Int32) : Int32) else (if e = 61 then 12 else (if (if c = 60 then 1 else 0 : Int32) = 0 then (-1) else (if e = 33 then 13 else (-1) : Int32) : Int32) : Int32) : Int32) : Int32) : Int32) : Int32) : Int32)
def hdK (X : Nat → Int32) (N a : Nat) : Option Nat :=
  if pk X N (a + 2) = 58 then some 9 else if pk X N (a + 2) = 61 then some 10 else if pk X N (a + 2) = 33 then some 11 else if pk X N (a + 2) = 62 then some 14
  else if pk X N (a + 2) = 60 then (if pk X N (a + 3) = 61 then some 12 else if pk X N (a + 3) = 33 then some 13 else none) else none
theorem kd_of {X : Nat → Int32} {N a : Nat} : kdI (pk X N (a + 2)) (pk X N (a + 3)) = iO (hdK X N a) := by
  unfold kdI hdK
  generalize pk X N (a + 2) = c
  generalize pk X N (a + 3) = e
  by_cases c1 : c = 58
  · rw [if_pos c1, if_pos c1]; rfl
  · rw [if_neg c1, if_neg c1]
    by_cases c2 : c = 61
    · rw [if_pos c2, if_pos c2]; rfl
    · rw [if_neg c2, if_neg c2]
      by_cases c3 : c = 33
      · rw [if_pos c3, if_pos c3]; rfl
      · rw [if_neg c3, if_neg c3]
        by_cases c4 : c = 62
        · rw [if_pos c4, if_pos c4]; rfl
        · rw [if_neg c4, if_neg c4]
          by_cases c5 : c = 60
          · subst c5
            by_cases e1 : e = 61
            · subst e1; rfl
            · by_cases e2 : e = 33
              · subst e2; rfl
              · simp [e1, e2]; rfl
          · simp [c5]; rfl
theorem hdK_in {X : Nat → Int32} {N a kd : Nat} (h : hdK X N a = some kd) : a + (if pk X N (a + 2) = 60 then 4 else 3) ≤ N ∧ 9 ≤ kd ∧ kd ≤ 14 ∧ (if pk X N (a + 2) = 60 then 4 else 3) + 1 = bkc kd := by
  unfold hdK at h
  by_cases c1 : pk X N (a + 2) = 58
  · rw [if_pos c1] at h
    have := pkN_lt (X := X) (N := N) (i := a + 2) (by rw [c1]; decide)
    cases h; rw [if_neg (by rw [c1]; decide)]; exact ⟨by omega, by omega, by omega, rfl⟩
  · rw [if_neg c1] at h
    by_cases c2 : pk X N (a + 2) = 61
    · rw [if_pos c2] at h
      have := pkN_lt (X := X) (N := N) (i := a + 2) (by rw [c2]; decide)
      cases h; rw [if_neg (by rw [c2]; decide)]; exact ⟨by omega, by omega, by omega, rfl⟩
    · rw [if_neg c2] at h
      by_cases c3 : pk X N (a + 2) = 33
      · rw [if_pos c3] at h
        have := pkN_lt (X := X) (N := N) (i := a + 2) (by rw [c3]; decide)
        cases h; rw [if_neg (by rw [c3]; decide)]; exact ⟨by omega, by omega, by omega, rfl⟩
      · rw [if_neg c3] at h
        by_cases c4 : pk X N (a + 2) = 62
        · rw [if_pos c4] at h
          have := pkN_lt (X := X) (N := N) (i := a + 2) (by rw [c4]; decide)
          cases h; rw [if_neg (by rw [c4]; decide)]; exact ⟨by omega, by omega, by omega, rfl⟩
        · rw [if_neg c4] at h
          by_cases c5 : pk X N (a + 2) = 60
          · rw [if_pos c5] at h ⊢
            by_cases e1 : pk X N (a + 3) = 61
            · rw [if_pos e1] at h
              have := pkN_lt (X := X) (N := N) (i := a + 3) (by rw [e1]; decide)
              cases h; exact ⟨by omega, by omega, by omega, rfl⟩
            · rw [if_neg e1] at h
              by_cases e2 : pk X N (a + 3) = 33
              · rw [if_pos e2] at h
                have := pkN_lt (X := X) (N := N) (i := a + 3) (by rw [e2]; decide)
                cases h; exact ⟨by omega, by omega, by omega, rfl⟩
              · rw [if_neg e2] at h; cases h
          · rw [if_neg c5] at h; cases h
def hdP (X : Nat → Int32) (N o a : Nat) : Option (Nat × Nat) :=
  if pk X N (a + 1) = 63 then (match hdK X N a with | none => none | some kd => some (kd, if pk X N (a + 2) = 60 then 4 else 3))
  else if o = 4 then none else some (8, 1)
def BrN (R S : RS) (n u kd o' a' d : Nat) : Prop := (∀ k, k ≠ 4 → k ≠ 6 → k ≠ 16 → k ≠ 17 → S.1 k = R.1 k) ∧ S.1 4 = nI (u + 1) ∧ S.1 6 = nI o' ∧ S.1 16 = nI (d + 1) ∧ S.1 17 = nI a' ∧ (∀ k m, m ≠ n ∨ k < 8 ∨ 13 < k → S.2.1 k m = R.2.1 k m) ∧ (∀ k m, m ≠ n → S.2.2 k m = R.2.2 k m) ∧ S.2.1 8 n = nI kd ∧ (kd = 8 → S.2.1 9 n = nI o') ∧ nodeOK S n ∧ S.2.1 13 n = -1
section BRE
variable {R : RS} {X : Nat → Int32} {N β d o a u : Nat} {bh : Bool}
def bhK (bh : Bool) (kd : Nat) : Bool := bh || decide (kd = 12 ∨ kd = 13)
set_option maxHeartbeats 4000000 in
theorem brk_E (h : Rd R X N a β u) (ha : a < N) (hu : u < 48) (ho : R.1 6 = nI o) (ho4 : o ≤ 4) (hd : R.1 16 = nI d) (hd4 : d < 4) (hb : R.2.1 22 d = if bh then 1 else 0) :
    match hdP X N o a with
    | none => E_bracket R R 0
    | some (kd, sk) => (∃ S, BrN R S (48 - β + u) u kd (if kd = 8 then o + 1 else o) (a + sk) d ∧ ∀ R', E_newChoice S (nI (48 - β + u)) (if bhK bh kd then 1 else 0) R' 0 → E_bracket R R' 1) ∧ a + sk ≤ N ∧ 8 ≤ kd ∧ kd ≤ 14 ∧ sk + 1 = bkc kd ∧ 1 ≤ sk ∧ (kd = 8 → o < 4) := by
  have hN : N ≤ 14 := h.2.2.1
  have hβ := h.2.2.2.2.2.2.1
  have hn : 48 - β + u < 96 := by omega
  have p1 : E_peek R 1 R (pk X N (a + 1)) := peek_E (k := 1) h (by omega)
  have p2 : E_peek R 2 R (pk X N (a + 2)) := peek_E (k := 2) h (by omega)
  have p3 : E_peek R 3 R (pk X N (a + 3)) := peek_E (k := 3) h (by omega)
  have v6 : vp_in (nI d) 6 := v_in (by omega) (by omega)
  have cld : (nI d).toNatClampNeg = d := n_cl (by omega)
  have cln : (nI (48 - β + u)).toNatClampNeg = 48 - β + u := n_cl (by omega)
  have g16 : ∀ kd, (crt R (48 - β + u) u kd).1 16 = nI d := fun kd => by rw [crt_f, if_neg (by omega)]; exact hd
  have g17 : ∀ kd, (crt R (48 - β + u) u kd).1 17 = nI a := fun kd => by rw [crt_f, if_neg (by omega)]; exact h.2.2.2.1
  have g6 : ∀ kd, (crt R (48 - β + u) u kd).1 6 = nI o := fun kd => by rw [crt_f, if_neg (by omega)]; exact ho
  have g22 : ∀ kd, (crt R (48 - β + u) u kd).2.1 22 d = if bh then 1 else 0 := fun kd => by rw [crt_o (by omega)]; exact hb
  have d4 : ¬ R.1 16 = 4 := by rw [hd]; exact fun z => by have := (n_eq (a := d) (b := 4) (by omega) (by omega)).mp z; omega
  unfold hdP
  by_cases q : pk X N (a + 1) = 63
  · rw [if_pos q]
    cases e : hdK X N a with
    | none =>
      dsimp only
      unfold E_bracket
      rw [if_neg d4]
      refine ⟨_, _, p1, ?_⟩
      rw [if_pos q]
      refine ⟨_, _, p2, _, _, p3, ?_⟩
      change if kdI (pk X N (a + 2)) (pk X N (a + 3)) = -1 then (R = R ∧ (0 : Int32) = 0) else _
      rw [if_pos (show kdI (pk X N (a + 2)) (pk X N (a + 3)) = -1 by rw [kd_of, e]; rfl)]
      exact ⟨rfl, rfl⟩
    | some kd =>
      obtain ⟨i1, i2, i3, i4⟩ := hdK_in e
      dsimp only
      have ek : kdI (pk X N (a + 2)) (pk X N (a + 3)) = nI kd := by rw [kd_of, e]; rfl
      have sk : (if (if pk X N (a + 2) = 60 then 1 else 0 : Int32) = 0 then 3 else 4 : Int32) = nI (if pk X N (a + 2) = 60 then 4 else 3) := by
        by_cases z : pk X N (a + 2) = 60
        · rw [if_pos z, if_pos z]; rfl
        · rw [if_neg z, if_neg z]; rfl
      generalize (if pk X N (a + 2) = 60 then 4 else 3) = s at i1 i4 sk ⊢
      have k8 : ¬ nI kd = 8 := fun z => by have := (n_eq (a := kd) (b := 8) (by omega) (by omega)).mp z; omega
      have bv : (if (if bh then (1 : Int32) else 0) = 0 then (if nI kd = 12 then 1 else (if nI kd = 13 then 1 else 0 : Int32) : Int32) else 1 : Int32) = if bhK bh kd then 1 else 0 := by
        unfold bhK
        cases bh with
        | true => rfl
        | false =>
          rw [if_pos (by rfl)]
          by_cases z : kd = 12
          · subst z; rfl
          · rw [if_neg (show ¬ nI kd = 12 from fun y => z ((n_eq (a := kd) (b := 12) (by omega) (by omega)).mp y))]
            by_cases z2 : kd = 13
            · subst z2; rfl
            · rw [if_neg (show ¬ nI kd = 13 from fun y => z2 ((n_eq (a := kd) (b := 13) (by omega) (by omega)).mp y))]
              simp [z, z2]
      have cr := crt_E (kd := nI kd) h hu
      refine ⟨⟨mf (mf (crt R (48 - β + u) u (nI kd)) 17 (nI (a + s))) 16 (nI (d + 1)), ⟨fun k k1 k2 k3 k4 => ?_, rfl, ?_, rfl, rfl, fun k m hm => crt_o hm, fun k m hm => crt_l hm, ?_, by omega, ⟨kd, 0, 0, ?_, by omega, ?_, by omega, by omega, Or.inr ⟨0, by omega, ?_⟩, ?_, by omega, Or.inl ?_, Or.inl ?_⟩, ?_⟩, fun R' hnc => ?_⟩, i1, by omega, i3, i4, by unfold bkc at i4; split at i4 <;> (try split at i4) <;> omega, by omega⟩
      · show (if k = 16 then _ else if k = 17 then _ else if k = 4 then _ else R.1 k) = R.1 k
        rw [if_neg k3, if_neg k4, if_neg k1]
      · rw [if_neg (by omega)]; exact ho
      · show (crt R (48 - β + u) u (nI kd)).2.1 8 _ = _
        rw [crt_at, if_pos rfl, if_pos rfl]
      · show (crt R (48 - β + u) u (nI kd)).2.1 8 _ = _
        rw [crt_at, if_pos rfl, if_pos rfl]
      · show (crt R (48 - β + u) u (nI kd)).2.1 9 _ = _
        rw [crt_at, if_pos rfl, if_neg (by omega), if_pos (by omega)]; rfl
      · show (crt R (48 - β + u) u (nI kd)).2.1 10 _ = _
        rw [crt_at, if_pos rfl, if_neg (by omega), if_pos (by omega)]; rfl
      · show (crt R (48 - β + u) u (nI kd)).2.1 11 _ = _
        rw [crt_at, if_pos rfl, if_neg (by omega), if_pos (by omega)]; rfl
      · show (crt R (48 - β + u) u (nI kd)).2.1 12 _ = _
        rw [crt_at, if_pos rfl, if_neg (by omega), if_neg (by omega), if_pos (by omega)]
      · show (crt R (48 - β + u) u (nI kd)).2.1 13 _ = _
        rw [crt_at, if_pos rfl, if_neg (by omega), if_neg (by omega), if_pos (by omega)]
      · show (crt R (48 - β + u) u (nI kd)).2.1 13 _ = _
        rw [crt_at, if_pos rfl, if_neg (by omega), if_neg (by omega), if_pos (by omega)]
      · unfold E_bracket
        rw [if_neg d4]
        refine ⟨_, _, p1, ?_⟩
        rw [if_pos q]
        refine ⟨_, _, p2, _, _, p3, ?_⟩
        change if kdI (pk X N (a + 2)) (pk X N (a + 3)) = -1 then _ else (if kdI (pk X N (a + 2)) (pk X N (a + 3)) = 8 then _ else (∃ (R39 : RS) (r40 : Int32), E_create R (kdI (pk X N (a + 2)) (pk X N (a + 3))) R39 r40 ∧ (if kdI (pk X N (a + 2)) (pk X N (a + 3)) = 8 then _ else (vp_in (R39.1 16) 6 ∧ (∃ R46 : RS, E_newChoice (mf (mf R39 17 ((R39.1 17) + (if (if pk X N (a + 2) = 60 then 1 else 0 : Int32) = 0 then 3 else 4 : Int32))) 16 ((R39.1 16) + 1)) r40 (if (R39.2.1 22 (R39.1 16).toNatClampNeg) = 0 then (if kdI (pk X N (a + 2)) (pk X N (a + 3)) = 12 then 1 else (if kdI (pk X N (a + 2)) (pk X N (a + 3)) = 13 then 1 else 0 : Int32) : Int32) else 1 : Int32) R46 0 ∧ (R' = R46 ∧ (1 : Int32) = 1))))))
        rw [ek, if_neg (n_m1 (by omega)), if_neg k8]
        refine ⟨_, _, cr, ?_⟩
        rw [if_neg k8, g16, cld, g22, g17, sk, n_add, bv, show nI d + 1 = nI (d + 1) from (nI_succ d).symm]
        exact ⟨v6, _, hnc, rfl, rfl⟩
  · rw [if_neg q]
    by_cases o4 : o = 4
    · rw [if_pos o4]
      show E_bracket R R 0
      unfold E_bracket
      rw [if_neg d4]
      refine ⟨_, _, p1, ?_⟩
      rw [if_neg q, if_pos (by rw [ho, o4]; rfl)]
      exact ⟨rfl, rfl⟩
    · rw [if_neg o4]
      have cr := crt_E (kd := 8) h hu
      refine ⟨⟨mf (mf (ma (mf (crt R (48 - β + u) u 8) 6 (nI (o + 1))) 9 (48 - β + u) (nI (o + 1))) 17 (nI (a + 1))) 16 (nI (d + 1)), ⟨fun k k1 k2 k3 k4 => ?_, rfl, rfl, rfl, rfl, fun k m hm => ?_, fun k m hm => crt_l hm, ?_, fun _ => ?_, ⟨8, o + 1, 0, ?_, by omega, ?_, by omega, by omega, Or.inr ⟨0, by omega, ?_⟩, ?_, by omega, Or.inl ?_, Or.inl ?_⟩, ?_⟩, fun R' hnc => ?_⟩, by omega, by omega, by omega, rfl, by omega, by omega⟩
      · show (if k = 16 then _ else if k = 17 then _ else if k = 6 then _ else if k = 4 then _ else R.1 k) = R.1 k
        rw [if_neg k3, if_neg k4, if_neg k2, if_neg k1]
      · show (ma (mf (crt R (48 - β + u) u 8) 6 (nI (o + 1))) 9 (48 - β + u) (nI (o + 1))).2.1 k m = _
        rw [ma_at, if_neg (by omega)]; exact crt_o hm
      · show (ma (mf (crt R (48 - β + u) u 8) 6 (nI (o + 1))) 9 (48 - β + u) (nI (o + 1))).2.1 8 _ = _
        rw [ma_at, if_neg (by omega)]
        show (crt R (48 - β + u) u 8).2.1 8 _ = _
        rw [crt_at, if_pos rfl, if_pos rfl]; rfl
      · show (ma (mf (crt R (48 - β + u) u 8) 6 (nI (o + 1))) 9 (48 - β + u) (nI (o + 1))).2.1 9 _ = _
        rw [ma_at, if_pos ⟨rfl, rfl⟩]; rfl
      · show (ma (mf (crt R (48 - β + u) u 8) 6 (nI (o + 1))) 9 (48 - β + u) (nI (o + 1))).2.1 8 _ = _
        rw [ma_at, if_neg (by omega)]
        show (crt R (48 - β + u) u 8).2.1 8 _ = _
        rw [crt_at, if_pos rfl, if_pos rfl]; rfl
      · show (ma (mf (crt R (48 - β + u) u 8) 6 (nI (o + 1))) 9 (48 - β + u) (nI (o + 1))).2.1 9 _ = _
        rw [ma_at, if_pos ⟨rfl, rfl⟩]
      · show (ma (mf (crt R (48 - β + u) u 8) 6 (nI (o + 1))) 9 (48 - β + u) (nI (o + 1))).2.1 10 _ = _
        rw [ma_at, if_neg (by omega)]
        show (crt R (48 - β + u) u 8).2.1 10 _ = _
        rw [crt_at, if_pos rfl, if_neg (by omega), if_pos (by omega)]; rfl
      · show (ma (mf (crt R (48 - β + u) u 8) 6 (nI (o + 1))) 9 (48 - β + u) (nI (o + 1))).2.1 11 _ = _
        rw [ma_at, if_neg (by omega)]
        show (crt R (48 - β + u) u 8).2.1 11 _ = _
        rw [crt_at, if_pos rfl, if_neg (by omega), if_pos (by omega)]; rfl
      · show (ma (mf (crt R (48 - β + u) u 8) 6 (nI (o + 1))) 9 (48 - β + u) (nI (o + 1))).2.1 12 _ = _
        rw [ma_at, if_neg (by omega)]
        show (crt R (48 - β + u) u 8).2.1 12 _ = _
        rw [crt_at, if_pos rfl, if_neg (by omega), if_neg (by omega), if_pos (by omega)]
      · show (ma (mf (crt R (48 - β + u) u 8) 6 (nI (o + 1))) 9 (48 - β + u) (nI (o + 1))).2.1 13 _ = _
        rw [ma_at, if_neg (by omega)]
        show (crt R (48 - β + u) u 8).2.1 13 _ = _
        rw [crt_at, if_pos rfl, if_neg (by omega), if_neg (by omega), if_pos (by omega)]
      · show (ma (mf (crt R (48 - β + u) u 8) 6 (nI (o + 1))) 9 (48 - β + u) (nI (o + 1))).2.1 13 _ = _
        rw [ma_at, if_neg (by omega)]
        show (crt R (48 - β + u) u 8).2.1 13 _ = _
        rw [crt_at, if_pos rfl, if_neg (by omega), if_neg (by omega), if_pos (by omega)]
      · unfold E_bracket
        rw [if_neg d4]
        refine ⟨_, _, p1, ?_⟩
        rw [if_neg q, if_neg (show ¬ R.1 6 = 4 by rw [ho]; exact fun z => by have := (n_eq (a := o) (b := 4) (by omega) (by omega)).mp z; omega)]
        refine ⟨_, _, cr, v_in hn (by omega), ?_⟩
        rw [g16, cld, g22, g17, g6, cln, show nI d + 1 = nI (d + 1) from (nI_succ d).symm, show nI o + 1 = nI (o + 1) from (nI_succ o).symm, show nI a + 1 = nI (a + 1) from (nI_succ a).symm]
        refine ⟨v6, ?_⟩
        cases bh with
        | true =>
          rw [if_neg (by decide)]
          exact ⟨_, hnc, rfl, rfl⟩
        | false =>
          rw [if_pos (by rfl)]
          exact ⟨_, hnc, rfl, rfl⟩
end BRE
