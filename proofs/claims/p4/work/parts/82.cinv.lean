/-! the law's own methods answer; rows of class and reference agree -/
section TL
variable {C : CS} {fo : Nat → Int64}
theorem kl_compile (h : KI C) : ∃ C' f' k, E_l_compile C fo C' f' k ∧ KB C C' ∧ (match pRd (kG C 0) (kJ C 0) with | none => k = 1 | some w => k = 0 ∧ f' 0 = (nI w.1).toInt64) := by
  obtain ⟨a1, a2, a3, a4, a5, a6, a7⟩ := h
  obtain ⟨Q1, r1, b1, b2, b3, b4⟩ := rp_g (J := kJ C 0) (g := kG C 0) (Q := Qof (kD C)) a2.1 a1 (fun i hi => (a6.2 i hi).1) rfl rfl rfl
  cases e : pRd (kG C 0) (kJ C 0) with
  | none =>
    rw [e] at b4
    have b4 : r1 = 0 := b4
    subst b4
    exact ⟨_, _, _, Or.inr ⟨_, ⟨a2, Q1, b1, rfl, rfl⟩, rfl, rfl, rfl⟩, ⟨⟨a1, a2, a3, a4, a5, ⟨b3, fun i hi => ⟨b2 i hi, (a6.2 i hi).2⟩⟩, a7⟩, rfl, rfl, rfl, rfl, rfl, rfl⟩, rfl⟩
  | some w =>
    rw [e] at b4
    obtain ⟨b4, b5⟩ := b4
    refine ⟨_, _, _, Or.inl ⟨_, _, ⟨a2, Q1, r1, b1, by rw [b4]; decide, rfl, rfl⟩, rfl, rfl, rfl⟩, ?_, rfl, ?_⟩
    · have k0 : KB C (uX (uD C (Dof Q1))) := ⟨⟨a1, a2, a3, a4, ⟨a5.1, a5.2.1, b3⟩, ⟨a5.2.2, fun i hi => ⟨(a6.2 i hi).2, b2 i hi⟩⟩, a7⟩, rfl, rfl, rfl, rfl, rfl, rfl⟩
      exact (k0.i (by omega)).i (by omega)
    · show (if 0 = 0 then (Q1.1 13).toInt64 else fo 0) = _
      rw [if_pos rfl, b5]
theorem kl_matches (h : KI C) : ∃ C' f' k, E_l_matches C fo C' f' k ∧ KB C C' := by
  by_cases c : kI C 4 = 0
  · exact ⟨C, fo, 1, Or.inr ⟨C, by unfold EX_p_matches; rw [if_pos c]; exact ⟨rfl, rfl⟩, rfl, rfl, rfl⟩, KB.rfx h⟩
  · obtain ⟨C2, r3, m1, m2⟩ := k_match (a1 := 0) (a3 := nI (tJ (kT C))) (a2 := 0) (by decide) (KB.rfx h)
    have e : E_p_matches C C2 r3 := by unfold E_p_matches; rw [if_neg c]; exact ⟨C2, r3, m1, p_match_01 m1, rfl, rfl⟩
    by_cases d : r3 = 0
    · exact ⟨C2, _, 0, Or.inl ⟨C2, r3, e, by rw [if_pos d]; exact ⟨rfl, rfl, rfl⟩⟩, m2⟩
    · exact ⟨C2, _, 0, Or.inl ⟨C2, r3, e, by rw [if_neg d]; exact ⟨rfl, rfl, rfl⟩⟩, m2⟩
theorem kl_looking (h : KI C) : ∃ C' f' k, E_l_looking C fo C' f' k ∧ KB C C' := by
  by_cases c : kI C 4 = 0
  · exact ⟨C, fo, 1, Or.inr ⟨C, by unfold EX_p_looking; rw [if_pos c]; exact ⟨rfl, rfl⟩, rfl, rfl, rfl⟩, KB.rfx h⟩
  · obtain ⟨C2, r3, m1, m2⟩ := k_match (a1 := 0) (a3 := -1) (a2 := 0) (by decide) (KB.rfx h)
    have e : E_p_looking C C2 r3 := by unfold E_p_looking; rw [if_neg c]; exact ⟨C2, r3, m1, p_match_01 m1, rfl, rfl⟩
    by_cases d : r3 = 0
    · exact ⟨C2, _, 0, Or.inl ⟨C2, r3, e, by rw [if_pos d]; exact ⟨rfl, rfl, rfl⟩⟩, m2⟩
    · exact ⟨C2, _, 0, Or.inl ⟨C2, r3, e, by rw [if_neg d]; exact ⟨rfl, rfl, rfl⟩⟩, m2⟩
theorem kl_find {a1 : Int32} (h : KI C) : ∃ C' f' k, E_l_find C fo a1 C' f' k ∧ KB C C' := by
  by_cases c1 : a1 < 0
  · exact ⟨C, fo, 1, Or.inr (Or.inl ⟨C, by unfold EX_p_find; rw [if_pos c1]; exact ⟨rfl, rfl⟩, rfl, rfl, rfl⟩), KB.rfx h⟩
  · by_cases c2 : a1 ≤ nI (tJ (kT C))
    · by_cases c : kI C 4 = 0
      · exact ⟨C, fo, 2, Or.inr (Or.inr ⟨C, by unfold EX_p_find; rw [if_neg c1, if_pos c2, if_pos c]; exact ⟨rfl, rfl⟩, rfl, rfl, rfl⟩), KB.rfx h⟩
      · obtain ⟨C4, r5, m1, m2⟩ := k_match (a1 := a1) (a3 := -1) (KB.rfx h).tN (KB.rfx h)
        by_cases d : r5 = 0
        · exact ⟨C4, _, 0, Or.inl ⟨C4, -1, by unfold E_p_find; rw [if_neg c1, if_pos c2, if_neg c]; exact ⟨C4, r5, m1, by rw [if_pos d]; exact ⟨rfl, rfl⟩⟩, rfl, rfl, rfl⟩, m2⟩
        · exact ⟨C4, _, 0, Or.inl ⟨C4, kI C4 6, by unfold E_p_find; rw [if_neg c1, if_pos c2, if_neg c]; exact ⟨C4, r5, m1, by rw [if_neg d]; exact ⟨rfl, rfl⟩⟩, rfl, rfl, rfl⟩, m2⟩
    · exact ⟨C, fo, 1, Or.inr (Or.inl ⟨C, by unfold EX_p_find; rw [if_neg c1, if_neg c2]; exact ⟨rfl, rfl⟩, rfl, rfl, rfl⟩), KB.rfx h⟩
theorem kl_start {a1 : Int32} (h : KI C) : ∃ C' f' k, E_l_start C fo a1 C' f' k ∧ KB C C' := by
  by_cases c : kI C 5 = 0
  · exact ⟨C, fo, 1, Or.inr (Or.inl ⟨C, by unfold EX_p_start; rw [if_pos c]; exact ⟨rfl, rfl⟩, rfl, rfl, rfl⟩), KB.rfx h⟩
  · obtain ⟨C2, r3, m1, m2⟩ := k_isGroup (a1 := a1) (KB.rfx h)
    by_cases d : r3 = 0
    · exact ⟨C2, fo, 2, Or.inr (Or.inr ⟨C2, by unfold EX_p_start; rw [if_neg c]; exact ⟨C2, r3, m1, by rw [if_pos d]; exact ⟨rfl, rfl⟩⟩, rfl, rfl, rfl⟩), m2⟩
    · obtain ⟨C5, r6, m3, m4⟩ := k_from (a1 := a1) m2
      exact ⟨C5, _, 0, Or.inl ⟨C5, r6, by unfold E_p_start; rw [if_neg c]; exact ⟨C2, r3, m1, by rw [if_neg d]; exact ⟨C5, r6, m3, rfl, rfl⟩⟩, rfl, rfl, rfl⟩, m4⟩
theorem kl_end {a1 : Int32} (h : KI C) : ∃ C' f' k, E_l_end C fo a1 C' f' k ∧ KB C C' := by
  by_cases c : kI C 5 = 0
  · exact ⟨C, fo, 1, Or.inr (Or.inl ⟨C, by unfold EX_p_end; rw [if_pos c]; exact ⟨rfl, rfl⟩, rfl, rfl, rfl⟩), KB.rfx h⟩
  · obtain ⟨C2, r3, m1, m2⟩ := k_isGroup (a1 := a1) (KB.rfx h)
    by_cases d : r3 = 0
    · exact ⟨C2, fo, 2, Or.inr (Or.inr ⟨C2, by unfold EX_p_end; rw [if_neg c]; exact ⟨C2, r3, m1, by rw [if_pos d]; exact ⟨rfl, rfl⟩⟩, rfl, rfl, rfl⟩), m2⟩
    · obtain ⟨C5, r6, m3, m4⟩ := k_to (a1 := a1) m2
      exact ⟨C5, _, 0, Or.inl ⟨C5, r6, by unfold E_p_end; rw [if_neg c]; exact ⟨C2, r3, m1, by rw [if_neg d]; exact ⟨C5, r6, m3, rfl, rfl⟩⟩, rfl, rfl, rfl⟩, m4⟩
theorem kl_replace (h : KI C) : ∃ C' f' k, E_l_replace C fo C' f' k ∧ KB C C' := by
  by_cases c : kI C 4 = 0
  · exact ⟨C, fo, 1, Or.inr (Or.inl ⟨C, by unfold EX_p_replace; rw [if_pos c]; exact ⟨rfl, rfl⟩, rfl, rfl, rfl⟩), KB.rfx h⟩
  · obtain ⟨C2, r3, m1, m2⟩ := k_fault (KB.rfx h)
    by_cases d1 : r3 = 1
    · exact ⟨C2, fo, 2, Or.inr (Or.inr (Or.inl ⟨C2, by unfold EX_p_replace; rw [if_neg c]; exact ⟨C2, r3, m1, by rw [if_pos d1]; exact ⟨rfl, rfl⟩⟩, rfl, rfl, rfl⟩)), m2⟩
    · by_cases d2 : r3 = 2
      · exact ⟨C2, fo, 3, Or.inr (Or.inr (Or.inr ⟨C2, by unfold EX_p_replace; rw [if_neg c]; exact ⟨C2, r3, m1, by rw [if_neg d1, if_pos d2]; exact ⟨rfl, rfl⟩⟩, rfl, rfl, rfl⟩)), m2⟩
      · obtain ⟨C', r, n1, n2⟩ := k_replL (B := C) (x1 := r3) 9 0 (uJ C2 3 0 (kG C2 3)) 0 0 (by omega) (m2.j3 ⟨by omega, m2.1.2.2.2.1.2⟩)
        exact ⟨C', _, 0, Or.inl ⟨C', r, by unfold E_p_replace; rw [if_neg c]; exact ⟨C2, r3, m1, by rw [if_neg d1, if_neg d2]; exact ⟨_, n1⟩⟩, rfl, rfl, rfl⟩, n2⟩
theorem kl_replaced {a1 : Int32} (h : KI C) : ∃ C' f' k, E_l_replaced C fo a1 C' f' k ∧ KB C C' := by
  by_cases c1 : a1 < 0
  · exact ⟨C, fo, 1, Or.inr ⟨C, by unfold EX_p_replaced; rw [if_pos c1]; exact ⟨rfl, rfl⟩, rfl, rfl, rfl⟩, KB.rfx h⟩
  · by_cases c2 : a1 < nI (kJ C 3)
    · have nw : narrow .char (.int (rw_at (kJ C 3) (kG C 3) a1)) = .int (rw_at (kJ C 3) (kG C 3) a1) := by
        unfold rw_at
        split
        · rfl
        · exact h.2.2.2.1.2 _
      exact ⟨C, _, 0, Or.inl ⟨C, _, by unfold E_p_replaced; rw [if_neg c1, if_pos c2]; exact ⟨h.2.2.2.1, nw, rfl, rfl⟩, rfl, rfl, rfl⟩, KB.rfx h⟩
    · exact ⟨C, fo, 1, Or.inr ⟨C, by unfold EX_p_replaced; rw [if_neg c1, if_neg c2]; exact ⟨rfl, rfl⟩, rfl, rfl, rfl⟩, KB.rfx h⟩
theorem kl_split (h : KI C) : ∃ C' f' k, E_l_split C fo C' f' k ∧ KB C C' := by
  by_cases c : kI C 4 = 0
  · exact ⟨C, fo, 1, Or.inr ⟨C, by unfold EX_p_split; rw [if_pos c]; exact ⟨rfl, rfl⟩, rfl, rfl, rfl⟩, KB.rfx h⟩
  · obtain ⟨C', r, n1, n2⟩ := k_splL (B := C) 9 0 (uI C 12 0) 0 0 (by omega) ((KB.rfx h).n (n := 0) (by omega))
    exact ⟨C', _, 0, Or.inl ⟨C', r, by unfold E_p_split; rw [if_neg c]; exact ⟨_, n1⟩, rfl, rfl, rfl⟩, n2⟩
theorem kl_piece {a1 a2 : Int32} (h : KI C) : ∃ C' f' k, E_l_piece C fo a1 a2 C' f' k ∧ KB C C' := by
  by_cases c1 : a1 < 0
  · exact ⟨C, fo, 1, Or.inr ⟨C, by unfold EX_p_piece; rw [if_pos c1]; exact ⟨rfl, rfl⟩, rfl, rfl, rfl⟩, KB.rfx h⟩
  · by_cases c2 : a1 < kI C 12
    · obtain ⟨n, n1, n2⟩ := id h.2.2.2.2.2.2
      have v : vp_in a1 10 := by
        rw [n2] at c2
        obtain ⟨p, p1, p2⟩ := i_nat (N := n) (by omega) c1 (by rw [Int32.le_iff_toInt_le]; rw [Int32.lt_iff_toInt_lt] at c2; omega)
        rw [p2] at c2 ⊢
        have := (n_lt (by omega) (by omega)).mp c2
        exact v_in (by omega) (by omega)
      have go : ∀ r, (if a2 = 0 then (vp_in a1 10 ∧ (C = C ∧ r = (kP C 10 a1.toNatClampNeg))) else (if a2 = 1 then (vp_in a1 10 ∧ (C = C ∧ r = (kP C 11 a1.toNatClampNeg))) else (C = C ∧ r = (-1)))) → ∃ C' f' k, E_l_piece C fo a1 a2 C' f' k ∧ KB C C' := fun r hr => ⟨C, _, 0, Or.inl ⟨C, r, by unfold E_p_piece; rw [if_neg c1, if_pos c2]; exact hr, rfl, rfl, rfl⟩, KB.rfx h⟩
      by_cases d0 : a2 = 0
      · exact go _ (by rw [if_pos d0]; exact ⟨v, rfl, rfl⟩)
      · by_cases d1 : a2 = 1
        · exact go _ (by rw [if_neg d0, if_pos d1]; exact ⟨v, rfl, rfl⟩)
        · exact go _ (by rw [if_neg d0, if_neg d1]; exact ⟨rfl, rfl⟩)
    · exact ⟨C, fo, 1, Or.inr ⟨C, by unfold EX_p_piece; rw [if_neg c1, if_neg c2]; exact ⟨rfl, rfl⟩, rfl, rfl, rfl⟩, KB.rfx h⟩
end TL
/-- rows of class and reference are the same -/
def Agr (C : CS) (V : VS) : Prop := kJ C 0 = V.2.1 0 ∧ tJ (kT C) = V.2.1 1 ∧ kJ C 2 = V.2.1 2 ∧ (∀ i, i < V.2.1 0 → kG C 0 i = V.1 i) ∧ (∀ i, i < V.2.1 1 → tG (kT C) i = V.1 (14 + i)) ∧ ∀ i, i < V.2.1 2 → kG C 2 i = V.1 (28 + i)
section TA
variable {C C' : CS} {V V' : VS}
theorem Agr.to (h : Agr C V) (w : Rw C C') (h1 : V'.1 = V.1) (h2 : V'.2.1 = V.2.1) : Agr C' V' := by
  obtain ⟨a1, a2, a3, a4, a5, a6⟩ := h
  obtain ⟨w1, w2, w3, w4, w5, w6⟩ := w
  unfold Agr
  rw [h1, h2, w1, w2, w3, w4, w5, w6]
  exact ⟨a1, a2, a3, a4, a5, a6⟩
theorem rowV_0 {a1 : Int32} (h : a1 < 0 ∨ 2 < a1) : isRowV a1 = 0 := by
  unfold isRowV
  rw [if_pos]
  rcases h with z | z
  · exact Or.inl z
  · right
    rw [Int32.lt_iff_toInt_lt] at z
    rw [Int32.le_iff_toInt_le]
    have e1 : (2 : Int32).toInt = 2 := rfl
    have e2 : (3 : Int32).toInt = 3 := rfl
    omega
theorem rowV_1 {r : Nat} (h : r < 3) : ¬ isRowV (nI r) = 0 := by
  rcases (show r = 0 ∨ r = 1 ∨ r = 2 by omega) with z | z | z <;> subst z <;> decide
theorem nar_n {c : Nat} (h : c ≤ 126) : vp_nar .char (nI c) = nI c := by
  have : ∀ j : Fin 127, vp_nar .char (nI j.1) = nI j.1 := by decide +kernel
  exact this ⟨c, by omega⟩
theorem forget_ok {C : CS} {a1 : Int32} (h : KI C) : ∃ C', E_p_forgetMatchIfText C a1 C' 0 ∧ KI C' ∧ Rw C C' := by
  unfold E_p_forgetMatchIfText
  by_cases c : a1 = 1
  · have k := (KB.rfx h).i (k := 5) (x := 0) (by omega)
    exact ⟨_, by rw [if_pos c]; exact ⟨rfl, rfl⟩, k.1, k.2⟩
  · exact ⟨C, by rw [if_neg c]; exact ⟨rfl, rfl⟩, h, (KB.rfx h).2⟩
theorem Agr.rw (h : Agr C V) (w : Rw C C') : Agr C' V := h.to w rfl rfl
theorem upd_eq {f : Nat → Int32} {i k : Nat} {x : Int32} : upd f i x k = if k = i then x else f k := rfl
theorem ty_0 {c : Nat} (h : KI C) (hl : kJ C 0 < 14) (hc : 32 ≤ c ∧ c ≤ 126) (g : Agr C V) : KI (uJ C 0 ((kJ C 0) + 1) (upd (kG C 0) (kJ C 0) (nI c))) ∧ Agr (uJ C 0 ((kJ C 0) + 1) (upd (kG C 0) (kJ C 0) (nI c))) (tyV V 0 (nI c)) := by
  obtain ⟨a1, a2, a3, a4, a5, a6, a7⟩ := h
  obtain ⟨b1, b2, b3, b4, b5, b6⟩ := g
  have nw : narrow .char (.int (nI c)) = .int (nI c) := by have := nar_c (nI c); rw [nar_n hc.2] at this; exact this
  refine ⟨⟨?_, ⟨?_, ?_⟩, a3, a4, a5, a6, a7⟩, ?_⟩
  · intro i hi
    rw [uJ_J, if_pos rfl] at hi
    rw [uJ_G, if_pos rfl, upd_eq]
    by_cases z : i = kJ C 0
    · exact ⟨c, hc.1, hc.2, by rw [if_pos z]⟩
    · rw [if_neg z]; exact a1 i (by omega)
  · rw [uJ_J, if_pos rfl]; omega
  · intro k
    rw [uJ_G, if_pos rfl, upd_eq]
    split
    · exact nw
    · exact a2.2 k
  · refine ⟨?_, b2, ?_, fun i hi => ?_, fun i hi => ?_, fun i hi => ?_⟩
    · rw [uJ_J, if_pos rfl]; show kJ C 0 + 1 = V.2.1 0 + 1; rw [b1]
    · rw [uJ_J, if_neg (by omega)]; exact b3
    · have hi : i < V.2.1 0 + 1 := hi
      rw [uJ_G, if_pos rfl]
      show upd (kG C 0) (kJ C 0) (nI c) i = upd V.1 (14 * 0 + V.2.1 0) (nI c) i
      rw [upd_eq, upd_eq, b1]
      by_cases z : i = V.2.1 0
      · rw [if_pos z, if_pos (by omega)]
      · rw [if_neg z, if_neg (by omega)]; exact b4 i (by omega)
    · show tG (kT C) i = upd V.1 (14 * 0 + V.2.1 0) (nI c) (14 + i)
      rw [upd_eq, if_neg (by omega)]; exact b5 i hi
    · rw [uJ_G, if_neg (by omega)]
      show kG C 2 i = upd V.1 (14 * 0 + V.2.1 0) (nI c) (28 + i)
      rw [upd_eq, if_neg (by omega)]; exact b6 i hi
theorem ty_2 {c : Nat} (h : KI C) (hl : kJ C 2 < 8) (hc : 32 ≤ c ∧ c ≤ 126) (g : Agr C V) : KI (uJ C 2 ((kJ C 2) + 1) (upd (kG C 2) (kJ C 2) (nI c))) ∧ Agr (uJ C 2 ((kJ C 2) + 1) (upd (kG C 2) (kJ C 2) (nI c))) (tyV V 2 (nI c)) := by
  obtain ⟨a1, a2, a3, a4, a5, a6, a7⟩ := h
  obtain ⟨b1, b2, b3, b4, b5, b6⟩ := g
  have nw : narrow .char (.int (nI c)) = .int (nI c) := by have := nar_c (nI c); rw [nar_n hc.2] at this; exact this
  have c0 : kJ C 0 ≤ 14 := a2.1
  have c1 : tJ (kT C) ≤ 8 := a5.1
  refine ⟨⟨a1, a2, ⟨?_, ?_⟩, a4, a5, a6, a7⟩, ?_⟩
  · rw [uJ_J, if_pos rfl]; omega
  · intro k
    rw [uJ_G, if_pos rfl, upd_eq]
    split
    · exact nw
    · exact a3.2 k
  · refine ⟨?_, b2, ?_, fun i hi => ?_, fun i hi => ?_, fun i hi => ?_⟩
    · rw [uJ_J, if_neg (by omega)]; exact b1
    · rw [uJ_J, if_pos rfl]; show kJ C 2 + 1 = V.2.1 2 + 1; rw [b3]
    · have hi : i < V.2.1 0 := hi
      rw [uJ_G, if_neg (by omega)]
      show kG C 0 i = upd V.1 (14 * 2 + V.2.1 2) (nI c) i
      rw [upd_eq, if_neg (by omega)]; exact b4 i hi
    · have hi : i < V.2.1 1 := hi
      show tG (kT C) i = upd V.1 (14 * 2 + V.2.1 2) (nI c) (14 + i)
      rw [upd_eq, if_neg (by omega)]; exact b5 i hi
    · have hi : i < V.2.1 2 + 1 := hi
      rw [uJ_G, if_pos rfl]
      show upd (kG C 2) (kJ C 2) (nI c) i = upd V.1 (14 * 2 + V.2.1 2) (nI c) (28 + i)
      rw [upd_eq, upd_eq, b3]
      by_cases z : i = V.2.1 2
      · rw [if_pos z, if_pos (by omega)]
      · rw [if_neg z, if_neg (by omega)]; exact b6 i (by omega)
theorem ty_1 {c : Nat} (h : KI C) (hl : tJ (kT C) < 8) (hc : 32 ≤ c ∧ c ≤ 126) (g : Agr C V) : KI (uT C ((tJ (kT C)) + 1) (upd (tG (kT C)) (tJ (kT C)) (nI c))) ∧ Agr (uT C ((tJ (kT C)) + 1) (upd (tG (kT C)) (tJ (kT C)) (nI c))) (tyV V 1 (nI c)) := by
  obtain ⟨a1, a2, a3, a4, a5, a6, a7⟩ := h
  obtain ⟨b1, b2, b3, b4, b5, b6⟩ := g
  have nw : narrow .char (.int (nI c)) = .int (nI c) := by have := nar_c (nI c); rw [nar_n hc.2] at this; exact this
  have c0 : kJ C 0 ≤ 14 := a2.1
  refine ⟨⟨a1, a2, a3, a4, ⟨by show tJ (kT C) + 1 ≤ 8; omega, fun k => ?_, a5.2.2⟩, a6, a7⟩, ?_⟩
  · show narrow .char (.int (upd (tG (kT C)) (tJ (kT C)) (nI c) k)) = .int (upd (tG (kT C)) (tJ (kT C)) (nI c) k)
    rw [upd_eq]
    split
    · exact nw
    · exact a5.2.1 k
  · refine ⟨b1, by show tJ (kT C) + 1 = V.2.1 1 + 1; rw [b2], b3, fun i hi => ?_, fun i hi => ?_, fun i hi => ?_⟩
    · have hi : i < V.2.1 0 := hi
      show kG C 0 i = upd V.1 (14 * 1 + V.2.1 1) (nI c) i
      rw [upd_eq, if_neg (by omega)]; exact b4 i hi
    · have hi : i < V.2.1 1 + 1 := hi
      show upd (tG (kT C)) (tJ (kT C)) (nI c) i = upd V.1 (14 * 1 + V.2.1 1) (nI c) (14 + i)
      rw [upd_eq, upd_eq, b2]
      by_cases z : i = V.2.1 1
      · rw [if_pos z, if_pos (by omega)]
      · rw [if_neg z, if_neg (by omega)]; exact b5 i (by omega)
    · have hi : i < V.2.1 2 := hi
      show kG C 2 i = upd V.1 (14 * 1 + V.2.1 1) (nI c) (28 + i)
      rw [upd_eq, if_neg (by omega)]; exact b6 i hi
theorem full_0 (h : KI C) (hl : kJ C 0 = 14) : KI (uJ C 0 14 (kG C 0)) ∧ Rw C (uJ C 0 14 (kG C 0)) := by
  obtain ⟨a1, a2, a3, a4, a5, a6, a7⟩ := h
  refine ⟨⟨?_, ?_, a3, a4, a5, a6, a7⟩, ?_, ?_, rfl, rfl, rfl, rfl⟩
  · rw [uJ_J, uJ_G, if_pos rfl, if_pos rfl]; rw [hl] at a1; exact a1
  · rw [uJ_J, uJ_G, if_pos rfl, if_pos rfl]; rw [hl] at a2; exact a2
  · rw [uJ_J, if_pos rfl, hl]
  · rw [uJ_G, if_pos rfl]
theorem full_2 (h : KI C) (hl : kJ C 2 = 8) : KI (uJ C 2 8 (kG C 2)) ∧ Rw C (uJ C 2 8 (kG C 2)) := by
  obtain ⟨a1, a2, a3, a4, a5, a6, a7⟩ := h
  refine ⟨⟨a1, a2, ?_, a4, a5, a6, a7⟩, rfl, rfl, ?_, ?_, rfl, rfl⟩
  · rw [uJ_J, uJ_G, if_pos rfl, if_pos rfl]; rw [hl] at a3; exact a3
  · rw [uJ_J, if_pos rfl, hl]
  · rw [uJ_G, if_pos rfl]
theorem full_1 (h : KI C) (hl : tJ (kT C) = 8) : KI (uT C 8 (tG (kT C))) ∧ Rw C (uT C 8 (tG (kT C))) := by
  obtain ⟨a1, a2, a3, a4, a5, a6, a7⟩ := h
  exact ⟨⟨a1, a2, a3, a4, ⟨by show 8 ≤ 8; omega, a5.2⟩, a6, a7⟩, rfl, rfl, rfl, rfl, by show 8 = tJ (kT C); rw [hl], rfl⟩
theorem type_C (h : KI C) (g : Agr C V) (a1 a2 : Int32) : match tyB V a1 a2 with
    | none => ∃ C', E_p_type C a1 a2 C' 0 ∧ KI C' ∧ Agr C' V
    | some r => ∃ C', E_p_type C a1 a2 C' 1 ∧ KI C' ∧ Agr C' (tyV V r a2) := by
  have id : ∀ {C' : CS}, KI C' → Rw C C' → KI C' ∧ Agr C' V := fun k w => ⟨k, g.rw w⟩
  have here := id h (KB.rfx h).2
  unfold tyB
  cases e : i3N a1 with
  | none =>
    refine ⟨C, ?_, here⟩
    unfold E_p_type
    rw [if_pos (rowV_0 (i3_none e))]; exact ⟨rfl, rfl⟩
  | some r =>
    obtain ⟨hr, er⟩ := i3_some e
    have rv := rowV_1 hr
    rw [← er] at rv
    dsimp only
    by_cases c1 : a2 < 32
    · rw [if_pos c1]
      exact ⟨C, by unfold E_p_type; rw [if_neg rv, if_pos c1]; exact ⟨rfl, rfl⟩, here⟩
    · rw [if_neg c1]
      by_cases c2 : 126 < a2
      · rw [if_pos c2]
        exact ⟨C, by unfold E_p_type; rw [if_neg rv, if_neg c1, if_pos c2]; exact ⟨rfl, rfl⟩, here⟩
      · rw [if_neg c2]
        obtain ⟨c, d1, d2, d3⟩ := c_nat c1 c2
        have en : vp_nar .char a2 = nI c := by rw [d3]; exact nar_n d2
        rcases (show r = 0 ∨ r = 1 ∨ r = 2 by omega) with z | z | z
        · subst z
          have er : a1 = 0 := er
          have m14 : kJ C 0 ≤ 14 := h.2.1.1
          have b1 := g.1
          show match (if V.2.1 0 = 14 then none else some 0) with
            | none => ∃ C', E_p_type C a1 a2 C' 0 ∧ KI C' ∧ Agr C' V
            | some r => ∃ C', E_p_type C a1 a2 C' 1 ∧ KI C' ∧ Agr C' (tyV V r a2)
          by_cases f : V.2.1 0 = 14
          · rw [if_pos f]
            have f' : kJ C 0 = 14 := by omega
            have k := full_0 h f'
            refine ⟨_, ?_, id k.1 k.2⟩
            unfold E_p_type
            rw [if_neg rv, if_neg c1, if_neg c2, if_pos er, if_neg (by omega)]; exact ⟨f', rfl, rfl⟩
          · rw [if_neg f]
            have k := ty_0 h (by omega) ⟨d1, d2⟩ g
            obtain ⟨C7, w1, w2, w3⟩ := forget_ok (a1 := a1) k.1
            refine ⟨C7, ?_, w2, ?_⟩
            · unfold E_p_type
              rw [if_neg rv, if_neg c1, if_neg c2, if_pos er, if_pos (by omega), en]; exact ⟨C7, w1, rfl, rfl⟩
            · rw [d3]; exact k.2.rw w3
        · subst z
          have er : a1 = 1 := er
          have m8 : tJ (kT C) ≤ 8 := h.2.2.2.2.1.1
          have b1 := g.2.1
          have e0 : ¬ a1 = 0 := by rw [er]; decide
          show match (if V.2.1 1 = 8 then none else some 1) with
            | none => ∃ C', E_p_type C a1 a2 C' 0 ∧ KI C' ∧ Agr C' V
            | some r => ∃ C', E_p_type C a1 a2 C' 1 ∧ KI C' ∧ Agr C' (tyV V r a2)
          by_cases f : V.2.1 1 = 8
          · rw [if_pos f]
            have f' : tJ (kT C) = 8 := by omega
            have k := full_1 h f'
            refine ⟨_, ?_, id k.1 k.2⟩
            unfold E_p_type
            rw [if_neg rv, if_neg c1, if_neg c2, if_neg e0, if_pos er, if_neg (by omega)]; exact ⟨f', rfl, rfl⟩
          · rw [if_neg f]
            have k := ty_1 h (by omega) ⟨d1, d2⟩ g
            obtain ⟨C7, w1, w2, w3⟩ := forget_ok (a1 := a1) k.1
            refine ⟨C7, ?_, w2, ?_⟩
            · unfold E_p_type
              rw [if_neg rv, if_neg c1, if_neg c2, if_neg e0, if_pos er, if_pos (by omega), en]; exact ⟨C7, w1, rfl, rfl⟩
            · rw [d3]; exact k.2.rw w3
        · subst z
          have er : a1 = 2 := er
          have m8 : kJ C 2 ≤ 8 := h.2.2.1.1
          have b1 := g.2.2.1
          have e0 : ¬ a1 = 0 := by rw [er]; decide
          have e1 : ¬ a1 = 1 := by rw [er]; decide
          show match (if V.2.1 2 = 8 then none else some 2) with
            | none => ∃ C', E_p_type C a1 a2 C' 0 ∧ KI C' ∧ Agr C' V
            | some r => ∃ C', E_p_type C a1 a2 C' 1 ∧ KI C' ∧ Agr C' (tyV V r a2)
          by_cases f : V.2.1 2 = 8
          · rw [if_pos f]
            have f' : kJ C 2 = 8 := by omega
            have k := full_2 h f'
            refine ⟨_, ?_, id k.1 k.2⟩
            unfold E_p_type
            rw [if_neg rv, if_neg c1, if_neg c2, if_neg e0, if_neg e1, if_neg (by omega)]; exact ⟨er, f', rfl, rfl⟩
          · rw [if_neg f]
            have k := ty_2 h (by omega) ⟨d1, d2⟩ g
            obtain ⟨C7, w1, w2, w3⟩ := forget_ok (a1 := a1) k.1
            refine ⟨C7, ?_, w2, ?_⟩
            · unfold E_p_type
              rw [if_neg rv, if_neg c1, if_neg c2, if_neg e0, if_neg e1, if_pos (by omega), en]; exact ⟨er, C7, w1, rfl, rfl⟩
            · rw [d3]; exact k.2.rw w3
theorem cl_0 (h : KI C) (g : Agr C V) : KI (uJ C 0 0 (kG C 0)) ∧ Agr (uJ C 0 0 (kG C 0)) (clV V 0) := by
  obtain ⟨a1, a2, a3, a4, a5, a6, a7⟩ := h
  obtain ⟨b1, b2, b3, b4, b5, b6⟩ := g
  refine ⟨⟨?_, ⟨?_, ?_⟩, a3, a4, a5, a6, a7⟩, ?_, b2, b3, fun i hi => ?_, b5, b6⟩
  · intro i hi; rw [uJ_J, if_pos rfl] at hi; omega
  · rw [uJ_J, if_pos rfl]; omega
  · rw [uJ_G, if_pos rfl]; exact a2.2
  · rw [uJ_J, if_pos rfl]; rfl
  · exact absurd hi (Nat.not_lt_zero i)
theorem cl_2 (h : KI C) (g : Agr C V) : KI (uJ C 2 0 (kG C 2)) ∧ Agr (uJ C 2 0 (kG C 2)) (clV V 2) := by
  obtain ⟨a1, a2, a3, a4, a5, a6, a7⟩ := h
  obtain ⟨b1, b2, b3, b4, b5, b6⟩ := g
  refine ⟨⟨a1, a2, ⟨?_, ?_⟩, a4, a5, a6, a7⟩, b1, b2, ?_, b4, b5, fun i hi => ?_⟩
  · rw [uJ_J, if_pos rfl]; omega
  · rw [uJ_G, if_pos rfl]; exact a3.2
  · rw [uJ_J, if_pos rfl]; rfl
  · exact absurd hi (Nat.not_lt_zero i)
theorem cl_1 (h : KI C) (g : Agr C V) : KI (uT C 0 (tG (kT C))) ∧ Agr (uT C 0 (tG (kT C))) (clV V 1) := by
  obtain ⟨a1, a2, a3, a4, a5, a6, a7⟩ := h
  obtain ⟨b1, b2, b3, b4, b5, b6⟩ := g
  exact ⟨⟨a1, a2, a3, a4, ⟨by show 0 ≤ 8; omega, a5.2⟩, a6, a7⟩, b1, rfl, b3, b4, fun i hi => absurd hi (Nat.not_lt_zero i), b6⟩
theorem clear_C (h : KI C) (g : Agr C V) (a1 : Int32) : match i3N a1 with
    | none => ∃ C', E_p_clear C a1 C' 0 ∧ KI C' ∧ Agr C' V
    | some r => ∃ C', E_p_clear C a1 C' 1 ∧ KI C' ∧ Agr C' (clV V r) := by
  cases e : i3N a1 with
  | none =>
    refine ⟨C, ?_, h, g⟩
    unfold E_p_clear
    rw [if_pos (rowV_0 (i3_none e))]; exact ⟨rfl, rfl⟩
  | some r =>
    obtain ⟨hr, er⟩ := i3_some e
    have rv := rowV_1 hr
    rw [← er] at rv
    dsimp only
    rcases (show r = 0 ∨ r = 1 ∨ r = 2 by omega) with z | z | z
    · subst z
      have er : a1 = 0 := er
      have k := cl_0 h g
      obtain ⟨C7, w1, w2, w3⟩ := forget_ok (a1 := a1) k.1
      refine ⟨C7, ?_, w2, k.2.rw w3⟩
      unfold E_p_clear
      rw [if_neg rv, if_pos er]; exact ⟨C7, w1, rfl, rfl⟩
    · subst z
      have er : a1 = 1 := er
      have e0 : ¬ a1 = 0 := by rw [er]; decide
      have k := cl_1 h g
      obtain ⟨C7, w1, w2, w3⟩ := forget_ok (a1 := a1) k.1
      refine ⟨C7, ?_, w2, k.2.rw w3⟩
      unfold E_p_clear
      rw [if_neg rv, if_neg e0, if_pos er]; exact ⟨C7, w1, rfl, rfl⟩
    · subst z
      have er : a1 = 2 := er
      have e0 : ¬ a1 = 0 := by rw [er]; decide
      have e1 : ¬ a1 = 1 := by rw [er]; decide
      have k := cl_2 h g
      obtain ⟨C7, w1, w2, w3⟩ := forget_ok (a1 := a1) k.1
      refine ⟨C7, ?_, w2, k.2.rw w3⟩
      unfold E_p_clear
      rw [if_neg rv, if_neg e0, if_neg e1]; exact ⟨er, C7, w1, rfl, rfl⟩
theorem length_C (g : Agr C V) (a1 : Int32) : E_p_length C a1 C (match i3N a1 with | none => -1 | some r => nI (V.2.1 r)) := by
  cases e : i3N a1 with
  | none =>
    unfold E_p_length
    rw [if_pos (rowV_0 (i3_none e))]; exact ⟨rfl, rfl⟩
  | some r =>
    obtain ⟨hr, er⟩ := i3_some e
    have rv := rowV_1 hr
    rw [← er] at rv
    unfold E_p_length
    dsimp only
    rcases (show r = 0 ∨ r = 1 ∨ r = 2 by omega) with z | z | z
    · subst z
      have er : a1 = 0 := er
      rw [if_neg rv, if_pos er, g.1]; exact ⟨rfl, rfl⟩
    · subst z
      have er : a1 = 1 := er
      have e0 : ¬ a1 = 0 := by rw [er]; decide
      rw [if_neg rv, if_neg e0, if_pos er, g.2.1]; exact ⟨rfl, rfl⟩
    · subst z
      have er : a1 = 2 := er
      have e0 : ¬ a1 = 0 := by rw [er]; decide
      have e1 : ¬ a1 = 1 := by rw [er]; decide
      rw [if_neg rv, if_neg e0, if_neg e1, g.2.2.1]; exact ⟨er, rfl, rfl⟩
end TA
/-! the reference answers, its rows as they were -/
section RT
variable {R : RS} {V : VS}
def Vr (V V' : VS) : Prop := V'.1 = V.1 ∧ V'.2.1 = V.2.1
theorem rt_compile (h : RV R V) : ∃ R' r V', E_compile R R' r ∧ RV R' V' ∧ Vr V V' := by
  have e := compile_E h
  cases p : pRd V.1 (V.2.1 0) with
  | none => rw [p] at e; obtain ⟨R', a, b, -⟩ := e; exact ⟨R', 0, V, a, b, rfl, rfl⟩
  | some w => rw [p] at e; obtain ⟨-, -, -, R', a, b, -⟩ := e; exact ⟨R', _, _, a, b, rfl, rfl⟩
theorem rt_matches (h : RV R V) : ∃ R' r V', E_matches R R' r ∧ RV R' V' ∧ Vr V V' := by
  have e := matches_E h
  cases p : V.2.2.1 with
  | none => rw [p] at e; exact ⟨_, 0, V, e, h.code, rfl, rfl⟩
  | some w => rw [p] at e; obtain ⟨R', a, b, -⟩ := e; exact ⟨R', _, _, a, b, rfl, rfl⟩
theorem rt_looking (h : RV R V) : ∃ R' r V', E_looking R R' r ∧ RV R' V' ∧ Vr V V' := by
  have e := looking_E h
  cases p : V.2.2.1 with
  | none => rw [p] at e; exact ⟨_, 0, V, e, h.code, rfl, rfl⟩
  | some w => rw [p] at e; obtain ⟨R', a, b, -⟩ := e; exact ⟨R', _, _, a, b, rfl, rfl⟩
theorem rt_find {a1 : Int32} (h : RV R V) : ∃ R' r V', E_find R a1 R' r ∧ RV R' V' ∧ Vr V V' := by
  have e := find_E h a1
  split at e
  · exact ⟨_, 0, V, e, h.code, rfl, rfl⟩
  · cases p : V.2.2.1 with
    | none => rw [p] at e; exact ⟨_, 0, V, e, h.code, rfl, rfl⟩
    | some w => rw [p] at e; obtain ⟨q, -, -, R', a, b, -⟩ := e; exact ⟨R', _, _, a, b, rfl, rfl⟩
theorem rt_start {a1 : Int32} (h : RV R V) : ∃ R' r V', E_start R a1 R' r ∧ RV R' V' ∧ Vr V V' := ⟨_, _, V, start_E h a1, h.code, rfl, rfl⟩
theorem rt_end {a1 : Int32} (h : RV R V) : ∃ R' r V', E_end R a1 R' r ∧ RV R' V' ∧ Vr V V' := ⟨_, _, V, end_E h a1, h.code, rfl, rfl⟩
theorem rt_replace (h : RV R V) : ∃ R' r V', E_replace R R' r ∧ RV R' V' ∧ Vr V V' := by
  have e := replace_E h
  cases p : V.2.2.1 with
  | none => rw [p] at e; exact ⟨_, 0, V, e, h.code, rfl, rfl⟩
  | some w =>
    rw [p] at e
    obtain ⟨g, c⟩ := w
    dsimp only at e
    split at e
    · obtain ⟨R', a, b, -⟩ := e; exact ⟨R', _, _, a, b, rfl, rfl⟩
    · exact ⟨_, 0, V, e, h.code, rfl, rfl⟩
theorem rt_replaced {a1 : Int32} (h : RV R V) : ∃ R' r V', E_replaced R a1 R' r ∧ RV R' V' ∧ Vr V V' := ⟨_, _, V, replaced_E h a1, h.code, rfl, rfl⟩
theorem rt_split (h : RV R V) : ∃ R' r V', E_split R R' r ∧ RV R' V' ∧ Vr V V' := by
  have e := split_E h
  cases p : V.2.2.1 with
  | none => rw [p] at e; exact ⟨_, 0, V, e, h.code, rfl, rfl⟩
  | some w => rw [p] at e; obtain ⟨R', a, b, -⟩ := e; exact ⟨R', _, _, a, b, rfl, rfl⟩
theorem rt_piece {a1 a2 : Int32} (h : RV R V) : ∃ R' r V', E_piece R a1 a2 R' r ∧ RV R' V' ∧ Vr V V' := ⟨_, _, V, piece_E h a1 a2, h.code, rfl, rfl⟩
end RT
/-- what holds between two calls: rows agree, all answers are there -/
def InvA (C : CS) (R : RS) : Prop := KI C ∧ ∃ V, RV R V ∧ Agr C V
def V0 : VS := (fun _ => 0, fun _ => 0, none, none, [], [])
theorem RV_0 : RV R0 V0 := by
  have z : (0 : Int32) = nI 0 := by decide
  refine ⟨⟨rfl, fun _ _ => z, Nat.zero_le _, Nat.zero_le _, Nat.zero_le _, fun r i _ hi => absurd hi (Nat.not_lt_zero i)⟩, ⟨fun n _ => ⟨0, 0, 0, z, by omega, z, by omega, fun h => by omega, Or.inr ⟨0, by omega, z⟩, z, by omega, Or.inr ⟨0, by omega, z⟩, Or.inr ⟨0, by omega, z⟩⟩, 0, z, Or.inl rfl, rfl⟩, rfl, ⟨z, Nat.zero_le _, fun i x h => by cases h⟩, z, Nat.zero_le _, fun i x h => by cases h⟩
theorem inv_0 (K M : KP) : InvA (C0 K M) R0 := by
  have n0 : narrow .char (.int (0 : Int32)) = .int 0 := rfl
  refine ⟨⟨fun i hi => absurd hi (Nat.not_lt_zero i), ⟨Nat.zero_le _, fun _ => n0⟩, ⟨Nat.zero_le _, fun _ => n0⟩, ⟨Nat.zero_le _, fun _ => n0⟩, ⟨Nat.zero_le _, fun _ => n0, by show 0 < 1; omega, by show 1 ≤ 32; omega⟩, ⟨⟨by show 0 < 1; omega, by show 1 ≤ 32; omega⟩, fun i _ => ⟨rfl, rfl⟩⟩, 0, by omega, rfl⟩, V0, ?_, rfl, rfl, rfl, fun i hi => absurd hi (Nat.not_lt_zero i), fun i hi => absurd hi (Nat.not_lt_zero i), fun i hi => absurd hi (Nat.not_lt_zero i)⟩
  exact RV_0
