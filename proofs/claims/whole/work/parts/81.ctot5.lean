/-! the class's methods answer -/
section TC
variable {α : Type} {I : α → Prop}
def To (I : α → Prop) (P : α → Int32 → Prop) : Prop := ∃ S r, P S r ∧ I S
theorem o_if {c : Prop} {d : Decidable c} {P Q : α → Int32 → Prop} (h1 : c → To I P) (h2 : ¬ c → To I Q) : To I (fun S r => @ite Prop c d (P S r) (Q S r)) := by
  by_cases h : c
  · obtain ⟨S, r, a, b⟩ := h1 h
    exact ⟨S, r, by show ite c (P S r) (Q S r); rw [if_pos h]; exact a, b⟩
  · obtain ⟨S, r, a, b⟩ := h2 h
    exact ⟨S, r, by show ite c (P S r) (Q S r); rw [if_neg h]; exact a, b⟩
theorem o_ex {A : α → Int32 → Prop} {P : α → Int32 → α → Int32 → Prop} (h : To I A) (g : ∀ S1 r1, A S1 r1 → I S1 → To I (P S1 r1)) : To I (fun S r => ∃ S1 r1, A S1 r1 ∧ P S1 r1 S r) := by
  obtain ⟨S1, r1, a, b⟩ := h
  obtain ⟨S, r, d, e⟩ := g S1 r1 a b
  exact ⟨S, r, ⟨S1, r1, a, d⟩, e⟩
theorem o_exv {A : α → Prop} {P : α → α → Int32 → Prop} (h : ∃ S, A S ∧ I S) (g : ∀ S1, A S1 → I S1 → To I (P S1)) : To I (fun S r => ∃ S1, A S1 ∧ P S1 S r) := by
  obtain ⟨S1, a, b⟩ := h
  obtain ⟨S, r, d, e⟩ := g S1 a b
  exact ⟨S, r, ⟨S1, a, d⟩, e⟩
theorem o_exo {β : Type} {A : β → Prop} {P : β → α → Int32 → Prop} (h : ∃ x, A x) (g : ∀ x, A x → To I (P x)) : To I (fun S r => ∃ x, A x ∧ P x S r) := by
  obtain ⟨x, a⟩ := h
  obtain ⟨S, r, d, e⟩ := g x a
  exact ⟨S, r, ⟨x, a, d⟩, e⟩
theorem o_eq {P Q : α → Int32 → Prop} (h : ∀ S r, P S r = Q S r) (g : To I Q) : To I P := by
  obtain ⟨S, r, d, e⟩ := g
  exact ⟨S, r, (h S r).mpr d, e⟩
theorem o_nf {P : Nat → α → Int32 → Prop} {n : Nat} (g : To I (P n)) : To I (fun S r => ∃ nf : Nat, P nf S r) := by
  obtain ⟨S, r, d, e⟩ := g
  exact ⟨S, r, ⟨n, d⟩, e⟩
theorem o_and {A : Prop} {P : α → Int32 → Prop} (h : A) (g : To I P) : To I (fun S r => A ∧ P S r) := by
  obtain ⟨S, r, d, e⟩ := g
  exact ⟨S, r, ⟨h, d⟩, e⟩
theorem o_ret {S0 : α} {r0 : Int32} (h : I S0) : To I (fun S r => S = S0 ∧ r = r0) := ⟨S0, r0, ⟨rfl, rfl⟩, h⟩
end TC
theorem nar_c (x : Int32) : narrow .char (.int (vp_nar .char x)) = .int (vp_nar .char x) := by
  rw [vp_nar_char]
  show Value.int (x.toUInt32.toUInt16.toUInt32.toInt32.toUInt32.toUInt16.toUInt32.toInt32) = _
  have e : ∀ y : UInt16, y.toUInt32.toInt32.toUInt32.toUInt16 = y := fun y => by
    rw [show y.toUInt32.toInt32.toUInt32 = y.toUInt32 from rfl]
    exact UInt16.toUInt16_toUInt32 y
  rw [e]
def Rw (C C' : CS) : Prop := kJ C' 0 = kJ C 0 ∧ kG C' 0 = kG C 0 ∧ kJ C' 2 = kJ C 2 ∧ kG C' 2 = kG C 2 ∧ tJ (kT C') = tJ (kT C) ∧ tG (kT C') = tG (kT C)
def KI (C : CS) : Prop := Xok (kG C 0) (kJ C 0) ∧ gOK (kJ C 0) (kG C 0) ∧ rOK 8 (kJ C 2) (kG C 2) ∧ rOK 296 (kJ C 3) (kG C 3) ∧ tOK (kT C) ∧ ((0 < (kD C).1 ∧ (kD C).1 ≤ 32) ∧ ∀ i, i < 32 → (kD C).2.2.2.2.1 i 0 = nI i ∧ tA (kT C) i 0 = nI i) ∧ ∃ n, n ≤ 10 ∧ kI C 12 = nI n
def KB (B C : CS) : Prop := KI C ∧ Rw B C
theorem KB.rfx {C : CS} (h : KI C) : KB C C := ⟨h, rfl, rfl, rfl, rfl, rfl, rfl⟩
section TK
variable {B C : CS}
theorem uI_n {k j : Nat} {x : Int32} (h : j ≠ k) : kI (uI C k x) j = kI C j := by
  show upd (kI C) k x j = _
  unfold upd; rw [if_neg h]
theorem uI_y {k : Nat} {x : Int32} : kI (uI C k x) k = x := by
  show upd (kI C) k x k = _
  unfold upd; rw [if_pos rfl]
theorem KB.i {k : Nat} {x : Int32} (h : KB B C) (hk : k ≠ 12) : KB B (uI C k x) := by
  obtain ⟨⟨a1, a2, a3, a4, a5, a6, n, n1, n2⟩, b⟩ := h
  exact ⟨⟨a1, a2, a3, a4, a5, a6, n, n1, (uI_n (Ne.symm hk)).trans n2⟩, b⟩
theorem KB.n {n : Nat} (h : KB B C) (hn : n ≤ 10) : KB B (uI C 12 (nI n)) := by
  obtain ⟨⟨a1, a2, a3, a4, a5, a6, -⟩, b⟩ := h
  exact ⟨⟨a1, a2, a3, a4, a5, a6, n, hn, rfl⟩, b⟩
theorem KB.l {x : Int64} (h : KB B C) : KB B (uL C x) := h
theorem KB.s {S : SS} (h : KB B C) : KB B (uS C S) := h
theorem KB.p {k i : Nat} {x : Int32} (h : KB B C) : KB B (uP C k i x) := h
theorem uJ_J {k j i : Nat} {g : Nat → Int32} : kJ (uJ C k j g) i = if i = k then j else kJ C i := by
  show va_up (kJ C) k j i = _
  unfold va_up; rfl
theorem uJ_G {k j i : Nat} {g : Nat → Int32} : kG (uJ C k j g) i = if i = k then g else kG C i := by
  show va_up (kG C) k g i = _
  unfold va_up; rfl
theorem KB.j3 {j : Nat} {g : Nat → Int32} (h : KB B C) (hg : rOK 296 j g) : KB B (uJ C 3 j g) := by
  obtain ⟨⟨a1, a2, a3, a4, a5, a6, a7⟩, b1, b2, b3, b4, b5⟩ := h
  have e0 : kJ (uJ C 3 j g) 0 = kJ C 0 := by rw [uJ_J, if_neg (by omega)]
  have f0 : kG (uJ C 3 j g) 0 = kG C 0 := by rw [uJ_G, if_neg (by omega)]
  have e2 : kJ (uJ C 3 j g) 2 = kJ C 2 := by rw [uJ_J, if_neg (by omega)]
  have f2 : kG (uJ C 3 j g) 2 = kG C 2 := by rw [uJ_G, if_neg (by omega)]
  have e3 : kJ (uJ C 3 j g) 3 = j := by rw [uJ_J, if_pos rfl]
  have f3 : kG (uJ C 3 j g) 3 = g := by rw [uJ_G, if_pos rfl]
  exact ⟨⟨by rw [e0, f0]; exact a1, by rw [e0, f0]; exact a2, by rw [e2, f2]; exact a3, by rw [e3, f3]; exact hg, a5, a6, a7⟩, e0.trans b1, f0.trans b2, e2.trans b3, f2.trans b4, b5⟩
theorem KB.add (h : KB B C) (x : Int32) (hl : kJ C 3 < 296) : KB B (uJ C 3 ((kJ C 3) + 1) (upd (kG C 3) (kJ C 3) (vp_nar .char x))) := h.j3 ⟨by omega, fun k => by
  show narrow .char (.int (if k = kJ C 3 then vp_nar .char x else kG C 3 k)) = .int (if k = kJ C 3 then vp_nar .char x else kG C 3 k)
  split
  · exact nar_c x
  · exact h.1.2.2.2.1.2 k⟩
theorem KB.full (h : KB B C) (hl : ¬ kJ C 3 < 296) : kJ C 3 = 296 ∧ KB B (uJ C 3 296 (kG C 3)) := by
  have := h.1.2.2.2.1.1
  exact ⟨by omega, h.j3 ⟨by omega, h.1.2.2.2.1.2⟩⟩
theorem KB.txt (h : KB B C) : rOK 8 (tJ (kT C)) (tG (kT C)) := ⟨h.1.2.2.2.2.1.1, h.1.2.2.2.2.1.2.1⟩
/-! a match -/
theorem k_matchL {x1 x2 x3 : Int32} (hx : x2.toInt < 2147483647) : ∀ (m : Nat) (C : CS) (x4 : Int32), x2.toInt + 1 - x4.toInt ≤ m → KB B C → (kI C 5 = 0 ∨ kI C 5 = 1) → ∃ C' r, L_p_match_16 (m + 1) C x1 x2 x3 x4 C' r ∧ KB B C'
  | m, C, x4, hm, h, h5 => by
    have k5 : kI (uL (uI C 7 ((kS C).1.1 10)) ((kS (uI C 7 ((kS C).1.1 10))).2)) 5 = kI C 5 := by
      show kI (uI C 7 ((kS C).1.1 10)) 5 = _
      exact uI_n (by omega)
    have en : KB B (uL (uI C 7 ((kS C).1.1 10)) ((kS (uI C 7 ((kS C).1.1 10))).2)) := (h.i (by omega)).l
    by_cases c : x2 < x4
    · refine ⟨_, (kI (uL (uI C 7 ((kS C).1.1 10)) ((kS (uI C 7 ((kS C).1.1 10))).2)) 5), ?_, en⟩
      rw [L_p_match_16.eq_2, if_pos c]
      exact ⟨by rw [k5]; exact nar01 h5, rfl, rfl⟩
    · by_cases c5 : kI C 5 = 0
      · have c' : ¬ x2.toInt < x4.toInt := fun z => c (by rw [Int32.lt_iff_toInt_lt]; exact z)
        have e4 : (x4 + 1).toInt = x4.toInt + 1 := by
          have := x4.le_toInt
          rw [Int32.toInt_add, show (1 : Int32).toInt = 1 from rfl, Int.bmod_eq_of_le (by omega) (by omega)]
        obtain ⟨S6, r7, f1, -, f2⟩ := to_fw (T := kT C) (S := kS C) (a1 := x4) (a2 := x3) ⟨_, rfl⟩
        match m, hm with
        | 0, hm => exact absurd hm (by omega)
        | m + 1, hm =>
          obtain ⟨C', r, g1, g2⟩ := k_matchL (x1 := x1) (x3 := x3) hx m (uI (uI (uS C S6) 5 r7) 6 x4) (x4 + 1) (by omega) ((h.s.i (by omega)).i (by omega)) (by rw [uI_n (by omega), uI_y]; exact f2)
          refine ⟨C', r, ?_, g2⟩
          rw [L_p_match_16.eq_2, if_neg c, if_pos c5]
          exact ⟨h.1.2.2.2.2.1, S6, r7, f1, nar01 f2, by rcases f2 with z | z <;> rw [z] <;> rfl, g1⟩
      · refine ⟨_, (kI (uL (uI C 7 ((kS C).1.1 10)) ((kS (uI C 7 ((kS C).1.1 10))).2)) 5), ?_, en⟩
        rw [L_p_match_16.eq_2, if_neg c, if_neg c5]
        exact ⟨by rw [k5]; exact nar01 h5, rfl, rfl⟩
theorem k_match {a1 a2 a3 : Int32} (hx : a2.toInt < 2147483647) (h : KB B C) : To (KB B) (E_p_match C a1 a2 a3) := by
  have o : ∃ S1, E_s_openSearch (kT (uI C 5 0)) (kS (uI C 5 0)) 0 S1 0 := by
    unfold E_s_openSearch
    exact ⟨_, by rw [if_neg (by decide)]; exact ⟨v_in (n := 0) (by omega) (by omega), rfl, rfl⟩⟩
  obtain ⟨S1, o1⟩ := o
  obtain ⟨C', r, g1, g2⟩ := k_matchL (B := B) (x1 := a1) (x3 := a3) hx (a2.toInt + 1 - a1.toInt).toNat (uS (uI C 5 0) S1) a1 (by omega) ((h.i (by omega)).s) (Or.inl (by
    show kI (uI C 5 0) 5 = 0
    exact uI_y))
  exact ⟨C', r, ⟨h.1.2.2.2.2.1, S1, o1, _, g1⟩, g2⟩
theorem KB.tN (h : KB B C) : (nI (tJ (kT C))).toInt < 2147483647 := by
  have := h.txt.1
  rw [nI_toInt (by omega)]; omega
theorem p_match_01 {a1 a2 a3 : Int32} {C' : CS} {r : Int32} (h : E_p_match C a1 a2 a3 C' r) : narrow .boolean (.int r) = .int r := by
  obtain ⟨_, S1, _, nf, h⟩ := h
  have : ∀ (nf : Nat) (C : CS) (x4 : Int32), L_p_match_16 nf C a1 a2 a3 x4 C' r → narrow .boolean (.int r) = .int r := by
    intro nf
    induction nf with
    | zero => intro C x4 h; exact absurd h (by intro z; exact z)
    | succ n ih =>
      intro C x4 h
      rw [L_p_match_16.eq_2] at h
      split at h
      · rw [h.2.2]; exact h.1
      · split at h
        · obtain ⟨_, S6, r7, _, _, _, h⟩ := h
          exact ih _ _ h
        · rw [h.2.2]; exact h.1
  exact this nf _ _ h
/-! the template, the made row, the pieces -/
theorem k_isGroup {a1 : Int32} (h : KB B C) : To (KB B) (E_p_isGroup C a1) := o_if (fun _ => o_ret h) (fun _ => o_if (fun _ => o_ret h) (fun _ => o_ret h))
theorem k_from {a1 : Int32} (h : KB B C) : To (KB B) (E_p_groupFrom C a1) := o_if (fun _ => o_ret h) (fun _ => o_exo (by obtain ⟨r, a, -⟩ := to_sp (a1 := kL C) (a2 := a1) (a3 := 0); exact ⟨r, a⟩) (fun _ _ => o_ret h))
theorem k_to {a1 : Int32} (h : KB B C) : To (KB B) (E_p_groupTo C a1) := o_if (fun _ => o_ret h) (fun _ => o_exo (by obtain ⟨r, a, -⟩ := to_sp (a1 := kL C) (a2 := a1) (a3 := 4); exact ⟨r, a⟩) (fun _ _ => o_ret h))
theorem k_after (h : KB B C) : To (KB B) (E_p_placeAfterMatch C) := o_if (fun _ => o_ret h) (fun _ => o_ret h)
theorem to_digit {a1 : Int32} : ∃ r, E_X5_isDigit a1 r := by
  unfold E_X5_isDigit
  by_cases c : a1 < 48
  · exact ⟨0, by rw [if_pos c]⟩
  · by_cases d : 57 < a1
    · exact ⟨0, by rw [if_neg c, if_pos d]⟩
    · exact ⟨1, by rw [if_neg c, if_neg d]⟩
set_option maxHeartbeats 4000000 in
theorem k_faultL : ∀ (m k : Nat) (C : CS) (x2 : Int32), kJ B 2 ≤ k + m → k ≤ 12 → KB B C → To (KB B) (L_p_templateFault_11 (m + 1) C x2 (nI k))
  | m, k, C, x2, hm, hk, h => by
    have eJ : kJ C 2 = kJ B 2 := h.2.2.2.1
    have h8 : kJ C 2 ≤ 8 := h.1.2.2.1.1
    refine o_eq (fun S r => L_p_templateFault_11.eq_2 C x2 (nI k) S r m) ?_
    by_cases c : nI (kJ C 2) ≤ nI k
    · exact o_if (fun _ => o_if (fun _ => o_ret h) (fun _ => o_ret h)) (fun z => absurd c z)
    · refine o_if (fun z => absurd z c) (fun _ => ?_)
      have hk8 : k < kJ C 2 := by
        rcases Nat.lt_or_ge k (kJ C 2) with z | z
        · exact z
        · exact absurd ((n_le (by omega) (by omega)).mpr z) c
      match m, hm with
      | 0, hm => exact absurd hm (by omega)
      | m + 1, hm =>
        have e1 : nI k + 1 = nI (k + 1) := (nI_succ k).symm
        have e2 : nI (k + 1) + 1 = nI (k + 2) := (nI_succ (k + 1)).symm
        have n1 : ∀ (C : CS) (x2 : Int32), KB B C → To (KB B) (L_p_templateFault_11 (m + 1) C x2 (nI (k + 1))) := fun C x2 hC => k_faultL m (k + 1) C x2 (by omega) (by omega) hC
        have n2 : ∀ (C : CS) (x2 : Int32), KB B C → To (KB B) (L_p_templateFault_11 (m + 1) C x2 (nI (k + 2))) := fun C x2 hC => k_faultL m (k + 2) C x2 (by omega) (by omega) hC
        rw [e1, e2]
        have hr := h.1.2.2.1
        exact o_and hr (o_if (fun _ => o_and hr (o_if (fun _ => o_ret h) (fun _ => o_if (fun _ => o_exo to_digit (fun _ _ => o_if (fun _ => o_ret h) (fun _ => o_if (fun _ => o_if (fun _ => o_ex (k_isGroup h) (fun _ _ _ h1 => o_if (fun _ => n2 _ _ h1) (fun _ => n2 _ _ h1))) (fun _ => n2 _ _ h)) (fun _ => n2 _ _ h)))) (fun _ => o_if (fun _ => o_if (fun _ => o_ex (k_isGroup h) (fun _ _ _ h1 => o_if (fun _ => n2 _ _ h1) (fun _ => n2 _ _ h1))) (fun _ => n2 _ _ h)) (fun _ => n2 _ _ h))))) (fun _ => o_if (fun _ => o_and hr (o_if (fun _ => o_ret h) (fun _ => o_if (fun _ => o_exo to_digit (fun _ _ => o_if (fun _ => o_ret h) (fun _ => o_if (fun _ => o_if (fun _ => o_ex (k_isGroup h) (fun _ _ _ h1 => o_if (fun _ => n2 _ _ h1) (fun _ => n2 _ _ h1))) (fun _ => n2 _ _ h)) (fun _ => n2 _ _ h)))) (fun _ => o_if (fun _ => o_if (fun _ => o_ex (k_isGroup h) (fun _ _ _ h1 => o_if (fun _ => n2 _ _ h1) (fun _ => n2 _ _ h1))) (fun _ => n2 _ _ h)) (fun _ => n2 _ _ h))))) (fun _ => n1 _ _ h)))
theorem k_fault (h : KB B C) : To (KB B) (E_p_templateFault C) := o_nf (n := kJ B 2 + 1) (k_faultL (kJ B 2) 0 C 0 (by omega) (by omega) h)
theorem k_textL {x1 x2 : Int32} : ∀ (m : Nat) (x3 : Int32) (C : CS), x2.toInt - x3.toInt ≤ m → KB B C → ∃ C', L_p_makeFromText_2 (m + 1) C x1 x2 x3 C' 0 ∧ KB B C'
  | m, x3, C, hm, h => by
    by_cases c : x2 ≤ x3
    · exact ⟨C, by rw [L_p_makeFromText_2.eq_2, if_pos c]; exact ⟨rfl, rfl⟩, h⟩
    · have c' : ¬ x2.toInt ≤ x3.toInt := fun z => c (by rw [Int32.le_iff_toInt_le]; exact z)
      match m, hm with
      | 0, hm => exact absurd hm (by omega)
      | m + 1, hm =>
        have e3 : (x3 + 1).toInt = x3.toInt + 1 := by
          have := x3.le_toInt
          have := x2.toInt_lt
          rw [Int32.toInt_add, show (1 : Int32).toInt = 1 from rfl, Int.bmod_eq_of_le (by omega) (by omega)]
        by_cases l : kJ C 3 < 296
        · obtain ⟨C', a, b⟩ := k_textL (x1 := x1) (x2 := x2) m (x3 + 1) _ (by omega) (h.add (rw_at (tJ (kT C)) (tG (kT C)) x3) l)
          exact ⟨C', by rw [L_p_makeFromText_2.eq_2, if_neg c, if_pos l]; exact ⟨h.txt, a⟩, b⟩
        · obtain ⟨l1, l2⟩ := h.full l
          obtain ⟨C', a, b⟩ := k_textL (x1 := x1) (x2 := x2) m (x3 + 1) _ (by omega) l2
          exact ⟨C', by rw [L_p_makeFromText_2.eq_2, if_neg c, if_neg l]; exact ⟨h.txt, l1, a⟩, b⟩
theorem k_text {a1 a2 : Int32} (h : KB B C) : ∃ C', E_p_makeFromText C a1 a2 C' 0 ∧ KB B C' := by
  obtain ⟨C', a, b⟩ := k_textL (B := B) (x1 := a1) (x2 := a2) (a2.toInt - a1.toInt).toNat a1 C (by omega) h
  exact ⟨C', ⟨_, a⟩, b⟩
theorem k_tmplL : ∀ (m k : Nat) (C : CS), kJ B 2 ≤ k + m → k ≤ 12 → KB B C → ∃ C', L_p_makeFromTemplate_9 (m + 1) C (nI k) C' 0 ∧ KB B C'
  | m, k, C, hm, hk, h => by
    have eJ : kJ C 2 = kJ B 2 := h.2.2.2.1
    have h8 : kJ C 2 ≤ 8 := h.1.2.2.1.1
    by_cases c : nI (kJ C 2) ≤ nI k
    · exact ⟨C, by rw [L_p_makeFromTemplate_9.eq_2, if_pos c]; exact ⟨rfl, rfl⟩, h⟩
    · have hk8 : k < kJ C 2 := by
        rcases Nat.lt_or_ge k (kJ C 2) with z | z
        · exact z
        · exact absurd ((n_le (by omega) (by omega)).mpr z) c
      match m, hm with
      | 0, hm => exact absurd hm (by omega)
      | m + 1, hm =>
        have e1 : nI k + 1 = nI (k + 1) := (nI_succ k).symm
        have e2 : nI (k + 1) + 1 = nI (k + 2) := (nI_succ (k + 1)).symm
        by_cases d1 : rw_at (kJ C 2) (kG C 2) (nI k) = 36
        · obtain ⟨C12, r13, f1, f2⟩ := k_from (a1 := (rw_at (kJ C 2) (kG C 2) (nI (k + 1))) - 48) h
          obtain ⟨C14, r15, f3, f4⟩ := k_to (a1 := (rw_at (kJ C 2) (kG C 2) (nI (k + 1))) - 48) f2
          obtain ⟨C16, f5, f6⟩ := k_text (a1 := r13) (a2 := r15) f4
          obtain ⟨C', a, b⟩ := k_tmplL m (k + 2) C16 (by omega) (by omega) f6
          exact ⟨C', by rw [L_p_makeFromTemplate_9.eq_2, if_neg c, if_pos d1, e1, e2]; exact ⟨h.1.2.2.1, h.1.2.2.1, C12, r13, f1, C14, r15, f3, C16, f5, a⟩, b⟩
        · by_cases d2 : rw_at (kJ C 2) (kG C 2) (nI k) = 92
          · by_cases l : kJ C 3 < 296
            · obtain ⟨C', a, b⟩ := k_tmplL m (k + 2) _ (by omega) (by omega) (h.add (rw_at (kJ C 2) (kG C 2) (nI (k + 1))) l)
              exact ⟨C', by rw [L_p_makeFromTemplate_9.eq_2, if_neg c, if_neg d1, if_pos d2, if_pos l, e1, e2]; exact ⟨h.1.2.2.1, h.1.2.2.1, a⟩, b⟩
            · obtain ⟨l1, l2⟩ := h.full l
              obtain ⟨C', a, b⟩ := k_tmplL m (k + 2) _ (by omega) (by omega) l2
              exact ⟨C', by rw [L_p_makeFromTemplate_9.eq_2, if_neg c, if_neg d1, if_pos d2, if_neg l, e1, e2]; exact ⟨h.1.2.2.1, h.1.2.2.1, l1, a⟩, b⟩
          · by_cases l : kJ C 3 < 296
            · obtain ⟨C', a, b⟩ := k_tmplL m (k + 1) _ (by omega) (by omega) (h.add (rw_at (kJ C 2) (kG C 2) (nI k)) l)
              exact ⟨C', by rw [L_p_makeFromTemplate_9.eq_2, if_neg c, if_neg d1, if_neg d2, if_pos l, e1]; exact ⟨h.1.2.2.1, h.1.2.2.1, a⟩, b⟩
            · obtain ⟨l1, l2⟩ := h.full l
              obtain ⟨C', a, b⟩ := k_tmplL m (k + 1) _ (by omega) (by omega) l2
              exact ⟨C', by rw [L_p_makeFromTemplate_9.eq_2, if_neg c, if_neg d1, if_neg d2, if_neg l, e1]; exact ⟨h.1.2.2.1, h.1.2.2.1, l1, a⟩, b⟩
theorem k_tmpl (h : KB B C) : ∃ C', E_p_makeFromTemplate C C' 0 ∧ KB B C' := by
  obtain ⟨C', a, b⟩ := k_tmplL (B := B) (kJ B 2) 0 C (by omega) (by omega) h
  exact ⟨C', ⟨_, a⟩, b⟩
theorem k_add {a1 a2 : Int32} (h : KB B C) : ∃ C', E_p_addPiece C a1 a2 C' 0 ∧ KB B C' := by
  obtain ⟨n, n1, n2⟩ := h.1.2.2.2.2.2.2
  unfold E_p_addPiece
  by_cases c : 10 ≤ kI C 12
  · exact ⟨C, by rw [if_pos c]; exact ⟨rfl, rfl⟩, h⟩
  · have hn : n < 10 := by
      rcases Nat.lt_or_ge n 10 with z | z
      · exact z
      · exact absurd (by rw [n2]; exact (n_le (a := 10) (by omega) (by omega)).mpr z) c
    have v : vp_in (kI C 12) 10 := by rw [n2]; exact v_in hn (by omega)
    refine ⟨uI (uP (uP C 10 ((kI C 12).toNatClampNeg) a1) 11 ((kI (uP C 10 ((kI C 12).toNatClampNeg) a1) 12).toNatClampNeg) a2) 12 ((kI (uP (uP C 10 ((kI C 12).toNatClampNeg) a1) 11 ((kI (uP C 10 ((kI C 12).toNatClampNeg) a1) 12).toNatClampNeg) a2) 12) + 1), ?_, ?_⟩
    · rw [if_neg c, if_neg c]; exact ⟨v, v, rfl, rfl⟩
    · have e : (kI (uP (uP C 10 ((kI C 12).toNatClampNeg) a1) 11 ((kI (uP C 10 ((kI C 12).toNatClampNeg) a1) 12).toNatClampNeg) a2) 12) + 1 = nI (n + 1) := by
        show kI C 12 + 1 = _
        rw [n2]; exact (nI_succ n).symm
      rw [e]
      exact h.p.p.n (by omega)
theorem k_dropL : ∀ (n : Nat) (C : CS), kI C 12 = nI n → n ≤ 10 → KB B C → ∃ C', L_p_dropEmptyPiecesAtEnd_0 (n + 1) C C' 0 ∧ KB B C'
  | 0, C, e, hn, h => ⟨C, by rw [L_p_dropEmptyPiecesAtEnd_0.eq_2, if_pos (by rw [e]; decide)]; exact ⟨rfl, rfl⟩, h⟩
  | n + 1, C, e, hn, h => by
    have c : ¬ kI C 12 ≤ 0 := by rw [e]; exact fun z => by have := (n_le (a := n + 1) (b := 0) (by omega) (by omega)).mp z; omega
    have e1 : kI C 12 - 1 = nI n := by rw [e]; exact n_sub (a := n + 1) (b := 1) (by omega)
    have v : vp_in (kI C 12 - 1) 10 := by rw [e1]; exact v_in (by omega) (by omega)
    by_cases d : kP C 10 ((kI C 12) - 1).toNatClampNeg = kP C 11 ((kI C 12) - 1).toNatClampNeg
    · obtain ⟨C', a, b⟩ := k_dropL n (uI C 12 (kI C 12 - 1)) (uI_y.trans e1) (by omega) (by rw [e1]; exact h.n (by omega))
      exact ⟨C', by rw [L_p_dropEmptyPiecesAtEnd_0.eq_2, if_neg c]; exact ⟨v, v, by rw [if_pos d]; exact a⟩, b⟩
    · exact ⟨C, by rw [L_p_dropEmptyPiecesAtEnd_0.eq_2, if_neg c]; exact ⟨v, v, by rw [if_neg d]; exact ⟨rfl, rfl⟩⟩, h⟩
theorem k_drop (h : KB B C) : ∃ C', E_p_dropEmptyPiecesAtEnd C C' 0 ∧ KB B C' := by
  obtain ⟨n, n1, n2⟩ := h.1.2.2.2.2.2.2
  obtain ⟨C', a, b⟩ := k_dropL n C n2 n1 h
  exact ⟨C', ⟨_, a⟩, b⟩
theorem k_replL {x1 : Int32} : ∀ (m k : Nat) (C : CS) (x2 x3 : Int32), k + m = 9 → KB B C → To (KB B) (L_p_replace_60 (m + 1) C x1 x2 x3 (nI k))
  | m, k, C, x2, x3, hm, h => by
    refine o_eq (fun S r => L_p_replace_60.eq_2 C x1 x2 x3 (nI k) S r m) ?_
    refine o_if (fun _ => o_exv (k_text h) (fun _ _ h1 => o_ret (h1.i (by omega)))) (fun c => ?_)
    match m, hm with
    | 0, hm => exact absurd ((n_le (a := 9) (b := k) (by omega) (by omega)).mpr (by omega)) c
    | m + 1, hm =>
      refine o_ex (k_match h.tN h) (fun C9 r10 _ h9 => o_if (fun _ => o_exv (k_text h9) (fun _ _ h1 => o_ret (h1.i (by omega)))) (fun _ => o_exv (k_text h9) (fun C14 _ h14 => o_exv (k_tmpl h14) (fun C16 _ h16 => o_ex (k_after h16) (fun C18 r19 _ h18 => ?_)))))
      have ih := k_replL (x1 := x1) m (k + 1) C18 (kI C16 7) r19 (by omega) h18
      rw [nI_succ] at ih
      exact ih
theorem k_splL : ∀ (m k : Nat) (C : CS) (x1 x2 : Int32), k + m = 9 → KB B C → To (KB B) (L_p_split_26 (m + 1) C x1 x2 (nI k))
  | m, k, C, x1, x2, hm, h => by
    refine o_eq (fun S r => L_p_split_26.eq_2 C x1 x2 (nI k) S r m) ?_
    refine o_if (fun _ => o_if (fun _ => o_exv (k_add h) (fun _ _ h1 => o_ret (h1.i (by omega)))) (fun _ => o_exv (k_add h) (fun _ _ h1 => o_exv (k_drop h1) (fun _ _ h2 => o_ret (h2.i (by omega)))))) (fun c => ?_)
    match m, hm with
    | 0, hm => exact absurd ((n_le (a := 9) (b := k) (by omega) (by omega)).mpr (by omega)) c
    | m + 1, hm =>
      have nx : ∀ (C : CS) (x1 x2 : Int32), KB B C → To (KB B) (L_p_split_26 (m + 1) C x1 x2 (nI k + 1)) := fun C x1 x2 hC => by
        rw [← nI_succ]; exact k_splL m (k + 1) C x1 x2 (by omega) hC
      refine o_ex (k_match h.tN h) (fun C10 r11 _ h10 => o_if (fun _ => o_if (fun _ => o_exv (k_add h10) (fun _ _ h1 => o_ret (h1.i (by omega)))) (fun _ => o_exv (k_add h10) (fun _ _ h1 => o_exv (k_drop h1) (fun _ _ h2 => o_ret (h2.i (by omega)))))) (fun _ => o_if (fun _ => o_ex (k_after h10) (fun C21 r22 _ h21 => nx _ _ _ h21)) (fun _ => o_exv (k_add h10) (fun C23 _ h23 => o_ex (k_after h23) (fun C25 r26 _ h25 => nx _ _ _ h25)))))
end TK
