theorem i_and (x : Int32) {M : Nat} (hM : M < 2147483648) : ∃ k, k ≤ M ∧ x &&& nI M = nI k := by
  have e : (nI M).toBitVec.toNat = M := by
    show (Int32.ofNat M).toBitVec.toNat = M
    rw [Int32.toBitVec_ofNat', BitVec.toNat_ofNat]; exact Nat.mod_eq_of_lt (by omega)
  have h : (x &&& nI M).toBitVec.toNat = x.toBitVec.toNat &&& M := by
    rw [Int32.toBitVec_and, BitVec.toNat_and, e]
  have le : x.toBitVec.toNat &&& M ≤ M := Nat.and_le_right
  refine ⟨x.toBitVec.toNat &&& M, le, ?_⟩
  apply Int32.toBitVec_inj.mp
  apply BitVec.eq_of_toNat_eq
  rw [h]
  show _ = (Int32.ofNat (x.toBitVec.toNat &&& M)).toBitVec.toNat
  rw [Int32.toBitVec_ofNat', BitVec.toNat_ofNat]; exact (Nat.mod_eq_of_lt (by omega)).symm
theorem hash_in (u : UInt64) : ∃ k, k < 2048 ∧ ((u >>> ((53 : Int32).toInt64.toUInt64 &&& Int64.toUInt64 63)).toInt64).toInt32 = nI k := by
  have es : ((53 : Int32).toInt64.toUInt64 &&& Int64.toUInt64 63) = 53 := by decide
  rw [es]
  have lt : (u >>> 53).toNat < 2048 := by
    rw [UInt64.toNat_shiftRight]
    have := u.toNat_lt
    have e2 : (53 : UInt64).toNat % 64 = 53 := by decide
    rw [e2, Nat.shiftRight_eq_div_pow]
    omega
  refine ⟨(u >>> 53).toNat, lt, ?_⟩
  apply Int32.toInt_inj.mp
  rw [nI_toInt (by omega), Int64.toInt_toInt32]
  have e3 : ((u >>> 53).toInt64).toInt = ((u >>> 53).toNat : Int) := by
    show ((u >>> 53).toInt64).toBitVec.toInt = _
    rw [BitVec.toInt_eq_toNat_of_lt]
    · rfl
    · show 2 * (u >>> 53).toNat < _
      omega
  rw [e3, Int.bmod_eq_of_le (by omega) (by omega)]
/-! the class's methods answer: what is there to say of an answer -/
section TOT
variable {α : Type} {I : α → Prop}
def Tot (I : α → Prop) (P : α → Int32 → Prop) : Prop := ∃ S r, P S r ∧ I S ∧ (r = 0 ∨ r = 1)
theorem t_if {c : Prop} {d : Decidable c} {P Q : α → Int32 → Prop} (h1 : c → Tot I P) (h2 : ¬ c → Tot I Q) : Tot I (fun S r => @ite Prop c d (P S r) (Q S r)) := by
  by_cases h : c
  · obtain ⟨S, r, a, b⟩ := h1 h
    exact ⟨S, r, by show ite c (P S r) (Q S r); rw [if_pos h]; exact a, b⟩
  · obtain ⟨S, r, a, b⟩ := h2 h
    exact ⟨S, r, by show ite c (P S r) (Q S r); rw [if_neg h]; exact a, b⟩
theorem t_ex {A : α → Int32 → Prop} {P : α → Int32 → α → Int32 → Prop} (h : Tot I A) (g : ∀ S1 r1, A S1 r1 → I S1 → r1 = 0 ∨ r1 = 1 → Tot I (P S1 r1)) : Tot I (fun S r => ∃ S1 r1, A S1 r1 ∧ P S1 r1 S r) := by
  obtain ⟨S1, r1, a, b, c⟩ := h
  obtain ⟨S, r, d, e⟩ := g S1 r1 a b c
  exact ⟨S, r, ⟨S1, r1, a, d⟩, e⟩
/-- any answer -/
theorem t_exr {A : α → Int32 → Prop} {P : α → Int32 → α → Int32 → Prop} (h : ∃ S r, A S r ∧ I S) (g : ∀ S1 r1, A S1 r1 → I S1 → Tot I (P S1 r1)) : Tot I (fun S r => ∃ S1 r1, A S1 r1 ∧ P S1 r1 S r) := by
  obtain ⟨S1, r1, a, b⟩ := h
  obtain ⟨S, r, d, e⟩ := g S1 r1 a b
  exact ⟨S, r, ⟨S1, r1, a, d⟩, e⟩
theorem t_exv {A : α → Prop} {P : α → α → Int32 → Prop} (h : ∃ S, A S ∧ I S) (g : ∀ S1, A S1 → I S1 → Tot I (P S1)) : Tot I (fun S r => ∃ S1, A S1 ∧ P S1 S r) := by
  obtain ⟨S1, a, b⟩ := h
  obtain ⟨S, r, d, e⟩ := g S1 a b
  exact ⟨S, r, ⟨S1, a, d⟩, e⟩
theorem t_exo {β : Type} {A : β → Prop} {P : β → α → Int32 → Prop} (h : ∃ x, A x) (g : ∀ x, A x → Tot I (P x)) : Tot I (fun S r => ∃ x, A x ∧ P x S r) := by
  obtain ⟨x, a⟩ := h
  obtain ⟨S, r, d, e⟩ := g x a
  exact ⟨S, r, ⟨x, a, d⟩, e⟩
theorem t_exs {A : α → Int32 → Prop} {P : α → Int32 → α → Int32 → Prop} {S1 : α} {r1 : Int32} (h : A S1 r1) (g : Tot I (P S1 r1)) : Tot I (fun S r => ∃ S1 r1, A S1 r1 ∧ P S1 r1 S r) := by
  obtain ⟨S, r, d, e⟩ := g
  exact ⟨S, r, ⟨S1, r1, h, d⟩, e⟩
theorem t_eq {P Q : α → Int32 → Prop} (h : ∀ S r, P S r = Q S r) (g : Tot I Q) : Tot I P := by
  obtain ⟨S, r, d, e⟩ := g
  exact ⟨S, r, (h S r).mpr d, e⟩
theorem t_nf {P : Nat → α → Int32 → Prop} {n : Nat} (g : Tot I (P n)) : Tot I (fun S r => ∃ nf : Nat, P nf S r) := by
  obtain ⟨S, r, d, e⟩ := g
  exact ⟨S, r, ⟨n, d⟩, e⟩
theorem t_and {A : Prop} {P : α → Int32 → Prop} (h : A) (g : Tot I P) : Tot I (fun S r => A ∧ P S r) := by
  obtain ⟨S, r, d, e⟩ := g
  exact ⟨S, r, ⟨h, d⟩, e⟩
theorem t_ret {S0 : α} {r0 : Int32} (h : I S0) (hr : r0 = 0 ∨ r0 = 1) : Tot I (fun S r => S = S0 ∧ r = r0) := ⟨S0, r0, ⟨rfl, rfl⟩, h, hr⟩
theorem t_retn {S0 : α} {r0 : Int32} (h : I S0) (hr : r0 = 0 ∨ r0 = 1) : Tot I (fun S r => narrow .boolean (.int r0) = .int r0 ∧ S = S0 ∧ r = r0) := ⟨S0, r0, ⟨nar01 hr, rfl, rfl⟩, h, hr⟩
end TOT
/-! the search answers -/
section TOS
variable {T : TD}
def wOK (S : SS) : Prop := ∃ w, w ≤ 256 ∧ S.1.1 2 = nI w
theorem wOK.sf {S : SS} {k : Nat} {x : Int32} (h : wOK S) (hk : k ≠ 2) : wOK (sf S k x) := by
  obtain ⟨w, a, b⟩ := h
  exact ⟨w, a, by show (if 2 = k then _ else S.1.1 2) = _; rw [if_neg (by omega)]; exact b⟩
theorem wOK.ss {S : SS} {x : Int64} (h : wOK S) : wOK (ss S x) := h
theorem wOK.sa {S : SS} {k i : Nat} {x : Int32} (h : wOK S) : wOK (sa S k i x) := h
theorem wOK.sl {S : SS} {k i : Nat} {x : Int64} (h : wOK S) : wOK (sl S k i x) := h
theorem to_letWait {S : SS} {a1 a2 : Int32} (h : wOK S) : Tot wOK (E_s_letWait T S a1 a2) := by
  obtain ⟨w, hw, e⟩ := h
  by_cases c : S.1.1 2 < 256
  · have hw2 : w < 256 := by rw [e] at c; exact (n_lt (a := w) (b := 256) (by omega) (by omega)).mp c
    have v : vp_in (S.1.1 2) 256 := by rw [e]; exact v_in hw2 (by omega)
    have hE : E_s_letWait T S a1 a2 (sf (sl (sa S 0 ((S.1.1 2).toNatClampNeg) (((a1 <<< ((24 : Int32) &&& 31)) ||| ((S.1.1 10) <<< ((20 : Int32) &&& 31))) ||| a2)) 1 ((S.1.1 2).toNatClampNeg) S.2) 2 ((S.1.1 2) + 1)) 1 := by
      unfold E_s_letWait
      rw [if_pos c]
      exact ⟨S, _, ⟨rfl, rfl⟩, v, v, rfl, rfl⟩
    exact ⟨_, 1, hE, ⟨w + 1, by omega, by show S.1.1 2 + 1 = _; rw [e]; exact (nI_succ w).symm⟩, Or.inr rfl⟩
  · refine ⟨S, 0, ?_, ⟨w, hw, e⟩, Or.inl rfl⟩
    unfold E_s_letWait
    rw [if_neg c]; exact ⟨rfl, rfl⟩
theorem to_moveTo {S : SS} {a1 : Int32} (h : wOK S) : ∃ S', E_s_moveTo T S a1 S' 0 ∧ wOK S' := by
  unfold E_s_moveTo
  by_cases c : a1 ≤ S.1.1 10
  · exact ⟨sf S 10 a1, by rw [if_pos c]; exact ⟨rfl, rfl⟩, h.sf (by omega)⟩
  · exact ⟨_, by rw [if_neg c]; exact ⟨rfl, rfl⟩, (h.sf (by omega)).sf (by omega)⟩
theorem ex_if {c : Prop} {d : Decidable c} {P Q B : Int32 → Prop} (h1 : c → ∃ r, P r ∧ B r) (h2 : ¬ c → ∃ r, Q r ∧ B r) : ∃ r, @ite Prop c d (P r) (Q r) ∧ B r := by
  by_cases h : c
  · obtain ⟨r, a, b⟩ := h1 h
    exact ⟨r, by rw [if_pos h]; exact a, b⟩
  · obtain ⟨r, a, b⟩ := h2 h
    exact ⟨r, by rw [if_neg h]; exact a, b⟩
theorem to_isIn {a1 : Int32} {a2 a3 : Int64} : ∃ r, E_X5_isIn a1 a2 a3 r ∧ (r = 0 ∨ r = 1) :=
  ex_if (fun _ => ex_if (fun _ => ⟨0, rfl, Or.inl rfl⟩) (fun _ => ex_if (fun _ => ⟨0, rfl, Or.inl rfl⟩) (fun _ => ⟨1, rfl, Or.inr rfl⟩))) (fun _ => ex_if (fun _ => ⟨0, rfl, Or.inl rfl⟩) (fun _ => ex_if (fun _ => ⟨0, rfl, Or.inl rfl⟩) (fun _ => ⟨1, rfl, Or.inr rfl⟩)))
theorem to_isWord {a1 : Int32} : ∃ r, E_X4_isWord a1 r := by
  obtain ⟨r, h, hr⟩ := to_isIn (a1 := a1) (a2 := 287948901175001088) (a3 := 576460745995190270)
  exact ⟨r, r, h, nar01 hr, rfl⟩
theorem to_isEdge {S : SS} (h : wOK S) : Tot wOK (E_s_isEdge T S) := by
  refine t_exo to_isWord (fun r1 _ => t_exo to_isWord (fun r2 _ => t_if (fun _ => t_ret h (Or.inl rfl)) (fun _ => t_ret h (Or.inr rfl))))
theorem to_takeChar {S : SS} {i : Nat} (h : wOK S) : Tot wOK (E_s_takeCharacter T S i) := by
  refine t_if (fun _ => t_ret h (Or.inl rfl)) (fun _ => t_exo (by obtain ⟨r, a, _⟩ := to_isIn (a1 := rw_at (tJ T) (tG T) (S.1.1 10)) (a2 := tLo T i) (a3 := tHi T i); exact ⟨r, a⟩) (fun r2 _ => t_if (fun _ => t_ret h (Or.inl rfl)) (fun _ => t_exv (to_moveTo h) (fun S4 _ h4 => t_ret h4 (Or.inr rfl)))))
theorem to_sp {a1 : Int64} {a2 a3 : Int32} : ∃ r, E_X5_spanPlace a1 a2 a3 r ∧ (r = -1 ∨ ∃ k, k ≤ 15 ∧ r = nI k) :=
  ex_if (fun _ => ⟨-1, rfl, Or.inl rfl⟩) (fun _ => ⟨_, rfl, Or.inr (i_and _ (M := 15) (by omega))⟩)
theorem to_again {S : SS} {x1 x2 : Int32} {n : Nat} (h : wOK S) (hn : n ≤ 40) : ∀ (m k : Nat), k + m = n → Tot wOK (fun S' r => L_s_takeSpanAgain_47 T (m + 1) S x1 x2 (nI n) (nI k) S' r)
  | 0, k, hk => by
    obtain ⟨S4, a, b⟩ := to_moveTo (T := T) (a1 := S.1.1 10 + nI n) h
    refine ⟨S4, 1, ?_, b, Or.inr rfl⟩
    show L_s_takeSpanAgain_47 T 1 S x1 x2 (nI n) (nI k) S4 1
    rw [L_s_takeSpanAgain_47.eq_2, if_pos ((n_le (by omega) (by omega)).mpr (by omega))]
    exact ⟨S4, a, rfl, rfl⟩
  | m + 1, k, hk => by
    by_cases c : rw_at (tJ T) (tG T) (x2 + nI k) = rw_at (tJ T) (tG T) (S.1.1 10 + nI k)
    · obtain ⟨S', r, a, b⟩ := to_again (x1 := x1) (x2 := x2) h hn m (k + 1) (by omega)
      refine ⟨S', r, ?_, b⟩
      show L_s_takeSpanAgain_47 T (m + 2) S x1 x2 (nI n) (nI k) S' r
      rw [L_s_takeSpanAgain_47.eq_2, if_neg (fun z => by have := (n_le (by omega) (by omega)).mp z; omega), if_pos c, show nI k + 1 = nI (k + 1) from (nI_succ k).symm]
      exact a
    · refine ⟨S, 0, ?_, h, Or.inl rfl⟩
      show L_s_takeSpanAgain_47 T (m + 2) S x1 x2 (nI n) (nI k) S 0
      rw [L_s_takeSpanAgain_47.eq_2, if_neg (fun z => by have := (n_le (by omega) (by omega)).mp z; omega), if_neg c]
      exact ⟨rfl, rfl⟩
theorem to_takeSpan {S : SS} {a1 : Int32} (h : wOK S) : Tot wOK (E_s_takeSpanAgain T S a1) := by
  obtain ⟨r1, s1, v1⟩ := to_sp (a1 := S.2) (a2 := a1) (a3 := 0)
  obtain ⟨r2, s2, v2⟩ := to_sp (a1 := S.2) (a2 := a1) (a3 := 4)
  refine t_exo ⟨r1, s1⟩ (fun x hx => ?_)
  refine t_exo ⟨r2, s2⟩ (fun y hy => ?_)
  refine t_if (fun _ => t_ret h (Or.inl rfl)) (fun c => t_if (fun _ => ?_) (fun _ => t_ret h (Or.inl rfl)))
  have vx : x = -1 ∨ ∃ k, k ≤ 15 ∧ x = nI k := by
    unfold E_X5_spanPlace at hx s1
    split at hx
    · exact Or.inl hx
    · rename_i q
      rw [if_neg q] at s1
      rw [hx, ← s1]; exact v1
  have vy : y = -1 ∨ ∃ k, k ≤ 15 ∧ y = nI k := by
    unfold E_X5_spanPlace at hy s2
    split at hy
    · exact Or.inl hy
    · rename_i q
      rw [if_neg q] at s2
      rw [hy, ← s2]; exact v2
  rcases vx with z | ⟨k1, l1, z⟩
  · rw [z] at c; exact absurd (by decide) c
  · have yk : (y - x ≤ 0) ∨ ∃ n, n ≤ 40 ∧ y - x = nI n := by
      rcases vy with w | ⟨k2, l2, w⟩
      · left
        rw [w, z, Int32.le_iff_toInt_le, Int32.toInt_sub, nI_toInt (by omega), show (-1 : Int32).toInt = -1 from rfl, Int.bmod_eq_of_le (by omega) (by omega)]
        show (-1 : Int) - k1 ≤ 0
        omega
      · by_cases le : k1 ≤ k2
        · right; exact ⟨k2 - k1, by omega, by rw [w, z, n_sub le]⟩
        · left
          rw [w, z, Int32.le_iff_toInt_le, Int32.toInt_sub, nI_toInt (by omega), nI_toInt (by omega), Int.bmod_eq_of_le (by omega) (by omega)]
          show (k2 : Int) - k1 ≤ 0
          omega
    rcases yk with w | ⟨n, n1, w⟩
    · obtain ⟨S4, a, b⟩ := to_moveTo (T := T) (a1 := S.1.1 10 + (y - x)) h
      refine ⟨S4, 1, ⟨1, ?_⟩, b, Or.inr rfl⟩
      rw [L_s_takeSpanAgain_47.eq_2, if_pos w]
      exact ⟨S4, a, rfl, rfl⟩
    · obtain ⟨S', r, a, b⟩ := to_again (T := T) (x1 := a1) (x2 := x) h n1 n 0 (by omega)
      exact ⟨S', r, ⟨n + 1, by rw [w]; exact a⟩, b⟩
theorem to_isOver {S : SS} {a1 : Int32} {d : Nat} (hd : d < 10) : ∃ r, E_s_isOver T S a1 (nI d) S r := by
  unfold E_s_isOver
  obtain ⟨k, k1, k2⟩ := i_and a1 (M := 15) (by omega)
  have k2' : a1 &&& 15 = nI k := k2
  rw [k2']
  by_cases c : nI d < nI k
  · exact ⟨1, by rw [if_pos c]; exact ⟨rfl, rfl⟩⟩
  · have : k ≤ d := by
      rcases Nat.lt_or_ge d k with z | z
      · exact absurd ((n_lt (by omega) (by omega)).mpr z) c
      · exact z
    have v : vp_in (nI k) 10 := v_in (by omega) (by omega)
    rw [n_cl (by omega)]
    by_cases c2 : S.1.2.1 5 k = a1
    · exact ⟨0, by rw [if_neg c, if_pos c2]; exact ⟨v, rfl, rfl⟩⟩
    · exact ⟨1, by rw [if_neg c, if_neg c2]; exact ⟨v, rfl, rfl⟩⟩
end TOS
section TOS
variable {T : TD}
theorem e2047 : (2047 : Int32) = nI 2047 := by decide
theorem to_wasL {S : SS} {i d : Nat} {x3 : Int32} {x4 x6 : Int64} {x8 : Int32} (h : wOK S) (hd : d < 10) : ∀ (m : Nat) (x9 x10 : Int32), (∃ k, k < 2048 ∧ x9 = nI k) → (m = 0 → x10 < 0) → (∀ j, m = j + 1 → x10 = nI j) → m ≤ 8 → Tot wOK (L_s_wasHere_82 T i (m + 1) S (nI d) x3 x4 x6 x8 x9 x10)
  | 0, x9, x10, ⟨k, k1, k2⟩, h0, _, _ => by
    have v : vp_in x9 2048 := by rw [k2]; exact v_in k1 (by omega)
    refine ⟨sl (sl S 3 x9.toNatClampNeg x4) 4 x9.toNatClampNeg x6, 0, ?_, h, Or.inl rfl⟩
    show L_s_wasHere_82 T i 1 S (nI d) x3 x4 x6 x8 x9 x10 _ 0
    rw [L_s_wasHere_82.eq_2, if_pos (h0 rfl)]
    exact ⟨v, v, rfl, rfl⟩
  | m + 1, x9, x10, hx9, _, h1, hm => by
    have e10 := h1 m rfl
    have n0 : ¬ x10 < 0 := by rw [e10]; exact fun z => by have := (n_lt (a := m) (b := 0) (by omega) (by omega)).mp z; omega
    obtain ⟨k, k1, k2⟩ := i_and (x8 + x10) (M := 2047) (by omega)
    have k2' : (x8 + x10) &&& 2047 = nI k := by rw [e2047]; exact k2
    have v : vp_in ((x8 + x10) &&& 2047) 2048 := by rw [k2']; exact v_in (by omega) (by omega)
    have nx : (∀ (_ : m = 0), x10 + (-1) < 0) ∧ ∀ j, m = j + 1 → x10 + (-1) = nI j := by
      rw [e10]
      refine ⟨fun z => by subst z; decide, fun j hj => ?_⟩
      subst hj
      have := n_sub (a := j + 1) (b := 1) (by omega)
      rw [show nI (j + 1) + -1 = nI (j + 1) - nI 1 from (Int32.sub_eq_add_neg _ _).symm ▸ rfl, this]; rfl
    have rc9 : ∀ x9', (∃ k, k < 2048 ∧ x9' = nI k) → Tot wOK (L_s_wasHere_82 T i (m + 1) S (nI d) x3 x4 x6 x8 x9' (x10 + (-1))) := fun x9' h9 => to_wasL h hd m x9' (x10 + (-1)) h9 nx.1 nx.2 (by omega)
    have ov : Tot wOK (fun S' r => ∃ (S5 : SS) (r6 : Int32), E_s_isOver T S ((((S.1.2.2 3 ((x8 + x10) &&& 2047).toNatClampNeg).toUInt64 >>> ((32 : Int32).toInt64.toUInt64 &&& Int64.toUInt64 63)).toInt64).toInt32) (nI d) S5 r6 ∧ (if r6 = 0 then (L_s_wasHere_82 T i (m + 1) S5 (nI d) x3 x4 x6 x8 x9 (x10 + (-1)) S' r) else (L_s_wasHere_82 T i (m + 1) S5 (nI d) x3 x4 x6 x8 ((x8 + x10) &&& 2047) (x10 + (-1)) S' r))) := by
      obtain ⟨r6, o⟩ := to_isOver (T := T) (S := S) (a1 := (((S.1.2.2 3 ((x8 + x10) &&& 2047).toNatClampNeg).toUInt64 >>> ((32 : Int32).toInt64.toUInt64 &&& Int64.toUInt64 63)).toInt64).toInt32) hd
      exact t_exs o (t_if (fun _ => rc9 x9 hx9) (fun _ => rc9 ((x8 + x10) &&& 2047) ⟨k, by omega, k2'⟩))
    refine t_eq (fun S' r => L_s_wasHere_82.eq_2 T i S (nI d) x3 x4 x6 x8 x9 x10 S' r (m + 1)) ?_
    refine t_if (fun z => absurd z n0) (fun _ => t_and v (t_if (fun _ => t_and v (t_if (fun _ => t_ret h (Or.inr rfl)) (fun _ => t_and v ov))) (fun _ => t_and v ov)))
theorem to_wasHere {S : SS} {i d : Nat} (h : wOK S) (hd : d < 10) : Tot wOK (E_s_wasHere T S i (nI d)) := by
  refine t_and (v_in hd (by omega)) ?_
  refine t_exr ⟨S, _, ⟨rfl, rfl⟩, h⟩ (fun S1 r2 hp h1 => ?_)
  refine t_nf (n := 9) ?_
  exact to_wasL (T := T) (i := i) (x3 := (S.1.1 11) &&& (((1 : Int32) <<< ((((tA T i 5) + 1) * 4) &&& 31)) - 1)) (x4 := (((S.1.2.1 5 (nI d).toNatClampNeg).toInt64) <<< ((32 : Int32).toInt64 &&& 63)) ||| r2.toInt64) (x6 := S1.2 &&& (tAq T)) (x8 := ((((((S1.2 &&& (tAq T)) * 31) + ((((S.1.2.1 5 (nI d).toNatClampNeg).toInt64) <<< ((32 : Int32).toInt64 &&& 63)) ||| r2.toInt64)) * (-7046029254386353131)).toUInt64 >>> ((53 : Int32).toInt64.toUInt64 &&& Int64.toUInt64 63)).toInt64).toInt32) h1 hd 8 _ 7 (hash_in _) (fun z => by omega) (fun j hj => by rw [show j = 7 by omega]; rfl) (by omega)
set_option maxHeartbeats 4000000 in
theorem to_loop {S : SS} {i : Nat} (h : wOK S) : Tot wOK (E_s_loop T S i) := by
  have wl : ∀ {S : SS} {a b : Int32}, wOK S → ∃ S' r, E_s_withLoop T S a b S' r ∧ wOK S' := fun h => ⟨_, _, ⟨rfl, rfl⟩, h⟩
  have gt : ∀ {S : SS} {a b : Int32}, wOK S → Tot wOK (E_s_goTo T S a b) := fun h => ⟨_, 1, ⟨rfl, rfl⟩, (h.sf (by omega)).sf (by omega), Or.inr rfl⟩
  have g1 : ∀ {S : SS} {a b : Int32}, wOK S → Tot wOK (fun S' r => ∃ (S14 : SS) (r15 : Int32), E_s_goTo T S a b S14 r15 ∧ (narrow .boolean (.int r15) = .int r15 ∧ S' = S14 ∧ r = r15)) := fun h => t_ex (gt h) (fun S1 r1 _ h1 h2 => t_retn h1 h2)
  have g2 : ∀ {S : SS} {a b : Int32}, wOK S → Tot wOK (fun S' r => ∃ (S14 : SS) (r15 : Int32), E_s_goTo T S a b S14 r15 ∧ (if r15 = 0 then (S' = S14 ∧ r = 0) else (S' = S14 ∧ r = 1))) := fun h => t_ex (gt h) (fun S1 r1 _ h1 h2 => t_if (fun _ => t_ret h1 (Or.inl rfl)) (fun _ => t_ret h1 (Or.inr rfl)))
  unfold E_s_loop
  repeat' (first
    | exact g1 (by assumption)
    | exact g2 (by assumption)
    | exact t_ret (by assumption) (Or.inl rfl)
    | exact t_ret (by assumption) (Or.inr rfl)
    | refine t_if (fun _ => ?_) (fun _ => ?_)
    | refine t_exr (wl (by assumption)) (fun _ _ _ _ => ?_)
    | refine t_ex (to_letWait (by assumption)) (fun _ _ _ _ _ => ?_))
end TOS
