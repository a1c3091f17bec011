/-! the pure reader goes on -/
section PM
variable {X : Nat → Int32} {N a o : Nat} {bh : Bool}
theorem pkx_lt {c : Int32} (h : pk X N a = c) (hc : c ≠ 0) : a < N := by
  unfold pk at h
  by_cases z : a < N
  · exact z
  · rw [if_neg z] at h; exact absurd h.symm hc
theorem pkx_gt (h : N ≤ a) : pk X N a = 0 := by unfold pk; rw [if_neg (by omega)]
theorem itsA_le : ∀ {f m a a' : Nat}, itsA X N f m a = some a' → a < a' ∧ a' ≤ N
  | 0, _, _, _, h => by cases h
  | f + 1, m, a, a', h => by
    unfold itsA at h
    by_cases c : pk X N a = 93
    · rw [if_pos c] at h
      have := pkx_lt c (by decide)
      split at h
      · cases h
      · cases h; omega
    · rw [if_neg c] at h
      cases e : itmA X N a with
      | none => rw [e] at h; cases h
      | some b =>
        rw [e] at h
        have l1 := itmA_le e
        have l2 := itsA_le h
        omega
theorem esc_le {a' : Nat} (h : (escP X N o bh a).map Prod.fst = some a') : a < a' ∧ a' ≤ N := by
  have hn : ¬ pk X N a = 0 := fun z => by
    unfold escP at h
    rw [z, if_pos (by decide), if_neg (by decide), if_neg (by decide), if_neg (by decide), if_neg (by decide)] at h
    cases h
  have ha : a < N := pkx_lt rfl hn
  have e : a' = a + 1 := by
    unfold escP at h
    repeat' split at h
    all_goals first
      | (cases h; rfl)
      | cases h
  omega
theorem atmA_le {a' : Nat} (ha : a < N) (h : atmA X N o bh a = some a') : a < a' ∧ a' ≤ N := by
  unfold atmA atmP at h
  by_cases c1 : pk X N a = 92
  · rw [if_pos c1] at h
    have := esc_le h
    omega
  · rw [if_neg c1] at h
    by_cases c2 : pk X N a = 91
    · rw [if_pos c2] at h
      have e : (itsP X N (a + 1)).map Prod.fst = some a' := by
        cases e : itsP X N (a + 1) with
        | none => rw [e] at h; cases h
        | some w => rw [e] at h; exact h
      rw [its_PA] at e
      have := itsA_le e
      split at this <;> omega
    · rw [if_neg c2] at h
      have e : a' = a + 1 := by
        repeat' split at h
        all_goals first
          | (cases h; rfl)
          | cases h
      omega
theorem bnd_N {p lo : Nat} {hi : Option Nat} (h : bndP X N a = some (p, lo, hi)) : a < p ∧ p ≤ N := by
  unfold bndP at h
  split at h
  · cases h
  · split at h
    · split at h
      · split at h
        · rename_i q; have := pkx_lt q (by decide); cases h; omega
        · cases h
      · split at h
        · rename_i q; have := pkx_lt q (by decide)
          split at h
          · cases h
          · cases h; omega
        · cases h
    · split at h
      · rename_i q; have := pkx_lt q (by decide); cases h; omega
      · cases h
theorem lpB_le {p : Nat} (hl : isLpc (pk X N a)) (h : lpB X N bh a = some p) : a < p ∧ p ≤ N := by
  have ha : a < N := by
    rcases hl with z | z | z | z <;> exact pkx_lt z (by decide)
  unfold lpB at h
  by_cases c : pk X N a = 123
  · rw [if_pos c] at h
    cases e : bndP X N (a + 1) with
    | none => rw [e] at h; cases h
    | some w =>
      obtain ⟨q, lo, hi⟩ := w
      rw [e] at h
      dsimp only at h
      have := bnd_N e
      split at h
      · cases h
      · cases h; omega
  · rw [if_neg c] at h
    split at h
    · cases h; omega
    · split at h
      · cases h
      · cases h; omega
theorem md_in {p : Nat} (hp : p ≤ N) : p + (if mdI (pk X N p) = 0 then 0 else 1) ≤ N := by
  by_cases c : mdI (pk X N p) = 0
  · rw [if_pos c]; omega
  · rw [if_neg c]
    have : p < N := by
      rcases Nat.lt_or_ge p N with z | z
      · exact z
      · rw [pkx_gt z] at c; exact absurd (by decide) c
    omega
theorem lopA_le {a' : Nat} (ha : a ≤ N) (h : lopA X N bh a = some a') : a ≤ a' ∧ a' ≤ N := by
  unfold lopA at h
  by_cases c : isLpc (pk X N a)
  · have y := lopQ_yes (bh := bh) c
    cases e : lpB X N bh a with
    | none => rw [e] at y; dsimp only at y; rw [y] at h; cases h
    | some p =>
      rw [e] at y
      obtain ⟨l, y⟩ := y
      rw [y] at h
      have l1 := lpB_le c e
      have l2 := md_in (X := X) l1.2
      cases h
      exact ⟨by show a ≤ p + _; omega, l2⟩
  · rw [lopQ_no c] at h
    cases h; omega
def BrM (br : BrA) (N : Nat) : Prop := ∀ bh o a o' a', br bh o a = some (o', a') → o ≤ 4 → a < a' ∧ a' ≤ N ∧ o' ≤ 4
theorem pie_le {br : BrA} {o' a' : Nat} (hb : BrM br N) (ha : a < N) (ho : o ≤ 4) (h : pieA br X N bh o a = some (o', a')) : a < a' ∧ a' ≤ N ∧ o' ≤ 4 := by
  unfold pieA at h
  by_cases c : pk X N a = 40
  · rw [if_pos c] at h
    cases e : br bh o a with
    | none => rw [e] at h; cases h
    | some w =>
      obtain ⟨o2, a2⟩ := w
      rw [e] at h
      have l1 := hb _ _ _ _ _ e ho
      cases e2 : lopA X N bh a2 with
      | none => dsimp only at h; rw [e2] at h; cases h
      | some a3 =>
        dsimp only at h; rw [e2] at h
        have l2 := lopA_le l1.2.1 e2
        cases h; omega
  · rw [if_neg c] at h
    cases e : atmA X N o bh a with
    | none => rw [e] at h; cases h
    | some a1 =>
      rw [e] at h
      have l1 := atmA_le ha e
      cases e2 : lopA X N bh a1 with
      | none => dsimp only at h; rw [e2] at h; cases h
      | some a3 =>
        dsimp only at h; rw [e2] at h
        have l2 := lopA_le l1.2 e2
        cases h; omega
theorem lg_le {br : BrA} (hb : BrM br N) : ∀ {f o a o' a' : Nat}, a ≤ N → o ≤ 4 → lgA br X N bh f o a = some (o', a') → a ≤ a' ∧ a' ≤ N ∧ o' ≤ 4 ∧ (a' < N → pk X N a' = 41)
  | 0, _, _, _, _, _, _, h => by cases h
  | f + 1, o, a, o', a', ha, ho, h => by
    unfold lgA at h
    by_cases c0 : N ≤ a
    · rw [if_pos c0] at h
      cases h
      exact ⟨by omega, by omega, ho, fun z => by omega⟩
    · rw [if_neg c0] at h
      by_cases c1 : pk X N a = 124
      · rw [if_pos c1] at h
        have := lg_le hb (by omega) ho h
        exact ⟨by omega, this.2⟩
      · rw [if_neg c1] at h
        by_cases c2 : pk X N a = 41
        · rw [if_pos c2] at h
          cases h
          exact ⟨by omega, by omega, ho, fun _ => c2⟩
        · rw [if_neg c2] at h
          cases e : pieA br X N bh o a with
          | none => rw [e] at h; cases h
          | some w =>
            obtain ⟨o2, a2⟩ := w
            rw [e] at h
            have l1 := pie_le hb (by omega) ho e
            have l2 := lg_le hb l1.2.1 l1.2.2 h
            exact ⟨by omega, l2.2⟩
theorem lg_f {br : BrA} (hb : BrM br N) : ∀ {f f' o a : Nat}, a ≤ N → o ≤ 4 → N - a < f → N - a < f' → lgA br X N bh f o a = lgA br X N bh f' o a
  | 0, _, _, _, _, _, h, _ => absurd h (by omega)
  | _ + 1, 0, _, _, _, _, _, h => absurd h (by omega)
  | f + 1, f' + 1, o, a, ha, ho, h1, h2 => by
    unfold lgA
    by_cases c0 : N ≤ a
    · rw [if_pos c0, if_pos c0]
    · rw [if_neg c0, if_neg c0]
      by_cases c1 : pk X N a = 124
      · rw [if_pos c1, if_pos c1]; exact lg_f hb (by omega) ho (by omega) (by omega)
      · rw [if_neg c1, if_neg c1]
        by_cases c2 : pk X N a = 41
        · rw [if_pos c2, if_pos c2]
        · rw [if_neg c2, if_neg c2]
          cases e : pieA br X N bh o a with
          | none => rfl
          | some w =>
            obtain ⟨o2, a2⟩ := w
            have l1 := pie_le hb (by omega) ho e
            exact lg_f hb l1.2.1 l1.2.2 (by omega) (by omega)
/-- a level, from a place on -/
def lgX (br : BrA) (X : Nat → Int32) (N : Nat) (bh : Bool) (o a : Nat) : Option (Nat × Nat) := lgA br X N bh 16 o a
theorem lgX_eq {br : BrA} (hb : BrM br N) (hN : N ≤ 14) (ha : a ≤ N) (ho : o ≤ 4) : lgX br X N bh o a = (if N ≤ a then some (o, a) else if pk X N a = 124 then lgX br X N bh o (a + 1) else if pk X N a = 41 then some (o, a) else (match pieA br X N bh o a with | none => none | some (o2, a2) => lgX br X N bh o2 a2)) := by
  show lgA br X N bh (15 + 1) o a = _
  unfold lgA
  by_cases c0 : N ≤ a
  · rw [if_pos c0, if_pos c0]
  · rw [if_neg c0, if_neg c0]
    by_cases c1 : pk X N a = 124
    · rw [if_pos c1, if_pos c1]; exact lg_f (f := 15) (f' := 16) hb (by omega) ho (by omega) (by omega)
    · rw [if_neg c1, if_neg c1]
      by_cases c2 : pk X N a = 41
      · rw [if_pos c2, if_pos c2]
      · rw [if_neg c2, if_neg c2]
        cases e : pieA br X N bh o a with
        | none => rfl
        | some w =>
          obtain ⟨o2, a2⟩ := w
          have l1 := pie_le hb (by omega) ho e
          exact lg_f (f := 15) (f' := 16) hb l1.2.1 l1.2.2 (by omega) (by omega)
theorem hd_o {kd sk : Nat} (ho : o ≤ 4) (h : hdP X N o a = some (kd, sk)) : (if kd = 8 then o + 1 else o) ≤ 4 ∧ 1 ≤ sk := by
  unfold hdP at h
  by_cases c : pk X N (a + 1) = 63
  · rw [if_pos c] at h
    cases e : hdK X N a with
    | none => rw [e] at h; cases h
    | some k =>
      rw [e] at h
      cases h
      refine ⟨?_, by split <;> omega⟩
      split
      · rename_i z
        subst z
        unfold hdK at e
        repeat' split at e
        all_goals cases e
      · omega
  · rw [if_neg c] at h
    by_cases c4 : o = 4
    · rw [if_pos c4] at h; cases h
    · rw [if_neg c4] at h
      cases h
      rw [if_pos rfl]; omega
theorem lvB_M : ∀ (k : Nat), BrM (lvB X N k) N
  | 0 => fun _ _ _ _ _ h _ => by cases h
  | k + 1 => fun bh o a o' a' h ho => by
    have h : brA (fun bh o a => lgA (lvB X N k) X N bh 16 o a) X N bh o a = some (o', a') := h
    unfold brA at h
    cases e : hdP X N o a with
    | none => rw [e] at h; cases h
    | some w =>
      obtain ⟨kd, sk⟩ := w
      rw [e] at h
      dsimp only at h
      have l0 := hd_o ho e
      cases e2 : lgA (lvB X N k) X N (bhK bh kd) 16 (if kd = 8 then o + 1 else o) (a + sk) with
      | none => rw [e2] at h; cases h
      | some w2 =>
        obtain ⟨o2, a2⟩ := w2
        rw [e2] at h
        dsimp only at h
        by_cases c : a2 < N
        · rw [if_pos c] at h
          cases h
          by_cases aN : a + sk ≤ N
          · have l1 := lg_le (lvB_M k) aN l0.1 e2
            exact ⟨by omega, by omega, l1.2.2.1⟩
          · exfalso
            have : lgA (lvB X N k) X N (bhK bh kd) 16 (if kd = 8 then o + 1 else o) (a + sk) = some (if kd = 8 then o + 1 else o, a + sk) := by
              show lgA (lvB X N k) X N (bhK bh kd) (15 + 1) _ _ = _
              unfold lgA
              rw [if_pos (by omega)]
            rw [this] at e2
            cases e2
            omega
        · rw [if_neg c] at h; cases h
end PM
