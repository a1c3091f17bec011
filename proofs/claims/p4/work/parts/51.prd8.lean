/-! the steps of a level -/
def LvR (R : RS) (X : Nat → Int32) (N β d k : Nat) (bh : Bool) (o a u lo sq : Nat) (tl : Option Nat) : Prop :=
  Rd R X N a β u ∧ a ≤ N ∧ R.1 6 = nI o ∧ o ≤ 4 ∧ R.1 16 = nI d ∧ d + k = 4 ∧ R.2.1 22 d = (if bh then 1 else 0) ∧ R.2.1 19 d = nI lo ∧ R.2.1 20 d = nI sq ∧ R.2.1 21 d = iO tl ∧ 48 - β ≤ lo
def lfA : (k : Nat) → Lf → At k
  | 0, l => l
  | _ + 1, l => .inl l
theorem lfA_ly {R : RS} {k lo hi n : Nat} {l : Lf} (h1 : lo ≤ n) (h2 : n < hi) (h3 : synLf R n l) : lyA R k lo hi n (lfA k l) := by
  cases k with
  | zero => exact ⟨h1, h2, h3⟩
  | succ k => exact ⟨h1, h2, h3⟩
section LVS
variable {R : RS} {X : Nat → Int32} {N β k d o a u lo sq : Nat} {bh : Bool} {tl : Option Nat} {as : Ch k} {xs : List (At k × Option Lp)}
theorem LvR.chg {R' : RS} {n a' u' : Nat} (h : LvR R X N β d k bh o a u lo sq tl) (c : Chg R R' n) (h4 : R'.1 4 = nI u') (h17 : R'.1 17 = nI a') (ha : a' ≤ N) : LvR R' X N β d k bh o a' u' lo sq tl := by
  obtain ⟨⟨b1, b2, b3, b4, b5, b6, b7, b8⟩, c1, c2, c3, c4, c5, c6, c7, c8, c9, c10⟩ := h
  refine ⟨⟨?_, by rw [c.2.1 2 0 (by omega)]; exact b2, b3, h17, by omega, by rw [c.1 3 (by omega) (by omega)]; exact b6, b7, h4⟩, ha, by rw [c.1 6 (by omega) (by omega)]; exact c2, c3, by rw [c.1 16 (by omega) (by omega)]; exact c4, c5, by rw [c.2.1 22 d (by omega)]; exact c6, by rw [c.2.1 19 d (by omega)]; exact c7, by rw [c.2.1 20 d (by omega)]; exact c8, by rw [c.2.1 21 d (by omega)]; exact c9, c10⟩
  rw [← b1]
  funext j
  exact c.2.1 1 j (by omega)
theorem apd_at {n : Nat} {j m : Nat} : (apd R d tl sq n).2.1 j m = if j = 21 ∧ m = d then nI n else if (j = 12 ∧ m = sq ∧ tl = none) ∨ (j = 13 ∧ some m = tl) then nI n else R.2.1 j m := by
  cases tl with
  | none =>
    show (ma (ma R 12 sq (nI n)) 21 d (nI n)).2.1 j m = _
    rw [ma_at, ma_at]
    by_cases e : j = 21 ∧ m = d
    · rw [if_pos e, if_pos e]
    · rw [if_neg e, if_neg e]
      by_cases e2 : j = 12 ∧ m = sq
      · rw [if_pos e2, if_pos (Or.inl ⟨e2.1, e2.2, rfl⟩)]
      · rw [if_neg e2, if_neg (fun z => z.elim (fun y => e2 ⟨y.1, y.2.1⟩) (fun y => by cases y.2))]
  | some t =>
    show (ma (ma R 13 t (nI n)) 21 d (nI n)).2.1 j m = _
    rw [ma_at, ma_at]
    by_cases e : j = 21 ∧ m = d
    · rw [if_pos e, if_pos e]
    · rw [if_neg e, if_neg e]
      by_cases e2 : j = 13 ∧ m = t
      · rw [if_pos e2, if_pos (Or.inr ⟨e2.1, by rw [e2.2]⟩)]
      · rw [if_neg e2, if_neg (fun z => z.elim (fun y => by cases y.2.2) (fun y => e2 ⟨y.1, by have := y.2; cases this; rfl⟩))]
theorem apd_1 {n : Nat} : (apd R d tl sq n).1 = R.1 := by cases tl <;> rfl
theorem apd_2 {n : Nat} : (apd R d tl sq n).2.2 = R.2.2 := by cases tl <;> rfl
theorem LvR.apd {n : Nat} (h : LvR R X N β d k bh o a u lo sq tl) : LvR (apd R d tl sq n) X N β d k bh o a u lo sq (some n) := by
  obtain ⟨⟨b1, b2, b3, b4, b5, b6, b7, b8⟩, c1, c2, c3, c4, c5, c6, c7, c8, c9, c10⟩ := h
  refine ⟨⟨?_, by rw [apd_at, if_neg (by omega), if_neg (by omega)]; exact b2, b3, by rw [apd_1]; exact b4, b5, by rw [apd_1]; exact b6, b7, by rw [apd_1]; exact b8⟩, c1, by rw [apd_1]; exact c2, c3, by rw [apd_1]; exact c4, c5, by rw [apd_at, if_neg (by omega), if_neg (by omega)]; exact c6, by rw [apd_at, if_neg (by omega), if_neg (by omega)]; exact c7, by rw [apd_at, if_neg (by omega), if_neg (by omega)]; exact c8, by rw [apd_at, if_pos ⟨rfl, rfl⟩]; rfl, c10⟩
  rw [← b1]
  funext j
  rw [apd_at, if_neg (by omega), if_neg (by omega)]
theorem apd_F {n hi : Nat} (h : LyL R k lo hi sq tl as xs) (hh : hi ≤ 96 - β) : LvF R (apd R d tl sq n) β lo d := by
  have hlt := h.lt
  have key : ∀ j m, ¬ (j = 21 ∧ m = d) → ¬ (j = 12 ∧ m = sq) → ¬ (j = 13 ∧ some m = tl) → (apd R d tl sq n).2.1 j m = R.2.1 j m := fun j m h1 h2 h3 => by
    rw [apd_at, if_neg h1, if_neg (fun z => z.elim (fun y => h2 ⟨y.1, y.2.1⟩) h3)]
  refine ⟨fun k _ _ _ _ => by rw [apd_1], fun k j hk => key k j (by omega) (by omega) (by omega), fun k j h1 h2 hj => key k j (by omega) (by omega) (fun z => ?_), fun k j h1 h2 hj => key k j (by omega) (by omega) (by omega), fun k hk => key k d (by omega) (by omega) (by omega), fun k j _ => by rw [apd_2]⟩
  have := hlt.2.2 j z.2.symm
  omega
theorem apd_nd {n : Nat} (hn : n < 96) (h : NdR R) : NdR (apd R d tl sq n) := fun j hj => by
  cases tl with
  | none => exact nd_lv (by omega) (nd_12 hn (h j hj))
  | some t => exact nd_lv (by omega) (nd_13 hn (h j hj))
theorem atm_lv (h : LvR R X N β d k bh o a u lo sq tl) (hX : Xok X N) (hl : LyL R k lo (48 - β + u) sq tl as xs) (hu : u ≤ 2 + 3 * a) (ha : a < N) (nd : NdR R) :
    match atmP X N o bh a with
    | none => ∃ R', E_atom R (pk X N a) R' (-1) ∧ Kp R R' β ∧ NdR R'
    | some (a', l) => ∃ R', E_atom R (pk X N a) R' (nI (48 - β + u)) ∧ LvR R' X N β d k bh o a' (u + 1) lo sq tl ∧ LyL R' k lo (48 - β + u) sq tl as xs ∧ lyA R' k (48 - β + u) (48 - β + (u + 1)) (48 - β + u) (lfA k l) ∧ R'.2.1 13 (48 - β + u) = -1 ∧ NdR R' ∧ LvF R R' β lo d ∧ a < a' ∧ a' ≤ N := by
  have hN : N ≤ 14 := h.1.2.2.1
  have hβ := h.1.2.2.2.2.2.2.1
  have hlo : 48 - β ≤ lo := h.2.2.2.2.2.2.2.2.2.2
  have hlt := hl.lt
  have at_ := atm_E (a := a) (o := o) (d := d) (bh := bh) h.1 hX ha (by omega) h.2.2.1 h.2.2.2.1 h.2.2.2.2.1 (by have := h.2.2.2.2.2.1; omega) h.2.2.2.2.2.2.1
  cases e : atmP X N o bh a with
  | none =>
    rw [e] at at_
    obtain ⟨R', r1, r2⟩ := at_
    exact ⟨R', r1, (r2.1.F (d := d) (lo := lo) (by omega) (by omega)).K hlo, r2.nd nd⟩
  | some w =>
    obtain ⟨a', l⟩ := w
    rw [e] at at_
    obtain ⟨⟨R', r1, r2⟩, q1, q2, q3, q4, q5, q6⟩ := at_
    refine ⟨R', r1, h.chg r2.1 r2.2.1 r2.2.2.1 q2, hl.fr (fun j j1 j2 => r2.1.Ag (by omega)), lfA_ly (Nat.le_refl _) (by omega) ?_, r2.2.2.2.2.2.2.2.2.1, r2.nd (by omega) q5 (by omega) nd, r2.1.F (by omega) (by omega), q1, q2⟩
    exact ⟨r2.2.2.2.1, q3, q4, r2.2.2.2.2.1, q5, r2.2.2.2.2.2.2.2.2.2.1, r2.2.2.2.2.2.2.2.2.2.2⟩
theorem lop_lv {h0 m : Nat} {at_ : At k} (h : LvR R X N β d k bh o a u lo sq tl) (hX : Xok X N) (hl : LyL R k lo h0 sq tl as xs) (hat : lyA R k h0 (48 - β + u) m at_) (hs : R.2.1 13 m = -1) (hu : u ≤ 3 * a) (nd : NdR R) :
    match lopQ X N bh a with
    | none => ∃ R', E_loop R (nI m) R' 0 ∧ Kp R R' β ∧ NdR R'
    | some (a', l) => ∃ R' u' sq' tl', E_loop R (nI m) R' 1 ∧ LvR R' X N β d k bh o a' u' lo sq' tl' ∧ LyL R' k lo (48 - β + u') sq' tl' as (xs ++ [(at_, l)]) ∧ u' ≤ 2 + 3 * a' ∧ NdR R' ∧ LvF R R' β lo d ∧ a ≤ a' ∧ a' ≤ N ∧ (∀ l', l = some l' → a + lpc l' ≤ a' ∧ wfL l') := by
  have hN : N ≤ 14 := h.1.2.2.1
  have haN := h.2.1
  have hβ := h.1.2.2.2.2.2.2.1
  have hlo : 48 - β ≤ lo := h.2.2.2.2.2.2.2.2.2.2
  have hlt := hl.lt
  have hin := lyA_in k _ _ _ _ hat
  have lp := lop_E (m := m) (tl := tl) (d := d) (sq := sq) (bh := bh) h.1 hX haN (by omega) (by omega) h.2.2.2.2.1 (by have := h.2.2.2.2.2.1; omega) h.2.2.2.2.2.2.1 h.2.2.2.2.2.2.2.2.2.1 (fun t ht => by have := hlt.2.2 t ht; omega) h.2.2.2.2.2.2.2.2.1 (by omega)
  cases e : lopQ X N bh a with
  | none =>
    rw [e] at lp
    obtain ⟨R', r1, r2⟩ := lp
    exact ⟨R', r1, (r2.1.F (d := d) (lo := lo) (by omega) (by omega)).K hlo, r2.nd nd⟩
  | some w =>
    obtain ⟨a', l⟩ := w
    rw [e] at lp
    cases l with
    | none =>
      obtain ⟨e1, r1⟩ := lp
      subst e1
      refine ⟨_, u, sq, some m, r1, h.apd, hl.add hat hs, by omega, apd_nd (by omega) nd, apd_F hl (by omega), Nat.le_refl _, haN, fun l' hl' => by cases hl'⟩
    | some l =>
      obtain ⟨⟨R1, r1, r2⟩, q1, q2, q3, q4⟩ := lp
      have lpc1 : 1 ≤ lpc l := by unfold lpc; split <;> (split <;> (try split) <;> omega)
      have h1 : LvR R1 X N β d k bh o a' (u + 1) lo sq tl := h.chg r1.1 r1.2.1 r1.2.2.1 q2
      have hl1 : LyL R1 k lo h0 sq tl as xs := hl.fr (fun j j1 j2 => r1.1.Ag (by omega))
      have nd1 : NdR R1 := r1.nd (by omega) q3 q4 nd
      have f1 : LvF R R1 β lo d := r1.1.F (by omega) (by omega)
      have px : lyP (lyA R1 k) R1 h0 (48 - β + (u + 1)) (48 - β + u) (at_, some l) := by
        refine ⟨by omega, by omega, r1.2.2.2.1, ⟨m, r1.2.2.2.2.2.2.2.1, by omega, lyA_fr k _ _ _ _ (fun j j1 j2 => ⟨(r1.1.Ag (by omega)).1, fun _ => (r1.1.Ag (by omega)).2⟩) hat⟩, r1.2.2.2.2.1, r1.2.2.2.2.2.1, r1.2.2.2.2.2.2.1, q3, q4⟩
      refine ⟨_, u + 1, sq, some (48 - β + u), r2, h1.apd, hl1.add px r1.2.2.2.2.2.2.2.2, by omega, apd_nd (by omega) nd1, f1.tr (apd_F hl1 (by omega)), by omega, q2, fun l' hl' => ?_⟩
      cases hl'
      exact ⟨q1, q3⟩
end LVS
