/-! the class's reader: its state -/
def NumOK (Q : QS) : Prop := ∀ i, i < 32 → Q.2.2.2.1 i 0 = nI i
/-- place, bad, look behinds open, groups, nodes -/
def St (Q : QS) (a : Nat) (bd : Int32) (v o n : Nat) : Prop := Q.1 2 = nI a ∧ Q.1 3 = bd ∧ Q.1 4 = nI v ∧ Q.1 13 = nI o ∧ Q.2.2.1 = n ∧ 0 < n ∧ n ≤ 32 ∧ NumOK Q
section RST
variable {Q : QS} {a v o n : Nat} {bd : Int32}
theorem St.rfx {k : Nat} {x : Int32} (h : St Q a bd v o n) (h2 : k ≠ 2) (h3 : k ≠ 3) (h4 : k ≠ 4) (h13 : k ≠ 13) : St (rf Q k x) a bd v o n := by
  obtain ⟨a1, a2, a3, a4, a5⟩ := h
  refine ⟨?_, ?_, ?_, ?_, a5⟩
  · show (if 2 = k then x else Q.1 2) = _; rw [if_neg (by omega)]; exact a1
  · show (if 3 = k then x else Q.1 3) = _; rw [if_neg (by omega)]; exact a2
  · show (if 4 = k then x else Q.1 4) = _; rw [if_neg (by omega)]; exact a3
  · show (if 13 = k then x else Q.1 13) = _; rw [if_neg (by omega)]; exact a4
theorem St.atx {a' : Nat} (h : St Q a bd v o n) : St (rf Q 2 (nI a')) a' bd v o n := ⟨rfl, h.2.1, h.2.2.1, h.2.2.2.1, h.2.2.2.2⟩
theorem St.bad {x : Int32} (h : St Q a bd v o n) : St (rf Q 3 x) a x v o n := ⟨h.1, rfl, h.2.2.1, h.2.2.2.1, h.2.2.2.2⟩
theorem St.beh {v' : Nat} (h : St Q a bd v o n) : St (rf Q 4 (nI v')) a bd v' o n := ⟨h.1, h.2.1, rfl, h.2.2.2.1, h.2.2.2.2⟩
theorem St.grp {o' : Nat} (h : St Q a bd v o n) : St (rf Q 13 (nI o')) a bd v o' n := ⟨h.1, h.2.1, h.2.2.1, rfl, h.2.2.2.2⟩
theorem St.rlx {k : Nat} {x : Int64} (h : St Q a bd v o n) : St (rl Q k x) a bd v o n := h
theorem St.rlox {i : Nat} {x : Int64} (h : St Q a bd v o n) : St (rlo Q i x) a bd v o n := h
theorem St.rhix {i : Nat} {x : Int64} (h : St Q a bd v o n) : St (rhi Q i x) a bd v o n := h
theorem rn_at {i k : Nat} {x : Int32} {j m : Nat} : (rn Q i k x).2.2.2.1 j m = if j = i ∧ m = k then x else Q.2.2.2.1 j m := by
  show va_up Q.2.2.2.1 i (upd (Q.2.2.2.1 i) k x) j m = _
  unfold va_up upd
  by_cases h : j = i
  · subst h; simp
  · simp [h]
theorem St.rnx {i k : Nat} {x : Int32} (h : St Q a bd v o n) (hk : k ≠ 0) : St (rn Q i k x) a bd v o n := by
  obtain ⟨a1, a2, a3, a4, a5, a6, a7, a8⟩ := h
  refine ⟨a1, a2, a3, a4, a5, a6, a7, fun j hj => ?_⟩
  rw [rn_at, if_neg (by omega)]; exact a8 j hj
theorem St.cok (h : St Q a bd v o n) : 0 < Q.2.2.1 ∧ Q.2.2.1 ≤ 32 := by rw [h.2.2.2.2.1]; exact ⟨h.2.2.2.2.2.1, h.2.2.2.2.2.2.1⟩
variable {J : Nat} {g : Nat → Int32}
theorem rw_pk {a : Nat} (hJ : J ≤ 14) (ha : a ≤ 100) : rw_at J g (nI a) = pk g J a := by
  unfold rw_at pk
  by_cases c : a < J
  · rw [if_neg (fun z => z.elim (fun y => by have := (n_lt (a := a) (b := 0) (by omega) (by omega)).mp y; omega) (fun y => by have := (n_le (by omega) (by omega)).mp y; omega)), if_pos c, n_cl (by omega)]
  · rw [if_pos (Or.inr ((n_le (by omega) (by omega)).mpr (by omega))), if_neg c]
/-- a node more: there is room, or bad -/
theorem add_r {k : Int32} (h : St Q a bd v o n) : ∃ Q' r, E_r_add J g Q k Q' r ∧ ((n < 32 ∧ St Q' a bd v o (n + 1) ∧ r = nI n ∧ Q' = rc (rn (rn (rn Q n 1 k) n 2 0) n 3 0) (n + 1)) ∨ (n = 32 ∧ St Q' a 1 v o n ∧ r = 0)) := by
  have hn := h.2.2.2.2.1
  have h0 := h.2.2.2.2.2.1
  have h32 := h.2.2.2.2.2.2.1
  unfold E_r_add E_r_padd
  rw [hn]
  by_cases c : n < 32
  · have c' : nI n < 32 := (n_lt (a := n) (b := 32) (by omega) (by omega)).mpr c
    have e0 : (rc (rn (rn (rn Q n 1 k) n 2 0) n 3 0) (n + 1)).2.2.2.1 n 0 = nI n := by
      show (rn (rn (rn Q n 1 k) n 2 0) n 3 0).2.2.2.1 n 0 = _
      rw [rn_at, if_neg (by omega), rn_at, if_neg (by omega), rn_at, if_neg (by omega)]; exact h.2.2.2.2.2.2.2 n c
    refine ⟨rc (rn (rn (rn Q n 1 k) n 2 0) n 3 0) (n + 1), nI n, ⟨rc (rn (rn (rn Q n 1 k) n 2 0) n 3 0) (n + 1), nI n, ?_, ?_⟩, Or.inl ⟨c, ?_, rfl, rfl⟩⟩
    · rw [if_pos c', n_cl (by omega)]; exact ⟨v_in c (by omega), rfl, e0.symm⟩
    · rw [if_neg (show ¬ nI n = 0 from fun z => by have := (n_eq (a := n) (b := 0) (by omega) (by omega)).mp z; omega)]; exact ⟨rfl, rfl⟩
    · obtain ⟨a1, a2, a3, a4, a5, a6, a7, a8⟩ := ((h.rnx (i := n) (k := 1) (x := k) (by omega)).rnx (i := n) (k := 2) (x := 0) (by omega)).rnx (i := n) (k := 3) (x := 0) (by omega)
      exact ⟨a1, a2, a3, a4, rfl, by omega, by omega, a8⟩
  · have c' : ¬ nI n < 32 := fun z => c ((n_lt (a := n) (b := 32) (by omega) (by omega)).mp z)
    refine ⟨rf Q 3 1, 0, ⟨Q, 0, ?_, ?_⟩, Or.inr ⟨by omega, h.bad, rfl⟩⟩
    · rw [if_neg c']; exact ⟨rfl, rfl⟩
    · rw [if_pos rfl]; exact ⟨rfl, rfl⟩
theorem take_r {c : Int32} (hJ : J ≤ 14) (h : St Q a bd v o n) (ha : a ≤ 100) : ∃ Q' r, E_r_take J g Q c Q' r ∧ (if pk g J a = c then (r = 1 ∧ St Q' (a + 1) bd v o n) else (r = 0 ∧ St Q' a bd v o n)) ∧ Q'.2 = Q.2 ∧ ∀ k, k ≠ 2 → Q'.1 k = Q.1 k := by
  unfold E_r_take
  rw [h.1, rw_pk hJ ha]
  by_cases e : pk g J a = c
  · refine ⟨rf Q 2 (nI (a + 1)), 1, ?_, ?_, rfl, fun k hk => ?_⟩
    · rw [if_pos e, show nI a + 1 = nI (a + 1) from (nI_succ a).symm]; exact ⟨rfl, rfl⟩
    · rw [if_pos e]; exact ⟨rfl, h.atx⟩
    · show (if k = 2 then _ else Q.1 k) = _; rw [if_neg hk]
  · refine ⟨rf Q 2 (nI a), 0, ?_, ?_, rfl, fun k hk => ?_⟩
    · rw [if_neg e, show nI a + 0 = nI a from Int32.add_zero _]; exact ⟨rfl, rfl⟩
    · rw [if_neg e]; exact ⟨rfl, h.atx⟩
    · show (if k = 2 then _ else Q.1 k) = _; rw [if_neg hk]
theorem expect_r {c : Int32} (hJ : J ≤ 14) (h : St Q a bd v o n) (ha : a ≤ 100) : ∃ Q', E_r_expect J g Q c Q' 0 ∧ (if pk g J a = c then St Q' (a + 1) bd v o n else St Q' a 1 v o n) ∧ Q'.2 = Q.2 ∧ ∀ k, k ≠ 2 → k ≠ 3 → Q'.1 k = Q.1 k := by
  obtain ⟨Q1, r, t1, t2, t3, t4⟩ := take_r (c := c) hJ h ha
  by_cases e : pk g J a = c
  · rw [if_pos e] at t2
    refine ⟨Q1, ⟨Q1, r, t1, ?_⟩, by rw [if_pos e]; exact t2.2, t3, fun k hk _ => t4 k hk⟩
    rw [t2.1, if_neg (by decide)]; exact ⟨rfl, rfl⟩
  · rw [if_neg e] at t2
    refine ⟨rf Q1 3 1, ⟨Q1, r, t1, ?_⟩, by rw [if_neg e]; exact t2.2.bad, t3, fun k hk h3 => ?_⟩
    · rw [t2.1, if_pos rfl]; exact ⟨rfl, rfl⟩
    · show (if k = 3 then _ else Q1.1 k) = _; rw [if_neg h3]; exact t4 k hk
theorem refuse_r (h : St Q a bd v o n) : ∃ Q', E_r_refuse J g Q Q' 0 ∧ St Q' a 1 v o n := ⟨_, ⟨rfl, rfl⟩, h.bad.rfx (by omega) (by omega) (by omega) (by omega)⟩
/-- one node: there is room, or bad -/
def One (Q' : QS) (a : Nat) (bd : Int32) (v o n : Nat) : Prop := (n < 32 ∧ St Q' a bd v o (n + 1)) ∨ (n = 32 ∧ St Q' a 1 v o n)
theorem single_r {k : Int32} (h : St Q a bd v o n) : ∃ Q' r, E_r_single J g Q k Q' r ∧ One Q' a bd v o n := by
  obtain ⟨Q1, r, t1, t2⟩ := add_r (J := J) (g := g) (k := k) h
  refine ⟨rf Q1 5 r, r, ⟨Q1, r, t1, rfl, rfl⟩, ?_⟩
  rcases t2 with ⟨c, s, -⟩ | ⟨c, s, -⟩
  · exact Or.inl ⟨c, s.rfx (by omega) (by omega) (by omega) (by omega)⟩
  · exact Or.inr ⟨c, s.rfx (by omega) (by omega) (by omega) (by omega)⟩
theorem One.map {Q1 Q' : QS} (h : One Q1 a bd v o n) (f : ∀ a bd v o n, St Q1 a bd v o n → St Q' a bd v o n) : One Q' a bd v o n := by
  rcases h with ⟨c, s⟩ | ⟨c, s⟩
  · exact Or.inl ⟨c, f _ _ _ _ _ s⟩
  · exact Or.inr ⟨c, f _ _ _ _ _ s⟩
theorem One.cok (h : One Q a bd v o n) : 0 < Q.2.2.1 ∧ Q.2.2.1 ≤ 32 := by
  rcases h with ⟨c, s⟩ | ⟨c, s⟩ <;> exact s.cok
theorem set_r {x y : Int64} (h : St Q a bd v o n) : ∃ Q' r, E_r_set J g Q x y Q' r ∧ One Q' a bd v o n := by
  obtain ⟨Q1, r, t1, t2⟩ := add_r (J := J) (g := g) (k := 2) h
  have one : One Q1 a bd v o n := by
    rcases t2 with ⟨c, s, -⟩ | ⟨c, s, -⟩
    · exact Or.inl ⟨c, s⟩
    · exact Or.inr ⟨c, s⟩
  exact ⟨_, r, ⟨Q1, r, t1, one.cok, one.cok, rfl, rfl⟩, one.map (fun _ _ _ _ _ s => (s.rfx (by omega) (by omega) (by omega) (by omega)).rlox.rhix)⟩
theorem body_r {k x : Int32} (h : St Q a bd v o n) : ∃ Q' r, E_r_withBody J g Q k x Q' r ∧ One Q' a bd v o n := by
  obtain ⟨Q1, r, t1, t2⟩ := single_r (J := J) (g := g) (k := k) h
  exact ⟨_, r, ⟨Q1, r, t1, t2.cok, rfl, rfl⟩, t2.map (fun _ _ _ _ _ s => s.rnx (by omega))⟩
theorem addItem_r {c : Int32} (h : St Q a bd v o n) : ∃ Q', E_r_addItem J g Q c Q' 0 ∧ St Q' a bd v o n := by
  unfold E_r_addItem
  by_cases e : 64 ≤ c
  · exact ⟨_, by rw [if_pos e]; exact ⟨rfl, rfl⟩, h.rlx⟩
  · exact ⟨_, by rw [if_neg e]; exact ⟨rfl, rfl⟩, h.rlx⟩
theorem character_r {c : Int32} (h : St Q a bd v o n) : ∃ Q' r, E_r_character J g Q c Q' r ∧ One Q' a bd v o n := by
  obtain ⟨Q1, t1, t2⟩ := addItem_r (J := J) (g := g) (c := c) ((h.rlx (k := 6) (x := 0)).rlx (k := 7) (x := 0))
  obtain ⟨Q3, r, t3, t4⟩ := set_r (J := J) (g := g) (x := Q1.2.1 6) (y := Q1.2.1 7) t2
  exact ⟨Q3, r, ⟨Q1, t1, Q3, r, t3, rfl, rfl⟩, t4⟩
theorem zix0 {c : Nat} (hc : c ≤ 126) : (zix 0 (nI c) < 0) ↔ spI (nI c) = 0 := by
  have h : ∀ j : Fin 127, (zix 0 (nI j.1) < 0) ↔ spI (nI j.1) = 0 := by decide +kernel
  exact h ⟨c, by omega⟩
theorem zix1 {c : Nat} (hc : c ≤ 126) : (baI (nI c) = 0) ↔ (¬ nI c = 0 ∧ ¬ 0 ≤ zix 1 (nI c)) := by
  have h : ∀ j : Fin 127, (baI (nI j.1) = 0) ↔ (¬ nI j.1 = 0 ∧ ¬ 0 ≤ zix 1 (nI j.1)) := by decide +kernel
  exact h ⟨c, by omega⟩
theorem zix1' {c : Nat} (hc : c ≤ 126) : (zix 1 (nI c) < 0) ↔ ¬ 0 ≤ zix 1 (nI c) := by
  have h : ∀ j : Fin 127, (zix 1 (nI j.1) < 0) ↔ ¬ 0 ≤ zix 1 (nI j.1) := by decide +kernel
  exact h ⟨c, by omega⟩
end RST
