/-! a level of the reading -/
def LyL (R : RS) (k lo hi sq : Nat) (tl : Option Nat) (as : Ch k) (xs : List (At k × Option Lp)) : Prop :=
  R.2.1 8 lo = nI 0 ∧ lyC (lyA R k) R (lo + 1) sq (R.2.1 12 lo) as (nI sq) ∧ R.2.1 8 sq = nI 1 ∧ R.2.1 13 sq = -1 ∧
  ((tl = none ∧ xs = [] ∧ R.2.1 12 sq = -1 ∧ sq + 1 = hi) ∨ ∃ ys y t mid, tl = some t ∧ xs = ys ++ [y] ∧ lyS (lyA R k) R (sq + 1) mid (R.2.1 12 sq) ys (nI t) ∧ lyP (lyA R k) R mid hi t y ∧ R.2.1 13 t = -1)
def LvF (R R' : RS) (β lo d : Nat) : Prop :=
  (∀ k, k ≠ 4 → k ≠ 6 → k ≠ 16 → k ≠ 17 → R'.1 k = R.1 k) ∧ (∀ k j, k < 8 ∨ (13 < k ∧ k < 18) ∨ 22 < k → R'.2.1 k j = R.2.1 k j) ∧
  (∀ k j, 8 ≤ k → k ≤ 13 → j < lo ∨ 96 - β ≤ j → R'.2.1 k j = R.2.1 k j) ∧ (∀ k j, 18 ≤ k → k ≤ 22 → j < d → R'.2.1 k j = R.2.1 k j) ∧
  (∀ k, k = 18 ∨ k = 19 ∨ k = 22 → R'.2.1 k d = R.2.1 k d) ∧ ∀ k j, j < lo ∨ 96 - β ≤ j → R'.2.2 k j = R.2.2 k j
def Kp (R R' : RS) (β : Nat) : Prop :=
  (∀ k, k ≠ 4 → k ≠ 6 → k ≠ 16 → k ≠ 17 → R'.1 k = R.1 k) ∧ (∀ k j, k < 8 ∨ (13 < k ∧ k < 18) ∨ 22 < k → R'.2.1 k j = R.2.1 k j) ∧
  (∀ k j, 8 ≤ k → k ≤ 13 → j < 48 - β ∨ 96 - β ≤ j → R'.2.1 k j = R.2.1 k j) ∧ ∀ k j, j < 48 - β ∨ 96 - β ≤ j → R'.2.2 k j = R.2.2 k j
theorem Kp.rf {R : RS} {β : Nat} : Kp R R β := ⟨fun _ _ _ _ _ => rfl, fun _ _ _ => rfl, fun _ _ _ _ _ => rfl, fun _ _ _ => rfl⟩
theorem Kp.tr {R R1 R2 : RS} {β : Nat} (h : Kp R R1 β) (g : Kp R1 R2 β) : Kp R R2 β := ⟨fun k a b c d => (g.1 k a b c d).trans (h.1 k a b c d), fun k j a => (g.2.1 k j a).trans (h.2.1 k j a), fun k j a b c => (g.2.2.1 k j a b c).trans (h.2.2.1 k j a b c), fun k j a => (g.2.2.2 k j a).trans (h.2.2.2 k j a)⟩
theorem LvF.rf {R : RS} {β lo d : Nat} : LvF R R β lo d := ⟨fun _ _ _ _ _ => rfl, fun _ _ _ => rfl, fun _ _ _ _ _ => rfl, fun _ _ _ _ _ => rfl, fun _ _ => rfl, fun _ _ _ => rfl⟩
theorem LvF.tr {R R1 R2 : RS} {β lo d : Nat} (h : LvF R R1 β lo d) (g : LvF R1 R2 β lo d) : LvF R R2 β lo d := ⟨fun k a b c d => (g.1 k a b c d).trans (h.1 k a b c d), fun k j a => (g.2.1 k j a).trans (h.2.1 k j a), fun k j a b c => (g.2.2.1 k j a b c).trans (h.2.2.1 k j a b c), fun k j a b c => (g.2.2.2.1 k j a b c).trans (h.2.2.2.1 k j a b c), fun k a => (g.2.2.2.2.1 k a).trans (h.2.2.2.2.1 k a), fun k j a => (g.2.2.2.2.2 k j a).trans (h.2.2.2.2.2 k j a)⟩
theorem LvF.up {R R' : RS} {β lo d lo' : Nat} (h : LvF R R' β lo' (d + 1)) (hl : lo ≤ lo') : LvF R R' β lo d := ⟨h.1, h.2.1, fun k j a b c => h.2.2.1 k j a b (by omega), fun k j a b c => h.2.2.2.1 k j a b (by omega), fun k a => h.2.2.2.1 k d (by omega) (by omega) (by omega), fun k j a => h.2.2.2.2.2 k j (by omega)⟩
theorem LvF.K {R R' : RS} {β lo d : Nat} (h : LvF R R' β lo d) (hl : 48 - β ≤ lo) : Kp R R' β := ⟨h.1, h.2.1, fun k j a b c => h.2.2.1 k j a b (by omega), fun k j a => h.2.2.2.2.2 k j (by omega)⟩
theorem Chg.F {R R' : RS} {β lo d n : Nat} (h : Chg R R' n) (h1 : lo ≤ n) (h2 : n < 96 - β) : LvF R R' β lo d :=
  ⟨fun k a _ _ d => h.1 k a d, fun k j a => h.2.1 k j (by omega), fun k j _ _ c => h.2.1 k j (by omega), fun k j _ _ _ => h.2.1 k j (by omega), fun k _ => h.2.1 k d (by omega), fun k j a => h.2.2 k j (by omega)⟩
theorem Chg.Ag {R R' : RS} {n j : Nat} (h : Chg R R' n) (hj : j ≠ n) : AgS R R' j := ⟨⟨fun k _ _ => h.2.1 k j (Or.inl hj), h.2.2 14 j hj, h.2.2 15 j hj⟩, h.2.1 13 j (Or.inl hj)⟩
/-- fit nodes stay fit -/
theorem nd_eq {R R' : RS} {n : Nat} (h : ∀ k, 8 ≤ k → k ≤ 13 → R'.2.1 k n = R.2.1 k n) (hn : nodeOK R n) : nodeOK R' n := by
  obtain ⟨k, a, m, h1, h2, h3, h4, h5, h6, h7, h8, h9, h10⟩ := hn
  exact ⟨k, a, m, by rw [h 8 (by omega) (by omega)]; exact h1, h2, by rw [h 9 (by omega) (by omega)]; exact h3, h4, h5, by rw [h 10 (by omega) (by omega)]; exact h6, by rw [h 11 (by omega) (by omega)]; exact h7, h8, by rw [h 12 (by omega) (by omega)]; exact h9, by rw [h 13 (by omega) (by omega)]; exact h10⟩
theorem nd_12 {R : RS} {n i x : Nat} (hx : x < 96) (hn : nodeOK R n) : nodeOK (ma R 12 i (nI x)) n := by
  obtain ⟨k, a, m, h1, h2, h3, h4, h5, h6, h7, h8, h9, h10⟩ := hn
  refine ⟨k, a, m, ?_, h2, ?_, h4, h5, ?_, ?_, h8, ?_, ?_⟩
  · rw [ma_at, if_neg (by omega)]; exact h1
  · rw [ma_at, if_neg (by omega)]; exact h3
  · rw [ma_at, if_neg (by omega)]; exact h6
  · rw [ma_at, if_neg (by omega)]; exact h7
  · rw [ma_at]
    by_cases c : (12 : Nat) = 12 ∧ n = i
    · rw [if_pos c]; exact Or.inr ⟨x, hx, rfl⟩
    · rw [if_neg c]; exact h9
  · rw [ma_at, if_neg (by omega)]; exact h10
theorem nd_13 {R : RS} {n i x : Nat} (hx : x < 96) (hn : nodeOK R n) : nodeOK (ma R 13 i (nI x)) n := by
  obtain ⟨k, a, m, h1, h2, h3, h4, h5, h6, h7, h8, h9, h10⟩ := hn
  refine ⟨k, a, m, ?_, h2, ?_, h4, h5, ?_, ?_, h8, ?_, ?_⟩
  · rw [ma_at, if_neg (by omega)]; exact h1
  · rw [ma_at, if_neg (by omega)]; exact h3
  · rw [ma_at, if_neg (by omega)]; exact h6
  · rw [ma_at, if_neg (by omega)]; exact h7
  · rw [ma_at, if_neg (by omega)]; exact h9
  · rw [ma_at]
    by_cases c : (13 : Nat) = 13 ∧ n = i
    · rw [if_pos c]; exact Or.inr ⟨x, hx, rfl⟩
    · rw [if_neg c]; exact h10
theorem nd_lv {R : RS} {n k i : Nat} {x : Int32} (hk : 13 < k) (hn : nodeOK R n) : nodeOK (ma R k i x) n := nd_eq (fun j _ _ => by rw [ma_at, if_neg (by omega)]) hn
theorem FailN.nd {R R' : RS} {n : Nat} (h : FailN R R' n) (hn : NdR R) : NdR R' := fun j hj => by
  by_cases e : j = n
  · subst e
    rcases h.2 with z | z
    · exact nd_eq (fun k _ _ => z k) (hn j hj)
    · exact z
  · exact nd_eq (fun k _ _ => h.1.2.1 k j (Or.inl e)) (hn j hj)
theorem NewN.nd {R R' : RS} {n u : Nat} {l : Lf} {a' : Nat} (h : NewN R R' n u l a') (h1 : l.1 ≤ 15) (h2 : l.2.1 ≤ 4) (h3 : l.1 = 7 ∨ l.1 = 8 → 1 ≤ l.2.1) (hn : NdR R) : NdR R' := FailN.nd ⟨h.1, Or.inr (h.ok h1 h2 h3)⟩ hn
theorem NewLp.nd {R R' : RS} {n u m : Nat} {l : Lp} {a' : Nat} (h : NewLp R R' n u m l a') (hm : m < 96) (hl : wfL l) (h2 : l.2.2 ≤ 2) (hn : NdR R) : NdR R' := by
  refine FailN.nd ⟨h.1, Or.inr ?_⟩ hn
  obtain ⟨-, -, -, a1, a2, a3, a4, a5, a6⟩ := h
  refine ⟨15, l.1, l.2.2, a1, by omega, a2, hl.1, by omega, ?_, a4, h2, Or.inr ⟨m, hm, a5⟩, Or.inl a6⟩
  rw [a3]
  cases e : l.2.1 with
  | none => exact Or.inl rfl
  | some M => exact Or.inr ⟨M, by have := hl.2 M e; omega, rfl⟩
section LV
variable {R : RS} {X : Nat → Int32} {N β : Nat} {k lo hi sq d : Nat} {tl : Option Nat} {as : Ch k} {xs : List (At k × Option Lp)}
theorem LyL.lt (h : LyL R k lo hi sq tl as xs) : lo < sq ∧ sq < hi ∧ ∀ t, tl = some t → sq < t ∧ t < hi := by
  obtain ⟨-, h1, -, -, h2⟩ := h
  have := lyC_le (lyA_in k) h1
  refine ⟨by omega, ?_, fun t ht => ?_⟩
  · rcases h2 with ⟨-, -, -, z⟩ | ⟨ys, y, t, mid, -, -, a, b, -⟩
    · omega
    · have := lyS_le (lyA_in k) a
      have := lyP_in (lyA_in k) b
      omega
  · rcases h2 with ⟨z, -⟩ | ⟨ys, y, t', mid, e, -, a, b, -⟩
    · rw [z] at ht; cases ht
    · rw [e] at ht; cases ht
      have := lyS_le (lyA_in k) a
      have := lyP_in (lyA_in k) b
      omega
/-- the sequence under way as it stands -/
theorem LyL.seq (h : LyL R k lo hi sq tl as xs) : lyS (lyA R k) R (sq + 1) hi (R.2.1 12 sq) xs (-1) := by
  obtain ⟨-, h1, -, -, h2⟩ := h
  rcases h2 with ⟨-, e, b, c⟩ | ⟨ys, y, t, mid, -, e, a, b, c⟩
  · subst e; exact ⟨b, c⟩
  · subst e; exact lyS_snoc a b c
theorem LyL.tree (h : LyL R k lo hi sq tl as xs) : lyR (lyA R k) R lo hi (as ++ [xs]) := ⟨h.1, by simp, lyC_snoc h.2.1 h.2.2.1 h.seq h.2.2.2.1⟩
/-- a level stays where its nodes are kept -/
theorem LyL.fr {R' : RS} (h : LyL R k lo hi sq tl as xs) (hag : AgF R R' lo hi) : LyL R' k lo hi sq tl as xs := by
  have hlt := h.lt
  obtain ⟨h0, h1, h2, h3, h4⟩ := h
  have g0 := hag lo (by omega) (by omega)
  have gs := hag sq (by omega) (by omega)
  refine ⟨by rw [g0.1.1 8 (by omega) (by omega)]; exact h0, ?_, by rw [gs.1.1 8 (by omega) (by omega)]; exact h2, by rw [gs.2]; exact h3, ?_⟩
  · rw [g0.1.1 12 (by omega) (by omega)]
    exact lyC_fr (lyA_in k) hag (fun lo hi m a _ _ => lyA_fr k lo hi m a) (by omega) (by omega) h1
  · rcases h4 with ⟨a1, a2, a3, a4⟩ | ⟨ys, y, t, mid, a1, a2, a3, a4, a5⟩
    · exact Or.inl ⟨a1, a2, by rw [gs.1.1 12 (by omega) (by omega)]; exact a3, a4⟩
    · have i1 := lyS_le (lyA_in k) a3
      have i2 := lyP_in (lyA_in k) a4
      refine Or.inr ⟨ys, y, t, mid, a1, a2, ?_, lyP_fr (lyA_in k) (AgF.I (hag.sub (by omega) (by omega))) (fun hi' m a _ => lyA_fr k mid hi' m a) a4, by rw [(hag t (by omega) (by omega)).2]; exact a5⟩
      rw [gs.1.1 12 (by omega) (by omega)]
      exact lyS_fr (lyA_in k) hag (fun lo hi m a _ _ => lyA_fr k lo hi m a) (by omega) (by omega) a3
/-- a piece more -/
theorem LyL.add {h0 n : Nat} {x : At k × Option Lp} (h : LyL R k lo h0 sq tl as xs) (hx : lyP (lyA R k) R h0 hi n x) (hs : R.2.1 13 n = -1) : LyL (apd R d tl sq n) k lo hi sq (some n) as (xs ++ [x]) := by
  have hlt := h.lt
  have hsq := h.seq
  have hin := lyP_in (lyA_in k) hx
  obtain ⟨b0, b1, b2, b3, b4⟩ := h
  cases tl with
  | none =>
    rcases b4 with ⟨-, e, c1, c2⟩ | ⟨_, _, _, _, e, _⟩
    · subst e
      have at' : ∀ k j, k ≤ 13 → (apd R d none sq n).2.1 k j = if k = 12 ∧ j = sq then nI n else R.2.1 k j := fun k j hk => by
        show (ma (ma R 12 sq (nI n)) 21 d (nI n)).2.1 k j = _
        rw [ma_at, if_neg (by omega), ma_at]
      have ag : ∀ j, j ≠ sq → AgS R (apd R d none sq n) j := fun j hj => ⟨⟨fun k k1 k2 => by rw [at' k j (by omega), if_neg (by omega)], rfl, rfl⟩, by rw [at' 13 j (by omega), if_neg (by omega)]⟩
      refine ⟨by rw [at' 8 lo (by omega), if_neg (by omega)]; exact b0, ?_, by rw [at' 8 sq (by omega), if_neg (by omega)]; exact b2, by rw [at' 13 sq (by omega), if_neg (by omega)]; exact b3, Or.inr ⟨[], x, n, h0, rfl, rfl, ?_, ?_, ?_⟩⟩
      · rw [at' 12 lo (by omega), if_neg (by omega)]
        exact lyC_fr (LO := lo + 1) (HI := sq) (lyA_in k) (fun j j1 j2 => ag j (by omega)) (fun lo hi m a _ _ => lyA_fr k lo hi m a) (Nat.le_refl _) (Nat.le_refl _) b1
      · rw [at' 12 sq (by omega), if_pos ⟨rfl, rfl⟩]
        exact ⟨rfl, c2⟩
      · exact lyP_fr (lyA_in k) (fun j j1 j2 => ⟨(ag j (by omega)).1, fun _ => (ag j (by omega)).2⟩) (fun hi' m a _ => lyA_fr k h0 hi' m a) hx
      · rw [at' 13 n (by omega), if_neg (by omega)]; exact hs
    · cases e
  | some t =>
    rcases b4 with ⟨e, _⟩ | ⟨ys, y, t', mid, e, e2, c1, c2, c3⟩
    · cases e
    · cases e
      have i1 := lyS_le (lyA_in k) c1
      have i2 := lyP_in (lyA_in k) c2
      have at' : ∀ k j, k ≤ 13 → (apd R d (some t) sq n).2.1 k j = if k = 13 ∧ j = t then nI n else R.2.1 k j := fun k j hk => by
        show (ma (ma R 13 t (nI n)) 21 d (nI n)).2.1 k j = _
        rw [ma_at, if_neg (by omega), ma_at]
      have agN : ∀ j, AgN R (apd R d (some t) sq n) j := fun j => ⟨fun k k1 k2 => by rw [at' k j (by omega), if_neg (by omega)], rfl, rfl⟩
      have ag : ∀ j, j ≠ t → AgS R (apd R d (some t) sq n) j := fun j hj => ⟨agN j, by rw [at' 13 j (by omega), if_neg (by omega)]⟩
      refine ⟨by rw [at' 8 lo (by omega), if_neg (by omega)]; exact b0, ?_, by rw [at' 8 sq (by omega), if_neg (by omega)]; exact b2, by rw [at' 13 sq (by omega), if_neg (by omega)]; exact b3, Or.inr ⟨xs, x, n, h0, rfl, rfl, ?_, ?_, ?_⟩⟩
      · rw [at' 12 lo (by omega), if_neg (by omega)]
        exact lyC_fr (LO := lo + 1) (HI := sq) (lyA_in k) (fun j j1 j2 => ag j (by omega)) (fun lo hi m a _ _ => lyA_fr k lo hi m a) (Nat.le_refl _) (Nat.le_refl _) b1
      · rw [e2, at' 12 sq (by omega), if_neg (by omega)]
        refine lyS_snoc (mid := mid) (n := t) ?_ ?_ ?_
        · exact lyS_fr (LO := sq + 1) (HI := mid) (lyA_in k) (fun j j1 j2 => ag j (by omega)) (fun lo hi m a _ _ => lyA_fr k lo hi m a) (Nat.le_refl _) (Nat.le_refl _) c1
        · exact lyP_fr (lyA_in k) (fun j j1 j2 => ⟨agN j, fun z => (ag j z).2⟩) (fun hi' m a _ => lyA_fr k mid hi' m a) c2
        · rw [at' 13 t (by omega), if_pos ⟨rfl, rfl⟩]
      · exact lyP_fr (lyA_in k) (fun j j1 j2 => ⟨agN j, fun _ => (ag j (by omega)).2⟩) (fun hi' m a _ => lyA_fr k h0 hi' m a) hx
      · rw [at' 13 n (by omega), if_neg (by omega)]; exact hs
end LV
