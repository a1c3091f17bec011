/-! how a tree that is being read lies in the nodes: pieces in intervals -/
def lyP {A : Type} (P : Nat → Nat → Nat → A → Prop) (R : RS) (lo hi n : Nat) (x : A × Option Lp) : Prop := match x.2 with
  | none => P lo hi n x.1
  | some l => lo ≤ n ∧ n < hi ∧ R.2.1 8 n = nI 15 ∧ (∃ m, R.2.1 12 n = nI m ∧ m < n ∧ P lo n m x.1) ∧ R.2.1 9 n = nI l.1 ∧ R.2.1 10 n = iO l.2.1 ∧ R.2.1 11 n = nI l.2.2 ∧ wfL l ∧ l.2.2 ≤ 2
def lyS {A : Type} (P : Nat → Nat → Nat → A → Prop) (R : RS) : Nat → Nat → Int32 → List (A × Option Lp) → Int32 → Prop
  | lo, hi, q, [], q' => q = q' ∧ lo = hi
  | lo, hi, q, x :: xs, q' => ∃ n mid, q = nI n ∧ lyP P R lo mid n x ∧ lyS P R mid hi (R.2.1 13 n) xs q'
def lyC {A : Type} (P : Nat → Nat → Nat → A → Prop) (R : RS) : Nat → Nat → Int32 → List (List (A × Option Lp)) → Int32 → Prop
  | lo, hi, q, [], q' => q = q' ∧ lo = hi
  | lo, hi, q, s :: ss, q' => ∃ mid, q = nI lo ∧ R.2.1 8 lo = nI 1 ∧ lyS P R (lo + 1) mid (R.2.1 12 lo) s (-1) ∧ lyC P R mid hi (R.2.1 13 lo) ss q'
def lyR {A : Type} (P : Nat → Nat → Nat → A → Prop) (R : RS) (lo hi : Nat) (c : List (List (A × Option Lp))) : Prop := R.2.1 8 lo = nI 0 ∧ c ≠ [] ∧ lyC P R (lo + 1) hi (R.2.1 12 lo) c (-1)
def lyA (R : RS) : (k lo hi n : Nat) → At k → Prop
  | 0, lo, hi, n, l => lo ≤ n ∧ n < hi ∧ synLf R n l
  | _ + 1, lo, hi, n, .inl l => lo ≤ n ∧ n < hi ∧ synLf R n l
  | k + 1, lo, hi, n, .inr (kd, g, c) => n = lo ∧ R.2.1 8 n = nI kd ∧ 8 ≤ kd ∧ kd ≤ 14 ∧ (kd = 8 → R.2.1 9 n = nI g ∧ g ≤ 4) ∧ R.2.1 12 n = nI (n + 1) ∧ lyR (lyA R k) R (n + 1) hi c
def AgN (R R' : RS) (j : Nat) : Prop := (∀ k, 8 ≤ k → k ≤ 12 → R'.2.1 k j = R.2.1 k j) ∧ R'.2.2 14 j = R.2.2 14 j ∧ R'.2.2 15 j = R.2.2 15 j
def AgS (R R' : RS) (j : Nat) : Prop := AgN R R' j ∧ R'.2.1 13 j = R.2.1 13 j
def AgI (R R' : RS) (lo hi n : Nat) : Prop := ∀ j, lo ≤ j → j < hi → AgN R R' j ∧ (j ≠ n → R'.2.1 13 j = R.2.1 13 j)
def AgF (R R' : RS) (lo hi : Nat) : Prop := ∀ j, lo ≤ j → j < hi → AgS R R' j
section LY
variable {A : Type} {P P' : Nat → Nat → Nat → A → Prop} {R R' : RS}
theorem AgF.sub {lo hi lo' hi' : Nat} (h : AgF R R' lo hi) (h1 : lo ≤ lo') (h2 : hi' ≤ hi) : AgF R R' lo' hi' := fun j a b => h j (by omega) (by omega)
theorem AgF.I {lo hi n : Nat} (h : AgF R R' lo hi) : AgI R R' lo hi n := fun j a b => ⟨(h j a b).1, fun _ => (h j a b).2⟩
theorem lyP_in (hP : ∀ lo hi n a, P lo hi n a → lo ≤ n ∧ n < hi) {lo hi n : Nat} {x : A × Option Lp} (h : lyP P R lo hi n x) : lo ≤ n ∧ n < hi := by
  obtain ⟨a, o⟩ := x
  cases o with
  | none => exact hP _ _ _ _ h
  | some l => exact ⟨h.1, h.2.1⟩
theorem lyS_le (hP : ∀ lo hi n a, P lo hi n a → lo ≤ n ∧ n < hi) : ∀ {xs : List (A × Option Lp)} {lo hi : Nat} {q q' : Int32}, lyS P R lo hi q xs q' → lo ≤ hi
  | [], _, _, _, _, h => Nat.le_of_eq h.2
  | x :: xs, lo, hi, q, q', ⟨n, mid, _, h1, h2⟩ => by
    have := lyP_in hP h1
    have := lyS_le hP h2
    omega
theorem lyC_le (hP : ∀ lo hi n a, P lo hi n a → lo ≤ n ∧ n < hi) : ∀ {ss : List (List (A × Option Lp))} {lo hi : Nat} {q q' : Int32}, lyC P R lo hi q ss q' → lo ≤ hi
  | [], _, _, _, _, h => Nat.le_of_eq h.2
  | s :: ss, lo, hi, q, q', ⟨mid, _, _, h1, h2⟩ => by
    have := lyS_le hP h1
    have := lyC_le hP h2
    omega
/-- a lying is kept where its nodes are -/
theorem lyP_fr (hP : ∀ lo hi n a, P lo hi n a → lo ≤ n ∧ n < hi) {lo hi n : Nat} {x : A × Option Lp} (hag : AgI R R' lo hi n) (hf : ∀ hi' m a, hi' ≤ hi → AgI R R' lo hi' m → P lo hi' m a → P' lo hi' m a) (h : lyP P R lo hi n x) : lyP P' R' lo hi n x := by
  obtain ⟨a, o⟩ := x
  cases o with
  | none => exact hf hi n a (Nat.le_refl _) hag h
  | some l =>
    obtain ⟨h1, h2, h3, ⟨m, h4, h5, h6⟩, h7, h8, h9, h10, h11⟩ := h
    have g := (hag n h1 h2).1.1
    refine ⟨h1, h2, by rw [g 8 (by omega) (by omega)]; exact h3, ⟨m, by rw [g 12 (by omega) (by omega)]; exact h4, h5, hf n m a (by omega) (fun j j1 j2 => ⟨(hag j j1 (by omega)).1, fun _ => (hag j j1 (by omega)).2 (by omega)⟩) h6⟩, by rw [g 9 (by omega) (by omega)]; exact h7, by rw [g 10 (by omega) (by omega)]; exact h8, by rw [g 11 (by omega) (by omega)]; exact h9, h10, h11⟩
theorem lyS_fr (hP : ∀ lo hi n a, P lo hi n a → lo ≤ n ∧ n < hi) {LO HI : Nat} (hag : AgF R R' LO HI) (hf : ∀ lo hi m a, LO ≤ lo → hi ≤ HI → AgI R R' lo hi m → P lo hi m a → P' lo hi m a) : ∀ {xs : List (A × Option Lp)} {lo hi : Nat} {q q' : Int32}, LO ≤ lo → hi ≤ HI → lyS P R lo hi q xs q' → lyS P' R' lo hi q xs q'
  | [], _, _, _, _, _, _, h => h
  | x :: xs, lo, hi, q, q', l1, l2, ⟨n, mid, h0, h1, h2⟩ => by
    have i1 := lyP_in hP h1
    have i2 := lyS_le hP h2
    refine ⟨n, mid, h0, lyP_fr hP (AgF.I (hag.sub l1 (by omega))) (fun hi' m a a1 => hf _ _ _ _ l1 (by omega)) h1, ?_⟩
    rw [(hag n (by omega) (by omega)).2]
    exact lyS_fr hP hag hf (by omega) l2 h2
theorem lyC_fr (hP : ∀ lo hi n a, P lo hi n a → lo ≤ n ∧ n < hi) {LO HI : Nat} (hag : AgF R R' LO HI) (hf : ∀ lo hi m a, LO ≤ lo → hi ≤ HI → AgI R R' lo hi m → P lo hi m a → P' lo hi m a) : ∀ {ss : List (List (A × Option Lp))} {lo hi : Nat} {q q' : Int32}, LO ≤ lo → hi ≤ HI → lyC P R lo hi q ss q' → lyC P' R' lo hi q ss q'
  | [], _, _, _, _, _, _, h => h
  | s :: ss, lo, hi, q, q', l1, l2, ⟨mid, h0, h1, h2, h3⟩ => by
    have i1 := lyS_le hP h2
    have i2 := lyC_le hP h3
    have g := hag lo (by omega) (by omega)
    refine ⟨mid, h0, by rw [g.1.1 8 (by omega) (by omega)]; exact h1, ?_, ?_⟩
    · rw [g.1.1 12 (by omega) (by omega)]
      exact lyS_fr hP hag hf (by omega) (by omega) h2
    · rw [g.2]
      exact lyC_fr hP hag hf (by omega) l2 h3
theorem lyR_fr (hP : ∀ lo hi n a, P lo hi n a → lo ≤ n ∧ n < hi) {lo hi : Nat} {c : List (List (A × Option Lp))} (hag : AgI R R' lo hi lo) (hf : ∀ lo' hi' m a, lo < lo' → hi' ≤ hi → AgI R R' lo' hi' m → P lo' hi' m a → P' lo' hi' m a) (h : lyR P R lo hi c) : lyR P' R' lo hi c := by
  obtain ⟨h1, h2, h3⟩ := h
  have i := lyC_le hP h3
  have g := (hag lo (by omega) (by omega)).1.1
  refine ⟨by rw [g 8 (by omega) (by omega)]; exact h1, h2, ?_⟩
  rw [g 12 (by omega) (by omega)]
  refine lyC_fr (LO := lo + 1) (HI := hi) hP (fun j j1 j2 => ⟨(hag j (by omega) j2).1, (hag j (by omega) j2).2 (by omega)⟩) (fun lo' hi' m a b1 b2 => hf lo' hi' m a (by omega) b2) (Nat.le_refl _) (Nat.le_refl _) h3
theorem lyS_snoc : ∀ {xs : List (A × Option Lp)} {lo mid hi n : Nat} {q q' : Int32} {x : A × Option Lp}, lyS P R lo mid q xs (nI n) → lyP P R mid hi n x → R.2.1 13 n = q' → lyS P R lo hi q (xs ++ [x]) q'
  | [], lo, mid, hi, n, q, q', x, h, hp, hs => ⟨n, hi, h.1, by rw [h.2]; exact hp, hs, rfl⟩
  | y :: ys, lo, mid, hi, n, q, q', x, ⟨m, mi, h0, h1, h2⟩, hp, hs => ⟨m, mi, h0, h1, lyS_snoc h2 hp hs⟩
theorem lyC_snoc : ∀ {ss : List (List (A × Option Lp))} {lo mid hi : Nat} {q q' : Int32} {s : List (A × Option Lp)}, lyC P R lo mid q ss (nI mid) → R.2.1 8 mid = nI 1 → lyS P R (mid + 1) hi (R.2.1 12 mid) s (-1) → R.2.1 13 mid = q' → lyC P R lo hi q (ss ++ [s]) q'
  | [], lo, mid, hi, q, q', s, h, h1, h2, h3 => by
    obtain ⟨e1, e2⟩ := h
    subst e2
    exact ⟨hi, e1, h1, h2, h3, rfl⟩
  | y :: ys, lo, mid, hi, q, q', s, ⟨mi, a0, a1, a2, a3⟩, h1, h2, h3 => ⟨mi, a0, a1, a2, lyC_snoc a3 h1 h2 h3⟩
end LY
theorem lyA_in {R : RS} : ∀ (k lo hi n : Nat) (a : At k), lyA R k lo hi n a → lo ≤ n ∧ n < hi
  | 0, _, _, _, _, h => ⟨h.1, h.2.1⟩
  | _ + 1, _, _, _, .inl _, h => ⟨h.1, h.2.1⟩
  | k + 1, lo, hi, n, .inr (kd, g, c), h => by
    obtain ⟨h1, -, -, -, -, -, h2⟩ := h
    have := lyC_le (lyA_in k) h2.2.2
    omega
theorem syn_fr {R R' : RS} {n : Nat} {l : Lf} (h : AgN R R' n) (hs : synLf R n l) : synLf R' n l := by
  obtain ⟨a1, a2, a3, a4, a5, a6, a7⟩ := hs
  exact ⟨by rw [h.1 8 (by omega) (by omega)]; exact a1, a2, a3, by rw [h.1 9 (by omega) (by omega)]; exact a4, a5, by rw [h.2.1]; exact a6, by rw [h.2.2]; exact a7⟩
theorem lyA_fr {R R' : RS} : ∀ (k lo hi n : Nat) (a : At k), AgI R R' lo hi n → lyA R k lo hi n a → lyA R' k lo hi n a
  | 0, _, _, n, _, hag, h => ⟨h.1, h.2.1, syn_fr (hag n h.1 h.2.1).1 h.2.2⟩
  | _ + 1, _, _, n, .inl _, hag, h => ⟨h.1, h.2.1, syn_fr (hag n h.1 h.2.1).1 h.2.2⟩
  | k + 1, lo, hi, n, .inr (kd, g, c), hag, h => by
    have hin := lyA_in (k + 1) lo hi n (.inr (kd, g, c)) h
    obtain ⟨h1, h2, h3, h4, h5, h6, h7⟩ := h
    have q := (hag n hin.1 hin.2).1.1
    have hin2 := lyC_le (lyA_in k) h7.2.2
    refine ⟨h1, by rw [q 8 (by omega) (by omega)]; exact h2, h3, h4, fun z => by rw [q 9 (by omega) (by omega)]; exact h5 z, by rw [q 12 (by omega) (by omega)]; exact h6, ?_⟩
    refine lyR_fr (lyA_in k) (fun j j1 j2 => ⟨(hag j (by omega) j2).1, fun _ => (hag j (by omega) j2).2 (by omega)⟩) (fun lo' hi' m a _ _ hh => lyA_fr k lo' hi' m a hh) h7
/-! a tree that lies so is a tree of the search -/
section TOIS
variable {R : RS}
theorem o_n {n : Nat} (h : n < 2147483648) : oN (nI n) = some n := by
  unfold oN; rw [if_neg (n_m1 h), n_cl h]
theorem o_m : oN (-1) = none := rfl
theorem lyP_is {A : Type} {P : Nat → Nat → Nat → A → Prop} {Q : Nat → A → Prop} {t : Tn} (ht : t = tnOf R none) {HI : Nat} (hH : HI ≤ 96) (hPQ : ∀ lo hi n a, hi ≤ HI → P lo hi n a → Q n a) {lo hi n : Nat} {x : A × Option Lp} (hh : hi ≤ HI) (h : lyP P R lo hi n x) : isP Q t n x := by
  subst ht
  obtain ⟨a, o⟩ := x
  cases o with
  | none => exact hPQ _ _ _ _ hh h
  | some l =>
    obtain ⟨h1, h2, h3, ⟨m, h4, h5, h6⟩, h7, h8, h9, h10, h11⟩ := h
    refine ⟨?_, ⟨m, ?_, hPQ _ _ _ _ (by omega) h6⟩, ?_, ?_, ?_, h10.1, h10.2⟩
    · show (R.2.1 8 n).toNatClampNeg = 15
      rw [h3]; rfl
    · show oN (R.2.1 12 n) = some m
      rw [h4, o_n (by omega)]
    · show (R.2.1 9 n).toNatClampNeg = l.1
      rw [h7, n_cl (by have := h10.1; omega)]
    · show oN (R.2.1 10 n) = l.2.1
      rw [h8, oN_iO (fun M hM => by have := h10.2 M hM; omega)]
    · show (R.2.1 11 n).toNatClampNeg = l.2.2
      rw [h9, n_cl (by omega)]
theorem lyS_is {A : Type} {P : Nat → Nat → Nat → A → Prop} {Q : Nat → A → Prop} (hP : ∀ lo hi n a, P lo hi n a → lo ≤ n ∧ n < hi) {HI : Nat} (hH : HI ≤ 96) (hPQ : ∀ lo hi n a, hi ≤ HI → P lo hi n a → Q n a) : ∀ {xs : List (A × Option Lp)} {lo hi : Nat} {q : Int32}, hi ≤ HI → lyS P R lo hi q xs (-1) → isS Q (tnOf R none) (oN q) xs
  | [], _, _, _, _, h => by rw [h.1]; rfl
  | x :: xs, lo, hi, q, hh, ⟨n, mid, h0, h1, h2⟩ => by
    have i1 := lyP_in hP h1
    have i2 := lyS_le hP h2
    exact ⟨n, by rw [h0, o_n (by omega)], lyP_is rfl hH hPQ (by omega) h1, lyS_is hP hH hPQ hh h2⟩
theorem lyC_is {A : Type} {P : Nat → Nat → Nat → A → Prop} {Q : Nat → A → Prop} (hP : ∀ lo hi n a, P lo hi n a → lo ≤ n ∧ n < hi) {HI : Nat} (hH : HI ≤ 96) (hPQ : ∀ lo hi n a, hi ≤ HI → P lo hi n a → Q n a) : ∀ {ss : List (List (A × Option Lp))} {lo hi : Nat} {q : Int32}, hi ≤ HI → lyC P R lo hi q ss (-1) → isC Q (tnOf R none) (oN q) ss
  | [], _, _, _, _, h => by rw [h.1]; rfl
  | s :: ss, lo, hi, q, hh, ⟨mid, h0, h1, h2, h3⟩ => by
    have i1 := lyS_le hP h2
    have i2 := lyC_le hP h3
    refine ⟨lo, by rw [h0, o_n (by omega)], ?_, lyS_is hP hH hPQ (by omega) h2, lyC_is hP hH hPQ hh h3⟩
    show (R.2.1 8 lo).toNatClampNeg = 1
    rw [h1]; rfl
theorem lyR_is {A : Type} {P : Nat → Nat → Nat → A → Prop} {Q : Nat → A → Prop} (hP : ∀ lo hi n a, P lo hi n a → lo ≤ n ∧ n < hi) {HI : Nat} (hH : HI ≤ 96) (hPQ : ∀ lo hi n a, hi ≤ HI → P lo hi n a → Q n a) {lo hi : Nat} {c : List (List (A × Option Lp))} (hh : hi ≤ HI) (h : lyR P R lo hi c) : isR Q (tnOf R none) lo c := by
  refine ⟨?_, h.2.1, lyC_is hP hH hPQ hh h.2.2⟩
  show (R.2.1 8 lo).toNatClampNeg = 0
  rw [h.1]; rfl
theorem lyA_is : ∀ (k lo hi n : Nat) (a : At k), hi ≤ 96 → lyA R k lo hi n a → isAg (synLf R) (tnOf R none) k n a
  | 0, _, _, _, _, _, h => h.2.2
  | _ + 1, _, _, _, .inl _, _, h => h.2.2
  | k + 1, lo, hi, n, .inr (kd, g, c), hh, h => by
    have hin := lyA_in (k + 1) lo hi n (.inr (kd, g, c)) h
    obtain ⟨h1, h2, h3, h4, h5, h6, h7⟩ := h
    refine ⟨?_, h3, h4, fun z => ?_, n + 1, ?_, lyR_is (lyA_in k) (Nat.le_refl 96) (fun lo hi n a b => lyA_is k lo hi n a b) hh h7⟩
    · show (R.2.1 8 n).toNatClampNeg = kd
      rw [h2, n_cl (by omega)]
    · show (R.2.1 9 n).toNatClampNeg = g
      rw [(h5 z).1, n_cl (by have := (h5 z).2; omega)]
    · show oN (R.2.1 12 n) = some (n + 1)
      rw [h6, o_n (by omega)]
end TOIS
