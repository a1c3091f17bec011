/-! into a bracket and out of it -/
def bkA {k : Nat} (kd g : Nat) (c : Ch k) : At (k + 1) := .inr (kd, g, c)
def OutF (R R' : RS) (β n d : Nat) : Prop :=
  (∀ k, k ≠ 4 → k ≠ 6 → k ≠ 16 → k ≠ 17 → R'.1 k = R.1 k) ∧ (∀ k j, k < 8 ∨ (13 < k ∧ k < 18) ∨ 22 < k → R'.2.1 k j = R.2.1 k j) ∧
  (∀ k j, 8 ≤ k → k ≤ 13 → j < n ∨ 96 - β ≤ j → R'.2.1 k j = R.2.1 k j) ∧ (∀ k j, 18 ≤ k → k ≤ 22 → j ≤ d → R'.2.1 k j = R.2.1 k j) ∧
  ∀ k j, j < n ∨ 96 - β ≤ j → R'.2.2 k j = R.2.2 k j
/-- a bracket not yet closed: its node and what stands around it -/
def OpB (R R' : RS) (β n d kd g : Nat) : Prop := OutF R R' β n d ∧ R'.2.1 18 (d + 1) = nI n ∧ R'.2.1 8 n = nI kd ∧ (kd = 8 → R'.2.1 9 n = nI g) ∧ R'.2.1 12 n = nI (n + 1) ∧ R'.2.1 13 n = -1
theorem OpB.F {R R' R2 : RS} {β n d kd g : Nat} (h : OpB R R' β n d kd g) (hn : n < 96 - β) (f : LvF R' R2 β (n + 1) (d + 1)) : OpB R R2 β n d kd g := by
  obtain ⟨⟨a1, a2, a3, a4, a5⟩, b1, b2, b3, b4, b5⟩ := h
  refine ⟨⟨fun k k1 k2 k3 k4 => (f.1 k k1 k2 k3 k4).trans (a1 k k1 k2 k3 k4), fun k j hj => (f.2.1 k j hj).trans (a2 k j hj), fun k j k1 k2 hj => (f.2.2.1 k j k1 k2 (by omega)).trans (a3 k j k1 k2 hj), fun k j k1 k2 hj => (f.2.2.2.1 k j k1 k2 (by omega)).trans (a4 k j k1 k2 hj), fun k j hj => (f.2.2.2.2.2 k j (by omega)).trans (a5 k j hj)⟩, ?_, ?_, fun z => ?_, ?_, ?_⟩
  · rw [f.2.2.2.2.1 18 (by omega)]; exact b1
  · rw [f.2.2.1 8 n (by omega) (by omega) (by omega)]; exact b2
  · rw [f.2.2.1 9 n (by omega) (by omega) (by omega)]; exact b3 z
  · rw [f.2.2.1 12 n (by omega) (by omega) (by omega)]; exact b4
  · rw [f.2.2.1 13 n (by omega) (by omega) (by omega)]; exact b5
section NCHV
variable {S : RS} {v e c0 : Nat} {w : Option Nat} {b : Int32}
theorem nch_8 : (nch S c0 v e w b).2.1 8 c0 = nI 0 := by
  unfold nch
  rw [nsq_at, if_neg (by omega), if_neg (by omega), if_neg (by omega), crt_o (by omega), nchW_at, if_neg (by omega), nchT_at, if_neg (by omega), if_pos (by omega), if_neg (by omega)]; rfl
theorem nch_12 : (nch S c0 v e w b).2.1 12 c0 = nI (c0 + 1) := by
  unfold nch
  rw [nsq_at, if_neg (by omega), if_neg (by omega), if_pos ⟨rfl, rfl⟩]
theorem nch_s8 : (nch S c0 v e w b).2.1 8 (c0 + 1) = nI 1 := by
  unfold nch
  rw [nsq_at, if_neg (by omega), if_neg (by omega), if_neg (by omega), crt_at, if_pos rfl, if_pos rfl]; rfl
theorem nch_s12 : (nch S c0 v e w b).2.1 12 (c0 + 1) = -1 := by
  unfold nch
  rw [nsq_at, if_neg (by omega), if_neg (by omega), if_neg (by omega), crt_at, if_pos rfl, if_neg (by omega), if_neg (by omega), if_pos (by omega)]
theorem nch_s13 : (nch S c0 v e w b).2.1 13 (c0 + 1) = -1 := by
  unfold nch
  rw [nsq_at, if_neg (by omega), if_neg (by omega), if_neg (by omega), crt_at, if_pos rfl, if_neg (by omega), if_neg (by omega), if_pos (by omega)]
theorem nch_18 : (nch S c0 v e w b).2.1 18 e = iO w := by
  unfold nch
  rw [nsq_at, if_neg (by omega), if_neg (by omega), if_neg (by omega), crt_o (by omega), nchW_at, if_neg (by omega), nchT_at, if_neg (by omega), if_neg (by omega), if_neg (by omega), if_pos ⟨rfl, rfl⟩]
theorem nch_19 : (nch S c0 v e w b).2.1 19 e = nI c0 := by
  unfold nch
  rw [nsq_at, if_neg (by omega), if_neg (by omega), if_neg (by omega), crt_o (by omega), nchW_at, if_neg (by omega), nchT_at, if_pos ⟨rfl, rfl⟩]
theorem nch_20 : (nch S c0 v e w b).2.1 20 e = nI (c0 + 1) := by
  unfold nch
  rw [nsq_at, if_neg (by omega), if_pos ⟨rfl, rfl⟩]
theorem nch_21 : (nch S c0 v e w b).2.1 21 e = -1 := by
  unfold nch
  rw [nsq_at, if_pos ⟨rfl, rfl⟩]
theorem nch_22 : (nch S c0 v e w b).2.1 22 e = b := by
  unfold nch
  rw [nsq_at, if_neg (by omega), if_neg (by omega), if_neg (by omega), crt_o (by omega), nchW_at, if_neg (by omega), nchT_at, if_neg (by omega), if_neg (by omega), if_pos ⟨rfl, rfl⟩]
theorem nch_w {m : Nat} (hw : w = some m) (hm : m < c0) : (nch S c0 v e w b).2.1 12 m = nI c0 := by
  unfold nch
  rw [nsq_at, if_neg (by omega), if_neg (by omega), if_neg (by omega), crt_o (by omega), nchW_at, if_pos ⟨rfl, hw.symm⟩]
theorem nch_nd (h1 : c0 + 1 < 96) (nd : NdR S) : NdR (nch S c0 v e w b) := by
  have t : NdR (nchT S c0 v e w b) := fun j hj => nd_lv (by omega) (crt_nd (kd := 0) (by omega) (fun i hi => nd_lv (by omega) (nd_lv (by omega) (nd i hi))) j hj)
  have w' : NdR (nchW S c0 v e w b) := fun j hj => by
    cases w with
    | none => exact t j hj
    | some m => exact nd_12 (by omega) (t j hj)
  intro j hj
  exact nd_lv (by omega) (nd_lv (by omega) (nd_12 (by omega) (crt_nd (kd := 1) (by omega) w' j hj)))
theorem nch_LyL {k hi : Nat} (hh : c0 + 2 = hi) : LyL (nch S c0 v e w b) k c0 hi (c0 + 1) none [] [] := ⟨nch_8, ⟨nch_12, rfl⟩, nch_s8, nch_s13, Or.inl ⟨rfl, rfl, nch_s12, hh⟩⟩
end NCHV
section BRL
variable {R : RS} {X : Nat → Int32} {N β k d o a u lo sq : Nat} {bh : Bool} {tl : Option Nat}
theorem brk_lv (h : LvR R X N β d (k + 1) bh o a u lo sq tl) (hu : u ≤ 2 + 3 * a) (ha : a < N) (nd : NdR R) :
    match hdP X N o a with
    | none => E_bracket R R 0
    | some (kd, sk) => ∃ R', E_bracket R R' 1 ∧ LvR R' X N β (d + 1) k (bhK bh kd) (if kd = 8 then o + 1 else o) (a + sk) (u + 3) (48 - β + u + 1) (48 - β + u + 2) none ∧ LyL R' k (48 - β + u + 1) (48 - β + (u + 3)) (48 - β + u + 2) none [] [] ∧ NdR R' ∧ OpB R R' β (48 - β + u) d kd (if kd = 8 then o + 1 else o) ∧ a + sk ≤ N ∧ 8 ≤ kd ∧ kd ≤ 14 ∧ sk + 1 = bkc kd ∧ 1 ≤ sk := by
  obtain ⟨hr, c1, c2, c3, c4, c5, c6, c7, c8, c9, c10⟩ := h
  have hN : N ≤ 14 := hr.2.2.1
  have hβ := hr.2.2.2.2.2.2.1
  have br := brk_E hr ha (by omega) c2 c3 c4 (by omega) c6
  cases e : hdP X N o a with
  | none => rw [e] at br; exact br
  | some w =>
    obtain ⟨kd, sk⟩ := w
    rw [e] at br
    obtain ⟨⟨S, hS, br⟩, q1, q2, q3, q4, q5, q6⟩ := br
    obtain ⟨s1, s2, s3, s4, s5, s6, s7, s8, s9, s10, s11⟩ := hS
    have hrS : Rd S X N (a + sk) β (u + 1) := ⟨by rw [← hr.1]; funext j; exact s6 1 j (by omega), by rw [s6 2 0 (by omega)]; exact hr.2.1, hN, s5, by omega, by rw [s1 3 (by omega) (by omega) (by omega) (by omega)]; exact hr.2.2.2.2.2.1, hβ, s2⟩
    have nc := nch_E (S := S) (e := d + 1) (w := some (48 - β + u)) (b := if bhK bh kd then 1 else 0) hrS (by omega) s4 (by omega) (fun m hm => by cases hm; omega) (by cases bhK bh kd <;> simp)
    have ec : 48 - β + (u + 1) = 48 - β + u + 1 := by omega
    rw [ec] at nc
    have ndS : NdR S := fun j hj => by
      by_cases z : j = 48 - β + u
      · rw [z]; exact s10
      · exact nd_eq (fun k _ _ => s6 k j (Or.inl z)) (nd j hj)
    have ot : ∀ k j, j < 48 - β + u ∨ 96 - β ≤ j ∨ k < 8 ∨ 13 < k → ¬ (18 ≤ k ∧ k ≤ 22 ∧ j = d + 1) → (nch S (48 - β + u + 1) (u + 1) (d + 1) (some (48 - β + u)) (if bhK bh kd then 1 else 0)).2.1 k j = R.2.1 k j := fun k j h1 h2 => by
      have : ¬ (k = 12 ∧ some j = some (48 - β + u)) := fun z => by have := z.2; cases this; omega
      rw [nch_o (by omega) h2 this]
      exact s6 k j (by omega)
    refine ⟨_, br _ nc, ⟨⟨?_, ?_, hN, ?_, by omega, ?_, hβ, ?_⟩, q1, ?_, by split <;> omega, ?_, by omega, nch_22, nch_19, nch_20, nch_21, by omega⟩, nch_LyL (by omega), nch_nd (by omega) ndS, ⟨⟨fun k k1 k2 k3 k4 => ?_, fun k j hj => ot k j (by omega) (by omega), fun k j k1 k2 hj => ot k j (by omega) (by omega), fun k j k1 k2 hj => ot k j (by omega) (by omega), fun k j hj => ?_⟩, nch_18, ?_, fun z => ?_, nch_w rfl (by omega), ?_⟩, q1, q2, q3, q4, q5⟩
    · rw [← hr.1]; funext j; exact ot 1 j (by omega) (by omega)
    · rw [ot 2 0 (by omega) (by omega)]; exact hr.2.1
    · rw [nch_f, if_neg (by omega)]; exact s5
    · rw [nch_f, if_neg (by omega)]; exact hrS.2.2.2.2.2.1
    · rw [nch_f, if_pos rfl]
    · rw [nch_f, if_neg (by omega)]; exact s3
    · rw [nch_f, if_neg (by omega)]; exact s4
    · rw [nch_f, if_neg k1]; exact s1 k k1 k2 k3 k4
    · rw [nch_l (by omega) (by omega)]; exact s7 k j (by omega)
    · rw [nch_o (by omega) (by omega) (by omega)]; exact s8
    · rw [nch_o (by omega) (by omega) (by omega)]; exact s9 z
    · rw [nch_o (by omega) (by omega) (by omega)]; exact s11
theorem cls_lv {R2 : RS} {as : Ch (k + 1)} {xs : List (At (k + 1) × Option Lp)} {n kd g o2 a2 u2 sq2 : Nat} {bh2 : Bool} {tl2 : Option Nat} {as2 : Ch k} {xs2 : List (At k × Option Lp)} (h : LvR R X N β d (k + 1) bh o a u lo sq tl) (hX : Xok X N) (hl : LyL R (k + 1) lo n sq tl as xs) (hop : OpB R R2 β n d kd g) (hk1 : 8 ≤ kd) (hk2 : kd ≤ 14) (hg : g ≤ 4)
    (h2 : LvR R2 X N β (d + 1) k bh2 o2 a2 u2 (n + 1) sq2 tl2) (hl2 : LyL R2 k (n + 1) (48 - β + u2) sq2 tl2 as2 xs2) (hu2 : u2 ≤ 2 + 3 * a2) (ha2 : a2 < N) (nd2 : NdR R2) :
    match lopQ X N bh (a2 + 1) with
    | none => ∃ R', E_close R2 R' 0 ∧ Kp R2 R' β ∧ NdR R'
    | some (a', l) => ∃ R' u' sq' tl', E_close R2 R' 1 ∧ LvR R' X N β d (k + 1) bh o2 a' u' lo sq' tl' ∧ LyL R' (k + 1) lo (48 - β + u') sq' tl' as (xs ++ [(bkA kd g (as2 ++ [xs2]), l)]) ∧ u' ≤ 2 + 3 * a' ∧ NdR R' ∧ LvF R R' β lo d ∧ a2 + 1 ≤ a' ∧ a' ≤ N ∧ (∀ l', l = some l' → a2 + 1 + lpc l' ≤ a' ∧ wfL l') := by
  have hlt := hl.lt
  have hlt2 := hl2.lt
  obtain ⟨hr, c1, c2, c3, c4, c5, c6, c7, c8, c9, c10⟩ := h
  obtain ⟨hr2, e1, e2, e3, e4, e5, e6, e7, e8, e9, e10⟩ := h2
  have hN : N ≤ 14 := hr.2.2.1
  have hβ := hr.2.2.2.2.2.2.1
  have hu : n < 96 - β := by omega
  obtain ⟨⟨f1, f2, f3, f4, f5⟩, b1, b2, b3, b4, b5⟩ := hop
  have rc : LvR (mf (mf R2 17 (nI (a2 + 1))) 16 (nI d)) X N β d (k + 1) bh o2 (a2 + 1) u2 lo sq tl := by
    refine ⟨⟨hr2.1, hr2.2.1, hN, rfl, by omega, hr2.2.2.2.2.2.1, hβ, hr2.2.2.2.2.2.2.2⟩, by omega, e2, e3, rfl, c5, ?_, ?_, ?_, ?_, c10⟩
    · show R2.2.1 22 d = _
      rw [f4 22 d (by omega) (by omega) (by omega)]; exact c6
    · show R2.2.1 19 d = _
      rw [f4 19 d (by omega) (by omega) (by omega)]; exact c7
    · show R2.2.1 20 d = _
      rw [f4 20 d (by omega) (by omega) (by omega)]; exact c8
    · show R2.2.1 21 d = _
      rw [f4 21 d (by omega) (by omega) (by omega)]; exact c9
  have lc : LyL (mf (mf R2 17 (nI (a2 + 1))) 16 (nI d)) (k + 1) lo n sq tl as xs := hl.fr (fun j j1 j2 => ⟨⟨fun k k1 k2 => f3 k j k1 (by omega) (by omega), f5 14 j (by omega), f5 15 j (by omega)⟩, f3 13 j (by omega) (by omega) (by omega)⟩)
  have l2c : LyL (mf (mf R2 17 (nI (a2 + 1))) 16 (nI d)) k (n + 1) (48 - β + u2) sq2 tl2 as2 xs2 := hl2.fr (fun j _ _ => ⟨⟨fun _ _ _ => rfl, rfl, rfl⟩, rfl⟩)
  have atc : lyA (mf (mf R2 17 (nI (a2 + 1))) 16 (nI d)) (k + 1) n (48 - β + u2) n (bkA kd g (as2 ++ [xs2])) := ⟨rfl, b2, hk1, hk2, fun z => ⟨b3 z, hg⟩, b4, l2c.tree⟩
  have F1 : LvF R (mf (mf R2 17 (nI (a2 + 1))) 16 (nI d)) β lo d := by
    refine ⟨fun k k1 k2 k3 k4 => ?_, f2, fun k j k1 k2 hj => f3 k j k1 k2 (by omega), fun k j k1 k2 hj => f4 k j k1 k2 (by omega), fun k hk => f4 k d (by omega) (by omega) (by omega), fun k j hj => f5 k j (by omega)⟩
    show (if k = 16 then _ else if k = 17 then _ else R2.1 k) = _
    rw [if_neg k3, if_neg k4]; exact f1 k k1 k2 k3 k4
  have K1 : Kp R2 (mf (mf R2 17 (nI (a2 + 1))) 16 (nI d)) β := by
    refine ⟨fun k k1 k2 k3 k4 => ?_, fun _ _ _ => rfl, fun _ _ _ _ _ => rfl, fun _ _ _ => rfl⟩
    show (if k = 16 then _ else if k = 17 then _ else R2.1 k) = _
    rw [if_neg k3, if_neg k4]
  have lp := lop_lv (h0 := n) (m := n) (at_ := bkA kd g (as2 ++ [xs2])) rc hX lc atc b5 (by omega) nd2
  have ed : R2.1 16 - 1 = nI d := by rw [e4]; exact n_sub (a := d + 1) (b := 1) (by omega)
  have go : ∀ R' r, r = 0 ∨ r = 1 → E_loop (mf (mf R2 17 (nI (a2 + 1))) 16 (nI d)) (nI n) R' r → E_close R2 R' r := fun R' r hr01 hh => by
    unfold E_close
    rw [if_neg (by rw [e4]; exact fun z => by have := (n_eq (a := d + 1) (b := 0) (by omega) (by omega)).mp z; omega), ed, show nI d + 1 = nI (d + 1) from (nI_succ d).symm, n_cl (by omega), b1, hr2.2.2.2.1, show nI a2 + 1 = nI (a2 + 1) from (nI_succ a2).symm]
    exact ⟨v_in (by omega) (by omega), R', r, hh, nar01 hr01, rfl, rfl⟩
  cases e : lopQ X N bh (a2 + 1) with
  | none =>
    rw [e] at lp
    obtain ⟨R', r1, r2, r3⟩ := lp
    exact ⟨R', go _ _ (Or.inl rfl) r1, K1.tr r2, r3⟩
  | some w =>
    obtain ⟨a', l⟩ := w
    rw [e] at lp
    obtain ⟨R', u', sq', tl', r1, r2, r3, r4, r5, r6, r7⟩ := lp
    exact ⟨R', u', sq', tl', go _ _ (Or.inr rfl) r1, r2, r3, r4, r5, F1.tr r6, r7⟩
end BRL
