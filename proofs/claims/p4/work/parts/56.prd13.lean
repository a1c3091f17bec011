/-! what a row means: the tree that is read out of it -/
def pLg {A : Type} (mk : Lf → A) (br : Bool → Nat → Nat → Option (Nat × Nat × A)) (X : Nat → Int32) (N : Nat) (bh : Bool) : Nat → Nat → Nat → List (List (A × Option Lp)) → List (A × Option Lp) → Option (Nat × Nat × List (List (A × Option Lp)))
  | 0, _, _, _, _ => none
  | f + 1, o, a, as, xs =>
    if N ≤ a then some (o, a, as ++ [xs])
    else if pk X N a = 124 then pLg mk br X N bh f o (a + 1) (as ++ [xs]) []
    else if pk X N a = 40 then (match br bh o a with
      | none => none
      | some (o2, a2, y) => match lopQ X N bh a2 with
        | none => none
        | some (a3, l) => pLg mk br X N bh f o2 a3 as (xs ++ [(y, l)]))
    else if pk X N a = 41 then some (o, a, as ++ [xs])
    else match atmP X N o bh a with
      | none => none
      | some (a1, lf) => match lopQ X N bh a1 with
        | none => none
        | some (a2, l) => pLg mk br X N bh f o a2 as (xs ++ [(mk lf, l)])
def brP {k : Nat} (sub : Bool → Nat → Nat → Option (Nat × Nat × Ch k)) (X : Nat → Int32) (N : Nat) (bh : Bool) (o a : Nat) : Option (Nat × Nat × At (k + 1)) := match hdP X N o a with
  | none => none
  | some (kd, sk) => match sub (bhK bh kd) (if kd = 8 then o + 1 else o) (a + sk) with
    | none => none
    | some (o2, a2, c) => if a2 < N then some (o2, a2 + 1, bkA kd (if kd = 8 then o + 1 else o) c) else none
def pLv (X : Nat → Int32) (N : Nat) : (k : Nat) → Bool → Nat → Nat → Option (Nat × Nat × Ch k)
  | 0, bh, o, a => pLg (lfA 0) (fun _ _ _ => none) X N bh 16 o a [] []
  | k + 1, bh, o, a => pLg (lfA (k + 1)) (brP (pLv X N k) X N) X N bh 16 o a [] []
section SZ
variable {A : Type} {z : A → Nat} {w : A → Prop}
theorem szS_snoc {xs : List (A × Option Lp)} {x : A × Option Lp} : szS z (xs ++ [x]) = szS z xs + szP z x := by
  unfold szS; simp
theorem szC_add : ∀ {as : List (List (A × Option Lp))} {xs : List (A × Option Lp)} {x : A × Option Lp}, szC z (as ++ [xs ++ [x]]) = szC z (as ++ [xs]) + szP z x
  | [], xs, x => szS_snoc
  | [s], xs, x => by
    show szS z s + szS z (xs ++ [x]) + 1 = szS z s + szS z xs + 1 + szP z x
    rw [szS_snoc]; omega
  | s :: s2 :: ss, xs, x => by
    have ih := szC_add (as := s2 :: ss) (xs := xs) (x := x)
    show szS z s + szC z (s2 :: ss ++ [xs ++ [x]]) + 1 = szS z s + szC z (s2 :: ss ++ [xs]) + 1 + szP z x
    rw [ih]; omega
theorem szC_bar : ∀ {as : List (List (A × Option Lp))} {xs : List (A × Option Lp)}, szC z (as ++ [xs] ++ [[]]) = szC z (as ++ [xs]) + 1
  | [], xs => by show szS z xs + szS z [] + 1 = szS z xs + 1; rfl
  | [s], xs => by
    show szS z s + (szS z xs + szS z [] + 1) + 1 = szS z s + szS z xs + 1 + 1
    rw [show szS z [] = 0 from rfl]; omega
  | s :: s2 :: ss, xs => by
    have ih := szC_bar (as := s2 :: ss) (xs := xs)
    show szS z s + szC z (s2 :: ss ++ [xs] ++ [[]]) + 1 = szS z s + szC z (s2 :: ss ++ [xs]) + 1 + 1
    rw [ih]; omega
theorem wfC_add {as : List (List (A × Option Lp))} {xs : List (A × Option Lp)} {x : A × Option Lp} (h : wfC w (as ++ [xs])) (hx : wfP w x) : wfC w (as ++ [xs ++ [x]]) := by
  intro s hs y hy
  rcases List.mem_append.mp hs with q | q
  · exact h s (List.mem_append.mpr (Or.inl q)) y hy
  · rw [List.mem_singleton.mp q] at hy
    rcases List.mem_append.mp hy with p | p
    · exact h xs (List.mem_append.mpr (Or.inr (List.mem_singleton.mpr rfl))) y p
    · rw [List.mem_singleton.mp p]; exact hx
theorem wfC_bar {as : List (List (A × Option Lp))} {xs : List (A × Option Lp)} (h : wfC w (as ++ [xs])) : wfC w (as ++ [xs] ++ [[]]) := by
  intro s hs y hy
  rcases List.mem_append.mp hs with q | q
  · exact h s q y hy
  · rw [List.mem_singleton.mp q] at hy; cases hy
end SZ
/-- how far a tree's size and its place go together -/
def Szk (k : Nat) (c : Ch k) (a0 a : Nat) : Prop := wfC (wfA k) c ∧ szC (szA k) c + a0 ≤ a
theorem lfA_sz {k : Nat} {l : Lf} : szA k (lfA k l) = 1 ∧ wfA k (lfA k l) := by
  cases k with
  | zero => exact ⟨rfl, trivial⟩
  | succ k => exact ⟨rfl, trivial⟩
theorem Szk.add {k : Nat} {as : Ch k} {xs : List (At k × Option Lp)} {a0 a a1 a2 : Nat} {y : At k} {l : Option Lp} (h : Szk k (as ++ [xs]) a0 a) (hy : a + szA k y ≤ a1) (hw : wfA k y) (h1 : a1 ≤ a2) (hl : ∀ l', l = some l' → a1 + lpc l' ≤ a2 ∧ wfL l') : Szk k (as ++ [xs ++ [(y, l)]]) a0 a2 := by
  refine ⟨wfC_add h.1 ⟨hw, ?_⟩, ?_⟩
  · cases l with
    | none => trivial
    | some l' => exact (hl l' rfl).2
  · rw [szC_add]
    have := h.2
    cases l with
    | none =>
      show szC (szA k) (as ++ [xs]) + (szA k y + 0) + a0 ≤ a2
      omega
    | some l' =>
      have := (hl l' rfl).1
      show szC (szA k) (as ++ [xs]) + (szA k y + lpc l') + a0 ≤ a2
      omega
section BIG
variable {X : Nat → Int32} {N β : Nat}
def RdF (R : RS) (β : Nat) : Prop := ∃ nf R', L_read_26 nf R R' 0 ∧ Kp R R' β ∧ NdR R'
def RdT (R R' : RS) : Prop := ∀ nf R2 r, L_read_26 nf R' R2 r → ∃ nf', L_read_26 nf' R R2 r
/-- a level read to its end -/
def Done (X : Nat → Int32) (N β : Nat) (R : RS) (d k : Nat) (bh : Bool) (lo o' a' : Nat) (c : Ch k) (a0 : Nat) : Prop := ∃ R' u' sq' tl' as' xs', c = as' ++ [xs'] ∧ LvR R' X N β d k bh o' a' u' lo sq' tl' ∧ LyL R' k lo (48 - β + u') sq' tl' as' xs' ∧ u' ≤ 2 + 3 * a' ∧ NdR R' ∧ LvF R R' β lo d ∧ (a' < N → pk X N a' = 41) ∧ RdT R R' ∧ Szk k c a0 a'
/-- a piece read -/
def Nxt (X : Nat → Int32) (N β : Nat) (R : RS) (d k : Nat) (bh : Bool) (lo o' a' : Nat) (as : Ch k) (xs : List (At k × Option Lp)) (a0 : Nat) : Prop := ∃ R' u' sq' tl', LvR R' X N β d k bh o' a' u' lo sq' tl' ∧ LyL R' k lo (48 - β + u') sq' tl' as xs ∧ u' ≤ 2 + 3 * a' ∧ NdR R' ∧ LvF R R' β lo d ∧ RdT R R' ∧ Szk k (as ++ [xs]) a0 a'
def BrOK (X : Nat → Int32) (N β k : Nat) (br : Bool → Nat → Nat → Option (Nat × Nat × At k)) : Prop := ∀ (R : RS) (d : Nat) (bh : Bool) (o a u lo sq : Nat) (tl : Option Nat) (as : Ch k) (xs : List (At k × Option Lp)) (a0 : Nat), LvR R X N β d k bh o a u lo sq tl → LyL R k lo (48 - β + u) sq tl as xs → u ≤ 2 + 3 * a → NdR R → a < N → pk X N a = 40 → Szk k (as ++ [xs]) a0 a →
  match br bh o a with
  | none => RdF R β
  | some (o2, a2, y) => match lopQ X N bh a2 with
    | none => RdF R β
    | some (a3, l) => Nxt X N β R d k bh lo o2 a3 as (xs ++ [(y, l)]) a0 ∧ a < a3
theorem rd_go {R : RS} {nf : Nat} {R' : RS} {r : Int32} {d k o a u lo sq : Nat} {bh : Bool} {tl : Option Nat} (h : LvR R X N β d k bh o a u lo sq tl) (ha : a < N) (hh : (if pk X N a = 124 then (∃ (R22 : RS) (r23 : Int32), E_bar R R22 r23 ∧ (if r23 = 0 then (R' = R22 ∧ r = 0) else (L_read_26 nf R22 R' r))) else (if pk X N a = 40 then (∃ (R19 : RS) (r20 : Int32), E_bracket R R19 r20 ∧ (if r20 = 0 then (R' = R19 ∧ r = 0) else (L_read_26 nf R19 R' r))) else (if pk X N a = 41 then (∃ (R16 : RS) (r17 : Int32), E_close R R16 r17 ∧ (if r17 = 0 then (R' = R16 ∧ r = 0) else (L_read_26 nf R16 R' r))) else (∃ (R11 : RS) (r12 : Int32), E_atom R (pk X N a) R11 r12 ∧ (∃ (R13 : RS) (r14 : Int32), E_loop R11 r12 R13 r14 ∧ (if r14 = 0 then (R' = R13 ∧ r = 0) else (L_read_26 nf R13 R' r)))))))) : L_read_26 (nf + 1) R R' r := by
  have hN : N ≤ 14 := h.1.2.2.1
  rw [L_read_26.eq_2, show (0 : Int32).toNatClampNeg = 0 from by decide, h.1.2.1, h.1.2.2.2.1]
  refine ⟨v_in (n := 0) (by omega) (by omega), ?_⟩
  rw [if_neg (fun z => by have := (n_le (by omega) (by omega)).mp z; omega)]
  exact ⟨_, _, peek_E (k := 0) h.1 (by omega), hh⟩
theorem rd_end {R : RS} {d k o a u lo sq : Nat} {bh : Bool} {tl : Option Nat} (h : LvR R X N β d k bh o a u lo sq tl) (ha : N ≤ a) : L_read_26 1 R R (if d = 0 then 1 else 0) := by
  have hN : N ≤ 14 := h.1.2.2.1
  have h2 := h.2.1
  rw [L_read_26.eq_2, show (0 : Int32).toNatClampNeg = 0 from by decide, h.1.2.1, h.1.2.2.2.1]
  refine ⟨v_in (n := 0) (by omega) (by omega), ?_⟩
  rw [if_pos ((n_le (by omega) (by omega)).mpr ha), h.2.2.2.2.1]
  by_cases d0 : d = 0
  · subst d0; exact ⟨nar01 (Or.inr rfl), rfl, rfl⟩
  · have := h.2.2.2.2.2.1
    rw [if_neg d0, if_neg (show ¬ nI d = 0 from fun z => d0 ((n_eq (b := 0) (by omega) (by omega)).mp z))]
    exact ⟨nar01 (Or.inl rfl), rfl, rfl⟩
theorem lev {k d : Nat} {bh : Bool} {lo a0 : Nat} (hX : Xok X N) {br : Bool → Nat → Nat → Option (Nat × Nat × At k)} (hbr : BrOK X N β k br) : ∀ (f : Nat) (R : RS) (o a u sq : Nat) (tl : Option Nat) (as : Ch k) (xs : List (At k × Option Lp)), N - a < f → LvR R X N β d k bh o a u lo sq tl → LyL R k lo (48 - β + u) sq tl as xs → u ≤ 2 + 3 * a → NdR R → Szk k (as ++ [xs]) a0 a →
    match pLg (lfA k) br X N bh f o a as xs with
    | none => RdF R β
    | some (o', a', c) => Done X N β R d k bh lo o' a' c a0
  | 0, _, _, _, _, _, _, _, _, hf, _, _, _, _, _ => absurd hf (by omega)
  | f + 1, R, o, a, u, sq, tl, as, xs, hf, h, hl, hu, nd, hz => by
    have haN := h.2.1
    have hlo : 48 - β ≤ lo := h.2.2.2.2.2.2.2.2.2.2
    -- from what follows to what stands here
    have nx : ∀ (o' a' : Nat) (as' : Ch k) (xs' : List (At k × Option Lp)), Nxt X N β R d k bh lo o' a' as' xs' a0 → a < N → a < a' → match pLg (lfA k) br X N bh f o' a' as' xs' with | none => RdF R β | some (o', a', c) => Done X N β R d k bh lo o' a' c a0 := fun o' a' as' xs' hn haa hlt => by
      obtain ⟨R', u', sq', tl', n1, n2, n3, n4, n5, n6, n7⟩ := hn
      have ih := lev hX hbr f R' o' a' u' sq' tl' as' xs' (by omega) n1 n2 n3 n4 n7
      cases e : pLg (lfA k) br X N bh f o' a' as' xs' with
      | none =>
        rw [e] at ih
        obtain ⟨nf, R2, m1, m2, m3⟩ := ih
        obtain ⟨nf', m4⟩ := n6 nf R2 0 m1
        exact ⟨nf', R2, m4, (n5.K hlo).tr m2, m3⟩
      | some w =>
        rw [e] at ih
        obtain ⟨R2, u2, sq2, tl2, as2, xs2, m1, m2, m3, m4, m5, m6, m7, m8, m9⟩ := ih
        exact ⟨R2, u2, sq2, tl2, as2, xs2, m1, m2, m3, m4, m5, n5.tr m6, m7, fun nf R3 r hr => by
          obtain ⟨nf', q⟩ := m8 nf R3 r hr
          exact n6 nf' R3 r q, m9⟩
    have here : (a < N → pk X N a = 41) → Done X N β R d k bh lo o a (as ++ [xs]) a0 := fun hp => ⟨R, u, sq, tl, as, xs, rfl, h, hl, hu, nd, LvF.rf, hp, fun nf R2 r hr => ⟨nf, hr⟩, hz⟩
    unfold pLg
    by_cases c0 : N ≤ a
    · rw [if_pos c0]
      exact here (fun z => absurd z (by omega))
    · rw [if_neg c0]
      have ha : a < N := by omega
      by_cases c1 : pk X N a = 124
      · rw [if_pos c1]
        obtain ⟨R', b1, b2, b3, b4, b5⟩ := bar_lv h hl hu ha nd
        refine nx o (a + 1) (as ++ [xs]) [] ⟨R', u + 1, 48 - β + u, none, b2, b3, by omega, b4, b5, fun nf R2 r hr => ⟨nf + 1, rd_go h ha ?_⟩, ⟨wfC_bar hz.1, ?_⟩⟩ ha (by omega)
        · rw [if_pos c1]
          refine ⟨_, _, b1, ?_⟩
          rw [if_neg (by decide)]; exact hr
        · rw [szC_bar]; have := hz.2; omega
      · rw [if_neg c1]
        by_cases c2 : pk X N a = 40
        · rw [if_pos c2]
          have hb := hbr R d bh o a u lo sq tl as xs a0 h hl hu nd ha c2 hz
          cases e : br bh o a with
          | none => rw [e] at hb; exact hb
          | some w =>
            obtain ⟨o2, a2, y⟩ := w
            rw [e] at hb
            dsimp only at hb ⊢
            cases e2 : lopQ X N bh a2 with
            | none => rw [e2] at hb; exact hb
            | some w2 =>
              obtain ⟨a3, l⟩ := w2
              rw [e2] at hb
              exact nx o2 a3 as _ hb.1 ha hb.2
        · rw [if_neg c2]
          by_cases c3 : pk X N a = 41
          · rw [if_pos c3]
            exact here (fun _ => c3)
          · rw [if_neg c3]
            have at_ := atm_lv h hX hl hu ha nd
            cases e : atmP X N o bh a with
            | none =>
              rw [e] at at_
              obtain ⟨R', r1, r2, r3⟩ := at_
              refine ⟨1, R', rd_go h ha ?_, r2, r3⟩
              rw [if_neg c1, if_neg c2, if_neg c3]
              refine ⟨_, _, r1, R', 0, ?_, ?_⟩
              · unfold E_loop; rw [if_pos rfl]; exact ⟨rfl, rfl⟩
              · rw [if_pos rfl]; exact ⟨rfl, rfl⟩
            | some w =>
              obtain ⟨a1, lf⟩ := w
              rw [e] at at_
              obtain ⟨R1, r1, r2, r3, r4, r5, r6, r7, r8, r9⟩ := at_
              have lp := lop_lv (h0 := 48 - β + u) r2 hX r3 r4 r5 (by omega) r6
              dsimp only
              cases e2 : lopQ X N bh a1 with
              | none =>
                rw [e2] at lp
                obtain ⟨R', s1, s2, s3⟩ := lp
                refine ⟨1, R', rd_go h ha ?_, (r7.K hlo).tr s2, s3⟩
                rw [if_neg c1, if_neg c2, if_neg c3]
                refine ⟨_, _, r1, _, _, s1, ?_⟩
                rw [if_pos rfl]; exact ⟨rfl, rfl⟩
              | some w2 =>
                obtain ⟨a2, l⟩ := w2
                rw [e2] at lp
                obtain ⟨R', u', sq', tl', s1, s2, s3, s4, s5, s6, s7, s8, s9⟩ := lp
                refine nx o a2 as (xs ++ [(lfA k lf, l)]) ⟨R', u', sq', tl', s2, s3, s4, s5, r7.tr s6, fun nf R2 r hr => ⟨nf + 1, rd_go h ha ?_⟩, ?_⟩ ha (by omega)
                · rw [if_neg c1, if_neg c2, if_neg c3]
                  refine ⟨_, _, r1, _, _, s1, ?_⟩
                  rw [if_neg (by decide)]; exact hr
                · exact hz.add (by rw [lfA_sz.1]; omega) lfA_sz.2 s7 s9
end BIG
