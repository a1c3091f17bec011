/-! search, matches, looking, find, start, end -/
def spn (p : Nat) (o : Nat × Sp) : Sp := fun k => if k = 0 then nI p else if k = 1 then nI o.1 else o.2 k
def srX (X : Nat → Int32) (N : Nat) (c : Ch 4) : Nat → Nat → Option (Nat × (Nat × Sp))
  | 0, _ => none
  | f + 1, p => if N < p then none else match (outs X N c p).find? (fits9 none) with
    | some o => some (p, o)
    | none => srX X N c f (p + 1)
theorem SmR.rf {R : RS} : SmR R R := ⟨fun _ _ => rfl, fun _ _ => rfl, rfl⟩
theorem SmR.tr {R R1 R2 : RS} (h : SmR R R1) (g : SmR R1 R2) : SmR R R2 := ⟨fun k hk => (g.1 k hk).trans (h.1 k hk), fun k hk => (g.2.1 k hk).trans (h.2.1 k hk), g.2.2.trans h.2.2⟩
/-- what a search relies on -/
def Cx (R : RS) (X : Nat → Int32) (N : Nat) (c : Ch 4) : Prop := R.2.1 1 = X ∧ R.2.1 2 1 = nI N ∧ N ≤ 8 ∧ (∀ q, q < N → ∃ c, 32 ≤ c ∧ c ≤ 126 ∧ X (14 + q) = nI c) ∧ NdR R ∧ ∃ β, R.1 3 = nI β ∧ β ≤ 48 ∧ TreeL R β c
def Sx (R R' : RS) : Prop := (∀ k, k < 23 → R'.2.1 k = R.2.1 k) ∧ R'.2.2 = R.2.2 ∧ R'.1 3 = R.1 3
theorem SmR.x {R R' : RS} (h : SmR R R') : Sx R R' := ⟨fun k hk => h.2.1 k (by omega), h.2.2, h.1 3 (by omega)⟩
theorem Cx.to {R R' : RS} {X : Nat → Int32} {N : Nat} {c : Ch 4} (h : Cx R X N c) (s : Sx R R') : Cx R' X N c := by
  obtain ⟨a1, a2, a3, a4, a5, β, a6, a7, a8⟩ := h
  refine ⟨(s.1 1 (by omega)).trans a1, by rw [s.1 2 (by omega)]; exact a2, a3, a4, fun j hj => nd_eq (fun k k1 k2 => by rw [s.1 k (by omega)]) (a5 j hj), β, by rw [s.2.2]; exact a6, a7, a8.fr (fun j _ _ => ⟨⟨fun k k1 k2 => by rw [s.1 k (by omega)], by rw [s.2.1], by rw [s.2.1]⟩, by rw [s.1 13 (by omega)]⟩)⟩
section SRC
variable {R : RS} {X : Nat → Int32} {N : Nat} {c : Ch 4}
theorem run_E {p : Nat} {w : Option Nat} {a2 : Int32} (h : Cx R X N c) (hp : p ≤ N) (hw : (a2 = 0 ∧ w = none) ∨ (a2 = 1 ∧ w = some N)) : ∃ (R' : RS) (r : Int32), E_run R (nI p) a2 R' r ∧ SmR R R' ∧ (match (outs X N c p).find? (fits9 w) with | some o => r = 1 ∧ p ≤ o.1 ∧ o.1 ≤ N ∧ svd N o.2 ∧ ∀ k, k < 10 → R'.2.1 30 k = spn p o k | none => r = 0) := by
  obtain ⟨a1, a2', a3, a4, a5, β, a6, a7, a8⟩ := h
  obtain ⟨R', r, r1, r2, r3⟩ := run_T (R := R) (c := c) a5 ⟨N, a3, a2', fun q hq => by rw [a1]; exact a4 q hq⟩ a2' a3 a6 (by omega) (a8.R a7) hp hw
  refine ⟨R', r, r1, r2, ?_⟩
  rw [a1] at r3
  cases e : (outs X N c p).find? (fits9 w) with
  | none => rw [e] at r3; exact r3
  | some o =>
    rw [e] at r3
    obtain ⟨b1, b2, b3, b4, b5, b6⟩ := r3
    refine ⟨b1, (outs_in hp (List.mem_of_find?_eq_some e)).1, b2, b3, fun k hk => ?_⟩
    unfold spn
    by_cases k0 : k = 0
    · rw [if_pos k0, k0]; exact b4
    · rw [if_neg k0]
      by_cases k1 : k = 1
      · rw [if_pos k1, k1]; exact b5
      · rw [if_neg k1]; exact b6 k (by omega) hk
theorem sr_loop {x1 : Int32} : ∀ (f p : Nat) (R : RS), Cx R X N c → N + 1 - p < f → p ≤ N + 1 → ∃ (R' : RS) (r : Int32), L_search_2 f R x1 (nI p) R' r ∧ SmR R R' ∧ (match srX X N c f p with | some (q, o) => r = 1 ∧ p ≤ q ∧ q ≤ o.1 ∧ o.1 ≤ N ∧ svd N o.2 ∧ ∀ k, k < 10 → R'.2.1 30 k = spn q o k | none => r = 0)
  | 0, _, _, _, hf, _ => absurd hf (by omega)
  | f + 1, p, R, h, hf, hp => by
    have hN := h.2.2.1
    have v3 : vp_in 1 3 := v_in (n := 1) (by omega) (by omega)
    have e1 : (1 : Int32).toNatClampNeg = 1 := by decide
    unfold srX
    by_cases c0 : N < p
    · rw [if_pos c0]
      refine ⟨R, 0, ?_, SmR.rf, rfl⟩
      rw [L_search_2.eq_2, e1, h.2.1]
      refine ⟨v3, ?_⟩
      rw [if_pos ((n_lt (by omega) (by omega)).mpr c0)]; exact ⟨rfl, rfl⟩
    · rw [if_neg c0]
      obtain ⟨R1, r1, q1, q2, q3⟩ := run_E (p := p) (w := none) (a2 := 0) h (by omega) (Or.inl ⟨rfl, rfl⟩)
      have go : ∀ R' r, (if r1 = 0 then L_search_2 f R1 x1 (nI (p + 1)) R' r else (R' = R1 ∧ r = 1)) → L_search_2 (f + 1) R x1 (nI p) R' r := fun R' r hh => by
        rw [L_search_2.eq_2, e1, h.2.1]
        refine ⟨v3, ?_⟩
        rw [if_neg (fun z => c0 ((n_lt (by omega) (by omega)).mp z)), show nI p + 1 = nI (p + 1) from (nI_succ p).symm]
        exact ⟨R1, r1, q1, hh⟩
      cases e : (outs X N c p).find? (fits9 none) with
      | none =>
        rw [e] at q3
        obtain ⟨R', r, s1, s2, s3⟩ := sr_loop (x1 := x1) f (p + 1) R1 (h.to q2.x) (by omega) (by omega)
        refine ⟨R', r, go _ _ (by rw [if_pos q3]; exact s1), q2.tr s2, ?_⟩
        dsimp only
        cases e2 : srX X N c f (p + 1) with
        | none => rw [e2] at s3; exact s3
        | some w =>
          obtain ⟨q, o⟩ := w
          rw [e2] at s3
          exact ⟨s3.1, by omega, s3.2.2⟩
      | some o =>
        rw [e] at q3
        obtain ⟨b1, b2, b3, b4, b5⟩ := q3
        exact ⟨R1, 1, go _ _ (by rw [if_neg (by rw [b1]; decide)]; exact ⟨rfl, rfl⟩), q2, rfl, Nat.le_refl _, b2, b3, b4, b5⟩
theorem sr_E {p : Nat} (h : Cx R X N c) (hp : p ≤ N + 1) : ∃ (R' : RS) (r : Int32), E_search R (nI p) R' r ∧ SmR R R' ∧ (match srX X N c (N + 2 - p) p with | some (q, o) => r = 1 ∧ p ≤ q ∧ q ≤ o.1 ∧ o.1 ≤ N ∧ svd N o.2 ∧ ∀ k, k < 10 → R'.2.1 30 k = spn q o k | none => r = 0) := by
  obtain ⟨R', r, s1, s2, s3⟩ := sr_loop (x1 := nI p) (N + 2 - p) p R h (by omega) hp
  exact ⟨R', r, ⟨_, s1⟩, s2, s3⟩
theorem nt_loop {x1 : Int32} : ∀ (n k : Nat) (R : RS), k + n = 10 → ∃ R', L_note_7 (n + 1) R x1 (nI k) R' 0 ∧ R'.1 = R.1 ∧ R'.2.2 = R.2.2 ∧ (∀ j, j ≠ 42 → R'.2.1 j = R.2.1 j) ∧ (∀ j, k ≤ j → j < 10 → R'.2.1 42 j = R.2.1 30 j) ∧ ∀ j, j < k → R'.2.1 42 j = R.2.1 42 j
  | 0, k, R, hk => ⟨R, by rw [show k = 10 by omega, L_note_7.eq_2, if_pos (by decide)]; exact ⟨rfl, rfl⟩, rfl, rfl, fun _ _ => rfl, fun j a b => by omega, fun _ _ => rfl⟩
  | n + 1, k, R, hk => by
    obtain ⟨R', h1, h2, h3, h4, h5, h6⟩ := nt_loop (x1 := x1) n (k + 1) (ma R 42 k (R.2.1 30 k)) (by omega)
    refine ⟨R', ?_, h2, h3, fun j hj => ?_, fun j a b => ?_, fun j hj => ?_⟩
    · rw [L_note_7.eq_2, if_neg (show ¬ (10 : Int32) ≤ nI k from fun z => by have := (n_le (a := 10) (by omega) (by omega)).mp z; omega), n_cl (by omega), show nI k + 1 = nI (k + 1) from (nI_succ k).symm]
      exact ⟨v_in (by omega) (by omega), v_in (by omega) (by omega), h1⟩
    · rw [h4 j hj]; funext i; rw [ma_at, if_neg (by omega)]
    · by_cases e : j = k
      · subst e; rw [h6 j (by omega), ma_at, if_pos ⟨rfl, rfl⟩]
      · rw [h5 j (by omega) b, ma_at, if_neg (by omega)]
    · rw [h6 j (by omega), ma_at, if_neg (by omega)]
theorem nt_E {x1 : Int32} (hx : x1 = 0 ∨ x1 = 1) : ∃ R', E_note R x1 R' 0 ∧ R'.1 = (mf R 41 x1).1 ∧ R'.2.2 = R.2.2 ∧ (∀ j, j ≠ 42 → R'.2.1 j = R.2.1 j) ∧ ∀ j, j < 10 → R'.2.1 42 j = R.2.1 30 j := by
  obtain ⟨R', h1, h2, h3, h4, h5, -⟩ := nt_loop (x1 := x1) 10 0 (mf R 41 x1) (by omega)
  refine ⟨R', ⟨nar01 hx, by rcases hx with z | z <;> (rw [z]; rfl), _, h1⟩, h2, h3, h4, fun j hj => h5 j (by omega) hj⟩
end SRC
section SIM2
variable {R : RS} {V : VS}
theorem RV.cx {g : Nat} {c : Ch 4} (h : RV R V) (hc : V.2.2.1 = some (g, c)) : Cx R V.1 (V.2.1 1) c := by
  obtain ⟨g1, ⟨nd, β, b1, b2, b3⟩, -⟩ := h
  rw [hc] at b3
  exact ⟨g1.1, g1.2.1 1 (by omega), g1.2.2.2.1, fun q hq => g1.2.2.2.2.2 1 q (by omega) hq, nd, β, b1, by omega, b3.2.2.2⟩
def mtV (V : VS) (m : Option Sp) : VS := (V.1, V.2.1, V.2.2.1, m, V.2.2.2.2)
/-- a search noted -/
theorem note_V {R1 : RS} {r : Int32} {m : Option Sp} (h : RV R V) (hc : V.2.2.1 ≠ none) (s : SmR R R1) (hm : match m with | none => r = 0 | some σ => r = 1 ∧ ∀ k, k < 10 → R1.2.1 30 k = σ k) : ∃ R', E_note R1 r R' 0 ∧ RV R' (mtV V m) ∧ R'.1 41 = r ∧ R'.1 0 = R.1 0 ∧ ∀ σ, m = some σ → ∀ k, k < 10 → R'.2.1 42 k = σ k := by
  have h1 := h.sm s
  have hr : r = 0 ∨ r = 1 := by
    cases m with
    | none => exact Or.inl hm
    | some σ => exact Or.inr hm.1
  obtain ⟨R', n1, n2, n3, n4, n5⟩ := nt_E (R := R1) hr
  have fk : ∀ k, k ≠ 41 → R'.1 k = R1.1 k := fun k hk => by rw [n2, mf_at, if_neg hk]
  have f41 : R'.1 41 = r := by rw [n2, mf_at, if_pos rfl]
  refine ⟨R', n1, ⟨h1.1.to (n4 1 (by omega)) (n4 2 (by omega)), h1.2.1.to (fun k k1 k2 => n4 k (by omega)) n3 (fun k hk => fk k (by omega)), ?_, h1.2.2.2.1.to (fk 43 (by omega)) (n4 44 (by omega)), h1.2.2.2.2.to (fk 45 (by omega)) (n4 46 (by omega)) (n4 47 (by omega))⟩, f41, by rw [fk 0 (by omega)]; exact s.1 0 (by omega), fun σ hσ k hk => ?_⟩
  · cases m with
    | none => show R'.1 41 = 0; rw [f41]; exact hm
    | some σ => exact ⟨by rw [f41]; exact hm.1, hc, fun k hk => by rw [n5 k hk]; exact hm.2 k hk⟩
  · subst hσ
    rw [n5 k hk]; exact hm.2 k hk
def runV (V : VS) (c : Ch 4) (w : Option Nat) : Option Sp := match (outs V.1 (V.2.1 1) c 0).find? (fits9 w) with
  | none => none
  | some o => some (spn 0 o)
def findV (V : VS) (c : Ch 4) (p : Nat) : Option Sp := match srX V.1 (V.2.1 1) c (V.2.1 1 + 2 - p) p with
  | none => none
  | some (q, o) => some (spn q o)
def oB1 (m : Option Sp) : Int32 := match m with | none => 0 | some _ => 1
theorem RV.c7 (h : RV R V) : (V.2.2.1 = none → R.1 7 = 0) ∧ (∀ w, V.2.2.1 = some w → R.1 7 = 1) := by
  obtain ⟨-, ⟨-, β, -, -, b3⟩, -⟩ := h
  refine ⟨fun e => by rw [e] at b3; exact b3, fun w e => by rw [e] at b3; exact b3.1⟩
theorem run1_E {a2 : Int32} {w : Option Nat} {g : Nat} {c : Ch 4} (h : RV R V) (hc : V.2.2.1 = some (g, c)) (hw : (a2 = 0 ∧ w = none) ∨ (a2 = 1 ∧ w = some (V.2.1 1))) : ∃ R4 r5 R6, E_run (mf R 0 0) 0 a2 R4 r5 ∧ E_note R4 r5 R6 0 ∧ RV R6 (mtV V (runV V c w)) ∧ R6.1 41 = oB1 (runV V c w) ∧ R6.1 0 = 0 := by
  obtain ⟨R4, r5, q1, q2, q3⟩ := run_E (p := 0) ((h.code (x := 0)).cx hc) (by omega) hw
  obtain ⟨R6, n1, n2, n3, n4, -⟩ := note_V (m := runV V c w) (r := r5) h.code (by rw [hc]; simp) q2 (by
    unfold runV
    cases e : (outs V.1 (V.2.1 1) c 0).find? (fits9 w) with
    | none => rw [e] at q3; exact q3
    | some o => rw [e] at q3; exact ⟨q3.1, q3.2.2.2.2⟩)
  refine ⟨R4, r5, R6, q1, n1, n2, ?_, n4⟩
  rw [n3]
  unfold oB1 runV
  cases e : (outs V.1 (V.2.1 1) c 0).find? (fits9 w) with
  | none => rw [e] at q3; exact q3
  | some o => rw [e] at q3; exact q3.1
theorem oB1_01 {m : Option Sp} : oB1 m = 0 ∨ oB1 m = 1 := by cases m with | none => exact Or.inl rfl | some _ => exact Or.inr rfl
theorem matches_E (h : RV R V) : match V.2.2.1 with
    | none => E_matches R (mf R 0 1) 0
    | some (_, c) => ∃ R', E_matches R R' (oB1 (runV V c (some (V.2.1 1)))) ∧ RV R' (mtV V (runV V c (some (V.2.1 1)))) ∧ R'.1 0 = 0 := by
  cases e : V.2.2.1 with
  | none =>
    have h7 := h.c7.1 e
    show E_matches R (mf R 0 1) 0
    unfold E_matches
    rw [h7, if_pos rfl, if_neg (by decide)]; exact ⟨rfl, rfl⟩
  | some w =>
    obtain ⟨g, c⟩ := w
    have h7 := h.c7.2 _ e
    obtain ⟨R4, r5, R6, a1, a2, a3, a4, a5⟩ := run1_E (a2 := 1) h e (Or.inr ⟨rfl, rfl⟩)
    refine ⟨R6, ?_, a3, a5⟩
    unfold E_matches
    rw [h7, show (if (1 : Int32) = 0 then (1 : Int32) else 0) = 0 from rfl, if_pos (show (0 : Int32) ≤ 0 by decide)]
    exact ⟨R4, r5, a1, R6, a2, by rw [a4]; exact nar01 oB1_01, rfl, a4.symm⟩
theorem looking_E (h : RV R V) : match V.2.2.1 with
    | none => E_looking R (mf R 0 1) 0
    | some (_, c) => ∃ R', E_looking R R' (oB1 (runV V c none)) ∧ RV R' (mtV V (runV V c none)) ∧ R'.1 0 = 0 := by
  cases e : V.2.2.1 with
  | none =>
    have h7 := h.c7.1 e
    show E_looking R (mf R 0 1) 0
    unfold E_looking
    rw [h7, if_pos rfl, if_neg (by decide)]; exact ⟨rfl, rfl⟩
  | some w =>
    obtain ⟨g, c⟩ := w
    have h7 := h.c7.2 _ e
    obtain ⟨R4, r5, R6, a1, a2, a3, a4, a5⟩ := run1_E (a2 := 0) h e (Or.inl ⟨rfl, rfl⟩)
    refine ⟨R6, ?_, a3, a5⟩
    unfold E_looking
    rw [h7, show (if (1 : Int32) = 0 then (1 : Int32) else 0) = 0 from rfl, if_pos (show (0 : Int32) ≤ 0 by decide)]
    exact ⟨R4, r5, a1, R6, a2, by rw [a4]; exact nar01 oB1_01, rfl, a4.symm⟩
theorem i_nat {a1 : Int32} {N : Nat} (hN : N < 2147483648) (h1 : ¬ a1 < 0) (h2 : a1 ≤ nI N) : ∃ p, p ≤ N ∧ a1 = nI p := by
  rw [Int32.lt_iff_toInt_lt] at h1
  rw [Int32.le_iff_toInt_le, nI_toInt hN] at h2
  have e0 : (0 : Int32).toInt = 0 := rfl
  refine ⟨a1.toInt.toNat, by omega, ?_⟩
  apply Int32.toInt_inj.mp
  rw [nI_toInt (by omega)]; omega
def fnR (m : Option Sp) : Int32 := match m with | none => -1 | some σ => σ 0
theorem find_E (h : RV R V) (a1 : Int32) : (if a1 < 0 ∨ ¬ a1 ≤ nI (V.2.1 1) then E_find R a1 (mf R 0 1) 0 else match V.2.2.1 with
    | none => E_find R a1 (mf R 0 2) 0
    | some (_, c) => ∃ p, p ≤ V.2.1 1 ∧ a1 = nI p ∧ ∃ R', E_find R a1 R' (fnR (findV V c p)) ∧ RV R' (mtV V (findV V c p)) ∧ R'.1 0 = 0) := by
  have hN : V.2.1 1 ≤ 8 := h.1.2.2.2.1
  have v3 : vp_in 1 3 := v_in (n := 1) (by omega) (by omega)
  have e1 : (1 : Int32).toNatClampNeg = 1 := by decide
  have l1 := h.1.2.1 1 (by omega)
  by_cases c0 : a1 < 0
  · rw [if_pos (Or.inl c0)]
    unfold E_find
    rw [if_pos c0]; exact ⟨rfl, rfl⟩
  · by_cases c1 : a1 ≤ nI (V.2.1 1)
    · rw [if_neg (fun z => z.elim c0 (fun y => y c1))]
      cases e : V.2.2.1 with
      | none =>
        have h7 := h.c7.1 e
        show E_find R a1 (mf R 0 2) 0
        unfold E_find
        rw [if_neg c0, e1, l1, if_pos c1, h7, if_pos rfl, if_neg (by decide)]; exact ⟨v3, rfl, rfl⟩
      | some w =>
        obtain ⟨g, c⟩ := w
        have h7 := h.c7.2 _ e
        obtain ⟨p, hp, ep⟩ := i_nat (by omega) c0 c1
        obtain ⟨R7, r8, q1, q2, q3⟩ := sr_E (p := p) ((h.code (x := 0)).cx e) (by omega)
        obtain ⟨R9, n1, n2, n3, n4, n5⟩ := note_V (m := findV V c p) (r := r8) h.code (by rw [e]; simp) q2 (by
          unfold findV
          cases e2 : srX V.1 (V.2.1 1) c (V.2.1 1 + 2 - p) p with
          | none => rw [e2] at q3; exact q3
          | some w => obtain ⟨q, o⟩ := w; rw [e2] at q3; exact ⟨q3.1, q3.2.2.2.2.2⟩)
        refine ⟨p, hp, ep, R9, ?_, n2, n4⟩
        unfold E_find
        rw [if_neg c0, e1, l1, if_pos c1, h7, show (if (1 : Int32) = 0 then (2 : Int32) else 0) = 0 from rfl, if_pos (show (0 : Int32) ≤ 0 by decide)]
        refine ⟨v3, R7, r8, by rw [ep]; exact q1, R9, n1, ?_⟩
        rw [n3]
        unfold fnR findV
        cases e2 : srX V.1 (V.2.1 1) c (V.2.1 1 + 2 - p) p with
        | none => rw [e2] at q3; rw [if_pos q3]; exact ⟨rfl, rfl⟩
        | some w =>
          obtain ⟨q, o⟩ := w
          rw [e2] at q3
          rw [if_neg (by rw [q3.1]; decide), show (0 : Int32).toNatClampNeg = 0 from by decide, n5 (spn q o) (by unfold findV; rw [e2]) 0 (by omega)]
          exact ⟨v_in (n := 0) (by omega) (by omega), rfl, rfl⟩
    · rw [if_pos (Or.inr c1)]
      unfold E_find
      rw [if_neg c0, e1, l1, if_neg c1, if_neg (by decide)]; exact ⟨v3, rfl, rfl⟩
/-- the code and the answer of start and end -/
def spR (V : VS) (a1 : Int32) (s : Nat) : Int32 × Int32 := match V.2.2.2.1, V.2.2.1 with
  | some σ, some (g, _) => if a1 < 0 ∨ ¬ a1 ≤ nI g then (2, 0) else (0, σ (2 * a1.toNatClampNeg + s))
  | _, _ => (1, 0)
theorem span_E (h : RV R V) (a1 : Int32) (s : Nat) (hs : s ≤ 1) : E_spanOf R a1 (nI s) (mf R 0 (spR V a1 s).1) (spR V a1 s).2 := by
  obtain ⟨-, ⟨-, β, -, -, b3⟩, g3, -⟩ := h
  unfold spR E_spanOf
  cases em : V.2.2.2.1 with
  | none =>
    rw [em] at g3
    have g3' : R.1 41 = 0 := g3
    rw [g3', if_pos rfl, if_neg (by decide)]; exact ⟨rfl, rfl⟩
  | some σ =>
    rw [em] at g3
    obtain ⟨m1, m2, m3⟩ := g3
    cases ec : V.2.2.1 with
    | none => exact absurd ec m2
    | some w =>
      obtain ⟨g, c⟩ := w
      rw [ec] at b3
      obtain ⟨b1, b2, b4, -⟩ := b3
      dsimp only
      rw [m1, if_neg (show ¬ (1 : Int32) = 0 by decide), b2]
      by_cases c0 : a1 < 0
      · rw [if_pos c0, if_neg (show ¬ (2 : Int32) ≤ 0 by decide), if_pos (Or.inl c0)]; exact ⟨rfl, rfl⟩
      · rw [if_neg c0]
        by_cases c1 : a1 ≤ nI g
        · obtain ⟨q, hq, eq⟩ := i_nat (by omega) c0 c1
          rw [if_pos c1, if_pos (show (0 : Int32) ≤ 0 by decide), if_neg (fun z => z.elim c0 (fun y => y c1))]
          rw [eq, show 2 * nI q + nI s = nI (2 * q + s) by rw [show (2 : Int32) = nI 2 from rfl, n_mul, n_add], n_cl (by omega), n_cl (by omega)]
          exact ⟨v_in (by omega) (by omega), rfl, (m3 _ (by omega)).symm⟩
        · rw [if_neg c1, if_neg (show ¬ (2 : Int32) ≤ 0 by decide), if_pos (Or.inr c1)]; exact ⟨rfl, rfl⟩
theorem start_E (h : RV R V) (a1 : Int32) : E_start R a1 (mf R 0 (spR V a1 0).1) (spR V a1 0).2 := ⟨_, _, span_E h a1 0 (by omega), rfl, rfl⟩
theorem end_E (h : RV R V) (a1 : Int32) : E_end R a1 (mf R 0 (spR V a1 1).1) (spR V a1 1).2 := ⟨_, _, span_E h a1 1 (by omega), rfl, rfl⟩
/-- the code and the answer of replaced -/
def rpR (V : VS) (a1 : Int32) : Int32 × Int32 := if a1 < 0 ∨ ¬ a1 < nI V.2.2.2.2.1.length then (1, 0) else (0, (V.2.2.2.2.1[a1.toNatClampNeg]?).getD 0)
theorem replaced_E (h : RV R V) (a1 : Int32) : E_replaced R a1 (mf R 0 (rpR V a1).1) (rpR V a1).2 := by
  obtain ⟨-, -, -, ⟨d1, d2, d3⟩, -⟩ := h
  unfold rpR E_replaced
  rw [d1]
  by_cases c0 : a1 < 0
  · rw [if_pos c0, if_neg (show ¬ (1 : Int32) ≤ 0 by decide), if_pos (Or.inl c0)]; exact ⟨rfl, rfl, rfl⟩
  · rw [if_neg c0]
    by_cases c1 : a1 < nI V.2.2.2.2.1.length
    · rw [if_pos c1, if_pos (show (0 : Int32) ≤ 0 by decide), if_neg (fun z => z.elim c0 (fun y => y c1))]
      obtain ⟨q, hq, eq⟩ := i_nat (N := V.2.2.2.2.1.length) (by omega) c0 (by rw [Int32.le_iff_toInt_le]; rw [Int32.lt_iff_toInt_lt] at c1; omega)
      have hq2 : q < V.2.2.2.2.1.length := by rw [eq] at c1; exact (n_lt (by omega) (by omega)).mp c1
      have ex : V.2.2.2.2.1[q]? = some V.2.2.2.2.1[q] := List.getElem?_eq_getElem hq2
      obtain ⟨x1, ch, x2, x3, x4⟩ := d3 q _ ex
      rw [eq, n_cl (by omega), x1, ex, Option.getD_some, x4]
      have cc : ((nI ch).toUInt32 % 65536).toInt32 = nI ch := by
        have h2 : ∀ j : Fin 127, ((nI j.1).toUInt32 % 65536).toInt32 = nI j.1 := by decide
        exact h2 ⟨ch, by omega⟩
      have cn : narrow .char (.int (nI ch)) = .int (nI ch) := by
        have h2 : ∀ j : Fin 127, narrow .char (.int (nI j.1)) = .int (nI j.1) := by decide
        exact h2 ⟨ch, by omega⟩
      rw [cc]
      exact ⟨v_in (by omega) (by omega), cn, rfl, rfl⟩
    · rw [if_neg c1, if_neg (show ¬ (1 : Int32) ≤ 0 by decide), if_pos (Or.inr c1)]; exact ⟨rfl, rfl, rfl⟩
/-- the code and the answer of piece -/
def pcR (V : VS) (a1 a2 : Int32) : Int32 × Int32 := if a1 < 0 ∨ ¬ a1 < nI V.2.2.2.2.2.length then (1, 0) else (0, if a2 = 0 then nI ((V.2.2.2.2.2[a1.toNatClampNeg]?).getD (0, 0)).1 else if a2 = 1 then nI ((V.2.2.2.2.2[a1.toNatClampNeg]?).getD (0, 0)).2 else -1)
theorem piece_E (h : RV R V) (a1 a2 : Int32) : E_piece R a1 a2 (mf R 0 (pcR V a1 a2).1) (pcR V a1 a2).2 := by
  obtain ⟨-, -, -, -, ⟨d1, d2, d3⟩⟩ := h
  unfold pcR E_piece
  rw [d1]
  by_cases c0 : a1 < 0
  · rw [if_pos c0, if_neg (show ¬ (1 : Int32) ≤ 0 by decide), if_pos (Or.inl c0)]; exact ⟨rfl, rfl⟩
  · rw [if_neg c0]
    by_cases c1 : a1 < nI V.2.2.2.2.2.length
    · rw [if_pos c1, if_pos (show (0 : Int32) ≤ 0 by decide), if_neg (show ¬ (a1 < 0 ∨ ¬ a1 < nI V.2.2.2.2.2.length) from fun z => z.elim c0 (fun y => y c1))]
      obtain ⟨q, hq, eq⟩ := i_nat (N := V.2.2.2.2.2.length) (by omega) c0 (by rw [Int32.le_iff_toInt_le]; rw [Int32.lt_iff_toInt_lt] at c1; omega)
      have hq2 : q < V.2.2.2.2.2.length := by rw [eq] at c1; exact (n_lt (by omega) (by omega)).mp c1
      have ex : V.2.2.2.2.2[q]? = some V.2.2.2.2.2[q] := List.getElem?_eq_getElem hq2
      obtain ⟨x1, x2⟩ := d3 q _ ex
      rw [eq, n_cl (by omega), x1, x2, ex, Option.getD_some]
      by_cases t0 : a2 = 0
      · rw [if_pos t0, if_pos t0]; exact ⟨v_in (by omega) (by omega), rfl, rfl⟩
      · rw [if_neg t0, if_neg t0]
        by_cases t1 : a2 = 1
        · rw [if_pos t1, if_pos t1]; exact ⟨v_in (by omega) (by omega), rfl, rfl⟩
        · rw [if_neg t1, if_neg t1]; exact ⟨rfl, rfl⟩
    · rw [if_neg c1, if_neg (show ¬ (1 : Int32) ≤ 0 by decide), if_pos (Or.inr c1)]; exact ⟨rfl, rfl⟩
end SIM2
