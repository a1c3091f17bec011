/-! the class's reader held against the pure one: bad stays bad -/
def Tg (F : QS → Int32 → Prop) (P : QS → Int32 → Prop) : Prop := ∃ Q r, P Q r ∧ F Q r
section TG
variable {F : QS → Int32 → Prop}
theorem g_if {c : Prop} {d : Decidable c} {P Q : QS → Int32 → Prop} (h1 : c → Tg F P) (h2 : ¬ c → Tg F Q) : Tg F (fun S r => @ite Prop c d (P S r) (Q S r)) := by
  by_cases h : c
  · obtain ⟨S, r, a, b⟩ := h1 h
    exact ⟨S, r, by show ite c (P S r) (Q S r); rw [if_pos h]; exact a, b⟩
  · obtain ⟨S, r, a, b⟩ := h2 h
    exact ⟨S, r, by show ite c (P S r) (Q S r); rw [if_neg h]; exact a, b⟩
theorem g_ex {H A : QS → Int32 → Prop} {P : QS → Int32 → QS → Int32 → Prop} (h : Tg H A) (g : ∀ S1 r1, A S1 r1 → H S1 r1 → Tg F (P S1 r1)) : Tg F (fun S r => ∃ S1 r1, A S1 r1 ∧ P S1 r1 S r) := by
  obtain ⟨S1, r1, a, b⟩ := h
  obtain ⟨S, r, d, e⟩ := g S1 r1 a b
  exact ⟨S, r, ⟨S1, r1, a, d⟩, e⟩
theorem g_exv {H A : QS → Prop} {P : QS → QS → Int32 → Prop} (h : ∃ S, A S ∧ H S) (g : ∀ S1, A S1 → H S1 → Tg F (P S1)) : Tg F (fun S r => ∃ S1, A S1 ∧ P S1 S r) := by
  obtain ⟨S1, a, b⟩ := h
  obtain ⟨S, r, d, e⟩ := g S1 a b
  exact ⟨S, r, ⟨S1, a, d⟩, e⟩
theorem g_eq {P Q : QS → Int32 → Prop} (h : ∀ S r, P S r = Q S r) (g : Tg F Q) : Tg F P := by
  obtain ⟨S, r, d, e⟩ := g
  exact ⟨S, r, (h S r).mpr d, e⟩
theorem g_nf {P : Nat → QS → Int32 → Prop} {n : Nat} (g : Tg F (P n)) : Tg F (fun S r => ∃ nf : Nat, P nf S r) := by
  obtain ⟨S, r, d, e⟩ := g
  exact ⟨S, r, ⟨n, d⟩, e⟩
theorem g_and {A : Prop} {P : QS → Int32 → Prop} (h : A) (g : Tg F P) : Tg F (fun S r => A ∧ P S r) := by
  obtain ⟨S, r, d, e⟩ := g
  exact ⟨S, r, ⟨h, d⟩, e⟩
theorem g_nb {x : Int32} {P : QS → Int32 → Prop} (h : x = 0 ∨ x = 1) (g : Tg F P) : Tg F (fun S r => narrow .boolean (.int x) = .int x ∧ fits .boolean (.int x) = true ∧ P S r) := by
  obtain ⟨S, r, d, e⟩ := g
  exact ⟨S, r, ⟨nar01 h, by rcases h with rfl | rfl <;> rfl, d⟩, e⟩
theorem g_ret {S0 : QS} {r0 : Int32} (h : F S0 r0) : Tg F (fun S r => S = S0 ∧ r = r0) := ⟨S0, r0, ⟨rfl, rfl⟩, h⟩
theorem g_of {H P : QS → Int32 → Prop} (h : Tg H P) (i : ∀ S r, H S r → F S r) : Tg F P := by
  obtain ⟨S, r, d, e⟩ := h
  exact ⟨S, r, d, i S r e⟩
end TG
/-- bad, and all else as it must be -/
def cB (Q : QS) : Prop := cOK Q ∧ Q.1 3 = 1 ∧ NumOK Q
section TB
variable {Q : QS} {J : Nat} {g : Nat → Int32}
theorem St.cb {a v o n : Nat} (h : St Q a 1 v o n) : cB Q := ⟨h.cok, h.2.1, h.2.2.2.2.2.2.2⟩
theorem Bad.cb {v o : Nat} (h : Bad Q v o) : cB Q := by obtain ⟨p, n, -, s⟩ := h; exact s.cb
theorem cB.f {k : Nat} {x : Int32} (h : cB Q) (hk : k ≠ 3) : cB (rf Q k x) := ⟨h.1, by show (if 3 = k then x else Q.1 3) = 1; rw [if_neg (by omega)]; exact h.2.1, h.2.2⟩
theorem cB.b (h : cB Q) : cB (rf Q 3 1) := ⟨h.1, rfl, h.2.2⟩
theorem cB.n {i k : Nat} {x : Int32} (h : cB Q) (hk : k ≠ 0) : cB (rn Q i k x) := ⟨h.1, h.2.1, fun j hj => by rw [rn_at, if_neg (by omega)]; exact h.2.2 j hj⟩
theorem b_take {c : Int32} (h : cB Q) : Tg (fun Q' r => cB Q' ∧ (r = 0 ∨ r = 1)) (E_r_take J g Q c) := by
  unfold E_r_take
  exact g_if (fun _ => g_ret ⟨h.f (by omega), Or.inr rfl⟩) (fun _ => g_ret ⟨h.f (by omega), Or.inl rfl⟩)
theorem b_add {k : Int32} (h : cB Q) : Tg (fun Q' _ => cB Q') (E_r_add J g Q k) := by
  refine g_ex (H := fun Q' _ => cB Q') (g_if (fun c => ?_) (fun _ => g_ret h)) (fun Q1 r2 _ h1 => g_if (fun _ => g_ret h1.b) (fun _ => g_ret h1))
  have hn : Q.2.2.1 < 32 := (n_lt (a := Q.2.2.1) (b := 32) (by have := h.1.2; omega) (by omega)).mp c
  have h3 := ((h.n (i := (nI Q.2.2.1).toNatClampNeg) (k := 1) (x := k) (by omega)).n (i := (nI Q.2.2.1).toNatClampNeg) (k := 2) (x := 0) (by omega)).n (i := (nI Q.2.2.1).toNatClampNeg) (k := 3) (x := 0) (by omega)
  exact g_and (v_in hn (by omega)) (g_ret ⟨⟨by show 0 < Q.2.2.1 + 1; omega, by show Q.2.2.1 + 1 ≤ 32; omega⟩, h3.2.1, h3.2.2⟩)
theorem b_exp {c : Int32} (h : cB Q) : ∃ Q', E_r_expect J g Q c Q' 0 ∧ cB Q' := by
  unfold E_r_expect E_r_take
  by_cases e : rw_at J g (Q.1 2) = c
  · exact ⟨rf Q 2 ((Q.1 2) + 1), ⟨rf Q 2 ((Q.1 2) + 1), 1, by rw [if_pos e]; exact ⟨rfl, rfl⟩, by rw [if_neg (by decide)]; exact ⟨rfl, rfl⟩⟩, h.f (by omega)⟩
  · exact ⟨rf (rf Q 2 ((Q.1 2) + 0)) 3 1, ⟨rf Q 2 ((Q.1 2) + 0), 0, by rw [if_neg e]; exact ⟨rfl, rfl⟩, by rw [if_pos rfl]; exact ⟨rfl, rfl⟩⟩, (h.f (by omega)).b⟩
theorem b_single {k : Int32} (h : cB Q) : Tg (fun Q' _ => cB Q') (E_r_single J g Q k) := g_ex (b_add h) (fun Q1 r2 _ h1 => g_ret (h1.f (by omega)))
theorem b_body {k x : Int32} (h : cB Q) : Tg (fun Q' _ => cB Q') (E_r_withBody J g Q k x) := g_ex (b_single h) (fun Q1 r2 _ h1 => g_and h1.1 (g_ret (h1.n (by omega))))
theorem b_seq {CH : CT} {a1 a2 : Int32} (h : cB Q) : Tg (fun Q' _ => cB Q') (E_r_sequence J g CH Q a1 a2) := by
  refine g_ex (b_add h) (fun Q1 r2 _ h1 => g_nf (n := 1) ?_)
  refine g_eq (fun S r => L_r_sequence_13.eq_2 J g CH Q1 a1 a2 r2 r2 0 S r 0) ?_
  exact g_if (fun _ => g_and h1.1 (g_ret (h1.n (by omega)))) (fun _ => g_if (fun z => absurd (h1.2.1.symm.trans z) (by decide)) (fun _ => g_and h1.1 (g_ret (h1.n (by omega)))))
theorem b_choice {CH : CT} {a1 a2 : Int32} (h : cB Q) : Tg (fun Q' _ => cB Q') (E_r_choice J g CH Q a1 a2) := by
  refine g_ex (b_seq h) (fun Q1 r2 _ h1 => g_nf (n := 1) ?_)
  refine g_eq (fun S r => L_r_choice_13.eq_2 J g CH Q1 a1 a2 r2 r2 0 S r 0) ?_
  exact g_if (fun _ => g_ret h1) (fun _ => g_if (fun z => absurd (h1.2.1.symm.trans z) (by decide)) (fun _ => g_ret h1))
def ChB (CH : CT) : Prop := ∀ Q a1 a2, cB Q → Tg (fun Q' _ => cB Q') (CH Q a1 a2)
theorem b_closed {CH : CT} {a1 a2 : Int32} (hC : ChB CH) (h : cB Q) : Tg (fun Q' _ => cB Q') (E_r_closedChoice J g CH Q a1 a2) := g_ex (hC _ _ _ h) (fun Q1 r2 _ h1 => g_exv (b_exp h1) (fun Q3 _ h3 => g_ret h3))
theorem b_refuse (h : cB Q) : Tg (fun Q' _ => cB Q') (E_r_refuse J g Q) := g_ret (h.b.f (by omega))
theorem CHk_B : ∀ (k : Nat), 1 ≤ k → ChB (CHk J g k)
  | 0, h => absurd h (by omega)
  | k + 1, _ => fun Q a1 a2 h => by
    show Tg (fun Q' _ => cB Q') (E_r_choice J g (CHk J g k) Q a1 a2)
    exact b_choice h
end TB
/-! the pure reader's places alone -/
def lopA (X : Nat → Int32) (N : Nat) (bh : Bool) (a : Nat) : Option Nat := (lopQ X N bh a).map Prod.fst
def atmA (X : Nat → Int32) (N o : Nat) (bh : Bool) (a : Nat) : Option Nat := (atmP X N o bh a).map Prod.fst
abbrev BrA : Type := Bool → Nat → Nat → Option (Nat × Nat)
def pieA (br : BrA) (X : Nat → Int32) (N : Nat) (bh : Bool) (o a : Nat) : Option (Nat × Nat) :=
  if pk X N a = 40 then (match br bh o a with | none => none | some (o2, a2) => (lopA X N bh a2).map (fun a3 => (o2, a3)))
  else (match atmA X N o bh a with | none => none | some a1 => (lopA X N bh a1).map (fun a2 => (o, a2)))
def lgA (br : BrA) (X : Nat → Int32) (N : Nat) (bh : Bool) : Nat → Nat → Nat → Option (Nat × Nat)
  | 0, _, _ => none
  | f + 1, o, a => if N ≤ a then some (o, a) else if pk X N a = 124 then lgA br X N bh f o (a + 1) else if pk X N a = 41 then some (o, a)
    else (match pieA br X N bh o a with | none => none | some (o2, a2) => lgA br X N bh f o2 a2)
def brA (sub : BrA) (X : Nat → Int32) (N : Nat) : BrA := fun bh o a => match hdP X N o a with
  | none => none
  | some (kd, sk) => match sub (bhK bh kd) (if kd = 8 then o + 1 else o) (a + sk) with
    | none => none
    | some (o2, a2) => if a2 < N then some (o2, a2 + 1) else none
def lvB (X : Nat → Int32) (N : Nat) : Nat → BrA
  | 0 => fun _ _ _ => none
  | k + 1 => brA (fun bh o a => lgA (lvB X N k) X N bh 16 o a) X N
def lvA (X : Nat → Int32) (N k : Nat) : BrA := fun bh o a => lgA (lvB X N k) X N bh 16 o a
def pj {A : Type} (w : Nat × Nat × A) : Nat × Nat := (w.1, w.2.1)
theorem lg_pj {A : Type} {mk : Lf → A} {br : Bool → Nat → Nat → Option (Nat × Nat × A)} {br' : BrA} {X : Nat → Int32} {N : Nat} {bh : Bool} (hb : ∀ bh o a, (br bh o a).map pj = br' bh o a) : ∀ (f o a : Nat) (as : List (List (A × Option Lp))) (xs : List (A × Option Lp)), (pLg mk br X N bh f o a as xs).map pj = lgA br' X N bh f o a
  | 0, _, _, _, _ => rfl
  | f + 1, o, a, as, xs => by
    unfold pLg lgA
    by_cases c0 : N ≤ a
    · rw [if_pos c0, if_pos c0]; rfl
    · rw [if_neg c0, if_neg c0]
      by_cases c1 : pk X N a = 124
      · rw [if_pos c1, if_pos c1]; exact lg_pj hb f _ _ _ _
      · rw [if_neg c1, if_neg c1]
        unfold pieA
        by_cases c2 : pk X N a = 40
        · rw [if_pos c2, if_pos c2, if_neg (by rw [c2]; decide), ← hb]
          cases e : br bh o a with
          | none => rfl
          | some w =>
            obtain ⟨o2, a2, y⟩ := w
            show Option.map pj (match lopQ X N bh a2 with | none => none | some (a3, l) => pLg mk br X N bh f o2 a3 as (xs ++ [(y, l)])) = match Option.map (fun a3 => (o2, a3)) ((lopQ X N bh a2).map Prod.fst) with | none => none | some (o2, a2) => lgA br' X N bh f o2 a2
            cases e2 : lopQ X N bh a2 with
            | none => rfl
            | some w2 => exact lg_pj hb f _ _ _ _
        · rw [if_neg c2, if_neg c2]
          by_cases c3 : pk X N a = 41
          · rw [if_pos c3, if_pos c3]; rfl
          · rw [if_neg c3, if_neg c3]
            unfold atmA
            cases e : atmP X N o bh a with
            | none => rfl
            | some w =>
              obtain ⟨a1, lf⟩ := w
              show Option.map pj (match lopQ X N bh a1 with | none => none | some (a2, l) => pLg mk br X N bh f o a2 as (xs ++ [(mk lf, l)])) = match Option.map (fun a2 => (o, a2)) ((lopQ X N bh a1).map Prod.fst) with | none => none | some (o2, a2) => lgA br' X N bh f o2 a2
              cases e2 : lopQ X N bh a1 with
              | none => rfl
              | some w2 => exact lg_pj hb f _ _ _ _
theorem lv_pj {X : Nat → Int32} {N : Nat} : ∀ (k : Nat) (bh : Bool) (o a : Nat), (pLv X N k bh o a).map pj = lvA X N k bh o a
  | 0, bh, o, a => lg_pj (fun _ _ _ => rfl) 16 o a [] []
  | k + 1, bh, o, a => by
    refine lg_pj (fun bh o a => ?_) 16 o a [] []
    show Option.map pj (brP (pLv X N k) X N bh o a) = brA (fun bh o a => lgA (lvB X N k) X N bh 16 o a) X N bh o a
    unfold brP brA
    cases e : hdP X N o a with
    | none => rfl
    | some w =>
      obtain ⟨kd, sk⟩ := w
      dsimp only
      have ih : (pLv X N k (bhK bh kd) (if kd = 8 then o + 1 else o) (a + sk)).map pj = lgA (lvB X N k) X N (bhK bh kd) 16 (if kd = 8 then o + 1 else o) (a + sk) := lv_pj k _ _ _
      rw [← ih]
      cases e2 : pLv X N k (bhK bh kd) (if kd = 8 then o + 1 else o) (a + sk) with
      | none => rfl
      | some w2 =>
        obtain ⟨o2, a2, c⟩ := w2
        dsimp only [Option.map, pj]
        by_cases c0 : a2 < N
        · rw [if_pos c0, if_pos c0]
        · rw [if_neg c0, if_neg c0]
