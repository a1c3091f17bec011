/-! what the reference knows: rows, tree, match, made, pieces -/
abbrev VS : Type := (Nat → Int32) × (Nat → Nat) × Option (Nat × Ch 4) × Option Sp × List Int32 × List (Nat × Nat)
def RVa (R : RS) (X : Nat → Int32) (n : Nat → Nat) : Prop := R.2.1 1 = X ∧ (∀ r, r < 3 → R.2.1 2 r = nI (n r)) ∧ n 0 ≤ 14 ∧ n 1 ≤ 8 ∧ n 2 ≤ 8 ∧ ∀ r i, r < 3 → i < n r → ∃ c, 32 ≤ c ∧ c ≤ 126 ∧ X (14 * r + i) = nI c
def RVc (R : RS) (cp : Option (Nat × Ch 4)) : Prop := NdR R ∧ ∃ β, R.1 3 = nI β ∧ (β = 0 ∨ β = 48) ∧ match cp with
  | none => R.1 7 = 0
  | some (g, c) => R.1 7 = 1 ∧ R.1 5 = nI g ∧ g ≤ 4 ∧ TreeL R β c
def RVm (R : RS) (cp : Option (Nat × Ch 4)) (mt : Option Sp) : Prop := match mt with
  | none => R.1 41 = 0
  | some σ => R.1 41 = 1 ∧ cp ≠ none ∧ ∀ k, k < 10 → R.2.1 42 k = σ k
def RVd (R : RS) (md : List Int32) : Prop := R.1 43 = nI md.length ∧ md.length ≤ 400 ∧ ∀ i x, md[i]? = some x → R.2.1 44 i = x ∧ ∃ c, 32 ≤ c ∧ c ≤ 126 ∧ x = nI c
def RVp (R : RS) (pc : List (Nat × Nat)) : Prop := R.1 45 = nI pc.length ∧ pc.length ≤ 12 ∧ ∀ i x, pc[i]? = some x → R.2.1 46 i = nI x.1 ∧ R.2.1 47 i = nI x.2
def RV (R : RS) (V : VS) : Prop := RVa R V.1 V.2.1 ∧ RVc R V.2.2.1 ∧ RVm R V.2.2.1 V.2.2.2.1 ∧ RVd R V.2.2.2.2.1 ∧ RVp R V.2.2.2.2.2
section TO
variable {R R' : RS}
theorem RVa.to {X : Nat → Int32} {n : Nat → Nat} (h : RVa R X n) (h1 : R'.2.1 1 = R.2.1 1) (h2 : R'.2.1 2 = R.2.1 2) : RVa R' X n := ⟨h1.trans h.1, fun r hr => by rw [h2]; exact h.2.1 r hr, h.2.2⟩
theorem RVc.to {cp : Option (Nat × Ch 4)} (h : RVc R cp) (h1 : ∀ k, 8 ≤ k → k ≤ 13 → R'.2.1 k = R.2.1 k) (h2 : R'.2.2 = R.2.2) (h3 : ∀ k, k = 3 ∨ k = 5 ∨ k = 7 → R'.1 k = R.1 k) : RVc R' cp := by
  obtain ⟨nd, β, a1, a2, a3⟩ := h
  refine ⟨fun j hj => nd_eq (fun k k1 k2 => by rw [h1 k k1 k2]) (nd j hj), β, by rw [h3 3 (by omega)]; exact a1, a2, ?_⟩
  cases cp with
  | none => show R'.1 7 = 0; rw [h3 7 (by omega)]; exact a3
  | some w =>
    obtain ⟨g, c⟩ := w
    obtain ⟨b1, b2, b3, b4⟩ := a3
    exact ⟨by rw [h3 7 (by omega)]; exact b1, by rw [h3 5 (by omega)]; exact b2, b3, b4.fr (fun j _ _ => ⟨⟨fun k k1 k2 => by rw [h1 k k1 (by omega)], by rw [h2], by rw [h2]⟩, by rw [h1 13 (by omega) (by omega)]⟩)⟩
theorem RVm.to {cp : Option (Nat × Ch 4)} {mt : Option Sp} (h : RVm R cp mt) (h1 : R'.1 41 = R.1 41) (h2 : R'.2.1 42 = R.2.1 42) : RVm R' cp mt := by
  cases mt with
  | none => show R'.1 41 = 0; rw [h1]; exact h
  | some σ => exact ⟨by rw [h1]; exact h.1, h.2.1, fun k hk => by rw [h2]; exact h.2.2 k hk⟩
theorem RVd.to {md : List Int32} (h : RVd R md) (h1 : R'.1 43 = R.1 43) (h2 : R'.2.1 44 = R.2.1 44) : RVd R' md := ⟨h1.trans h.1, h.2.1, fun i x hx => by rw [h2]; exact h.2.2 i x hx⟩
theorem RVp.to {pc : List (Nat × Nat)} (h : RVp R pc) (h1 : R'.1 45 = R.1 45) (h2 : R'.2.1 46 = R.2.1 46) (h3 : R'.2.1 47 = R.2.1 47) : RVp R' pc := ⟨h1.trans h.1, h.2.1, fun i x hx => by rw [h2, h3]; exact h.2.2 i x hx⟩
/-- only code has changed -/
theorem RV.code {V : VS} {x : Int32} (h : RV R V) : RV (mf R 0 x) V := ⟨h.1.to rfl rfl, h.2.1.to (fun _ _ _ => rfl) rfl (fun k hk => by rw [mf_at, if_neg (by omega)]), h.2.2.1.to rfl rfl, h.2.2.2.1.to rfl rfl, h.2.2.2.2.to rfl rfl rfl⟩
theorem RV.sm {V : VS} (h : RV R V) (s : SmR R R') : RV R' V := ⟨h.1.to (s.2.1 1 (by omega)) (s.2.1 2 (by omega)), h.2.1.to (fun k k1 k2 => s.2.1 k (by omega)) s.2.2 (fun k hk => s.1 k (by omega)), h.2.2.1.to (s.1 41 (by omega)) (s.2.1 42 (by omega)), h.2.2.2.1.to (s.1 43 (by omega)) (s.2.1 44 (by omega)), h.2.2.2.2.to (s.1 45 (by omega)) (s.2.1 46 (by omega)) (s.2.1 47 (by omega))⟩
end TO
/-! type, clear, length -/
section SIM
variable {R : RS} {V : VS}
def i3N (a1 : Int32) : Option Nat := if a1 = 0 then some 0 else if a1 = 1 then some 1 else if a1 = 2 then some 2 else none
theorem i3_some {a1 : Int32} {r : Nat} (h : i3N a1 = some r) : r < 3 ∧ a1 = nI r := by
  unfold i3N at h
  by_cases c0 : a1 = 0
  · rw [if_pos c0] at h; cases h; exact ⟨by omega, c0⟩
  · rw [if_neg c0] at h
    by_cases c1 : a1 = 1
    · rw [if_pos c1] at h; cases h; exact ⟨by omega, c1⟩
    · rw [if_neg c1] at h
      by_cases c2 : a1 = 2
      · rw [if_pos c2] at h; cases h; exact ⟨by omega, c2⟩
      · rw [if_neg c2] at h; cases h
theorem i3_none {a1 : Int32} (h : i3N a1 = none) : a1 < 0 ∨ 2 < a1 := by
  unfold i3N at h
  by_cases c0 : a1 = 0
  · rw [if_pos c0] at h; cases h
  · rw [if_neg c0] at h
    by_cases c1 : a1 = 1
    · rw [if_pos c1] at h; cases h
    · rw [if_neg c1] at h
      by_cases c2 : a1 = 2
      · rw [if_pos c2] at h; cases h
      · rw [Int32.lt_iff_toInt_lt, Int32.lt_iff_toInt_lt]
        have z0 : a1.toInt ≠ 0 := fun z => c0 (Int32.toInt_inj.mp z)
        have z1 : a1.toInt ≠ 1 := fun z => c1 (Int32.toInt_inj.mp z)
        have z2 : a1.toInt ≠ 2 := fun z => c2 (Int32.toInt_inj.mp z)
        have e0 : (0 : Int32).toInt = 0 := rfl
        have e2 : (2 : Int32).toInt = 2 := rfl
        omega
theorem nr_lt {r : Nat} (h : r < 3) : ¬ nI r < 0 ∧ ¬ (2 : Int32) < nI r ∧ nI r ≤ 2 := by
  refine ⟨fun z => ?_, fun z => ?_, ?_⟩
  · have := (n_lt (a := r) (b := 0) (by omega) (by omega)).mp z; omega
  · have := (n_lt (a := 2) (b := r) (by omega) (by omega)).mp z; omega
  · exact (n_le (a := r) (b := 2) (by omega) (by omega)).mpr (by omega)
def roomN (r : Nat) : Nat := if r = 0 then 14 else 8
def tyB (V : VS) (a1 a2 : Int32) : Option Nat := match i3N a1 with
  | none => none
  | some r => if a2 < 32 then none else if 126 < a2 then none else if V.2.1 r = roomN r then none else some r
def tyV (V : VS) (r : Nat) (a2 : Int32) : VS := (upd V.1 (14 * r + V.2.1 r) a2, fun k => if k = r then V.2.1 r + 1 else V.2.1 k, V.2.2.1, if r = 1 then none else V.2.2.2.1, V.2.2.2.2)
theorem RV.rmx {r : Nat} (h : RV R V) (hr : r < 3) : V.2.1 r ≤ roomN r ∧ roomN r ≤ 14 := by
  obtain ⟨⟨-, -, h0, h1, h2, -⟩, -⟩ := h
  unfold roomN
  rcases (show r = 0 ∨ r = 1 ∨ r = 2 by omega) with z | z | z <;> subst z <;> simp <;> omega
theorem c_nat {a2 : Int32} (h1 : ¬ a2 < 32) (h2 : ¬ 126 < a2) : ∃ c, 32 ≤ c ∧ c ≤ 126 ∧ a2 = nI c := by
  rw [Int32.lt_iff_toInt_lt] at h1 h2
  have e1 : (32 : Int32).toInt = 32 := rfl
  have e2 : (126 : Int32).toInt = 126 := rfl
  refine ⟨a2.toInt.toNat, by omega, by omega, ?_⟩
  apply Int32.toInt_inj.mp
  rw [nI_toInt (by omega)]; omega
theorem type_E (h : RV R V) (a1 a2 : Int32) : match tyB V a1 a2 with
    | none => E_type R a1 a2 (mf R 0 0) 0
    | some r => r < 3 ∧ a1 = nI r ∧ V.2.1 r < roomN r ∧ (∃ c, 32 ≤ c ∧ c ≤ 126 ∧ a2 = nI c) ∧ ∃ R', E_type R a1 a2 R' 1 ∧ RV R' (tyV V r a2) := by
  unfold tyB
  cases e : i3N a1 with
  | none =>
    show E_type R a1 a2 (mf R 0 0) 0
    unfold E_type
    rcases i3_none e with z | z
    · rw [if_pos z]; exact ⟨rfl, rfl⟩
    · by_cases y : a1 < 0
      · rw [if_pos y]; exact ⟨rfl, rfl⟩
      · rw [if_neg y, if_pos z]; exact ⟨rfl, rfl⟩
  | some r =>
    obtain ⟨hr, e1⟩ := i3_some e
    have lt := nr_lt hr
    have rm := h.rmx hr
    dsimp only
    have go : ∀ R' x, (if a2 < 32 then (R' = (mf R 0 0) ∧ x = 0) else (if 126 < a2 then (R' = (mf R 0 0) ∧ x = 0) else (if V.2.1 r = roomN r then (R' = (mf R 0 0) ∧ x = 0) else (R' = (if r = 1 then mf (ma (ma (mf R 0 0) 1 (14 * r + V.2.1 r) a2) 2 r (nI (V.2.1 r + 1))) 41 0 else ma (ma (mf R 0 0) 1 (14 * r + V.2.1 r) a2) 2 r (nI (V.2.1 r + 1))) ∧ x = 1)))) → E_type R a1 a2 R' x := fun R' x hh => by
      unfold E_type
      rw [e1, if_neg lt.1, if_neg lt.2.1]
      by_cases c1 : a2 < 32
      · rw [if_pos c1] at hh ⊢; exact hh
      · rw [if_neg c1] at hh ⊢
        by_cases c2 : 126 < a2
        · rw [if_pos c2] at hh ⊢; exact hh
        · rw [if_neg c2] at hh ⊢
          have v3 : vp_in (nI r) 3 := v_in hr (by omega)
          have cl : (nI r).toNatClampNeg = r := n_cl (by omega)
          have er : (if nI r = 0 then 14 else 8 : Int32) = nI (roomN r) := by
            unfold roomN
            by_cases z : r = 0
            · subst z; rfl
            · rw [if_neg z, if_neg (show ¬ nI r = 0 from fun y => z ((n_eq (b := 0) (by omega) (by omega)).mp y))]; rfl
          refine ⟨v3, nI (roomN r), er.symm, ?_⟩
          rw [cl, h.1.2.1 r hr]
          by_cases c3 : V.2.1 r = roomN r
          · rw [if_pos c3] at hh
            rw [if_pos (by rw [c3])]; exact hh
          · rw [if_neg c3] at hh
            rw [if_neg (fun z => c3 ((n_eq (by omega) (by omega)).mp z))]
            have ex : 14 * nI r + nI (V.2.1 r) = nI (14 * r + V.2.1 r) := by
              rw [show (14 : Int32) = nI 14 from rfl, n_mul, n_add]
            have bd : 14 * r + V.2.1 r < 42 := by
              have : roomN r = 14 ∧ r = 0 ∨ roomN r = 8 := by
                unfold roomN
                by_cases z : r = 0
                · exact Or.inl ⟨if_pos z, z⟩
                · exact Or.inr (if_neg z)
              omega
            rw [ex, n_cl (by omega), show nI (V.2.1 r) + 1 = nI (V.2.1 r + 1) from (nI_succ _).symm]
            refine ⟨v3, v_in bd (by omega), v3, v3, ?_⟩
            by_cases c4 : r = 1
            · rw [if_pos c4] at hh
              rw [if_pos (by rw [c4]; rfl)]; exact hh
            · rw [if_neg c4] at hh
              rw [if_neg (show ¬ nI r = 1 from fun z => c4 ((n_eq (b := 1) (by omega) (by omega)).mp z))]; exact hh
    by_cases c1 : a2 < 32
    · rw [if_pos c1]
      refine go _ _ ?_
      rw [if_pos c1]; exact ⟨rfl, rfl⟩
    · rw [if_neg c1]
      by_cases c2 : 126 < a2
      · rw [if_pos c2]
        refine go _ _ ?_
        rw [if_neg c1, if_pos c2]; exact ⟨rfl, rfl⟩
      · rw [if_neg c2]
        by_cases c3 : V.2.1 r = roomN r
        · rw [if_pos c3]
          refine go _ _ ?_
          rw [if_neg c1, if_neg c2, if_pos c3]; exact ⟨rfl, rfl⟩
        · rw [if_neg c3]
          obtain ⟨ch, ch1, ch2, ch3⟩ := c_nat c1 c2
          refine ⟨hr, e1, by omega, ⟨ch, ch1, ch2, ch3⟩, _, go _ _ (by rw [if_neg c1, if_neg c2, if_neg c3]; exact ⟨rfl, rfl⟩), ?_⟩
          have hroom : ∀ q, q < 3 → 14 * q + V.2.1 q ≤ 14 * q + 14 := fun q hq => by have := h.rmx hq; omega
          have h1 : RVa (ma (ma (mf R 0 0) 1 (14 * r + V.2.1 r) a2) 2 r (nI (V.2.1 r + 1))) (tyV V r a2).1 (tyV V r a2).2.1 := by
            obtain ⟨⟨a1, a2', a3, a4, a5, a6⟩, -⟩ := h
            have rmr : roomN 0 = 14 ∧ roomN 1 = 8 ∧ roomN 2 = 8 := ⟨rfl, rfl, rfl⟩
            have nk : ∀ k, k < 3 → (tyV V r a2).2.1 k ≤ roomN k := fun k hk => by
              show (if k = r then V.2.1 r + 1 else V.2.1 k) ≤ _
              by_cases z : k = r
              · rw [if_pos z, z]; omega
              · rw [if_neg z]
                rcases (show k = 0 ∨ k = 1 ∨ k = 2 by omega) with y | y | y <;> subst y <;> first | exact a3 | exact a4 | exact a5
            refine ⟨?_, fun k hk => ?_, nk 0 (by omega), nk 1 (by omega), nk 2 (by omega), fun k i hk hi => ?_⟩
            · funext j
              rw [ma_at, if_neg (by omega), ma_at]
              show _ = upd V.1 (14 * r + V.2.1 r) a2 j
              unfold upd
              by_cases z : j = 14 * r + V.2.1 r
              · rw [if_pos ⟨rfl, z⟩, if_pos z]
              · rw [if_neg (fun y => z y.2), if_neg z]; rw [← a1]; rfl
            · rw [ma_at]
              show _ = nI (if k = r then V.2.1 r + 1 else V.2.1 k)
              by_cases z : k = r
              · rw [if_pos ⟨rfl, z⟩, if_pos z]
              · rw [if_neg (fun y => z y.2), if_neg z, ma_at, if_neg (by omega)]; exact a2' k hk
            · show ∃ c, 32 ≤ c ∧ c ≤ 126 ∧ upd V.1 (14 * r + V.2.1 r) a2 (14 * k + i) = nI c
              unfold upd
              have hi' : i < (if k = r then V.2.1 r + 1 else V.2.1 k) := hi
              by_cases z : 14 * k + i = 14 * r + V.2.1 r
              · rw [if_pos z]; exact ⟨ch, ch1, ch2, ch3⟩
              · rw [if_neg z]
                by_cases y : k = r
                · rw [if_pos y] at hi'
                  subst y
                  exact a6 k i hk (by omega)
                · rw [if_neg y] at hi'
                  exact a6 k i hk hi'
          obtain ⟨g1, g2, g3, g4, g5⟩ := h
          have at' : ∀ k, k ≠ 1 → k ≠ 2 → (ma (ma (mf R 0 0) 1 (14 * r + V.2.1 r) a2) 2 r (nI (V.2.1 r + 1))).2.1 k = R.2.1 k := fun k k1 k2 => by
            funext j; rw [ma_at, if_neg (by omega), ma_at, if_neg (by omega)]; rfl
          have f' : ∀ k, k ≠ 0 → (ma (ma (mf R 0 0) 1 (14 * r + V.2.1 r) a2) 2 r (nI (V.2.1 r + 1))).1 k = R.1 k := fun k k0 => by
            show (if k = 0 then _ else R.1 k) = _; rw [if_neg k0]
          by_cases z : r = 1
          · rw [if_pos z]
            refine ⟨h1.to rfl rfl, (g2.to (R' := mf (ma (ma (mf R 0 0) 1 (14 * r + V.2.1 r) a2) 2 r (nI (V.2.1 r + 1))) 41 0) (fun k k1 k2 => at' k (by omega) (by omega)) rfl (fun k hk => by rw [mf_at, if_neg (by omega), f' k (by omega)])), ?_, g4.to (by rw [mf_at, if_neg (by omega), f' 43 (by omega)]) (at' 44 (by omega) (by omega)), g5.to (by rw [mf_at, if_neg (by omega), f' 45 (by omega)]) (at' 46 (by omega) (by omega)) (at' 47 (by omega) (by omega))⟩
            show RVm _ _ (if r = 1 then none else _)
            rw [if_pos z]; rfl
          · rw [if_neg z]
            refine ⟨h1, g2.to (fun k k1 k2 => at' k (by omega) (by omega)) rfl (fun k hk => f' k (by omega)), ?_, g4.to (f' 43 (by omega)) (at' 44 (by omega) (by omega)), g5.to (f' 45 (by omega)) (at' 46 (by omega) (by omega)) (at' 47 (by omega) (by omega))⟩
            show RVm _ _ (if r = 1 then none else _)
            rw [if_neg z]
            exact g3.to (f' 41 (by omega)) (at' 42 (by omega) (by omega))
def clV (V : VS) (r : Nat) : VS := (V.1, fun k => if k = r then 0 else V.2.1 k, V.2.2.1, if r = 1 then none else V.2.2.2.1, V.2.2.2.2)
theorem clear_E (h : RV R V) (a1 : Int32) : match i3N a1 with
    | none => E_clear R a1 (mf R 0 0) 0
    | some r => r < 3 ∧ a1 = nI r ∧ ∃ R', E_clear R a1 R' 1 ∧ RV R' (clV V r) := by
  cases e : i3N a1 with
  | none =>
    show E_clear R a1 (mf R 0 0) 0
    unfold E_clear
    rcases i3_none e with z | z
    · rw [if_pos z]; exact ⟨rfl, rfl⟩
    · by_cases y : a1 < 0
      · rw [if_pos y]; exact ⟨rfl, rfl⟩
      · rw [if_neg y, if_neg (fun w => by rw [Int32.le_iff_toInt_le] at w; rw [Int32.lt_iff_toInt_lt] at z; omega)]; exact ⟨rfl, rfl⟩
  | some r =>
    obtain ⟨hr, e1⟩ := i3_some e
    have lt := nr_lt hr
    refine ⟨hr, e1, (if r = 1 then mf (ma (mf R 0 0) 2 r 0) 41 0 else ma (mf R 0 0) 2 r 0), ?_, ?_⟩
    · unfold E_clear
      rw [e1, if_neg lt.1, if_pos lt.2.2, n_cl (by omega)]
      refine ⟨v_in hr (by omega), ?_⟩
      by_cases c4 : r = 1
      · rw [if_pos c4, if_pos (by rw [c4]; rfl)]; exact ⟨rfl, rfl⟩
      · rw [if_neg c4, if_neg (show ¬ nI r = 1 from fun z => c4 ((n_eq (b := 1) (by omega) (by omega)).mp z))]; exact ⟨rfl, rfl⟩
    · have h1 : RVa (ma (mf R 0 0) 2 r 0) (clV V r).1 (clV V r).2.1 := by
        obtain ⟨⟨a1, a2', a3, a4, a5, a6⟩, -⟩ := h
        have nk : ∀ k, (clV V r).2.1 k ≤ V.2.1 k := fun k => by
          show (if k = r then 0 else V.2.1 k) ≤ _
          by_cases z : k = r
          · rw [if_pos z]; omega
          · rw [if_neg z]; omega
        have n0 := nk 0
        have n1 := nk 1
        have n2 := nk 2
        refine ⟨?_, fun k hk => ?_, by omega, by omega, by omega, fun k i hk hi => a6 k i hk (by have := nk k; omega)⟩
        · rw [← show R.2.1 1 = (clV V r).1 from a1]
          funext j
          rw [ma_at, if_neg (by omega)]; rfl
        · rw [ma_at]
          show _ = nI (if k = r then 0 else V.2.1 k)
          by_cases z : k = r
          · rw [if_pos ⟨rfl, z⟩, if_pos z]; rfl
          · rw [if_neg (fun y => z y.2), if_neg z]; exact a2' k hk
      obtain ⟨g1, g2, g3, g4, g5⟩ := h
      have at' : ∀ k, k ≠ 2 → (ma (mf R 0 0) 2 r 0).2.1 k = R.2.1 k := fun k k2 => by
        funext j; rw [ma_at, if_neg (by omega)]; rfl
      have f' : ∀ k, k ≠ 0 → (ma (mf R 0 0) 2 r 0).1 k = R.1 k := fun k k0 => by
        show (if k = 0 then _ else R.1 k) = _; rw [if_neg k0]
      by_cases z : r = 1
      · rw [if_pos z]
        refine ⟨h1.to rfl rfl, (g2.to (R' := mf (ma (mf R 0 0) 2 r 0) 41 0) (fun k k1 k2 => at' k (by omega)) rfl (fun k hk => by rw [mf_at, if_neg (by omega), f' k (by omega)])), ?_, g4.to (by rw [mf_at, if_neg (by omega), f' 43 (by omega)]) (at' 44 (by omega)), g5.to (by rw [mf_at, if_neg (by omega), f' 45 (by omega)]) (at' 46 (by omega)) (at' 47 (by omega))⟩
        show RVm _ _ (if r = 1 then none else _)
        rw [if_pos z]; rfl
      · rw [if_neg z]
        refine ⟨h1, g2.to (fun k k1 k2 => at' k (by omega)) rfl (fun k hk => f' k (by omega)), ?_, g4.to (f' 43 (by omega)) (at' 44 (by omega)), g5.to (f' 45 (by omega)) (at' 46 (by omega)) (at' 47 (by omega))⟩
        show RVm _ _ (if r = 1 then none else _)
        rw [if_neg z]
        exact g3.to (f' 41 (by omega)) (at' 42 (by omega))
theorem length_E (h : RV R V) (a1 : Int32) : E_length R a1 (mf R 0 0) (match i3N a1 with | none => -1 | some r => nI (V.2.1 r)) := by
  cases e : i3N a1 with
  | none =>
    show E_length R a1 (mf R 0 0) (-1)
    unfold E_length
    rcases i3_none e with z | z
    · rw [if_pos z]; exact ⟨rfl, rfl⟩
    · by_cases y : a1 < 0
      · rw [if_pos y]; exact ⟨rfl, rfl⟩
      · rw [if_neg y, if_neg (fun w => by rw [Int32.le_iff_toInt_le] at w; rw [Int32.lt_iff_toInt_lt] at z; omega)]; exact ⟨rfl, rfl⟩
  | some r =>
    obtain ⟨hr, e1⟩ := i3_some e
    have lt := nr_lt hr
    show E_length R a1 (mf R 0 0) (nI (V.2.1 r))
    unfold E_length
    rw [e1, if_neg lt.1, if_pos lt.2.2, n_cl (by omega)]
    exact ⟨v_in hr (by omega), rfl, (h.1.2.1 r hr).symm⟩
theorem compile_E (h : RV R V) : match pRd V.1 (V.2.1 0) with
    | none => ∃ R', E_compile R R' 0 ∧ RV R' V ∧ R'.1 0 = 1
    | some (g, c) => g ≤ 4 ∧ wfC (wfA 4) c ∧ szC (szA 4) c ≤ 14 ∧ ∃ R', E_compile R R' (nI g) ∧ RV R' (V.1, V.2.1, some (g, c), none, V.2.2.2.2) ∧ R'.1 0 = 0 := by
  obtain ⟨g1, ⟨nd, β, b1, b2, b3⟩, g3, g4, g5⟩ := h
  have hX : Xok V.1 (V.2.1 0) := fun i hi => by
    have := g1.2.2.2.2.2 0 i (by omega) hi
    rw [show 14 * 0 + i = i by omega] at this; exact this
  have rd := rd_E (R := mf R 0 0) (X := V.1) (N := V.2.1 0) (β := β) g1.1 (g1.2.1 0 (by omega)) g1.2.2.1 b1 b2 hX nd
  cases e : pRd V.1 (V.2.1 0) with
  | none =>
    rw [e] at rd
    obtain ⟨R1, r1, r2, r3⟩ := rd
    have fk : ∀ k, k ≠ 0 → k ≠ 4 → k ≠ 6 → k ≠ 16 → k ≠ 17 → (mf R1 0 1).1 k = R.1 k := fun k k0 k1 k2 k3 k4 => by
      rw [mf_at, if_neg k0, r2.1 k k1 k2 k3 k4, mf_at, if_neg k0]
    have rk : ∀ k, k < 8 ∨ (13 < k ∧ k < 18) ∨ 22 < k → (mf R1 0 1).2.1 k = R.2.1 k := fun k hk => by
      funext j; exact r2.2.1 k j hk
    refine ⟨mf R1 0 1, ⟨R1, 0, r1, ?_⟩, ⟨g1.to (rk 1 (by omega)) (rk 2 (by omega)), ⟨r3, β, by rw [fk 3 (by omega) (by omega) (by omega) (by omega) (by omega)]; exact b1, b2, ?_⟩, g3.to (fk 41 (by omega) (by omega) (by omega) (by omega) (by omega)) (rk 42 (by omega)), g4.to (fk 43 (by omega) (by omega) (by omega) (by omega) (by omega)) (rk 44 (by omega)), g5.to (fk 45 (by omega) (by omega) (by omega) (by omega) (by omega)) (rk 46 (by omega)) (rk 47 (by omega))⟩, rfl⟩
    · rw [if_pos rfl]
      exact ⟨_, _, ⟨rfl, rfl⟩, rfl, rfl⟩
    · cases ec : V.2.2.1 with
      | none => rw [ec] at b3; show (mf R1 0 1).1 7 = 0; rw [fk 7 (by omega) (by omega) (by omega) (by omega) (by omega)]; exact b3
      | some w =>
        obtain ⟨g, c⟩ := w
        rw [ec] at b3
        obtain ⟨d1, d2, d3, d4⟩ := b3
        exact ⟨by rw [fk 7 (by omega) (by omega) (by omega) (by omega) (by omega)]; exact d1, by rw [fk 5 (by omega) (by omega) (by omega) (by omega) (by omega)]; exact d2, d3, d4.fr (r2.Ag b2)⟩
  | some w =>
    obtain ⟨g, c⟩ := w
    rw [e] at rd
    obtain ⟨R1, r1, r2, r3, r4, r5, r6⟩ := rd
    have sz := r6
    obtain ⟨hi, s1, s2, s3, s4⟩ := sz
    have b13 : R1.1 3 = nI β := by rw [r2.1 3 (by omega) (by omega) (by omega) (by omega)]; exact b1
    have rk : ∀ k, k < 8 ∨ (13 < k ∧ k < 18) ∨ 22 < k → R1.2.1 k = R.2.1 k := fun k hk => by
      funext j; exact r2.2.1 k j hk
    have fk : ∀ k, k ≠ 0 → k ≠ 3 → k ≠ 4 → k ≠ 5 → k ≠ 6 → k ≠ 7 → k ≠ 16 → k ≠ 17 → k ≠ 41 → (mf (mf (mf (mf R1 3 (nI (48 - β))) 5 (nI g)) 7 1) 41 0).1 k = R.1 k := fun k k0 k3 k4 k5 k6 k7 k16 k17 k41 => by
      rw [mf_at, if_neg k41, mf_at, if_neg k7, mf_at, if_neg k5, mf_at, if_neg k3, r2.1 k k4 k6 k16 k17, mf_at, if_neg k0]
    refine ⟨r5, s3, s4, mf (mf (mf (mf R1 3 (nI (48 - β))) 5 (nI g)) 7 1) 41 0, ⟨R1, 1, r1, ?_⟩, ⟨g1.to (rk 1 (by omega)) (rk 2 (by omega)), ⟨r3, 48 - β, rfl, by omega, rfl, rfl, r5, r6.fr (fun _ _ _ => ⟨⟨fun _ _ _ => rfl, rfl, rfl⟩, rfl⟩)⟩, rfl, g4.to (fk 43 (by omega) (by omega) (by omega) (by omega) (by omega) (by omega) (by omega) (by omega) (by omega)) (rk 44 (by omega)), g5.to (fk 45 (by omega) (by omega) (by omega) (by omega) (by omega) (by omega) (by omega) (by omega) (by omega)) (rk 46 (by omega)) (rk 47 (by omega))⟩, ?_⟩
    · rw [if_neg (by decide), b13, r4, show (48 : Int32) - nI β = nI (48 - β) from n_sub (a := 48) (b := β) (by omega)]
      exact ⟨rfl, rfl⟩
    · show R1.1 0 = 0
      rw [r2.1 0 (by omega) (by omega) (by omega) (by omega)]; rfl
end SIM
