/-! the pure reader looks at the row's characters alone -/
section CG
variable {X Y : Nat → Int32} {N : Nat}
theorem bndP_c (h : pk X N = pk Y N) : bndP X N = bndP Y N := by funext a; unfold bndP; rw [h]
theorem lopE_c (h : pk X N = pk Y N) : lopE X N = lopE Y N := by funext bh p lo hi; unfold lopE; rw [h]
theorem lopQ_c (h : pk X N = pk Y N) : lopQ X N = lopQ Y N := by funext bh a; unfold lopQ; rw [h, bndP_c h, lopE_c h]
theorem itmP_c (h : pk X N = pk Y N) : itmP X N = itmP Y N := by funext a x; unfold itmP; rw [h]
theorem itsL_c (h : pk X N = pk Y N) {ng : Bool} : ∀ (f m a : Nat) (x : Int64 × Int64), itsL X N ng f m a x = itsL Y N ng f m a x
  | 0, _, _, _ => rfl
  | f + 1, m, a, x => by
    unfold itsL
    rw [h, itmP_c h]
    by_cases c : pk Y N a = 93
    · rw [if_pos c, if_pos c]
    · rw [if_neg c, if_neg c]
      cases itmP Y N a x with
      | none => rfl
      | some w => exact itsL_c h f (m + 1) w.1 w.2
theorem itsP_c (h : pk X N = pk Y N) : itsP X N = itsP Y N := by funext a; unfold itsP; rw [h, itsL_c h, itsL_c h]
theorem escP_c (h : pk X N = pk Y N) : escP X N = escP Y N := by funext o bh a; unfold escP; rw [h]
theorem atmP_c (h : pk X N = pk Y N) : atmP X N = atmP Y N := by funext o bh a; unfold atmP; rw [h, escP_c h, itsP_c h]
theorem hdK_c (h : pk X N = pk Y N) : hdK X N = hdK Y N := by funext a; unfold hdK; rw [h]
theorem hdP_c (h : pk X N = pk Y N) : hdP X N = hdP Y N := by funext o a; unfold hdP; rw [h, hdK_c h]
theorem pLg_c {A : Type} {mk : Lf → A} {br : Bool → Nat → Nat → Option (Nat × Nat × A)} {bh : Bool} (h : pk X N = pk Y N) : ∀ (f o a : Nat) (as : List (List (A × Option Lp))) (xs : List (A × Option Lp)), pLg mk br X N bh f o a as xs = pLg mk br Y N bh f o a as xs
  | 0, _, _, _, _ => rfl
  | f + 1, o, a, as, xs => by
    unfold pLg
    rw [h, lopQ_c h, atmP_c h]
    by_cases c0 : N ≤ a
    · rw [if_pos c0, if_pos c0]
    · rw [if_neg c0, if_neg c0]
      by_cases c1 : pk Y N a = 124
      · rw [if_pos c1, if_pos c1]; exact pLg_c h f _ _ _ _
      · rw [if_neg c1, if_neg c1]
        by_cases c2 : pk Y N a = 40
        · rw [if_pos c2, if_pos c2]
          cases br bh o a with
          | none => rfl
          | some w =>
            obtain ⟨o2, a2, y⟩ := w
            dsimp only
            cases lopQ Y N bh a2 with
            | none => rfl
            | some w2 => exact pLg_c h f _ _ _ _
        · rw [if_neg c2, if_neg c2]
          by_cases c3 : pk Y N a = 41
          · rw [if_pos c3, if_pos c3]
          · rw [if_neg c3, if_neg c3]
            cases atmP Y N o bh a with
            | none => rfl
            | some w =>
              obtain ⟨a1, lf⟩ := w
              dsimp only
              cases lopQ Y N bh a1 with
              | none => rfl
              | some w2 => exact pLg_c h f _ _ _ _
theorem pLv_c (h : pk X N = pk Y N) : ∀ (k : Nat), pLv X N k = pLv Y N k
  | 0 => by funext bh o a; exact pLg_c h 16 o a [] []
  | k + 1 => by
    funext bh o a
    show pLg (lfA (k + 1)) (brP (pLv X N k) X N) X N bh 16 o a [] [] = pLg (lfA (k + 1)) (brP (pLv Y N k) Y N) Y N bh 16 o a [] []
    have e : brP (pLv X N k) X N = brP (pLv Y N k) Y N := by funext bh o a; unfold brP; rw [hdP_c h, pLv_c h k]
    rw [e]
    exact pLg_c h 16 o a [] []
theorem pRd_c (h : pk X N = pk Y N) : pRd X N = pRd Y N := by unfold pRd; rw [pLv_c h 4]
theorem pk_c {M : Nat} (hM : M = N) (h : ∀ i, i < N → X i = Y i) : pRd X M = pRd Y N := by
  subst hM
  refine pRd_c (funext fun i => ?_)
  unfold pk
  by_cases c : i < M
  · rw [if_pos c, if_pos c]; exact h i c
  · rw [if_neg c, if_neg c]
end CG
