/-! the reference's read -/
/-- a tree that lies in the half from b on -/
def TreeL (R : RS) (b : Nat) (c : Ch 4) : Prop := ∃ hi, hi ≤ b + 48 ∧ lyR (lyA R 4) R b hi c ∧ wfC (wfA 4) c ∧ szC (szA 4) c ≤ 14
theorem TreeL.R {R : RS} {b : Nat} {c : Ch 4} (h : TreeL R b c) (hb : b ≤ 48) : TreeR R b c := by
  obtain ⟨hi, h1, h2, h3, h4⟩ := h
  exact ⟨lyR_is (lyA_in 4) (Nat.le_refl 96) (fun lo hi n a b => lyA_is 4 lo hi n a b) (by omega) h2, h3, h4⟩
theorem TreeL.fr {R R' : RS} {b : Nat} {c : Ch 4} (h : TreeL R b c) (hag : AgF R R' b (b + 48)) : TreeL R' b c := by
  obtain ⟨hi, h1, h2, h3, h4⟩ := h
  exact ⟨hi, h1, lyR_fr (lyA_in 4) ((hag.sub (Nat.le_refl _) h1).I) (fun lo hi m a _ _ => lyA_fr 4 lo hi m a) h2, h3, h4⟩
/-- the half that is not written -/
theorem Kp.Ag {R R' : RS} {β : Nat} (h : Kp R R' β) (hβ : β = 0 ∨ β = 48) : AgF R R' β (β + 48) := fun j j1 j2 => ⟨⟨fun k k1 k2 => h.2.2.1 k j k1 (by omega) (by omega), h.2.2.2 14 j (by omega), h.2.2.2 15 j (by omega)⟩, h.2.2.1 13 j (by omega) (by omega) (by omega)⟩
section RDE
variable {X : Nat → Int32} {N β : Nat}
theorem OutF.K {R R' : RS} {n d : Nat} (h : OutF R R' β n d) (hn : 48 - β ≤ n) : Kp R R' β := ⟨h.1, h.2.1, fun k j a b c => h.2.2.1 k j a b (by omega), fun k j a => h.2.2.2.2 k j (by omega)⟩
theorem br_ok0 : BrOK X N β 0 (fun _ _ _ => none) := by
  intro R d bh o a u lo sq tl as xs a0 h hl hu nd ha hc hz
  show RdF R β
  refine ⟨1, R, rd_go h ha ?_, Kp.rf, nd⟩
  rw [if_neg (by rw [hc]; decide), if_pos hc]
  refine ⟨R, 0, ?_, ?_⟩
  · unfold E_bracket
    rw [if_pos (by rw [h.2.2.2.2.1]; have := h.2.2.2.2.2.1; rw [show d = 4 by omega]; rfl)]
    exact ⟨rfl, rfl⟩
  · rw [if_pos rfl]; exact ⟨rfl, rfl⟩
def LvOK (X : Nat → Int32) (N β k : Nat) : Prop := ∀ (R : RS) (d : Nat) (bh : Bool) (lo o a u sq : Nat), LvR R X N β d k bh o a u lo sq none → LyL R k lo (48 - β + u) sq none [] [] → u ≤ 2 + 3 * a → NdR R →
  match pLv X N k bh o a with
  | none => RdF R β
  | some (o', a', c) => Done X N β R d k bh lo o' a' c a
theorem br_ok {k : Nat} (hX : Xok X N) (hk : LvOK X N β k) : BrOK X N β (k + 1) (brP (pLv X N k) X N) := by
  intro R d bh o a u lo sq tl as xs a0 h hl hu nd ha hc hz
  have hlt := hl.lt
  have hlo : 48 - β ≤ lo := h.2.2.2.2.2.2.2.2.2.2
  have hN : N ≤ 14 := h.1.2.2.1
  have hβ := h.1.2.2.2.2.2.2.1
  have c1 : ¬ pk X N a = 124 := by rw [hc]; decide
  have br := brk_lv h hu ha nd
  unfold brP
  cases e : hdP X N o a with
  | none =>
    rw [e] at br
    refine ⟨1, R, rd_go h ha ?_, Kp.rf, nd⟩
    rw [if_neg c1, if_pos hc]
    refine ⟨R, 0, br, ?_⟩
    rw [if_pos rfl]; exact ⟨rfl, rfl⟩
  | some w =>
    obtain ⟨kd, sk⟩ := w
    rw [e] at br
    obtain ⟨R', b1, b2, b3, b4, b5, b6, b7, b8, b9, b10⟩ := br
    have KR : Kp R R' β := b5.1.K (by omega)
    have in1 : ∀ nf R2 r, L_read_26 nf R' R2 r → L_read_26 (nf + 1) R R2 r := fun nf R2 r hr => rd_go h ha (by
      rw [if_neg c1, if_pos hc]
      refine ⟨_, _, b1, ?_⟩
      rw [if_neg (by decide)]; exact hr)
    have sub := hk R' (d + 1) (bhK bh kd) (48 - β + u + 1) (if kd = 8 then o + 1 else o) (a + sk) (u + 3) (48 - β + u + 2) b2 b3 (by omega) b4
    dsimp only
    cases e2 : pLv X N k (bhK bh kd) (if kd = 8 then o + 1 else o) (a + sk) with
    | none =>
      rw [e2] at sub
      obtain ⟨nf, R2, m1, m2, m3⟩ := sub
      exact ⟨nf + 1, R2, in1 _ _ _ m1, KR.tr m2, m3⟩
    | some w2 =>
      obtain ⟨o2, a2, c⟩ := w2
      rw [e2] at sub
      obtain ⟨R2, u2, sq2, tl2, as2, xs2, m1, m2, m3, m4, m5, m6, m7, m8, m9⟩ := sub
      have K2 : Kp R R2 β := KR.tr (m6.K (by omega))
      have a2N := m2.2.1
      dsimp only
      by_cases lt : a2 < N
      · rw [if_pos lt]
        have c3 := m7 lt
        have op2 := b5.F (by omega) m6
        have hg := b2.2.2.2.1
        have cl := cls_lv (R2 := R2) (as := as) (xs := xs) h hX hl op2 b7 b8 hg m2 m3 m4 lt m5
        have in2 : ∀ nf R3 r R4 r17, E_close R2 R4 r17 → (if r17 = 0 then (R3 = R4 ∧ r = 0) else (L_read_26 nf R4 R3 r)) → ∃ nf', L_read_26 nf' R R3 r := fun nf R3 r R4 r17 hc4 hh => by
          have l2 : L_read_26 (nf + 1) R2 R3 r := rd_go m2 lt (by
            rw [if_neg (by rw [c3]; decide), if_neg (by rw [c3]; decide), if_pos c3]
            exact ⟨R4, r17, hc4, hh⟩)
          obtain ⟨nf', l3⟩ := m8 _ _ _ l2
          exact ⟨_, in1 _ _ _ l3⟩
        rw [m1]
        dsimp only
        cases e3 : lopQ X N bh (a2 + 1) with
        | none =>
          rw [e3] at cl
          obtain ⟨R3, q1, q2, q3⟩ := cl
          obtain ⟨nf', l4⟩ := in2 0 R3 0 R3 0 q1 (by rw [if_pos rfl]; exact ⟨rfl, rfl⟩)
          exact ⟨nf', R3, l4, K2.tr q2, q3⟩
        | some w3 =>
          obtain ⟨a3, l⟩ := w3
          rw [e3] at cl
          obtain ⟨R3, u3, sq3, tl3, q1, q2, q3, q4, q5, q6, q7, q8, q9⟩ := cl
          refine ⟨⟨R3, u3, sq3, tl3, q2, q3, q4, q5, q6, fun nf R4 r hr => in2 nf R4 r R3 1 q1 (by rw [if_neg (by decide)]; exact hr), ?_⟩, ?_⟩
          · refine hz.add (a1 := a2 + 1) ?_ ?_ q7 q9
            · rw [← m1]
              have := m9.2
              show a + (szC (szA k) c + bkc kd) ≤ a2 + 1
              omega
            · rw [← m1]; exact m9.1
          · have := m9.2
            omega
      · rw [if_neg lt]
        have l2 := rd_end m2 (by omega)
        rw [if_neg (by omega)] at l2
        obtain ⟨nf', l3⟩ := m8 _ _ _ l2
        exact ⟨_, R2, in1 _ _ _ l3, K2, m5⟩
theorem lv_of {k : Nat} (hX : Xok X N) {br : Bool → Nat → Nat → Option (Nat × Nat × At k)} (hbr : BrOK X N β k br) (he : ∀ bh o a, pLv X N k bh o a = pLg (lfA k) br X N bh 16 o a [] []) : LvOK X N β k := by
  intro R d bh lo o a u sq h hl hu nd
  have hN : N ≤ 14 := h.1.2.2.1
  rw [he]
  refine lev hX hbr 16 R o a u sq none [] [] (by omega) h hl hu nd ⟨?_, ?_⟩
  · intro s hs y hy
    rw [List.mem_singleton.mp hs] at hy; cases hy
  · show 0 + a ≤ a
    omega
theorem lv_ok (hX : Xok X N) : ∀ k, LvOK X N β k
  | 0 => lv_of hX br_ok0 (fun _ _ _ => rfl)
  | k + 1 => lv_of hX (br_ok hX (lv_ok hX k)) (fun _ _ _ => rfl)
/-- a row's tree and its count of groups -/
def pRd (X : Nat → Int32) (N : Nat) : Option (Nat × Ch 4) := match pLv X N 4 false 0 0 with
  | none => none
  | some (o, a, c) => if N ≤ a then some (o, c) else none
theorem rd_E {R : RS} (h1 : R.2.1 1 = X) (h2 : R.2.1 2 0 = nI N) (hN : N ≤ 14) (h3 : R.1 3 = nI β) (hβ : β = 0 ∨ β = 48) (hX : Xok X N) (nd : NdR R) :
    match pRd X N with
    | none => ∃ R', E_read R R' 0 ∧ Kp R R' β ∧ NdR R'
    | some (o, c) => ∃ R', E_read R R' 1 ∧ Kp R R' β ∧ NdR R' ∧ R'.1 6 = nI o ∧ o ≤ 4 ∧ TreeL R' (48 - β) c := by
  have hr : Rd (mf (mf (mf (mf R 4 0) 6 0) 16 0) 17 0) X N 0 β 0 := ⟨h1, h2, hN, rfl, by omega, h3, hβ, rfl⟩
  have nc := nch_E (S := mf (mf (mf (mf R 4 0) 6 0) 16 0) 17 0) (e := 0) (w := none) (b := 0) hr (by omega) rfl (by omega) (fun m hm => by cases hm) (Or.inl rfl)
  have nc' : E_newChoice (mf (mf (mf (mf R 4 0) 6 0) 16 0) 17 0) (-1) 0 (nch (mf (mf (mf (mf R 4 0) 6 0) 16 0) 17 0) (48 - β + 0) 0 0 none 0) 0 := nc
  generalize hR1 : nch (mf (mf (mf (mf R 4 0) 6 0) 16 0) 17 0) (48 - β + 0) 0 0 none 0 = R1 at nc'
  have nd1 : NdR R1 := by rw [← hR1]; exact nch_nd (by omega) nd
  have l1 : LyL R1 4 (48 - β) (48 - β + 2) (48 - β + 1) none [] [] := by rw [← hR1]; exact nch_LyL (c0 := 48 - β) rfl
  have v1 : LvR R1 X N β 0 4 false 0 0 2 (48 - β) (48 - β + 1) none := by
    rw [← hR1]
    refine ⟨⟨?_, ?_, hN, ?_, by omega, ?_, hβ, ?_⟩, by omega, ?_, by omega, ?_, by omega, nch_22, nch_19, nch_20, nch_21, by omega⟩
    · rw [← h1]; funext j; rw [nch_o (by omega) (by omega) (by omega)]; rfl
    · rw [nch_o (by omega) (by omega) (by omega)]; exact h2
    · rw [nch_f, if_neg (by omega)]; rfl
    · rw [nch_f, if_neg (by omega)]; exact h3
    · rw [nch_f, if_pos rfl]
    · rw [nch_f, if_neg (by omega)]; rfl
    · rw [nch_f, if_neg (by omega)]; rfl
  have K1 : Kp R R1 β := by
    rw [← hR1]
    refine ⟨fun k k1 k2 k3 k4 => ?_, fun k j hj => ?_, fun k j a b hj => ?_, fun k j hj => ?_⟩
    · rw [nch_f, if_neg k1]
      show (if k = 17 then _ else if k = 16 then _ else if k = 6 then _ else if k = 4 then _ else R.1 k) = _
      rw [if_neg k4, if_neg k3, if_neg k2, if_neg k1]
    · rw [nch_o (by omega) (by omega) (fun z => by cases z.2)]; rfl
    · rw [nch_o (by omega) (by omega) (fun z => by cases z.2)]; rfl
    · rw [nch_l (by omega) (by omega)]; rfl
  have lv := lv_ok (β := β) hX 4 R1 0 false (48 - β) 0 0 2 (48 - β + 1) v1 l1 (by omega) nd1
  have fin : ∀ nf R' r, L_read_26 nf R1 R' r → E_read R R' r := fun nf R' r hr => ⟨R1, nc', nf, hr⟩
  unfold pRd
  cases e : pLv X N 4 false 0 0 with
  | none =>
    rw [e] at lv
    obtain ⟨nf, R', m1, m2, m3⟩ := lv
    exact ⟨R', fin _ _ _ m1, K1.tr m2, m3⟩
  | some w =>
    obtain ⟨o, a, c⟩ := w
    rw [e] at lv
    obtain ⟨R2, u2, sq2, tl2, as2, xs2, m1, m2, m3, m4, m5, m6, m7, m8, m9⟩ := lv
    have K2 : Kp R R2 β := K1.tr (m6.K (by omega))
    dsimp only
    by_cases lt : N ≤ a
    · rw [if_pos lt]
      have l2 := rd_end m2 lt
      rw [if_pos rfl] at l2
      obtain ⟨nf', l3⟩ := m8 _ _ _ l2
      have a2N := m2.2.1
      have := m9.2
      exact ⟨R2, fin _ _ _ l3, K2, m5, m2.2.2.1, m2.2.2.2.1, 48 - β + u2, by omega, by rw [m1]; exact m3.tree, m9.1, by omega⟩
    · rw [if_neg lt]
      have c3 := m7 (by omega)
      have l2 : L_read_26 1 R2 R2 0 := rd_go m2 (by omega) (by
        rw [if_neg (by rw [c3]; decide), if_neg (by rw [c3]; decide), if_pos c3]
        refine ⟨R2, 0, ?_, ?_⟩
        · unfold E_close
          rw [if_pos (by rw [m2.2.2.2.2.1]; rfl)]; exact ⟨rfl, rfl⟩
        · rw [if_pos rfl]; exact ⟨rfl, rfl⟩)
      obtain ⟨nf', l3⟩ := m8 _ _ _ l2
      exact ⟨R2, fin _ _ _ l3, K2, m5⟩
end RDE
