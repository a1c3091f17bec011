/-! replace and split -/
def Md (R : RS) (md : List Int32) : Prop := RVd R md
/-- what putting leaves -/
def Pt4 (R R' : RS) : Prop := (∀ k, k ≠ 43 → R'.1 k = R.1 k) ∧ (∀ k, k ≠ 44 → R'.2.1 k = R.2.1 k) ∧ R'.2.2 = R.2.2
theorem Pt4.rf {R : RS} : Pt4 R R := ⟨fun _ _ => rfl, fun _ _ => rfl, rfl⟩
theorem Pt4.tr {R R1 R2 : RS} (h : Pt4 R R1) (g : Pt4 R1 R2) : Pt4 R R2 := ⟨fun k hk => (g.1 k hk).trans (h.1 k hk), fun k hk => (g.2.1 k hk).trans (h.2.1 k hk), g.2.2.trans h.2.2⟩
theorem put_E {R : RS} {md : List Int32} {c : Nat} (h : Md R md) (hl : md.length < 400) (h1 : 32 ≤ c) (h2 : c ≤ 126) : ∃ R', E_put R (nI c) R' 0 ∧ Md R' (md ++ [nI c]) ∧ Pt4 R R' := by
  obtain ⟨d1, d2, d3⟩ := h
  refine ⟨mf (ma R 44 md.length (nI c)) 43 (nI (md.length + 1)), ?_, ⟨?_, ?_, fun i x hx => ?_⟩, fun k hk => ?_, fun k hk => ?_, rfl⟩
  · unfold E_put
    rw [d1, n_cl (by omega), show nI md.length + 1 = nI (md.length + 1) from (nI_succ _).symm]
    exact ⟨v_in hl (by omega), rfl, rfl⟩
  · rw [List.length_append]; rfl
  · rw [List.length_append]; show md.length + 1 ≤ 400; omega
  · show (ma R 44 md.length (nI c)).2.1 44 i = x ∧ _
    rw [ma_at]
    by_cases z : i = md.length
    · subst z
      rw [List.getElem?_append_right (Nat.le_refl _), Nat.sub_self] at hx
      cases hx
      rw [if_pos ⟨rfl, rfl⟩]; exact ⟨rfl, c, h1, h2, rfl⟩
    · rw [if_neg (fun y => z y.2)]
      by_cases y : i < md.length
      · rw [List.getElem?_append_left y] at hx; exact d3 i x hx
      · rw [List.getElem?_eq_none (by rw [List.length_append]; show md.length + 1 ≤ i; omega)] at hx; cases hx
  · rw [mf_at, if_neg hk]; rfl
  · funext j; show (ma R 44 md.length (nI c)).2.1 k j = _; rw [ma_at, if_neg (fun y => hk y.1)]
def txL (X : Nat → Int32) : Nat → Nat → List Int32
  | 0, _ => []
  | n + 1, p => X (14 + p) :: txL X n (p + 1)
theorem txL_len {X : Nat → Int32} : ∀ {n p : Nat}, (txL X n p).length = n
  | 0, _ => rfl
  | n + 1, p => by show (txL X n (p + 1)).length + 1 = n + 1; rw [txL_len]
section RPL
variable {X : Nat → Int32} {N : Nat}
def Tok (X : Nat → Int32) (N : Nat) : Prop := N ≤ 8 ∧ ∀ q, q < N → ∃ c, 32 ≤ c ∧ c ≤ 126 ∧ X (14 + q) = nI c
theorem pt_loop {x1 : Int32} {q : Nat} (hX : Tok X N) (hq : q ≤ N) : ∀ (n p : Nat) (R : RS) (md : List Int32), n = q - p → R.2.1 1 = X → p ≤ 100 → Md R md → md.length + n ≤ 400 → ∃ R', L_putText_2 (n + 1) R x1 (nI q) (nI p) R' 0 ∧ Md R' (md ++ txL X n p) ∧ Pt4 R R'
  | 0, p, R, md, hn, h1, hp, hm, hl => by
    have := hX.1
    refine ⟨R, ?_, by rw [show txL X 0 p = [] from rfl, List.append_nil]; exact hm, Pt4.rf⟩
    rw [L_putText_2.eq_2, if_pos ((n_le (by omega) (by omega)).mpr (by omega))]; exact ⟨rfl, rfl⟩
  | n + 1, p, R, md, hn, h1, hp, hm, hl => by
    have := hX.1
    obtain ⟨c, c1, c2, c3⟩ := hX.2 p (by omega)
    obtain ⟨R1, q1, q2, q3⟩ := put_E hm (by omega) c1 c2
    obtain ⟨R', s1, s2, s3⟩ := pt_loop (x1 := x1) hX hq n (p + 1) R1 (md ++ [nI c]) (by omega) ((q3.2.1 1 (by omega)).trans h1) (by omega) q2 (by rw [List.length_append]; show md.length + 1 + n ≤ 400; omega)
    refine ⟨R', ?_, ?_, q3.tr s3⟩
    · rw [L_putText_2.eq_2, if_neg (fun z => by have := (n_le (by omega) (by omega)).mp z; omega), show (14 : Int32) = nI 14 from rfl, n_add, n_cl (by omega), h1, c3, show nI p + 1 = nI (p + 1) from (nI_succ p).symm]
      exact ⟨v_in (by omega) (by omega), R1, q1, s1⟩
    · show Md R' (md ++ (X (14 + p) :: txL X n (p + 1)))
      rw [c3]
      rw [List.append_assoc] at s2; exact s2
theorem pt_E {R : RS} {p q : Nat} {md : List Int32} (hX : Tok X N) (hq : q ≤ N) (h1 : R.2.1 1 = X) (hp : p ≤ 100) (hm : Md R md) (hl : md.length + (q - p) ≤ 400) : ∃ R', E_putText R (nI p) (nI q) R' 0 ∧ Md R' (md ++ txL X (q - p) p) ∧ Pt4 R R' := by
  obtain ⟨R', s1, s2, s3⟩ := pt_loop (x1 := nI p) hX hq (q - p) p R md rfl h1 hp hm hl
  exact ⟨R', ⟨_, s1⟩, s2, s3⟩
/-- the template -/
def Pok (X : Nat → Int32) (n2 : Nat) : Prop := n2 ≤ 8 ∧ ∀ q, q < n2 → ∃ c, 32 ≤ c ∧ c ≤ 126 ∧ X (28 + q) = nI c
def flt (X : Nat → Int32) (n2 g : Nat) : Nat → Nat → Nat → Nat
  | 0, w, _ => w
  | f + 1, w, k => if n2 ≤ k then w
    else if X (28 + k) = 36 then (if n2 ≤ k + 1 then 2 else if X (28 + (k + 1)) < 48 then 2 else if X (28 + (k + 1)) ≤ 57 then (if X (28 + (k + 1)) - 48 ≤ nI g then flt X n2 g f w (k + 2) else flt X n2 g f 3 (k + 2)) else 2)
    else if X (28 + k) = 92 then (if n2 ≤ k + 1 then 2 else flt X n2 g f w (k + 2))
    else flt X n2 g f w (k + 1)
theorem flt_3 {n2 g : Nat} : ∀ {f k : Nat}, ¬ flt X n2 g f 3 k = 0
  | 0, k => by show ¬ 3 = 0; omega
  | f + 1, k => by
    unfold flt
    split
    · omega
    · split
      · split
        · omega
        · split
          · omega
          · split
            · split
              · exact flt_3
              · exact flt_3
            · omega
      · split
        · split
          · omega
          · exact flt_3
        · exact flt_3
theorem ft_loop {R : RS} {n2 g : Nat} (hX : Pok X n2) (h1 : R.2.1 1 = X) (h2 : R.2.1 2 2 = nI n2) (h5 : R.1 5 = nI g) : ∀ (f w k : Nat), n2 - k < f → k ≤ 20 → L_faultOfTemplate_4 f R (nI w) (nI k) R (nI (flt X n2 g f w k))
  | 0, _, _, hf, _ => absurd hf (by omega)
  | f + 1, w, k, hf, hk => by
    have hn := hX.1
    have v3 : vp_in 2 3 := v_in (n := 2) (by omega) (by omega)
    have e2 : (2 : Int32).toNatClampNeg = 2 := by decide
    have e28 : (28 : Int32) + nI k = nI (28 + k) := n_add 28 k
    have e29 : (29 : Int32) + nI k = nI (28 + (k + 1)) := by rw [show (29 : Int32) = nI 29 from rfl, n_add, show 29 + k = 28 + (k + 1) by omega]
    have es : nI k + 1 = nI (k + 1) := (nI_succ k).symm
    have es2 : nI (k + 1) + 1 = nI (k + 2) := (nI_succ (k + 1)).symm
    have i2 := ft_loop hX h1 h2 h5 f w (k + 2)
    have i23 := ft_loop hX h1 h2 h5 f 3 (k + 2)
    have i1 := ft_loop hX h1 h2 h5 f w (k + 1)
    unfold flt
    rw [L_faultOfTemplate_4.eq_2, e2, h2, e28, e29, n_cl (by omega), n_cl (by omega), h1, h5, es, es2]
    refine ⟨v3, ?_⟩
    by_cases c0 : n2 ≤ k
    · rw [if_pos ((n_le (by omega) (by omega)).mpr c0), if_pos c0]; exact ⟨rfl, rfl⟩
    · rw [if_neg (fun z => c0 ((n_le (by omega) (by omega)).mp z)), if_neg c0]
      refine ⟨v_in (by omega) (by omega), ?_⟩
      by_cases c1 : X (28 + k) = 36
      · rw [if_pos c1, if_pos c1]
        refine ⟨v3, ?_⟩
        by_cases c2 : n2 ≤ k + 1
        · rw [if_pos ((n_le (by omega) (by omega)).mpr c2), if_pos c2]; exact ⟨rfl, rfl⟩
        · rw [if_neg (fun z => c2 ((n_le (by omega) (by omega)).mp z)), if_neg c2]
          obtain ⟨ch, h3, h4, h6⟩ := hX.2 (k + 1) (by omega)
          have z0 : ¬ X (28 + (k + 1)) = 0 := by rw [h6]; exact fun z => by have := (n_eq (a := ch) (b := 0) (by omega) (by omega)).mp z; omega
          refine ⟨v_in (by omega) (by omega), ?_⟩
          rw [if_neg z0, if_pos c1]
          by_cases c3 : X (28 + (k + 1)) < 48
          · rw [if_pos c3, if_pos c3]; exact ⟨rfl, rfl⟩
          · rw [if_neg c3, if_neg c3]
            by_cases c4 : X (28 + (k + 1)) ≤ 57
            · rw [if_pos c4, if_pos c4, if_pos c1]
              by_cases c5 : X (28 + (k + 1)) - 48 ≤ nI g
              · rw [if_pos c5, if_pos c5]; exact i2 (by omega) (by omega)
              · rw [if_neg c5, if_neg c5]; exact i23 (by omega) (by omega)
            · rw [if_neg c4, if_neg c4]; exact ⟨rfl, rfl⟩
      · rw [if_neg c1, if_neg c1]
        by_cases c6 : X (28 + k) = 92
        · rw [if_pos c6, if_pos c6]
          refine ⟨v3, ?_⟩
          by_cases c2 : n2 ≤ k + 1
          · rw [if_pos ((n_le (by omega) (by omega)).mpr c2), if_pos c2]; exact ⟨rfl, rfl⟩
          · rw [if_neg (fun z => c2 ((n_le (by omega) (by omega)).mp z)), if_neg c2]
            obtain ⟨ch, h3, h4, h6⟩ := hX.2 (k + 1) (by omega)
            have z0 : ¬ X (28 + (k + 1)) = 0 := by rw [h6]; exact fun z => by have := (n_eq (a := ch) (b := 0) (by omega) (by omega)).mp z; omega
            refine ⟨v_in (by omega) (by omega), ?_⟩
            rw [if_neg z0, if_neg c1, if_neg c1]; exact i2 (by omega) (by omega)
        · rw [if_neg c6, if_neg c6]; exact i1 (by omega) (by omega)
/-- spans of a match -/
def SpO (N : Nat) (σ : Sp) : Prop := ∀ g, g ≤ 4 → σ (2 * g) = -1 ∨ ∃ s e, σ (2 * g) = nI s ∧ σ (2 * g + 1) = nI e ∧ s ≤ e ∧ e ≤ N
theorem spn_ok {q : Nat} {o : Nat × Sp} (h1 : q ≤ o.1) (h2 : o.1 ≤ N) (h3 : svd N o.2) : SpO N (spn q o) := fun g hg => by
  by_cases g0 : g = 0
  · subst g0; exact Or.inr ⟨q, o.1, rfl, rfl, h1, h2⟩
  · have e1 : spn q o (2 * g) = o.2 (2 * g) := by unfold spn; rw [if_neg (by omega), if_neg (by omega)]
    have e2 : spn q o (2 * g + 1) = o.2 (2 * g + 1) := by unfold spn; rw [if_neg (by omega), if_neg (by omega)]
    rw [e1, e2]
    exact h3 g (by omega) hg
def grpL (X : Nat → Int32) (σ : Sp) (g : Nat) : List Int32 := if σ (2 * g) = -1 then [] else txL X ((σ (2 * g + 1)).toNatClampNeg - (σ (2 * g)).toNatClampNeg) (σ (2 * g)).toNatClampNeg
def tplL (X : Nat → Int32) (n2 : Nat) (σ : Sp) : Nat → Nat → List Int32
  | 0, _ => []
  | f + 1, k => if n2 ≤ k then []
    else if X (28 + k) = 36 then grpL X σ (X (28 + (k + 1)) - 48).toNatClampNeg ++ tplL X n2 σ f (k + 2)
    else if X (28 + k) = 92 then X (28 + (k + 1)) :: tplL X n2 σ f (k + 2)
    else X (28 + k) :: tplL X n2 σ f (k + 1)
theorem tp_loop {n2 g : Nat} {σ : Sp} (hT : Tok X N) (hX : Pok X n2) (hg : g ≤ 4) (hs : SpO N σ) : ∀ (f k : Nat) (R : RS) (md : List Int32), n2 - k < f → k ≤ 20 → flt X n2 g f 0 k = 0 → R.2.1 1 = X → R.2.1 2 2 = nI n2 → (∀ j, j < 10 → R.2.1 30 j = σ j) → Md R md → md.length + 4 * (n2 - k) ≤ 400 → ∃ R', L_putTemplate_2 f R (nI k) R' 0 ∧ Md R' (md ++ tplL X n2 σ f k) ∧ Pt4 R R' ∧ (tplL X n2 σ f k).length ≤ 4 * (n2 - k)
  | 0, _, _, _, hf, _, _, _, _, _, _, _ => absurd hf (by omega)
  | f + 1, k, R, md, hf, hk, hfl, h1, h2, h30, hm, hl => by
    have hn := hX.1
    have v3 : vp_in 2 3 := v_in (n := 2) (by omega) (by omega)
    have e2 : (2 : Int32).toNatClampNeg = 2 := by decide
    have e28 : (28 : Int32) + nI k = nI (28 + k) := n_add 28 k
    have e28' : (28 : Int32) + nI (k + 1) = nI (28 + (k + 1)) := n_add 28 (k + 1)
    have es : nI k + 1 = nI (k + 1) := (nI_succ k).symm
    have es2 : nI (k + 1) + 1 = nI (k + 2) := (nI_succ (k + 1)).symm
    unfold flt at hfl
    unfold tplL
    by_cases c0 : n2 ≤ k
    · rw [if_pos c0]
      refine ⟨R, ?_, by rw [List.append_nil]; exact hm, Pt4.rf, Nat.zero_le _⟩
      rw [L_putTemplate_2.eq_2, e2, h2]
      refine ⟨v3, ?_⟩
      rw [if_pos ((n_le (by omega) (by omega)).mpr c0)]; exact ⟨rfl, rfl⟩
    · rw [if_neg c0] at hfl ⊢
      have c0' : ¬ nI n2 ≤ nI k := fun z => c0 ((n_le (by omega) (by omega)).mp z)
      have vk : vp_in (nI (28 + k)) 42 := v_in (by omega) (by omega)
      have vk1 : vp_in (nI (28 + (k + 1))) 42 := v_in (by omega) (by omega)
      by_cases c1 : X (28 + k) = 36
      · rw [if_pos c1] at hfl ⊢
        have n92 : ¬ X (28 + k) = 92 := by rw [c1]; decide
        by_cases c2 : n2 ≤ k + 1
        · rw [if_pos c2] at hfl; omega
        · rw [if_neg c2] at hfl
          obtain ⟨ch, h3, h4, h6⟩ := hX.2 (k + 1) (by omega)
          by_cases c3 : X (28 + (k + 1)) < 48
          · rw [if_pos c3] at hfl; omega
          · rw [if_neg c3] at hfl
            by_cases c4 : X (28 + (k + 1)) ≤ 57
            · rw [if_pos c4] at hfl
              by_cases c5 : X (28 + (k + 1)) - 48 ≤ nI g
              · rw [if_pos c5] at hfl
                have k48 : 48 ≤ ch := by
                  rcases Nat.lt_or_ge ch 48 with z | z
                  · exact absurd (show X (28 + (k + 1)) < 48 by rw [h6]; exact (n_lt (a := ch) (b := 48) (by omega) (by omega)).mpr z) c3
                  · exact z
                have ed : X (28 + (k + 1)) - 48 = nI (ch - 48) := by rw [h6]; exact n_sub (a := ch) (b := 48) k48
                have dg : ch - 48 ≤ g := by rw [ed] at c5; exact (n_le (by omega) (by omega)).mp c5
                have e2d : (2 : Int32) * nI (ch - 48) = nI (2 * (ch - 48)) := n_mul 2 (ch - 48)
                have e2d1 : nI (2 * (ch - 48)) + 1 = nI (2 * (ch - 48) + 1) := (nI_succ _).symm
                have v10 : vp_in (nI (2 * (ch - 48))) 10 := v_in (by omega) (by omega)
                have v11 : vp_in (nI (2 * (ch - 48) + 1)) 10 := v_in (by omega) (by omega)
                have go : ∀ R', (if σ (2 * (ch - 48)) = -1 then L_putTemplate_2 f R (nI (k + 2)) R' 0 else (∃ R5, E_putText R (σ (2 * (ch - 48))) (σ (2 * (ch - 48) + 1)) R5 0 ∧ L_putTemplate_2 f R5 (nI (k + 2)) R' 0)) → L_putTemplate_2 (f + 1) R (nI k) R' 0 := fun R' hh => by
                  rw [L_putTemplate_2.eq_2, e2, h2, e28, es, e28', n_cl (by omega), n_cl (by omega), h1, es2, ed, e2d, e2d1, n_cl (by omega), n_cl (by omega), h30 _ (by omega), h30 _ (by omega)]
                  refine ⟨v3, ?_⟩
                  rw [if_neg c0']
                  refine ⟨vk, ?_⟩
                  rw [if_pos c1]
                  refine ⟨vk1, ?_⟩
                  rw [if_neg n92]
                  refine ⟨v10, ?_⟩
                  by_cases z : σ (2 * (ch - 48)) = -1
                  · rw [if_pos z] at hh ⊢; exact hh
                  · rw [if_neg z] at hh ⊢; exact ⟨v10, v11, hh⟩
                rw [ed, n_cl (by omega)]
                rcases hs (ch - 48) (by omega) with z | ⟨s, e, z1, z2, z3, z4⟩
                · obtain ⟨R', s1, s2, s3, s4⟩ := tp_loop hT hX hg hs f (k + 2) R md (by omega) (by omega) hfl h1 h2 h30 hm (by omega)
                  refine ⟨R', go R' (by rw [if_pos z]; exact s1), ?_, s3, ?_⟩
                  · rw [show grpL X σ (ch - 48) = [] by unfold grpL; rw [if_pos z]]; exact s2
                  · rw [show grpL X σ (ch - 48) = [] by unfold grpL; rw [if_pos z]]; show (tplL X n2 σ f (k + 2)).length ≤ _; omega
                · have hN8 := hT.1
                  have zn : ¬ σ (2 * (ch - 48)) = -1 := by rw [z1]; exact n_m1 (by omega)
                  have eg : grpL X σ (ch - 48) = txL X (e - s) s := by
                    unfold grpL; rw [if_neg zn, z1, z2, n_cl (by omega), n_cl (by omega)]
                  obtain ⟨R5, p1, p2, p3⟩ := pt_E (p := s) (q := e) hT z4 h1 (by omega) hm (by omega)
                  obtain ⟨R', s1, s2, s3, s4⟩ := tp_loop hT hX hg hs f (k + 2) R5 (md ++ txL X (e - s) s) (by omega) (by omega) hfl ((p3.2.1 1 (by omega)).trans h1) (by rw [p3.2.1 2 (by omega)]; exact h2) (fun j hj => by rw [p3.2.1 30 (by omega)]; exact h30 j hj) p2 (by rw [List.length_append, txL_len]; omega)
                  refine ⟨R', go R' (by rw [if_neg zn, z1, z2]; exact ⟨R5, p1, s1⟩), ?_, p3.tr s3, ?_⟩
                  · rw [eg, ← List.append_assoc]; exact s2
                  · rw [eg, List.length_append, txL_len]; omega
              · rw [if_neg c5] at hfl; exact absurd hfl flt_3
            · rw [if_neg c4] at hfl; omega
      · rw [if_neg c1] at hfl ⊢
        by_cases c6 : X (28 + k) = 92
        · rw [if_pos c6] at hfl ⊢
          by_cases c2 : n2 ≤ k + 1
          · rw [if_pos c2] at hfl; omega
          · rw [if_neg c2] at hfl
            obtain ⟨ch, h3, h4, h6⟩ := hX.2 (k + 1) (by omega)
            obtain ⟨R7, p1, p2, p3⟩ := put_E hm (by omega) h3 h4
            obtain ⟨R', s1, s2, s3, s4⟩ := tp_loop hT hX hg hs f (k + 2) R7 (md ++ [nI ch]) (by omega) (by omega) hfl ((p3.2.1 1 (by omega)).trans h1) (by rw [p3.2.1 2 (by omega)]; exact h2) (fun j hj => by rw [p3.2.1 30 (by omega)]; exact h30 j hj) p2 (by rw [List.length_append]; show md.length + 1 + _ ≤ _; omega)
            refine ⟨R', ?_, ?_, p3.tr s3, ?_⟩
            · rw [L_putTemplate_2.eq_2, e2, h2, e28, es, e28', n_cl (by omega), n_cl (by omega), h1, es2]
              refine ⟨v3, ?_⟩
              rw [if_neg c0']
              refine ⟨vk, ?_⟩
              rw [if_neg c1, if_pos c6]
              refine ⟨vk1, ?_⟩
              rw [if_pos c6, h6]
              exact ⟨R7, p1, s1⟩
            · rw [h6]; rw [List.append_assoc] at s2; exact s2
            · show (tplL X n2 σ f (k + 2)).length + 1 ≤ _; omega
        · rw [if_neg c6] at hfl ⊢
          obtain ⟨ch, h3, h4, h6⟩ := hX.2 k (by omega)
          obtain ⟨R7, p1, p2, p3⟩ := put_E hm (by omega) h3 h4
          obtain ⟨R', s1, s2, s3, s4⟩ := tp_loop hT hX hg hs f (k + 1) R7 (md ++ [nI ch]) (by omega) (by omega) hfl ((p3.2.1 1 (by omega)).trans h1) (by rw [p3.2.1 2 (by omega)]; exact h2) (fun j hj => by rw [p3.2.1 30 (by omega)]; exact h30 j hj) p2 (by rw [List.length_append]; show md.length + 1 + _ ≤ _; omega)
          refine ⟨R', ?_, ?_, p3.tr s3, ?_⟩
          · rw [L_putTemplate_2.eq_2, e2, h2, e28, es, e28', n_cl (by omega), n_cl (by omega), h1, es2]
            refine ⟨v3, ?_⟩
            rw [if_neg c0']
            refine ⟨vk, ?_⟩
            rw [if_neg c1, if_neg c6, h6]
            exact ⟨R7, p1, s1⟩
          · rw [h6]; rw [List.append_assoc] at s2; exact s2
          · show (tplL X n2 σ f (k + 1)).length + 1 ≤ _; omega
end RPL
