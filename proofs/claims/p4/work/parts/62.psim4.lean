/-! successive matches -/
def Rq (f r1 r2 : Nat) (R R' : RS) : Prop := (∀ k, k ≠ f → k < 23 ∨ 29 < k → R'.1 k = R.1 k) ∧ (∀ k, k ≠ r1 → k ≠ r2 → k < 30 ∨ 40 < k → R'.2.1 k = R.2.1 k) ∧ R'.2.2 = R.2.2
theorem Rq.rf {f r1 r2 : Nat} {R : RS} : Rq f r1 r2 R R := ⟨fun _ _ _ => rfl, fun _ _ _ _ => rfl, rfl⟩
theorem Rq.tr {f r1 r2 : Nat} {R R1 R2 : RS} (h : Rq f r1 r2 R R1) (g : Rq f r1 r2 R1 R2) : Rq f r1 r2 R R2 := ⟨fun k a c => (g.1 k a c).trans (h.1 k a c), fun k a b d => (g.2.1 k a b d).trans (h.2.1 k a b d), g.2.2.trans h.2.2⟩
theorem SmR.p {f r1 r2 : Nat} {R R' : RS} (h : SmR R R') : Rq f r1 r2 R R' := ⟨fun k _ c => h.1 k c, fun k _ _ d => h.2.1 k d, h.2.2⟩
theorem Pt4.p {R R' : RS} (h : Pt4 R R') : Rq 43 44 44 R R' := ⟨fun k a _ => h.1 k a, fun k a _ _ => h.2.1 k a, h.2.2⟩
theorem Rq.x {f r1 r2 : Nat} {R R' : RS} (h : Rq f r1 r2 R R') (hf : 40 < f) (h1 : 40 < r1) (h2 : 40 < r2) : Sx R R' := ⟨fun k hk => h.2.1 k (by omega) (by omega) (by omega), h.2.2, h.1 3 (by omega) (by omega)⟩
def bhd (q e : Nat) : Nat := if e ≤ q then e + 1 else e
def rpL (X : Nat → Int32) (N : Nat) (c : Ch 4) (n2 : Nat) : Nat → Nat → Nat → List Int32
  | 0, _, _ => []
  | f + 1, dn, fr => if N < fr then txL X (N - dn) dn else match srX X N c (N + 2 - fr) fr with
    | none => txL X (N - dn) dn
    | some (q, o) => txL X (q - dn) dn ++ tplL X n2 (spn q o) 10 0 ++ rpL X N c n2 f o.1 (bhd q o.1)
section SUC
variable {X : Nat → Int32} {N : Nat} {c : Ch 4}
theorem bm_E {R : RS} {q : Nat} {o : Nat × Sp} (hN : N ≤ 8) (h1 : q ≤ o.1) (h2 : o.1 ≤ N) (h : ∀ k, k < 10 → R.2.1 30 k = spn q o k) : E_behindMatch R R (nI (bhd q o.1)) := by
  have v0 : vp_in 0 10 := v_in (n := 0) (by omega) (by omega)
  have v1 : vp_in 1 10 := v_in (n := 1) (by omega) (by omega)
  unfold E_behindMatch
  rw [show (1 : Int32).toNatClampNeg = 1 from by decide, show (0 : Int32).toNatClampNeg = 0 from by decide, h 1 (by omega), h 0 (by omega), show spn q o 1 = nI o.1 from rfl, show spn q o 0 = nI q from rfl]
  refine ⟨v1, v0, ?_⟩
  unfold bhd
  by_cases z : o.1 ≤ q
  · rw [if_pos ((n_le (by omega) (by omega)).mpr z), if_pos z, show nI o.1 + 1 = nI (o.1 + 1) from (nI_succ _).symm]; exact ⟨v1, rfl, rfl⟩
  · rw [if_neg (fun y => z ((n_le (by omega) (by omega)).mp y)), if_neg z]; exact ⟨v1, rfl, rfl⟩
theorem rp_loop {n2 g : Nat} (hX : Pok X n2) (hg : g ≤ 4) (hfl : flt X n2 g 10 0 0 = 0) : ∀ (f dn fr : Nat) (R : RS) (md : List Int32), N + 1 - fr < f → dn ≤ N → fr ≤ N + 1 → Cx R X N c → R.2.1 2 2 = nI n2 → Md R md → md.length ≤ 40 * fr → ∃ R', L_replace_42 f R (nI dn) (nI fr) R' (nI (md ++ rpL X N c n2 f dn fr).length) ∧ Md R' (md ++ rpL X N c n2 f dn fr) ∧ Rq 43 44 44 R R'
  | 0, _, _, _, _, hf, _, _, _, _, _, _ => absurd hf (by omega)
  | f + 1, dn, fr, R, md, hf, hd, hfr, h, h2, hm, hl => by
    have hN := h.2.2.1
    have hT : Tok X N := ⟨hN, h.2.2.2.1⟩
    have v3 : vp_in 1 3 := v_in (n := 1) (by omega) (by omega)
    have e1 : (1 : Int32).toNatClampNeg = 1 := by decide
    have e0 : (0 : Int32).toNatClampNeg = 0 := by decide
    have hn2 := hX.1
    unfold rpL
    by_cases c0 : N < fr
    · rw [if_pos c0]
      obtain ⟨R7, p1, p2, p3⟩ := pt_E (p := dn) (q := N) hT (Nat.le_refl _) h.1 (by omega) hm (by omega)
      refine ⟨R7, ?_, p2, p3.p⟩
      rw [L_replace_42.eq_2, e1, h.2.1]
      refine ⟨v3, ?_⟩
      rw [if_pos ((n_lt (by omega) (by omega)).mpr c0)]
      exact ⟨v3, R7, p1, rfl, p2.1.symm⟩
    · rw [if_neg c0]
      obtain ⟨R9, r10, q1, q2, q3⟩ := sr_E (p := fr) h (by omega)
      have h9 := h.to q2.x
      have hm9 : Md R9 md := hm.to (q2.1 43 (by omega)) (q2.2.1 44 (by omega))
      have go : ∀ R' r, (if r10 = 0 then (∃ R12 : RS, E_putText R9 (nI dn) (nI N) R12 0 ∧ (R' = R12 ∧ r = (R12.1 43))) else (∃ R14 : RS, E_putText R9 (nI dn) (R9.2.1 30 0) R14 0 ∧ (∃ R16 : RS, E_putTemplate R14 R16 0 ∧ (∃ (R18 : RS) (r19 : Int32), E_behindMatch R16 R18 r19 ∧ (L_replace_42 f R18 (R16.2.1 30 1) r19 R' r))))) → L_replace_42 (f + 1) R (nI dn) (nI fr) R' r := fun R' r hh => by
        rw [L_replace_42.eq_2, e1, e0, h.2.1]
        refine ⟨v3, ?_⟩
        rw [if_neg (fun z => c0 ((n_lt (by omega) (by omega)).mp z))]
        refine ⟨R9, r10, q1, ?_⟩
        by_cases z : r10 = 0
        · rw [if_pos z] at hh ⊢
          rw [h9.2.1]; exact ⟨v3, hh⟩
        · rw [if_neg z] at hh ⊢
          obtain ⟨R14, a1, R16, a2, R18, r19, a3, a4⟩ := hh
          exact ⟨v_in (n := 0) (by omega) (by omega), R14, a1, R16, a2, v_in (n := 1) (by omega) (by omega), R18, r19, a3, a4⟩
      cases e : srX X N c (N + 2 - fr) fr with
      | none =>
        rw [e] at q3
        obtain ⟨R7, p1, p2, p3⟩ := pt_E (p := dn) (q := N) hT (Nat.le_refl _) h9.1 (by omega) hm9 (by omega)
        refine ⟨R7, go _ _ ?_, p2, q2.p.tr p3.p⟩
        rw [if_pos q3]
        exact ⟨R7, p1, rfl, p2.1.symm⟩
      | some w =>
        obtain ⟨q, o⟩ := w
        rw [e] at q3
        obtain ⟨b1, b2, b3, b4, b5, b6⟩ := q3
        dsimp only
        obtain ⟨R14, p1, p2, p3⟩ := pt_E (p := dn) (q := q) hT (by omega) h9.1 (by omega) hm9 (by omega)
        have h14 := h9.to (p3.p.x (by omega) (by omega) (by omega))
        obtain ⟨R16, t1, t2, t3, t4⟩ := tp_loop (σ := spn q o) hT hX hg (spn_ok b3 b4 b5) 10 0 R14 (md ++ txL X (q - dn) dn) (by omega) (by omega) hfl h14.1 (by rw [p3.2.1 2 (by omega), q2.2.1 2 (by omega)]; exact h2) (fun j hj => by rw [p3.2.1 30 (by omega)]; exact b6 j hj) p2 (by rw [List.length_append, txL_len]; omega)
        have sp16 : ∀ k, k < 10 → R16.2.1 30 k = spn q o k := fun k hk => by rw [t3.2.1 30 (by omega), p3.2.1 30 (by omega)]; exact b6 k hk
        have bm := bm_E hN b3 b4 sp16
        have fr2 : fr < bhd q o.1 ∧ bhd q o.1 ≤ N + 1 := by unfold bhd; split <;> omega
        obtain ⟨R', s1, s2, s3⟩ := rp_loop hX hg hfl f o.1 (bhd q o.1) R16 (md ++ txL X (q - dn) dn ++ tplL X n2 (spn q o) 10 0) (by omega) (by omega) fr2.2 (h14.to (t3.p.x (by omega) (by omega) (by omega))) (by rw [t3.2.1 2 (by omega), p3.2.1 2 (by omega), q2.2.1 2 (by omega)]; exact h2) t2 (by rw [List.length_append, List.length_append, txL_len]; omega)
        have ea : md ++ (txL X (q - dn) dn ++ tplL X n2 (spn q o) 10 0 ++ rpL X N c n2 f o.1 (bhd q o.1)) = md ++ txL X (q - dn) dn ++ tplL X n2 (spn q o) 10 0 ++ rpL X N c n2 f o.1 (bhd q o.1) := by simp [List.append_assoc]
        rw [ea]
        refine ⟨R', go _ _ ?_, s2, (q2.p.tr p3.p).tr (t3.p.tr s3)⟩
        rw [if_neg (by rw [b1]; decide), b6 0 (by omega), show spn q o 0 = nI q from rfl]
        refine ⟨R14, p1, R16, ⟨_, t1⟩, R16, _, bm, ?_⟩
        rw [sp16 1 (by omega), show spn q o 1 = nI o.1 from rfl]; exact s1
/-- the pieces of a split -/
def spL (X : Nat → Int32) (N : Nat) (c : Ch 4) : Nat → Nat → Nat → Bool → List (Nat × Nat) → List (Nat × Nat) × Bool
  | 0, _, _, y, pc => (pc, y)
  | f + 1, dn, fr, y, pc => if N < fr then (pc ++ [(dn, N)], y) else match srX X N c (N + 2 - fr) fr with
    | none => (pc ++ [(dn, N)], y)
    | some (q, o) => if o.1 = 0 then spL X N c f dn (bhd q o.1) y pc else spL X N c f o.1 (bhd q o.1) true (pc ++ [(dn, q)])
def drC (pc : List (Nat × Nat)) : Nat → Nat
  | 0 => 0
  | k + 1 => if (pc.getD k (0, 0)).1 = (pc.getD k (0, 0)).2 then drC pc k else k + 1
theorem drC_le {pc : List (Nat × Nat)} : ∀ {k : Nat}, drC pc k ≤ k
  | 0 => Nat.le_refl _
  | k + 1 => by
    unfold drC
    split
    · have := drC_le (pc := pc) (k := k); omega
    · exact Nat.le_refl _
/-- pieces noted so far -/
def Pcs (R : RS) (pc : List (Nat × Nat)) : Prop := RVp R pc ∧ ∀ x ∈ pc, x.1 ≤ 8 ∧ x.2 ≤ 8
theorem add_pc {R : RS} {pc : List (Nat × Nat)} {p q : Nat} (h : Pcs R pc) (hl : pc.length < 12) (hp : p ≤ 8) (hq : q ≤ 8) : Pcs (mf (ma (ma R 46 pc.length (nI p)) 47 pc.length (nI q)) 45 (nI (pc.length + 1))) (pc ++ [(p, q)]) ∧ Rq 45 46 47 R (mf (ma (ma R 46 pc.length (nI p)) 47 pc.length (nI q)) 45 (nI (pc.length + 1))) := by
  obtain ⟨⟨d1, d2, d3⟩, d4⟩ := h
  refine ⟨⟨⟨by rw [List.length_append]; rfl, by rw [List.length_append]; show pc.length + 1 ≤ 12; omega, fun i x hx => ?_⟩, fun x hx => ?_⟩, fun k b c' => ?_, fun k b c' d => ?_, rfl⟩
  · show (ma (ma R 46 pc.length (nI p)) 47 pc.length (nI q)).2.1 46 i = _ ∧ (ma (ma R 46 pc.length (nI p)) 47 pc.length (nI q)).2.1 47 i = _
    rw [ma_at, if_neg (by omega), ma_at, ma_at]
    by_cases z : i = pc.length
    · subst z
      rw [List.getElem?_append_right (Nat.le_refl _), Nat.sub_self] at hx
      cases hx
      rw [if_pos ⟨rfl, rfl⟩, if_pos ⟨rfl, rfl⟩]; exact ⟨rfl, rfl⟩
    · rw [if_neg (fun y => z y.2), if_neg (fun y => z y.2), ma_at, if_neg (by omega)]
      by_cases y : i < pc.length
      · rw [List.getElem?_append_left y] at hx; exact d3 i x hx
      · rw [List.getElem?_eq_none (by rw [List.length_append]; show pc.length + 1 ≤ i; omega)] at hx; cases hx
  · rcases List.mem_append.mp hx with z | z
    · exact d4 x z
    · rw [List.mem_singleton.mp z]; exact ⟨hp, hq⟩
  · rw [mf_at, if_neg b]; rfl
  · funext j; show (ma (ma R 46 pc.length (nI p)) 47 pc.length (nI q)).2.1 k j = _
    rw [ma_at, if_neg (fun y => c' y.1), ma_at, if_neg (fun y => b y.1)]
theorem dr_loop {x1 x2 : Int32} {pc : List (Nat × Nat)} (h12 : pc.length ≤ 12) (h8 : ∀ x ∈ pc, x.1 ≤ 8 ∧ x.2 ≤ 8) : ∀ (k : Nat) (R : RS), k ≤ pc.length → R.1 45 = nI k → (∀ i x, pc[i]? = some x → R.2.1 46 i = nI x.1 ∧ R.2.1 47 i = nI x.2) → ∃ R', L_split_158 (k + 1) R x1 x2 1 R' (nI (drC pc k)) ∧ RVp R' (pc.take (drC pc k)) ∧ Rq 45 46 47 R R'
  | 0, R, hk, h45, hpc => by
    refine ⟨R, ?_, ⟨h45, Nat.zero_le _, fun i x hx => by cases hx⟩, Rq.rf⟩
    rw [L_split_158.eq_2, if_neg (by decide), h45, if_pos (by decide)]; exact ⟨rfl, rfl⟩
  | k + 1, R, hk, h45, hpc => by
    have ek : nI (k + 1) - 1 = nI k := n_sub (a := k + 1) (b := 1) (by omega)
    have hx : pc[k]? = some pc[k] := List.getElem?_eq_getElem (by omega)
    obtain ⟨p1, p2⟩ := hpc k _ hx
    have m8 := h8 _ (List.getElem_mem (by omega : k < pc.length))
    have eg : pc.getD k (0, 0) = pc[k] := by rw [List.getD_eq_getElem?_getD, hx]; rfl
    have go : ∀ R' r, (if pc[k].1 = pc[k].2 then L_split_158 (k + 1) (mf R 45 (nI k)) x1 x2 1 R' r else (R' = R ∧ r = nI (k + 1))) → L_split_158 (k + 2) R x1 x2 1 R' r := fun R' r hh => by
      rw [L_split_158.eq_2, if_neg (by decide), h45, if_neg (show ¬ nI (k + 1) ≤ 0 from fun z => by have := (n_le (a := k + 1) (b := 0) (by omega) (by omega)).mp z; omega), ek, n_cl (by omega), p1, p2]
      refine ⟨v_in (by omega) (by omega), v_in (by omega) (by omega), ?_⟩
      by_cases z : pc[k].1 = pc[k].2
      · rw [if_pos z] at hh
        rw [if_pos (by rw [z])]; exact hh
      · rw [if_neg z] at hh
        rw [if_neg (fun y => z ((n_eq (by omega) (by omega)).mp y))]; exact hh
    unfold drC
    rw [eg]
    by_cases z : pc[k].1 = pc[k].2
    · rw [if_pos z]
      obtain ⟨R', s1, s2, s3⟩ := dr_loop (x1 := x1) (x2 := x2) h12 h8 k (mf R 45 (nI k)) (by omega) rfl hpc
      refine ⟨R', go _ _ (by rw [if_pos z]; exact s1), s2, ?_⟩
      exact ⟨fun j b c' => by rw [s3.1 j b c', mf_at, if_neg b], s3.2⟩
    · rw [if_neg z]
      refine ⟨R, go _ _ (by rw [if_neg z]; exact ⟨rfl, rfl⟩), ⟨?_, ?_, fun i x hx => ?_⟩, Rq.rf⟩
      · rw [List.length_take, Nat.min_eq_left hk]; exact h45
      · rw [List.length_take]; omega
      · rw [List.getElem?_take] at hx
        split at hx
        · exact hpc i x hx
        · cases hx
def spF (w : List (Nat × Nat) × Bool) : List (Nat × Nat) := if w.2 then w.1.take (drC w.1 w.1.length) else w.1
theorem sp_end {R : RS} {dn : Nat} {x2 : Int32} {y : Bool} {pc : List (Nat × Nat)} (hN : N ≤ 8) (hd : dn ≤ N) (hm : Pcs R pc) (hl : pc.length < 12) : ∃ R', (∃ nf, L_split_158 nf (mf (ma (ma R 46 pc.length (nI dn)) 47 pc.length (nI N)) 45 (nI (pc.length + 1))) (nI dn) x2 (if y then 1 else 0) R' (nI (spF (pc ++ [(dn, N)], y)).length)) ∧ RVp R' (spF (pc ++ [(dn, N)], y)) ∧ Rq 45 46 47 R R' := by
  obtain ⟨a1, a2⟩ := add_pc (p := dn) (q := N) hm hl (by omega) hN
  cases y with
  | false =>
    refine ⟨_, ⟨1, ?_⟩, a1.1, a2⟩
    rw [L_split_158.eq_2, if_pos (show (if false = true then (1 : Int32) else 0) = 0 from rfl)]
    exact ⟨rfl, a1.1.1.symm⟩
  | true =>
    obtain ⟨R', s1, s2, s3⟩ := dr_loop (x1 := nI dn) (x2 := x2) a1.1.2.1 a1.2 (pc ++ [(dn, N)]).length _ (Nat.le_refl _) a1.1.1 a1.1.2.2
    refine ⟨R', ⟨(pc ++ [(dn, N)]).length + 1, ?_⟩, s2, a2.tr s3⟩
    rw [show (spF (pc ++ [(dn, N)], true)).length = drC (pc ++ [(dn, N)]) (pc ++ [(dn, N)]).length by
      show ((pc ++ [(dn, N)]).take _).length = _
      rw [List.length_take, Nat.min_eq_left drC_le]]
    exact s1
theorem sp_loop : ∀ (f dn fr : Nat) (y : Bool) (R : RS) (pc : List (Nat × Nat)), N + 1 - fr < f → dn ≤ N → fr ≤ N + 1 → Cx R X N c → Pcs R pc → pc.length ≤ fr → ∃ R', L_split_41 f R (nI dn) (nI fr) (if y then 1 else 0) R' (nI (spF (spL X N c f dn fr y pc)).length) ∧ RVp R' (spF (spL X N c f dn fr y pc)) ∧ Rq 45 46 47 R R'
  | 0, _, _, _, _, _, hf, _, _, _, _, _ => absurd hf (by omega)
  | f + 1, dn, fr, y, R, pc, hf, hd, hfr, h, hm, hl => by
    have hN := h.2.2.1
    have v3 : vp_in 1 3 := v_in (n := 1) (by omega) (by omega)
    have e1 : (1 : Int32).toNatClampNeg = 1 := by decide
    have e0 : (0 : Int32).toNatClampNeg = 0 := by decide
    have v12 : vp_in (nI pc.length) 12 := v_in (by omega) (by omega)
    have es : nI pc.length + 1 = nI (pc.length + 1) := (nI_succ _).symm
    unfold spL
    by_cases c0 : N < fr
    · rw [if_pos c0]
      obtain ⟨R', ⟨nf, s1⟩, s2, s3⟩ := sp_end (x2 := nI fr) (y := y) hN hd hm (by omega)
      refine ⟨R', ?_, s2, s3⟩
      rw [L_split_41.eq_2, e1, h.2.1]
      refine ⟨v3, ?_⟩
      rw [if_pos ((n_lt (by omega) (by omega)).mpr c0), hm.1.1, n_cl (by omega), es]
      exact ⟨v12, v3, v12, nf, s1⟩
    · rw [if_neg c0]
      obtain ⟨R5, r6, q1, q2, q3⟩ := sr_E (p := fr) h (by omega)
      have h5 := h.to q2.x
      have hm5 : Pcs R5 pc := ⟨hm.1.to (q2.1 45 (by omega)) (q2.2.1 46 (by omega)) (q2.2.1 47 (by omega)), hm.2⟩
      have st : ∀ R' r, (if r6 = 0 then (∃ nf : Nat, L_split_158 nf (mf (ma (ma R5 46 pc.length (nI dn)) 47 pc.length (nI N)) 45 (nI (pc.length + 1))) (nI dn) (nI fr) (if y then 1 else 0) R' r) else (∃ (R8 : RS) (r9 : Int32), E_behindMatch R5 R8 r9 ∧ (if (R8.2.1 30 1) = 0 then (L_split_41 f R8 (nI dn) r9 (if y then 1 else 0) R' r) else (vp_in (R8.1 45) 12 ∧ (L_split_41 f (mf (ma (ma R8 46 ((R8.1 45).toNatClampNeg) (nI dn)) 47 ((R8.1 45).toNatClampNeg) (R8.2.1 30 0)) 45 ((R8.1 45) + 1)) (R8.2.1 30 1) r9 1 R' r))))) → L_split_41 (f + 1) R (nI dn) (nI fr) (if y then 1 else 0) R' r := fun R' r hh => by
        rw [L_split_41.eq_2, e1, e0, h.2.1]
        refine ⟨v3, ?_⟩
        rw [if_neg (fun z => c0 ((n_lt (by omega) (by omega)).mp z))]
        refine ⟨R5, r6, q1, ?_⟩
        by_cases z : r6 = 0
        · rw [if_pos z] at hh ⊢
          rw [hm5.1.1, n_cl (by omega), es, h5.2.1]
          obtain ⟨nf, hh⟩ := hh
          exact ⟨v12, v3, v12, nf, hh⟩
        · rw [if_neg z] at hh ⊢
          obtain ⟨R8, r9, b1, b2⟩ := hh
          refine ⟨R8, r9, b1, v_in (n := 1) (by omega) (by omega), ?_⟩
          by_cases z2 : R8.2.1 30 1 = 0
          · rw [if_pos z2] at b2 ⊢; exact b2
          · rw [if_neg z2] at b2 ⊢
            exact ⟨b2.1, v_in (n := 0) (by omega) (by omega), b2.1, v_in (n := 1) (by omega) (by omega), b2.2⟩
      cases e : srX X N c (N + 2 - fr) fr with
      | none =>
        rw [e] at q3
        obtain ⟨R', s1, s2, s3⟩ := sp_end (x2 := nI fr) (y := y) hN hd hm5 (by omega)
        exact ⟨R', st _ _ (by rw [if_pos q3]; exact s1), s2, q2.p.tr s3⟩
      | some w =>
        obtain ⟨q, o⟩ := w
        rw [e] at q3
        obtain ⟨b1, b2, b3, b4, b5, b6⟩ := q3
        dsimp only
        have bm := bm_E hN b3 b4 b6
        have fr2 : fr < bhd q o.1 ∧ bhd q o.1 ≤ N + 1 := by unfold bhd; split <;> omega
        have s1' : R5.2.1 30 1 = nI o.1 := b6 1 (by omega)
        have s0' : R5.2.1 30 0 = nI q := b6 0 (by omega)
        by_cases z : o.1 = 0
        · rw [if_pos z]
          obtain ⟨R', s1, s2, s3⟩ := sp_loop f dn (bhd q o.1) y R5 pc (by omega) hd fr2.2 h5 hm5 (by omega)
          refine ⟨R', st _ _ ?_, s2, q2.p.tr s3⟩
          rw [if_neg (by rw [b1]; decide)]
          refine ⟨R5, _, bm, ?_⟩
          rw [if_pos (by rw [s1', z]; rfl)]; exact s1
        · rw [if_neg z]
          obtain ⟨a1, a2⟩ := add_pc (p := dn) (q := q) hm5 (by omega) (by omega) (by omega)
          obtain ⟨R', s1, s2, s3⟩ := sp_loop f o.1 (bhd q o.1) true _ (pc ++ [(dn, q)]) (by omega) (by omega) fr2.2 (h5.to (a2.x (by omega) (by omega) (by omega))) a1 (by rw [List.length_append]; show pc.length + 1 ≤ _; omega)
          refine ⟨R', st _ _ ?_, s2, q2.p.tr (a2.tr s3)⟩
          rw [if_neg (by rw [b1]; decide)]
          refine ⟨R5, _, bm, ?_⟩
          rw [if_neg (by rw [s1']; exact fun y => z ((n_eq (b := 0) (by omega) (by omega)).mp y)), hm5.1.1, n_cl (by omega), es, s0', s1']
          exact ⟨v12, s1⟩
end SUC
section SIM3
variable {R : RS} {V : VS}
/-- all but code, match, made and pieces -/
theorem RV.rp {f r1 r2 : Nat} {R1 R' : RS} {m : Option Sp} {md : List Int32} {pc : List (Nat × Nat)} (h : RV R V) (hf : 42 < f) (h1 : 43 < r1) (h2 : 43 < r2) (hff : ∀ k, k ≠ 0 → k ≠ 41 → k ≠ f → R1.1 k = R.1 k) (hr : R1.2 = R.2) (s : Rq f r1 r2 R1 R') (hm : RVm R' V.2.2.1 m) (hd : RVd R' md) (hp : RVp R' pc) : RV R' (V.1, V.2.1, V.2.2.1, m, md, pc) := by
  have e1 : ∀ k, k ≠ r1 → k ≠ r2 → k < 30 ∨ 40 < k → R'.2.1 k = R.2.1 k := fun k b c d => by rw [s.2.1 k b c d, hr]
  refine ⟨h.1.to (e1 1 (by omega) (by omega) (by omega)) (e1 2 (by omega) (by omega) (by omega)), h.2.1.to (fun k k1 k2 => e1 k (by omega) (by omega) (by omega)) (by rw [s.2.2, hr]) (fun k hk => by rw [s.1 k (by omega) (by omega), hff k (by omega) (by omega) (by omega)]), hm, hd, hp⟩
def rplV (V : VS) (c : Ch 4) : List Int32 := rpL V.1 (V.2.1 1) c (V.2.1 2) (V.2.1 1 + 2) 0 0
def splV (V : VS) (c : Ch 4) : List (Nat × Nat) := spF (spL V.1 (V.2.1 1) c (V.2.1 1 + 2) 0 0 false [])
theorem RV.pok (h : RV R V) : Pok V.1 (V.2.1 2) := ⟨h.1.2.2.2.2.1, fun q hq => h.1.2.2.2.2.2 2 q (by omega) hq⟩
theorem replace_E (h : RV R V) : match V.2.2.1 with
    | none => E_replace R (mf R 0 1) 0
    | some (g, c) => if flt V.1 (V.2.1 2) g 10 0 0 = 0 then ∃ R', E_replace R R' (nI (rplV V c).length) ∧ RV R' (V.1, V.2.1, V.2.2.1, none, rplV V c, V.2.2.2.2.2) ∧ R'.1 0 = 0 else E_replace R (mf R 0 (nI (flt V.1 (V.2.1 2) g 10 0 0))) 0 := by
  cases e : V.2.2.1 with
  | none =>
    have h7 := h.c7.1 e
    show E_replace R (mf R 0 1) 0
    unfold E_replace
    rw [if_pos h7]; exact ⟨rfl, rfl⟩
  | some w =>
    obtain ⟨g, c⟩ := w
    have h7 := h.c7.2 _ e
    have hx := h.2.1
    obtain ⟨-, β, -, -, b3⟩ := hx
    rw [e] at b3
    obtain ⟨-, h5, hg, -⟩ := b3
    have n28 := h.pok.1
    have ft := ft_loop h.pok h.1.1 (h.1.2.1 2 (by omega)) h5 10 0 0 (by omega) (by omega)
    have hfl9 : flt V.1 (V.2.1 2) g 10 0 0 < 2147483648 := by
      have : ∀ f w k, w ≤ 3 → flt V.1 (V.2.1 2) g f w k ≤ 3 := by
        intro f
        induction f with
        | zero => intro w k hw; exact hw
        | succ f ih =>
          intro w k hw
          unfold flt
          split
          · exact hw
          · split
            · split
              · omega
              · split
                · omega
                · split
                  · split
                    · exact ih _ _ hw
                    · exact ih _ _ (by omega)
                  · omega
            · split
              · split
                · omega
                · exact ih _ _ hw
              · exact ih _ _ hw
      have := this 10 0 0 (by omega)
      omega
    dsimp only
    by_cases z : flt V.1 (V.2.1 2) g 10 0 0 = 0
    · rw [if_pos z]
      have cx : Cx (mf (mf (mf R 0 0) 41 0) 43 0) V.1 (V.2.1 1) c := (h.cx e).to ⟨fun _ _ => rfl, rfl, rfl⟩
      obtain ⟨R', s1, s2, s3⟩ := rp_loop h.pok hg z (V.2.1 1 + 2) 0 0 (mf (mf (mf R 0 0) 41 0) 43 0) [] (by omega) (by omega) (by omega) cx (h.1.2.1 2 (by omega)) ⟨rfl, by decide, fun i x hx => by cases hx⟩ (by decide)
      rw [List.nil_append] at s1 s2
      refine ⟨R', ?_, ?_, ?_⟩
      · unfold E_replace
        rw [if_neg (by rw [h7]; decide)]
        refine ⟨R, _, ⟨10, ft⟩, ?_⟩
        rw [z, if_pos (by decide)]
        exact ⟨_, s1⟩
      · rw [← e]
        refine h.rp (R1 := mf (mf (mf R 0 0) 41 0) 43 0) (by omega) (by omega) (by omega) (fun k k0 k41 k43 => ?_) rfl s3 ?_ s2 (h.2.2.2.2.to ?_ ?_ ?_)
        · rw [mf_at, if_neg k43, mf_at, if_neg k41, mf_at, if_neg k0]
        · show R'.1 41 = 0
          rw [s3.1 41 (by omega) (by omega)]; rfl
        · rw [s3.1 45 (by omega) (by omega)]; rfl
        · rw [s3.2.1 46 (by omega) (by omega) (by omega)]; rfl
        · rw [s3.2.1 47 (by omega) (by omega) (by omega)]; rfl
      · rw [s3.1 0 (by omega) (by omega)]; rfl
    · rw [if_neg z]
      unfold E_replace
      rw [if_neg (by rw [h7]; decide)]
      refine ⟨R, _, ⟨10, ft⟩, ?_⟩
      rw [if_neg (show ¬ nI (flt V.1 (V.2.1 2) g 10 0 0) ≤ 0 from fun y => z (by have := (n_le (a := flt V.1 (V.2.1 2) g 10 0 0) (b := 0) hfl9 (by omega)).mp y; omega))]; exact ⟨rfl, rfl⟩
theorem split_E (h : RV R V) : match V.2.2.1 with
    | none => E_split R (mf R 0 1) 0
    | some (_, c) => ∃ R', E_split R R' (nI (splV V c).length) ∧ RV R' (V.1, V.2.1, V.2.2.1, none, V.2.2.2.2.1, splV V c) ∧ R'.1 0 = 0 := by
  cases e : V.2.2.1 with
  | none =>
    have h7 := h.c7.1 e
    show E_split R (mf R 0 1) 0
    unfold E_split
    rw [h7, if_pos rfl, if_neg (by decide)]; exact ⟨rfl, rfl⟩
  | some w =>
    obtain ⟨g, c⟩ := w
    have h7 := h.c7.2 _ e
    have cx : Cx (mf (mf (mf R 0 0) 41 0) 45 0) V.1 (V.2.1 1) c := (h.cx e).to ⟨fun _ _ => rfl, rfl, rfl⟩
    obtain ⟨R', s1, s2, s3⟩ := sp_loop (V.2.1 1 + 2) 0 0 false (mf (mf (mf R 0 0) 41 0) 45 0) [] (by omega) (by omega) (by omega) cx ⟨⟨rfl, by decide, fun i x hx => by cases hx⟩, fun x hx => by cases hx⟩ (by decide)
    refine ⟨R', ?_, ?_, ?_⟩
    · unfold E_split
      rw [h7, show (if (1 : Int32) = 0 then (1 : Int32) else 0) = 0 from rfl, if_pos (show (0 : Int32) ≤ 0 by decide)]
      exact ⟨_, s1⟩
    · rw [← e]
      refine h.rp (R1 := mf (mf (mf R 0 0) 41 0) 45 0) (by omega) (by omega) (by omega) (fun k k0 k41 k45 => ?_) rfl s3 ?_ (h.2.2.2.1.to ?_ ?_) s2
      · rw [mf_at, if_neg k45, mf_at, if_neg k41, mf_at, if_neg k0]
      · show R'.1 41 = 0
        rw [s3.1 41 (by omega) (by omega)]; rfl
      · rw [s3.1 43 (by omega) (by omega)]; rfl
      · rw [s3.2.1 44 (by omega) (by omega) (by omega)]; rfl
    · rw [s3.1 0 (by omega) (by omega)]; rfl
end SIM3
