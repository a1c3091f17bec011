
/-! a node entered -/
def Tx (R : RS) (t : Tn) : Prop := ∀ q, q < nN t → ¬ chR R q = -1
theorem Tx.sme {R R' : RS} {t : Tn} (h : Tx R t) (hs : Sme R R') : Tx R' t := fun q hq => by
  unfold chR
  rw [hs.2.1 1 (Or.inl (by omega))]
  exact h q hq
theorem again_E {R : RS} {N g p : Nat} {σ : Sp} (hN : R.2.1 2 1 = nI N) (h8 : N ≤ 8) (hp : p ≤ N) (h23 : R.1 23 = nI p) (hch : ∀ q, q < N → ¬ chR R q = -1) (hg : g ≤ 4) (hg1 : 1 ≤ g) (hs : svd N σ) (hsp : ∀ k, k < 10 → R.2.1 30 k = σ k) :
    if σ (2 * g) = -1 then E_again R (nI g) R 0 else if agR R N p (σ (2 * g)).toNatClampNeg ((σ (2 * g + 1)).toNatClampNeg - (σ (2 * g)).toNatClampNeg) 0 then E_again R (nI g) (mf R 23 (nI (p + ((σ (2 * g + 1)).toNatClampNeg - (σ (2 * g)).toNatClampNeg)))) 1 else E_again R (nI g) R 0 := by
  have e1 : (2 * nI g : Int32) = nI (2 * g) := n_mul 2 g
  have e2 : (2 * nI g + 1 : Int32) = nI (2 * g + 1) := by rw [e1]; exact (nI_succ _).symm
  have c1 : (2 * nI g : Int32).toNatClampNeg = 2 * g := by rw [e1]; exact n_cl (by omega)
  have c2 : (2 * nI g + 1 : Int32).toNatClampNeg = 2 * g + 1 := by rw [e2]; exact n_cl (by omega)
  have v1 : vp_in (2 * nI g) 10 := by rw [e1]; exact v_in (by omega) (by omega)
  have v2 : vp_in (2 * nI g + 1) 10 := by rw [e2]; exact v_in (by omega) (by omega)
  by_cases h0 : σ (2 * g) = -1
  · rw [if_pos h0]
    unfold E_again
    rw [c1, hsp _ (by omega), if_pos h0]
    exact ⟨v1, rfl, rfl⟩
  · rw [if_neg h0]
    rcases hs g hg1 hg with h | ⟨s, e, hs1, hs2, hs3, hs4⟩
    · exact absurd h h0
    · have hs1' : σ (2 * g) = nI s := hs1
      have hs2' : σ (2 * g + 1) = nI e := hs2
      have k1 : (σ (2 * g)).toNatClampNeg = s := by rw [hs1']; exact n_cl (by omega)
      have k2 : (σ (2 * g + 1)).toNatClampNeg = e := by rw [hs2']; exact n_cl (by omega)
      rw [k1, k2]
      have hl := ag_loop (x1 := nI g) hN h8 hp h23 hch (e - s) 0 (e - s) (by omega) (by omega : s + (e - s) ≤ N)
      have wrap : ∀ R' r, L_again_32 (e - s + 1) R (nI g) (nI s) (nI (e - s)) (nI 0) R' r → E_again R (nI g) R' r := fun R' r hL => by
        unfold E_again
        rw [c1, c2, hsp _ (by omega), hsp _ (by omega), if_neg h0, hs1', hs2', n_sub hs3]
        exact ⟨v1, v2, _, hL⟩
      cases ha : agR R N p s (e - s) 0 with
      | true => rw [ha] at hl; exact wrap _ _ hl
      | false => rw [ha] at hl; exact wrap _ _ hl
section ENT
variable {R : RS} {t : Tn} {κ : List Lk} {p : Nat} {σ : Sp} {lk : Nat} {ws : List Wy} {n : Nat}
theorem leaf_E (hA : Arr R t) (hX : Tx R t) (h : Mid R κ p σ lk ws) (hn : n < 96) (hp : p ≤ nN t) (hs : svd (nN t) σ) (hT : 2 ≤ nT t n ∧ nT t n ≤ 7) : ∃ R1 b, E_enter R (nI n) R1 b ∧ Sme R R1 ∧ (match nL t n p σ with | some p' => b = 1 ∧ Rep R1 (none, κ, p', σ, lk, ws) | none => b = 0 ∧ Mid R1 κ p σ lk ws) := by
  obtain ⟨w1, w2, w3, w4, w5, w6⟩ := hA.1 n hn
  obtain ⟨q1, q2, q3, q4, q5, q6, q7⟩ := hA.2.2.2.2.1 n hn
  have hN := hA.2.1
  have h8 := hA.2.2.2.2.2.1
  have hM := mid_node (x := -1) h
  have hS : Sme R (mf R 24 (-1)) := Sme.f (by omega)
  have hv : vp_in (nI n) 96 := v_in hn (by omega)
  have cln : (nI n).toNatClampNeg = n := n_cl (by omega)
  rw [hA.2.2.2.1 n p σ hn hT.1 hT.2]
  have stay : Rep (mf R 24 (-1)) (none, κ, p, σ, lk, ws) := ⟨rfl, hM⟩
  have one0 : narrow .boolean (.int 0) = .int 0 := rfl
  have one1 : narrow .boolean (.int 1) = .int 1 := rfl
  rcases (show nT t n = 2 ∨ nT t n = 3 ∨ nT t n = 4 ∨ nT t n = 5 ∨ nT t n = 6 ∨ nT t n = 7 by omega) with e | e | e | e | e | e

  · have e8 : R.2.1 8 n = nI 2 := by rw [w1, e]
    have h1 := one_E (R := mf R 24 (-1)) (n := n) hN h8 hp hn h.2.1 hX
    have ev : lfR R (nN t) n p σ = if p < nN t ∧ ¬ inR R n (chR R p) = 0 then some (p + 1) else none := by
      unfold lfR; rw [e8, if_pos (show nI 2 = 2 from rfl)]
      by_cases a1 : p < nN t
      · rw [if_pos a1]; by_cases a2 : inR R n (chR R p) = 0
        · rw [if_pos a2, if_neg (fun z => z.2 a2)]
        · rw [if_neg a2, if_pos ⟨a1, a2⟩]
      · rw [if_neg a1, if_neg (fun z => a1 z.1)]
    rw [ev]
    by_cases a : p < nN t ∧ ¬ inR R n (chR R p) = 0
    · rw [if_pos a]
      have h1 : E_one (mf R 24 (-1)) (nI n) (mf (mf R 24 (-1)) 23 (nI (p + 1))) 1 := by have h2 := h1; rw [if_pos (show p < nN t ∧ ¬ inR (mf R 24 (-1)) n (chR (mf R 24 (-1)) p) = 0 from a)] at h2; exact h2
      refine ⟨_, 1, ?_, hS.trans (Sme.f (k := 23) (x := nI (p + 1)) (by omega)), rfl, rfl, mid_place hM⟩
      unfold E_enter; rw [cln, e8]; refine ⟨hv, ?_⟩; rw [if_neg (show ¬ nI 2 = 0 by decide), if_neg (show ¬ nI 2 = 1 by decide), if_pos (show nI 2 = 2 from rfl)]
      exact ⟨_, _, h1, one1, rfl, rfl⟩
    · rw [if_neg a]
      have h1 : E_one (mf R 24 (-1)) (nI n) (mf R 24 (-1)) 0 := by have h2 := h1; rw [if_neg (show ¬ (p < nN t ∧ ¬ inR (mf R 24 (-1)) n (chR (mf R 24 (-1)) p) = 0) from a)] at h2; exact h2
      refine ⟨_, 0, ?_, hS, rfl, hM⟩
      unfold E_enter; rw [cln, e8]; refine ⟨hv, ?_⟩; rw [if_neg (show ¬ nI 2 = 0 by decide), if_neg (show ¬ nI 2 = 1 by decide), if_pos (show nI 2 = 2 from rfl)]
      exact ⟨_, _, h1, one0, rfl, rfl⟩
  · have e8 : R.2.1 8 n = nI 3 := by rw [w1, e]
    have ev : lfR R (nN t) n p σ = if p = 0 then some p else none := by unfold lfR; rw [e8, if_neg (show ¬ nI 3 = 2 by decide), if_pos (show nI 3 = 3 from rfl)]
    rw [ev]
    by_cases a : p = 0
    · rw [if_pos a]
      refine ⟨_, 1, ?_, hS, rfl, stay⟩
      unfold E_enter; rw [cln, e8]; refine ⟨hv, ?_⟩; rw [if_neg (show ¬ nI 3 = 0 by decide), if_neg (show ¬ nI 3 = 1 by decide), if_neg (show ¬ nI 3 = 2 by decide), if_pos (show nI 3 = 3 from rfl)]
      rw [if_pos (show R.1 23 = 0 by rw [h.2.1, a]; rfl)]; exact ⟨one1, rfl, rfl⟩
    · rw [if_neg a]
      refine ⟨_, 0, ?_, hS, rfl, hM⟩
      unfold E_enter; rw [cln, e8]; refine ⟨hv, ?_⟩; rw [if_neg (show ¬ nI 3 = 0 by decide), if_neg (show ¬ nI 3 = 1 by decide), if_neg (show ¬ nI 3 = 2 by decide), if_pos (show nI 3 = 3 from rfl)]
      rw [if_neg (show ¬ R.1 23 = 0 from fun z => a (by rw [h.2.1] at z; exact (n_eq (b := 0) (by omega) (by omega)).mp z))]; exact ⟨one0, rfl, rfl⟩
  · have e8 : R.2.1 8 n = nI 4 := by rw [w1, e]
    have ev : lfR R (nN t) n p σ = if p = nN t then some p else none := by unfold lfR; rw [e8, if_neg (show ¬ nI 4 = 2 by decide), if_neg (show ¬ nI 4 = 3 by decide), if_pos (show nI 4 = 4 from rfl)]
    have c1 : (1 : Int32).toNatClampNeg = 1 := by decide
    rw [ev]
    by_cases a : p = nN t
    · rw [if_pos a]
      refine ⟨_, 1, ?_, hS, rfl, stay⟩
      unfold E_enter; rw [cln, e8]; refine ⟨hv, ?_⟩; rw [if_neg (show ¬ nI 4 = 0 by decide), if_neg (show ¬ nI 4 = 1 by decide), if_neg (show ¬ nI 4 = 2 by decide), if_neg (show ¬ nI 4 = 3 by decide), if_pos (show nI 4 = 4 from rfl)]
      rw [c1, hN, if_pos (show R.1 23 = nI (nN t) by rw [h.2.1, a])]; exact ⟨v_in (n := 1) (by omega) (by omega), one1, rfl, rfl⟩
    · rw [if_neg a]
      refine ⟨_, 0, ?_, hS, rfl, hM⟩
      unfold E_enter; rw [cln, e8]; refine ⟨hv, ?_⟩; rw [if_neg (show ¬ nI 4 = 0 by decide), if_neg (show ¬ nI 4 = 1 by decide), if_neg (show ¬ nI 4 = 2 by decide), if_neg (show ¬ nI 4 = 3 by decide), if_pos (show nI 4 = 4 from rfl)]
      rw [c1, hN, if_neg (show ¬ R.1 23 = nI (nN t) from fun z => a (by rw [h.2.1] at z; exact (n_eq (by omega) (by omega)).mp z))]; exact ⟨v_in (n := 1) (by omega) (by omega), one0, rfl, rfl⟩
  · have e8 : R.2.1 8 n = nI 5 := by rw [w1, e]
    have ev : lfR R (nN t) n p σ = if wdA R (nN t) p = wdA R (nN t) (p + 1) then none else some p := by unfold lfR; rw [e8, if_neg (show ¬ nI 5 = 2 by decide), if_neg (show ¬ nI 5 = 3 by decide), if_neg (show ¬ nI 5 = 4 by decide), if_pos (show nI 5 = 5 from rfl)]
    have ha : E_isWordAt (mf R 24 (-1)) (R.1 23 - 1) (mf R 24 (-1)) (wdA R (nN t) p) := wdA_E (R := mf R 24 (-1)) hN h8 (by omega) (by rw [h.2.1]) hX
    have hb : E_isWordAt (mf R 24 (-1)) ((mf R 24 (-1)).1 23) (mf R 24 (-1)) (wdA R (nN t) (p + 1)) := wdA_E (R := mf R 24 (-1)) (p := p + 1) hN h8 (by omega) (by show R.1 23 = _; rw [h.2.1, show nI (p + 1) - 1 = nI (p + 1 - 1) from n_sub (b := 1) (by omega)]; rfl) hX
    rw [ev]
    by_cases a : wdA R (nN t) p = wdA R (nN t) (p + 1)
    · rw [if_pos a]
      refine ⟨_, 0, ?_, hS, rfl, hM⟩
      unfold E_enter; rw [cln, e8]; refine ⟨hv, ?_⟩; rw [if_neg (show ¬ nI 5 = 0 by decide), if_neg (show ¬ nI 5 = 1 by decide), if_neg (show ¬ nI 5 = 2 by decide), if_neg (show ¬ nI 5 = 3 by decide), if_neg (show ¬ nI 5 = 4 by decide), if_pos (show nI 5 = 5 from rfl)]
      exact ⟨_, _, ha, _, _, hb, by rw [if_pos a]; exact one0, rfl, by rw [if_pos a]⟩
    · rw [if_neg a]
      refine ⟨_, 1, ?_, hS, rfl, stay⟩
      unfold E_enter; rw [cln, e8]; refine ⟨hv, ?_⟩; rw [if_neg (show ¬ nI 5 = 0 by decide), if_neg (show ¬ nI 5 = 1 by decide), if_neg (show ¬ nI 5 = 2 by decide), if_neg (show ¬ nI 5 = 3 by decide), if_neg (show ¬ nI 5 = 4 by decide), if_pos (show nI 5 = 5 from rfl)]
      exact ⟨_, _, ha, _, _, hb, by rw [if_neg a]; exact one1, rfl, by rw [if_neg a]⟩
  · have e8 : R.2.1 8 n = nI 6 := by rw [w1, e]
    have ev : lfR R (nN t) n p σ = if wdA R (nN t) p = wdA R (nN t) (p + 1) then some p else none := by unfold lfR; rw [e8, if_neg (show ¬ nI 6 = 2 by decide), if_neg (show ¬ nI 6 = 3 by decide), if_neg (show ¬ nI 6 = 4 by decide), if_neg (show ¬ nI 6 = 5 by decide), if_pos (show nI 6 = 6 from rfl)]
    have ha : E_isWordAt (mf R 24 (-1)) (R.1 23 - 1) (mf R 24 (-1)) (wdA R (nN t) p) := wdA_E (R := mf R 24 (-1)) hN h8 (by omega) (by rw [h.2.1]) hX
    have hb : E_isWordAt (mf R 24 (-1)) ((mf R 24 (-1)).1 23) (mf R 24 (-1)) (wdA R (nN t) (p + 1)) := wdA_E (R := mf R 24 (-1)) (p := p + 1) hN h8 (by omega) (by show R.1 23 = _; rw [h.2.1, show nI (p + 1) - 1 = nI (p + 1 - 1) from n_sub (b := 1) (by omega)]; rfl) hX
    rw [ev]
    by_cases a : wdA R (nN t) p = wdA R (nN t) (p + 1)
    · rw [if_pos a]
      refine ⟨_, 1, ?_, hS, rfl, stay⟩
      unfold E_enter; rw [cln, e8]; refine ⟨hv, ?_⟩; rw [if_neg (show ¬ nI 6 = 0 by decide), if_neg (show ¬ nI 6 = 1 by decide), if_neg (show ¬ nI 6 = 2 by decide), if_neg (show ¬ nI 6 = 3 by decide), if_neg (show ¬ nI 6 = 4 by decide), if_neg (show ¬ nI 6 = 5 by decide), if_pos (show nI 6 = 6 from rfl)]
      exact ⟨_, _, ha, _, _, hb, by rw [if_pos a]; exact one1, rfl, by rw [if_pos a]⟩
    · rw [if_neg a]
      refine ⟨_, 0, ?_, hS, rfl, hM⟩
      unfold E_enter; rw [cln, e8]; refine ⟨hv, ?_⟩; rw [if_neg (show ¬ nI 6 = 0 by decide), if_neg (show ¬ nI 6 = 1 by decide), if_neg (show ¬ nI 6 = 2 by decide), if_neg (show ¬ nI 6 = 3 by decide), if_neg (show ¬ nI 6 = 4 by decide), if_neg (show ¬ nI 6 = 5 by decide), if_pos (show nI 6 = 6 from rfl)]
      exact ⟨_, _, ha, _, _, hb, by rw [if_neg a]; exact one0, rfl, by rw [if_neg a]⟩
  · have e8 : R.2.1 8 n = nI 7 := by rw [w1, e]
    have cA : (R.2.1 9 n).toNatClampNeg = nA t n := by rw [w2]; exact n_cl (by omega)
    have ev : lfR R (nN t) n p σ = if σ (2 * nA t n) = -1 then none else if agR R (nN t) p (σ (2 * nA t n)).toNatClampNeg ((σ (2 * nA t n + 1)).toNatClampNeg - (σ (2 * nA t n)).toNatClampNeg) 0 then some (p + ((σ (2 * nA t n + 1)).toNatClampNeg - (σ (2 * nA t n)).toNatClampNeg)) else none := by unfold lfR; rw [cA]; rw [e8, if_neg (show ¬ nI 7 = 2 by decide), if_neg (show ¬ nI 7 = 3 by decide), if_neg (show ¬ nI 7 = 4 by decide), if_neg (show ¬ nI 7 = 5 by decide), if_neg (show ¬ nI 7 = 6 by decide)]
    have h1 := again_E (R := mf R 24 (-1)) hN h8 hp h.2.1 hX q2 (q7 (Or.inl e)) hs h.2.2.1
    have agx : ∀ f m k, agR (mf R 24 (-1)) (nN t) p f m k = agR R (nN t) p f m k := fun f m k => agR_ext (R' := mf R 24 (-1)) (R := R) rfl
    rw [agx] at h1
    rw [ev]
    by_cases a : σ (2 * nA t n) = -1
    · rw [if_pos a] at h1 ⊢
      refine ⟨_, 0, ?_, hS, rfl, hM⟩
      unfold E_enter; rw [cln, e8]; refine ⟨hv, ?_⟩; rw [if_neg (show ¬ nI 7 = 0 by decide), if_neg (show ¬ nI 7 = 1 by decide), if_neg (show ¬ nI 7 = 2 by decide), if_neg (show ¬ nI 7 = 3 by decide), if_neg (show ¬ nI 7 = 4 by decide), if_neg (show ¬ nI 7 = 5 by decide), if_neg (show ¬ nI 7 = 6 by decide), if_pos (show nI 7 = 7 from rfl)]
      rw [w2]; exact ⟨hv, _, _, h1, one0, rfl, rfl⟩
    · rw [if_neg a] at h1 ⊢
      cases b : agR R (nN t) p (σ (2 * nA t n)).toNatClampNeg ((σ (2 * nA t n + 1)).toNatClampNeg - (σ (2 * nA t n)).toNatClampNeg) 0 with
      | true =>
        rw [b, if_pos rfl] at h1
        rw [if_pos rfl]
        refine ⟨_, 1, ?_, hS.trans (Sme.f (k := 23) (x := nI (p + ((σ (2 * nA t n + 1)).toNatClampNeg - (σ (2 * nA t n)).toNatClampNeg))) (by omega)), rfl, rfl, mid_place hM⟩
        unfold E_enter; rw [cln, e8]; refine ⟨hv, ?_⟩; rw [if_neg (show ¬ nI 7 = 0 by decide), if_neg (show ¬ nI 7 = 1 by decide), if_neg (show ¬ nI 7 = 2 by decide), if_neg (show ¬ nI 7 = 3 by decide), if_neg (show ¬ nI 7 = 4 by decide), if_neg (show ¬ nI 7 = 5 by decide), if_neg (show ¬ nI 7 = 6 by decide), if_pos (show nI 7 = 7 from rfl)]
        rw [w2]; exact ⟨hv, _, _, h1, one1, rfl, rfl⟩
      | false =>
        rw [b, if_neg (by decide)] at h1
        rw [if_neg (by decide)]
        refine ⟨_, 0, ?_, hS, rfl, hM⟩
        unfold E_enter; rw [cln, e8]; refine ⟨hv, ?_⟩; rw [if_neg (show ¬ nI 7 = 0 by decide), if_neg (show ¬ nI 7 = 1 by decide), if_neg (show ¬ nI 7 = 2 by decide), if_neg (show ¬ nI 7 = 3 by decide), if_neg (show ¬ nI 7 = 4 by decide), if_neg (show ¬ nI 7 = 5 by decide), if_neg (show ¬ nI 7 = 6 by decide), if_pos (show nI 7 = 7 from rfl)]
        rw [w2]; exact ⟨hv, _, _, h1, one0, rfl, rfl⟩

theorem enter_E (hA : Arr R t) (hX : Tx R t) (h : Mid R κ p σ lk ws) (hn : n < 96) (hp : p ≤ nN t) (hs : svd (nN t) σ) (hl : lk ≤ 990) (hw : ws.length ≤ 490) : ∃ R1 b, E_enter R (nI n) R1 b ∧ Sme R R1 ∧ ((b = 1 ∧ ∃ c', ent t n κ p σ lk ws = some c' ∧ Rep R1 c') ∨ (b = 0 ∧ ent t n κ p σ lk ws = popW t ws ∧ Bk R1 ws lk)) := by
  obtain ⟨w1, w2, w3, w4, w5, w6⟩ := hA.1 n hn
  obtain ⟨q1, q2, q3, q4, q5, q6, q7⟩ := hA.2.2.2.2.1 n hn
  have h8 := hA.2.2.2.2.2.1
  have hM := mid_node (x := -1) h
  have hS : Sme R (mf R 24 (-1)) := Sme.f (by omega)
  have hA' := hA.sme hS
  have hv : vp_in (nI n) 96 := v_in hn (by omega)
  have cln : (nI n).toNatClampNeg = n := n_cl (by omega)
  have one1 : narrow .boolean (.int 1) = .int 1 := rfl
  have into : ∀ (R2 : RS) (x : Int32), E_into R2 (nI n) x (mf (mf R2 25 x) 24 (R2.2.1 12 n)) 1 := fun R2 x => by unfold E_into; rw [cln]; exact ⟨hv, rfl, rfl⟩
  by_cases hlf : 2 ≤ nT t n ∧ nT t n ≤ 7
  · obtain ⟨R1, b, k1, k2, k3⟩ := leaf_E hA hX h hn hp hs hlf
    have he : ent t n κ p σ lk ws = (match nL t n p σ with | some p' => some (none, κ, p', σ, lk, ws) | none => popW t ws) := by
      unfold ent
      obtain ⟨h1, h2⟩ := hlf
      generalize nT t n = k at h1 h2
      rcases (show k = 2 ∨ k = 3 ∨ k = 4 ∨ k = 5 ∨ k = 6 ∨ k = 7 by omega) with rfl | rfl | rfl | rfl | rfl | rfl <;> rfl
    refine ⟨R1, b, k1, k2, ?_⟩
    rw [he]
    cases hx : nL t n p σ with
    | some p' => rw [hx] at k3; exact Or.inl ⟨k3.1, _, rfl, k3.2⟩
    | none => rw [hx] at k3; exact Or.inr ⟨k3.1, rfl, k3.2.2.2.2.2.1, k3.2.2.2.2.2.2.1, k3.2.2.2.2.2.2.2⟩
  · rcases (show nT t n = 0 ∨ nT t n = 1 ∨ nT t n = 8 ∨ nT t n = 9 ∨ nT t n = 10 ∨ nT t n = 11 ∨ nT t n = 12 ∨ nT t n = 13 ∨ nT t n = 14 ∨ nT t n = 15 by omega) with e | e | e | e | e | e | e | e | e | e

    · have e8 : R.2.1 8 n = nI 0 := by rw [w1, e]
      have he : ent t n κ p σ lk ws = some (nK t n, κ, p, σ, lk, ws) := by unfold ent; rw [e]; rfl
      refine ⟨_, 1, ?_, hS.trans ((Sme.f (k := 25) (x := R.1 25) (by omega)).trans (Sme.f (k := 24) (x := R.2.1 12 n) (by omega))), Or.inl ⟨rfl, _, he, w5, mid_cong hM (fun k hk => by simp only [mf_at]; by_cases a : k = 25 <;> simp [a, show k ≠ 24 by omega]) rfl⟩⟩
      unfold E_enter; rw [cln, e8]; refine ⟨hv, ?_⟩; rw [if_pos (show nI 0 = 0 from rfl)]
      exact ⟨_, _, into (mf R 24 (-1)) (R.1 25), one1, rfl, rfl⟩
    · have e8 : R.2.1 8 n = nI 1 := by rw [w1, e]
      have he : ent t n κ p σ lk ws = some (pcs t (nK t n) κ p σ lk (match nS t n with | none => ws | some m => (some m, none, p, κ, σ, lk) :: ws)) := by unfold ent; rw [e]; rfl
      cases hsb : nS t n with
      | none =>
        rw [hsb] at he
        obtain ⟨R1, k1, k2, k3⟩ := pcs_E hA' hM (by omega) rfl q5
        refine ⟨R1, 1, ?_, hS.trans k3, Or.inl ⟨rfl, _, he, k2⟩⟩
        unfold E_enter; rw [cln, e8]; refine ⟨hv, ?_⟩; rw [if_neg (show ¬ nI 1 = 0 by decide), if_pos (show nI 1 = 1 from rfl)]
        refine ⟨R1, 1, ?_, one1, rfl, rfl⟩
        unfold E_begin
        refine ⟨hv, ?_⟩
        rw [cln, show (mf R 24 (-1)).2.1 13 n = iO none by rw [← hsb]; exact w6, if_pos (show iO none = -1 from rfl), show (mf R 24 (-1)).2.1 12 n = iO (nK t n) from w5]
        exact ⟨hv, _, _, k1, one1, rfl, rfl⟩
      | some m =>
        rw [hsb] at he
        obtain ⟨R4, g1, g2, g3, g4, g5, g6⟩ := mid_way hM (by omega) (some m) none p
        obtain ⟨R1, k1, k2, k3⟩ := pcs_E (hA'.sme g3) g2 (by omega) (by rw [g4]; rfl) q5
        refine ⟨R1, 1, ?_, (hS.trans g3).trans k3, Or.inl ⟨rfl, _, he, k2⟩⟩
        unfold E_enter; rw [cln, e8]; refine ⟨hv, ?_⟩; rw [if_neg (show ¬ nI 1 = 0 by decide), if_pos (show nI 1 = 1 from rfl)]
        refine ⟨R1, 1, ?_, one1, rfl, rfl⟩
        unfold E_begin
        refine ⟨hv, ?_⟩
        rw [cln, show (mf R 24 (-1)).2.1 13 n = iO (some m) by rw [← hsb]; exact w6, if_neg (show ¬ iO (some m) = -1 from n_m1 (by have := q6 m hsb; omega))]
        refine ⟨hv, R4, by rw [show (mf R 24 (-1)).1 23 = nI p from h.2.1]; exact g1, hv, ?_⟩
        rw [show R4.2.1 12 n = iO (nK t n) from ((hA'.sme g3).1 n hn).2.2.2.2.1]
        exact ⟨_, _, k1, one1, rfl, rfl⟩
    · have e8 : R.2.1 8 n = nI 8 := by rw [w1, e]
      have he : ent t n κ p σ lk ws = some (nK t n, (21, nA t n, p, 0) :: κ, p, σ, lk + 1, ws) := by unfold ent; rw [e]; rfl
      have hm := mid_link hM (by omega) (21, nA t n, p, 0)
      refine ⟨mf (mf (lnk (mf R 24 (-1)) lk (nI 21) (nI (nA t n)) (nI p) (R.1 25)) 25 (nI lk)) 24 ((lnk (mf R 24 (-1)) lk (nI 21) (nI (nA t n)) (nI p) (R.1 25)).2.1 12 n), 1, ?_, (hS.trans lnk_Sme).trans ((Sme.f (k := 25) (x := nI lk) (by omega)).trans (Sme.f (k := 24) (by omega))), Or.inl ⟨rfl, _, he, ?_, mid_node hm⟩⟩
      · unfold E_enter; rw [cln, e8]; refine ⟨hv, ?_⟩; rw [if_neg (show ¬ nI 8 = 0 by decide), if_neg (show ¬ nI 8 = 1 by decide), if_neg (show ¬ nI 8 = 2 by decide), if_neg (show ¬ nI 8 = 3 by decide), if_neg (show ¬ nI 8 = 4 by decide), if_neg (show ¬ nI 8 = 5 by decide), if_neg (show ¬ nI 8 = 6 by decide), if_neg (show ¬ nI 8 = 7 by decide), if_pos (show nI 8 = 8 from rfl)]
        rw [w2, h.2.1]; exact ⟨hv, _, _, lnk_E (kd := nI 21) h.2.2.2.1 (by omega), _, _, into _ (nI lk), one1, rfl, rfl⟩
      · show (lnk (mf R 24 (-1)) lk (nI 21) (nI (nA t n)) (nI p) (R.1 25)).2.1 12 n = iO (nK t n)
        rw [lnk_at]; simp; exact w5
    · have e8 : R.2.1 8 n = nI 9 := by rw [w1, e]
      have he : ent t n κ p σ lk ws = some (nK t n, κ, p, σ, lk, ws) := by unfold ent; rw [e]; rfl
      refine ⟨_, 1, ?_, hS.trans ((Sme.f (k := 25) (x := R.1 25) (by omega)).trans (Sme.f (k := 24) (x := R.2.1 12 n) (by omega))), Or.inl ⟨rfl, _, he, w5, mid_cong hM (fun k hk => by simp only [mf_at]; by_cases a : k = 25 <;> simp [a, show k ≠ 24 by omega]) rfl⟩⟩
      unfold E_enter; rw [cln, e8]; refine ⟨hv, ?_⟩; rw [if_neg (show ¬ nI 9 = 0 by decide), if_neg (show ¬ nI 9 = 1 by decide), if_neg (show ¬ nI 9 = 2 by decide), if_neg (show ¬ nI 9 = 3 by decide), if_neg (show ¬ nI 9 = 4 by decide), if_neg (show ¬ nI 9 = 5 by decide), if_neg (show ¬ nI 9 = 6 by decide), if_neg (show ¬ nI 9 = 7 by decide), if_neg (show ¬ nI 9 = 8 by decide), if_pos (show nI 9 = 9 from rfl)]
      exact ⟨_, _, into (mf R 24 (-1)) (R.1 25), one1, rfl, rfl⟩
    · have e8 : R.2.1 8 n = nI 10 := by rw [w1, e]
      have he : ent t n κ p σ lk ws = some (nK t n, (10, ws.length, p, 0) :: κ, p, σ, lk + 1, ws) := by unfold ent; rw [e]; rfl
      have hm := mid_link hM (by omega) (10, ws.length, p, 0)
      refine ⟨mf (mf (lnk (mf R 24 (-1)) lk (nI 10) (nI ws.length) (nI p) (R.1 25)) 25 (nI lk)) 24 ((lnk (mf R 24 (-1)) lk (nI 10) (nI ws.length) (nI p) (R.1 25)).2.1 12 n), 1, ?_, (hS.trans lnk_Sme).trans ((Sme.f (k := 25) (x := nI lk) (by omega)).trans (Sme.f (k := 24) (by omega))), Or.inl ⟨rfl, _, he, ?_, mid_node hm⟩⟩
      · unfold E_enter; rw [cln, e8]; refine ⟨hv, ?_⟩; rw [if_neg (show ¬ nI 10 = 0 by decide), if_neg (show ¬ nI 10 = 1 by decide), if_neg (show ¬ nI 10 = 2 by decide), if_neg (show ¬ nI 10 = 3 by decide), if_neg (show ¬ nI 10 = 4 by decide), if_neg (show ¬ nI 10 = 5 by decide), if_neg (show ¬ nI 10 = 6 by decide), if_neg (show ¬ nI 10 = 7 by decide), if_neg (show ¬ nI 10 = 8 by decide), if_neg (show ¬ nI 10 = 9 by decide), if_pos (show nI 10 = 10 from rfl)]
        rw [h.2.1, h.2.2.2.2.1]; exact ⟨hv, _, _, lnk_E h.2.2.2.1 (by omega), _, _, into _ (nI lk), one1, rfl, rfl⟩
      · show (lnk (mf R 24 (-1)) lk (nI 10) (nI ws.length) (nI p) (R.1 25)).2.1 12 n = iO (nK t n)
        rw [lnk_at]; simp; exact w5
    · have e8 : R.2.1 8 n = nI 11 := by rw [w1, e]
      have he : ent t n κ p σ lk ws = some (nK t n, (11, ws.length, p, 0) :: κ, p, σ, lk + 1, (none, none, p, κ, σ, lk) :: ws) := by unfold ent; rw [e]; rfl
      obtain ⟨R4, g1, g2, g3, g4, g5, g6⟩ := mid_way hM (by omega) none none p
      have hm := mid_link g2 (by omega) (11, ws.length, p, 0)
      refine ⟨mf (mf (lnk R4 lk (nI 11) (nI ws.length) (nI p) (R4.1 25)) 25 (nI lk)) 24 ((lnk R4 lk (nI 11) (nI ws.length) (nI p) (R4.1 25)).2.1 12 n), 1, ?_, ((hS.trans g3).trans lnk_Sme).trans ((Sme.f (k := 25) (x := nI lk) (by omega)).trans (Sme.f (k := 24) (by omega))), Or.inl ⟨rfl, _, he, ?_, mid_node hm⟩⟩
      · unfold E_enter; rw [cln, e8]; refine ⟨hv, ?_⟩; rw [if_neg (show ¬ nI 11 = 0 by decide), if_neg (show ¬ nI 11 = 1 by decide), if_neg (show ¬ nI 11 = 2 by decide), if_neg (show ¬ nI 11 = 3 by decide), if_neg (show ¬ nI 11 = 4 by decide), if_neg (show ¬ nI 11 = 5 by decide), if_neg (show ¬ nI 11 = 6 by decide), if_neg (show ¬ nI 11 = 7 by decide), if_neg (show ¬ nI 11 = 8 by decide), if_neg (show ¬ nI 11 = 9 by decide), if_neg (show ¬ nI 11 = 10 by decide), if_pos (show nI 11 = 11 from rfl)]
        refine ⟨_, 1, ?_, one1, rfl, rfl⟩
        unfold E_notAhead
        refine ⟨R4, by rw [show (mf R 24 (-1)).1 23 = nI p from h.2.1]; exact g1, _, nI lk, ?_, _, _, into _ (nI lk), one1, rfl, rfl⟩
        rw [show (mf R 24 (-1)).1 27 = nI ws.length from h.2.2.2.2.1, show R4.1 23 = nI p from g2.2.1]
        exact lnk_E (kd := nI 11) g2.2.2.2.1 (by omega)
      · show (lnk R4 lk (nI 11) (nI ws.length) (nI p) (R4.1 25)).2.1 12 n = iO (nK t n)
        rw [lnk_at]; simp; exact ((hA'.sme g3).1 n hn).2.2.2.2.1
    · have e8 : R.2.1 8 n = nI 12 := by rw [w1, e]
      have he : ent t n κ p σ lk ws = some (bef t n p ((12, ws.length, p, 0) :: κ) σ (lk + 1) ws) := by unfold ent; rw [e]; rfl
      have hm := mid_link hM (by omega) (12, ws.length, p, 0)
      have hSl : Sme (mf R 24 (-1)) (mf (lnk (mf R 24 (-1)) lk (nI 12) (nI ws.length) (nI p) (R.1 25)) 25 (nI lk)) := lnk_Sme.trans (Sme.f (by omega))
      obtain ⟨R4, g1, g2, g3⟩ := bef_E (hA'.sme hSl) hm (by omega) hn (show p ≤ 8 by omega)
      refine ⟨R4, 1, ?_, (hS.trans hSl).trans g3, Or.inl ⟨rfl, _, he, g2⟩⟩
      unfold E_enter; rw [cln, e8]; refine ⟨hv, ?_⟩; rw [if_neg (show ¬ nI 12 = 0 by decide), if_neg (show ¬ nI 12 = 1 by decide), if_neg (show ¬ nI 12 = 2 by decide), if_neg (show ¬ nI 12 = 3 by decide), if_neg (show ¬ nI 12 = 4 by decide), if_neg (show ¬ nI 12 = 5 by decide), if_neg (show ¬ nI 12 = 6 by decide), if_neg (show ¬ nI 12 = 7 by decide), if_neg (show ¬ nI 12 = 8 by decide), if_neg (show ¬ nI 12 = 9 by decide), if_neg (show ¬ nI 12 = 10 by decide), if_neg (show ¬ nI 12 = 11 by decide), if_pos (show nI 12 = 12 from rfl)]
      refine ⟨_, 1, ?_, one1, rfl, rfl⟩
      unfold E_look
      refine ⟨hv, ?_⟩
      rw [cln, show (mf R 24 (-1)).2.1 8 n = nI 12 from e8, if_neg (show ¬ nI 12 = 13 by decide)]
      refine ⟨hv, lnk (mf R 24 (-1)) lk (nI 12) (nI ws.length) (nI p) (R.1 25), nI lk, ?_, R4, ?_, rfl, rfl⟩
      · rw [show (mf R 24 (-1)).1 27 = nI ws.length from h.2.2.2.2.1, show (mf R 24 (-1)).1 23 = nI p from h.2.1]; exact lnk_E h.2.2.2.1 (by omega)
      · rw [show (lnk (mf R 24 (-1)) lk (nI 12) (nI ws.length) (nI p) (R.1 25)).1 23 = nI p from h.2.1]; exact g1
    · have e8 : R.2.1 8 n = nI 13 := by rw [w1, e]
      have he : ent t n κ p σ lk ws = some (bef t n p ((13, ws.length, p, 0) :: κ) σ (lk + 1) ((none, none, p, κ, σ, lk) :: ws)) := by unfold ent; rw [e]; rfl
      obtain ⟨R6, f1, f2, f3, f4, f5, f6⟩ := mid_way hM (by omega) none none p
      have hm := mid_link f2 (by omega) (13, ws.length, p, 0)
      have hA6 := hA'.sme f3
      have hSl : Sme R6 (mf (lnk R6 lk (nI 13) (nI ws.length) (nI p) (R6.1 25)) 25 (nI lk)) := lnk_Sme.trans (Sme.f (by omega))
      obtain ⟨R4, g1, g2, g3⟩ := bef_E (hA6.sme hSl) hm (show ((none, none, p, κ, σ, lk) :: ws : List Wy).length ≤ 495 by rw [List.length_cons]; omega) hn (show p ≤ 8 by omega)
      refine ⟨R4, 1, ?_, ((hS.trans f3).trans hSl).trans g3, Or.inl ⟨rfl, _, he, g2⟩⟩
      unfold E_enter; rw [cln, e8]; refine ⟨hv, ?_⟩; rw [if_neg (show ¬ nI 13 = 0 by decide), if_neg (show ¬ nI 13 = 1 by decide), if_neg (show ¬ nI 13 = 2 by decide), if_neg (show ¬ nI 13 = 3 by decide), if_neg (show ¬ nI 13 = 4 by decide), if_neg (show ¬ nI 13 = 5 by decide), if_neg (show ¬ nI 13 = 6 by decide), if_neg (show ¬ nI 13 = 7 by decide), if_neg (show ¬ nI 13 = 8 by decide), if_neg (show ¬ nI 13 = 9 by decide), if_neg (show ¬ nI 13 = 10 by decide), if_neg (show ¬ nI 13 = 11 by decide), if_neg (show ¬ nI 13 = 12 by decide), if_pos (show nI 13 = 13 from rfl)]
      refine ⟨_, 1, ?_, one1, rfl, rfl⟩
      unfold E_look
      refine ⟨hv, ?_⟩
      rw [cln, show (mf R 24 (-1)).2.1 8 n = nI 13 from e8, if_pos (show nI 13 = 13 from rfl)]
      refine ⟨R6, by rw [show (mf R 24 (-1)).1 23 = nI p from h.2.1]; exact f1, hv, lnk R6 lk (nI 13) (nI ws.length) (nI p) (R6.1 25), nI lk, ?_, R4, ?_, rfl, rfl⟩
      · rw [show R6.2.1 8 n = nI 13 by rw [(hA6.1 n hn).1, e], show (mf R 24 (-1)).1 27 = nI ws.length from h.2.2.2.2.1, show R6.1 23 = nI p from f2.2.1]; exact lnk_E f2.2.2.2.1 (by omega)
      · rw [show (lnk R6 lk (nI 13) (nI ws.length) (nI p) (R6.1 25)).1 23 = nI p from f2.2.1]; exact g1
    · have e8 : R.2.1 8 n = nI 14 := by rw [w1, e]
      have he : ent t n κ p σ lk ws = some (nK t n, (14, ws.length, p, 0) :: κ, p, σ, lk + 1, ws) := by unfold ent; rw [e]; rfl
      have hm := mid_link hM (by omega) (14, ws.length, p, 0)
      refine ⟨mf (mf (lnk (mf R 24 (-1)) lk (nI 14) (nI ws.length) (nI p) (R.1 25)) 25 (nI lk)) 24 ((lnk (mf R 24 (-1)) lk (nI 14) (nI ws.length) (nI p) (R.1 25)).2.1 12 n), 1, ?_, (hS.trans lnk_Sme).trans ((Sme.f (k := 25) (x := nI lk) (by omega)).trans (Sme.f (k := 24) (by omega))), Or.inl ⟨rfl, _, he, ?_, mid_node hm⟩⟩
      · unfold E_enter; rw [cln, e8]; refine ⟨hv, ?_⟩; rw [if_neg (show ¬ nI 14 = 0 by decide), if_neg (show ¬ nI 14 = 1 by decide), if_neg (show ¬ nI 14 = 2 by decide), if_neg (show ¬ nI 14 = 3 by decide), if_neg (show ¬ nI 14 = 4 by decide), if_neg (show ¬ nI 14 = 5 by decide), if_neg (show ¬ nI 14 = 6 by decide), if_neg (show ¬ nI 14 = 7 by decide), if_neg (show ¬ nI 14 = 8 by decide), if_neg (show ¬ nI 14 = 9 by decide), if_neg (show ¬ nI 14 = 10 by decide), if_neg (show ¬ nI 14 = 11 by decide), if_neg (show ¬ nI 14 = 12 by decide), if_neg (show ¬ nI 14 = 13 by decide), if_pos (show nI 14 = 14 from rfl)]
        rw [h.2.1, h.2.2.2.2.1]; exact ⟨hv, _, _, lnk_E h.2.2.2.1 (by omega), _, _, into _ (nI lk), one1, rfl, rfl⟩
      · show (lnk (mf R 24 (-1)) lk (nI 14) (nI ws.length) (nI p) (R.1 25)).2.1 12 n = iO (nK t n)
        rw [lnk_at]; simp; exact w5
    · have e8 : R.2.1 8 n = nI 15 := by rw [w1, e]
      have he : ent t n κ p σ lk ws = some (if nM t n = 2 then trn t n 0 0 ((14, ws.length, p, 0) :: κ) p σ (lk + 1) ws else trn t n 0 0 κ p σ lk ws) := by unfold ent; rw [e]; rfl
      by_cases hm2 : nM t n = 2
      · rw [if_pos hm2] at he
        have hm := mid_link hM (by omega) (14, ws.length, p, 0)
        have hSl : Sme (mf R 24 (-1)) (mf (lnk (mf R 24 (-1)) lk (nI 14) (nI ws.length) (nI p) (R.1 25)) 25 (nI lk)) := lnk_Sme.trans (Sme.f (by omega))
        obtain ⟨R6, g1, g2, g3⟩ := trn_E (hA'.sme hSl) hm (by omega) (by omega) rfl (a3 := -1) hn e (show (0 : Nat) < 60 by omega) (fun z => absurd rfl z) (by omega) (by omega)
        refine ⟨R6, 1, ?_, (hS.trans hSl).trans g3, Or.inl ⟨rfl, _, he, g2⟩⟩
        unfold E_enter; rw [cln, e8]; refine ⟨hv, ?_⟩; rw [if_neg (show ¬ nI 15 = 0 by decide), if_neg (show ¬ nI 15 = 1 by decide), if_neg (show ¬ nI 15 = 2 by decide), if_neg (show ¬ nI 15 = 3 by decide), if_neg (show ¬ nI 15 = 4 by decide), if_neg (show ¬ nI 15 = 5 by decide), if_neg (show ¬ nI 15 = 6 by decide), if_neg (show ¬ nI 15 = 7 by decide), if_neg (show ¬ nI 15 = 8 by decide), if_neg (show ¬ nI 15 = 9 by decide), if_neg (show ¬ nI 15 = 10 by decide), if_neg (show ¬ nI 15 = 11 by decide), if_neg (show ¬ nI 15 = 12 by decide), if_neg (show ¬ nI 15 = 13 by decide), if_neg (show ¬ nI 15 = 14 by decide), if_pos (show nI 15 = 15 from rfl)]
        refine ⟨_, 1, ?_, one1, rfl, rfl⟩
        unfold E_beginLoop
        refine ⟨hv, ?_⟩
        rw [cln, show (mf R 24 (-1)).2.1 11 n = nI 2 by rw [← hm2]; exact w4, if_pos (show nI 2 = 2 from rfl)]
        refine ⟨lnk (mf R 24 (-1)) lk (nI 14) (nI ws.length) (nI p) (R.1 25), nI lk, ?_, R6, 1, g1, one1, rfl, rfl⟩
        rw [show (mf R 24 (-1)).1 27 = nI ws.length from h.2.2.2.2.1, show (mf R 24 (-1)).1 23 = nI p from h.2.1]; exact lnk_E (kd := nI 14) h.2.2.2.1 (by omega)
      · rw [if_neg hm2] at he
        obtain ⟨R2, g1, g2, g3⟩ := trn_E hA' hM (by omega) (by omega) rfl (a3 := -1) hn e (show (0 : Nat) < 60 by omega) (fun z => absurd rfl z) (by omega) (by omega)
        refine ⟨R2, 1, ?_, hS.trans g3, Or.inl ⟨rfl, _, he, g2⟩⟩
        unfold E_enter; rw [cln, e8]; refine ⟨hv, ?_⟩; rw [if_neg (show ¬ nI 15 = 0 by decide), if_neg (show ¬ nI 15 = 1 by decide), if_neg (show ¬ nI 15 = 2 by decide), if_neg (show ¬ nI 15 = 3 by decide), if_neg (show ¬ nI 15 = 4 by decide), if_neg (show ¬ nI 15 = 5 by decide), if_neg (show ¬ nI 15 = 6 by decide), if_neg (show ¬ nI 15 = 7 by decide), if_neg (show ¬ nI 15 = 8 by decide), if_neg (show ¬ nI 15 = 9 by decide), if_neg (show ¬ nI 15 = 10 by decide), if_neg (show ¬ nI 15 = 11 by decide), if_neg (show ¬ nI 15 = 12 by decide), if_neg (show ¬ nI 15 = 13 by decide), if_neg (show ¬ nI 15 = 14 by decide), if_pos (show nI 15 = 15 from rfl)]
        refine ⟨_, 1, ?_, one1, rfl, rfl⟩
        unfold E_beginLoop
        refine ⟨hv, ?_⟩
        rw [cln, show (mf R 24 (-1)).2.1 11 n = nI (nM t n) from w4, if_neg (show ¬ nI (nM t n) = 2 from fun z => hm2 ((n_eq (b := 2) (by omega) (by omega)).mp z))]
        exact ⟨R2, 1, g1, one1, rfl, rfl⟩
end ENT
