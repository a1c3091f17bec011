
/-! a state of the lists' machine without its node -/
def Mid (R : RS) (κ : List Lk) (p : Nat) (σ : Sp) (lk : Nat) (ws : List Wy) : Prop := chn R.2.1 (R.1 25) κ lk ∧ R.1 23 = nI p ∧ (∀ k, k < 10 → R.2.1 30 k = σ k) ∧ R.1 26 = nI lk ∧ R.1 27 = nI ws.length ∧ wys R.2.1 ws lk ∧ R.1 29 = 1
theorem Rep_of {R : RS} {nd : Option Nat} {κ : List Lk} {p : Nat} {σ : Sp} {lk : Nat} {ws : List Wy} : Rep R (nd, κ, p, σ, lk, ws) ↔ R.1 24 = iO nd ∧ Mid R κ p σ lk ws := Iff.rfl
section MID
variable {R : RS} {κ : List Lk} {p : Nat} {σ : Sp} {lk : Nat} {ws : List Wy}
theorem mid_cong {R' : RS} (h : Mid R κ p σ lk ws) (h1 : ∀ k, k = 23 ∨ k = 25 ∨ k = 26 ∨ k = 27 ∨ k = 29 → R'.1 k = R.1 k) (h2 : R'.2.1 = R.2.1) : Mid R' κ p σ lk ws := by
  obtain ⟨a, b, c, d, e, f, g⟩ := h
  refine ⟨?_, by rw [h1 23 (by omega)]; exact b, by rw [h2]; exact c, by rw [h1 26 (by omega)]; exact d, by rw [h1 27 (by omega)]; exact e, wys_ext (fun _ _ _ _ _ => by rw [h2]) (fun _ _ _ _ _ => by rw [h2]) (fun _ _ => by rw [h2]) f, by rw [h1 29 (by omega)]; exact g⟩
  rw [h1 25 (by omega)]
  exact chn_ext (fun _ _ _ _ _ => by rw [h2]) a
theorem mid_node (h : Mid R κ p σ lk ws) {x : Int32} : Mid (mf R 24 x) κ p σ lk ws := mid_cong h (fun k hk => by rw [mf_at, if_neg (by omega)]) rfl
theorem mid_place (h : Mid R κ p σ lk ws) {p' : Nat} : Mid (mf R 23 (nI p')) κ p' σ lk ws := ⟨h.1, rfl, h.2.2.1, h.2.2.2.1, h.2.2.2.2.1, h.2.2.2.2.2.1, h.2.2.2.2.2.2⟩
theorem mid_link (h : Mid R κ p σ lk ws) (hl : lk ≤ 995) (l : Lk) : Mid (mf (lnk R lk (nI l.1) (lkA l) (lkB l) (R.1 25)) 25 (nI lk)) (l :: κ) p σ (lk + 1) ws := by
  obtain ⟨a, b, c, d, e, f, g⟩ := h
  refine ⟨lnk_new (by omega) a, b, fun k hk => ?_, rfl, e, wys_le (Nat.le_succ _) (lnk_wys (Nat.le_refl _) f), g⟩
  show (lnk R lk (nI l.1) (lkA l) (lkB l) (R.1 25)).2.1 30 k = _
  rw [lnk_at]
  simp
  exact c k hk
theorem mid_way (h : Mid R κ p σ lk ws) (hw : ws.length ≤ 495) (nd cnt : Option Nat) (q : Nat) : ∃ R', E_otherWay R (iO nd) (iO cnt) (nI q) (R.1 25) R' 0 ∧ Mid R' κ p σ lk ((nd, cnt, q, κ, σ, lk) :: ws) ∧ Sme R R' ∧ R'.1 24 = R.1 24 ∧ R'.1 25 = R.1 25 ∧ R'.1 23 = R.1 23 := by
  obtain ⟨a, b, c, d, e, f, g⟩ := h
  obtain ⟨R', h1, h2, h3, h4, h5⟩ := oth_E (p := q) e (by omega) d (rfl : iO nd = iO nd) (rfl : iO cnt = iO cnt) a c f
  have u : ∀ k, k ≠ 27 → R'.1 k = R.1 k := fun k hk => by rw [h2]; exact if_neg hk
  refine ⟨R', h1, ⟨?_, by rw [u 23 (by omega)]; exact b, fun k hk => by rw [h4 30 (by omega)]; exact c k hk, by rw [u 26 (by omega)]; exact d, by rw [h2]; rfl, h5, by rw [u 29 (by omega)]; exact g⟩, h3, u 24 (by omega), u 25 (by omega), u 23 (by omega)⟩
  rw [u 25 (by omega)]
  exact chn_ext (fun k i h9 h8 _ => by rw [h4 k (by omega)]) a
theorem mid_cut (h : Mid R κ p σ lk ws) {n : Nat} (hn : n ≤ ws.length) : Mid (mf R 27 (nI n)) κ p σ lk (cutW n ws) := by
  obtain ⟨a, b, c, d, e, f, g⟩ := h
  refine ⟨a, b, c, d, ?_, wys_drop _ f, g⟩
  show nI n = nI (cutW n ws).length
  unfold cutW
  rw [List.length_drop, show ws.length - (ws.length - n) = n by omega]
end MID
/-! the reference's tree and text -/
def wI (a1 : Int32) : Int32 := (if a1 < 48 then (if a1 < 65 then (if a1 < 97 then (if a1 = 95 then 1 else 0 : Int32) else (if a1 ≤ 122 then 1 else (if a1 = 95 then 1 else 0 : Int32) : Int32) : Int32) else (if a1 ≤ 90 then 1 else (if a1 < 97 then (if a1 = 95 then 1 else 0 : Int32) else (if a1 ≤ 122 then 1 else (if a1 = 95 then 1 else 0 : Int32) : Int32) : Int32) : Int32) : Int32) else (if a1 ≤ 57 then 1 else (if a1 < 65 then (if a1 < 97 then (if a1 = 95 then 1 else 0 : Int32) else (if a1 ≤ 122 then 1 else (if a1 = 95 then 1 else 0 : Int32) : Int32) : Int32) else (if a1 ≤ 90 then 1 else (if a1 < 97 then (if a1 = 95 then 1 else 0 : Int32) else (if a1 ≤ 122 then 1 else (if a1 = 95 then 1 else 0 : Int32) : Int32) : Int32) : Int32) : Int32) : Int32) : Int32)
def chR (R : RS) (p : Nat) : Int32 := R.2.1 1 (14 + p)
def inR (R : RS) (n : Nat) (c : Int32) : Int32 := if 96 ≤ c then (if (lg_cmp (((R.2.2 15 n) >>> ((c - 96).toInt64 &&& 63)) &&& 1) 1) = 0 then 1 else 0 : Int32) else (if (lg_cmp (((R.2.2 14 n) >>> ((c - 32).toInt64 &&& 63)) &&& 1) 1) = 0 then 1 else 0 : Int32)
/-- whether a word's character stands at p - 1 (0: nothing before the text) -/
def wdA (R : RS) (N p : Nat) : Int32 := if p = 0 then 0 else if N < p then 0 else (if wI (chR R (p - 1)) = 0 then 0 else 1)
def agR (R : RS) (N p f : Nat) : Nat → Nat → Bool
  | 0, _ => true
  | m + 1, k => if p + k < N ∧ chR R (p + k) = chR R (f + k) then agR R N p f m (k + 1) else false
def lfR (R : RS) (N n p : Nat) (σ : Sp) : Option Nat :=
  if R.2.1 8 n = 2 then (if p < N then (if inR R n (chR R p) = 0 then none else some (p + 1)) else none)
  else if R.2.1 8 n = 3 then (if p = 0 then some p else none)
  else if R.2.1 8 n = 4 then (if p = N then some p else none)
  else if R.2.1 8 n = 5 then (if wdA R N p = wdA R N (p + 1) then none else some p)
  else if R.2.1 8 n = 6 then (if wdA R N p = wdA R N (p + 1) then some p else none)
  else (if σ (2 * (R.2.1 9 n).toNatClampNeg) = -1 then none else (if agR R N p (σ (2 * (R.2.1 9 n).toNatClampNeg)).toNatClampNeg ((σ (2 * (R.2.1 9 n).toNatClampNeg + 1)).toNatClampNeg - (σ (2 * (R.2.1 9 n).toNatClampNeg)).toNatClampNeg) 0 then some (p + ((σ (2 * (R.2.1 9 n).toNatClampNeg + 1)).toNatClampNeg - (σ (2 * (R.2.1 9 n).toNatClampNeg)).toNatClampNeg)) else none))
def Arr (R : RS) (t : Tn) : Prop := (∀ n, n < 96 → R.2.1 8 n = nI (nT t n) ∧ R.2.1 9 n = nI (nA t n) ∧ R.2.1 10 n = iO (nB t n) ∧ R.2.1 11 n = nI (nM t n) ∧ R.2.1 12 n = iO (nK t n) ∧ R.2.1 13 n = iO (nS t n)) ∧ R.2.1 2 1 = nI (nN t) ∧ R.1 28 = iO (nW t) ∧ (∀ n p σ, n < 96 → 2 ≤ nT t n → nT t n ≤ 7 → nL t n p σ = lfR R (nN t) n p σ) ∧ Wt t
theorem agR_ext {R R' : RS} (h : R'.2.1 1 = R.2.1 1) {N p f : Nat} : ∀ {m k : Nat}, agR R' N p f m k = agR R N p f m k
  | 0, _ => rfl
  | m + 1, k => by unfold agR chR; rw [h, agR_ext h]
theorem Arr.sme {R R' : RS} {t : Tn} (h : Arr R t) (hs : Sme R R') : Arr R' t := by
  obtain ⟨h1, h2, h3, h4, h5⟩ := h
  have e : ∀ k, k < 30 → R'.2.1 k = R.2.1 k := fun k hk => hs.2.1 k (Or.inl hk)
  refine ⟨fun n hn => ?_, by rw [e 2 (by omega)]; exact h2, by rw [hs.1 28 (by omega) (by omega) (by omega) (by omega) (by omega) (by omega)]; exact h3, fun n p σ hn k1 k2 => ?_, h5⟩
  · rw [e 8 (by omega), e 9 (by omega), e 10 (by omega), e 11 (by omega), e 12 (by omega), e 13 (by omega)]
    exact h1 n hn
  · rw [h4 n p σ hn k1 k2]
    have hw : ∀ N q, wdA R' N q = wdA R N q := fun N q => by unfold wdA chR; rw [e 1 (by omega)]
    unfold lfR
    simp only [hw, agR_ext (e 1 (by omega))]
    unfold inR chR
    simp only [e 8 (by omega), e 9 (by omega), e 1 (by omega), hs.2.2]
/-! steps -/
section STEP
variable {R : RS} {t : Tn} {κ : List Lk} {p : Nat} {σ : Sp} {lk : Nat} {ws : List Wy}
theorem thru_E (hA : Arr R t) (h : Mid R κ p σ lk ws) (hl : lk ≤ 995) {n c : Nat} (hn : n < 96) (hc : c < 60) : ∃ R', E_goThrough R (nI n) (nI c) R' 0 ∧ Rep R' (gThru t n c κ p σ lk ws) ∧ Sme R R' := by
  have hm := mid_link h hl (22, n, c + 1, p)
  have e1 : ((64 * nI n) + nI c) + 1 = lkA (22, n, c + 1, p) := by
    show _ = nI (64 * n + (c + 1))
    rw [show (64 : Int32) = nI 64 from rfl, n_mul, n_add, show nI (64 * n + c) + 1 = nI (64 * n + c + 1) from (nI_succ _).symm]
    rfl
  refine ⟨mf (mf (lnk R lk (nI 22) (lkA (22, n, c + 1, p)) (lkB (22, n, c + 1, p)) (R.1 25)) 25 (nI lk)) 24 ((lnk R lk (nI 22) (lkA (22, n, c + 1, p)) (lkB (22, n, c + 1, p)) (R.1 25)).2.1 12 (nI n).toNatClampNeg), ⟨_, _, by rw [e1, h.2.1]; exact lnk_E (kd := nI 22) (a := lkA (22, n, c + 1, p)) (b := lkB (22, n, c + 1, p)) h.2.2.2.1 (by omega), v_in hn (by omega), rfl, rfl⟩, ⟨?_, mid_node hm⟩, ?_⟩
  · show (lnk R lk (nI 22) (lkA (22, n, c + 1, p)) (lkB (22, n, c + 1, p)) (R.1 25)).2.1 12 (nI n).toNatClampNeg = iO (nK t n)
    rw [n_cl (by omega), lnk_at]
    simp
    exact (hA.1 n hn).2.2.2.2.1
  · exact (lnk_Sme.trans (Sme.f (by omega))).trans (Sme.f (by omega))
theorem bef_E (hA : Arr R t) (h : Mid R κ p σ lk ws) (hw : ws.length ≤ 495) {n f : Nat} (hn : n < 96) (hf : f ≤ 8) : ∃ R', E_before R (nI n) (nI f) R' 0 ∧ Rep R' (bef t n f κ σ lk ws) ∧ Sme R R' := by
  by_cases h0 : f = 0
  · subst h0
    refine ⟨mf (mf R 23 (nI 0)) 24 (R.2.1 12 (nI n).toNatClampNeg), ?_, ⟨?_, ?_⟩, (Sme.f (by omega)).trans (Sme.f (by omega))⟩
    · unfold E_before
      rw [if_pos (by decide)]
      exact ⟨v_in hn (by omega), rfl, rfl⟩
    · show R.2.1 12 (nI n).toNatClampNeg = iO (nK t n)
      rw [n_cl (by omega)]; exact (hA.1 n hn).2.2.2.2.1
    · exact mid_node (mid_place h)
  · obtain ⟨R2, h1, h2, h3, h4, h5, h6⟩ := mid_way (mid_place (p' := f) h) hw (some n) (some (f - 1)) (f - 1)
    have hA2 := (hA.sme (Sme.f (k := 23) (x := nI f) (by omega))).sme h3
    refine ⟨mf R2 24 (R2.2.1 12 (nI n).toNatClampNeg), ?_, ⟨?_, ?_⟩, ((Sme.f (by omega)).trans h3).trans (Sme.f (by omega))⟩
    · unfold E_before
      rw [if_neg (show ¬ nI f ≤ 0 from fun z => by have := (n_le (b := 0) (by omega) (by omega)).mp z; omega)]
      refine ⟨R2, ?_, v_in hn (by omega), rfl, rfl⟩
      rw [show nI f - 1 = nI (f - 1) from n_sub (b := 1) (by omega)]
      exact h1
    · show R2.2.1 12 (nI n).toNatClampNeg = iO (nK t n)
      rw [n_cl (by omega)]; exact (hA2.1 n hn).2.2.2.2.1
    · have e : (bef t n f κ σ lk ws).2.2.2.2.2 = (some n, some (f - 1), f - 1, κ, σ, lk) :: ws := if_pos (by omega)
      have := mid_node (x := R2.2.1 12 (nI n).toNatClampNeg) h2
      rw [← e] at this
      exact this
theorem pcs_E (hA : Arr R t) (h : Mid R κ p σ lk ws) (hl : lk ≤ 995) (h24 : R.1 24 = -1) {q : Option Nat} (hq : ∀ n, q = some n → n < 96) : ∃ R', E_pieces R (iO q) R' 1 ∧ Rep R' (pcs t q κ p σ lk ws) ∧ Sme R R' := by
  cases q with
  | none => exact ⟨R, by unfold E_pieces; rw [if_pos (show iO none = -1 from rfl)]; exact ⟨rfl, rfl⟩, ⟨h24, h⟩, Sme.refl⟩
  | some n =>
    have hn := hq n rfl
    have h13 := (hA.1 n hn).2.2.2.2.2
    have hS := (hA.2.2.2.2.1 n hn).2.2.2.2.2.1
    have e0 : ¬ iO (some n) = -1 := n_m1 (by omega)
    cases hs : nS t n with
    | none =>
      refine ⟨mf R 24 (nI n), ?_, ?_, Sme.f (by omega)⟩
      · unfold E_pieces
        rw [if_neg e0]
        refine ⟨v_in hn (by omega), ?_⟩
        rw [show (iO (some n)).toNatClampNeg = n from n_cl (by omega), h13, hs, if_pos (show iO none = -1 from rfl)]
        exact ⟨rfl, rfl⟩
      · unfold pcs; dsimp only; rw [hs]; exact ⟨rfl, mid_node h⟩
    | some m =>
      have hm := hS m hs
      have hml := mid_link h hl (20, m, 0, 0)
      refine ⟨mf (mf (lnk R lk (nI 20) (nI m) (nI 0) (R.1 25)) 25 (nI lk)) 24 (nI n), ?_, ?_, (lnk_Sme.trans (Sme.f (by omega))).trans (Sme.f (by omega))⟩
      · unfold E_pieces
        rw [if_neg e0]
        refine ⟨v_in hn (by omega), ?_⟩
        rw [show (iO (some n)).toNatClampNeg = n from n_cl (by omega), h13, hs, if_neg (show ¬ iO (some m) = -1 from n_m1 (by omega))]
        exact ⟨v_in hn (by omega), _, _, lnk_E h.2.2.2.1 (by omega), rfl, rfl⟩
      · unfold pcs; dsimp only; rw [hs]; exact ⟨rfl, mid_node hml⟩
theorem trn_E (hA : Arr R t) (h : Mid R κ p σ lk ws) (hl : lk ≤ 995) (hw : ws.length ≤ 495) (h24 : R.1 24 = -1) {n c s : Nat} {a3 : Int32} (hn : n < 96) (hT : nT t n = 15) (hc : c < 60) (hs : c ≠ 0 → a3 = nI s) (hs8 : s ≤ 8) (hp8 : p ≤ 8) : ∃ R', E_turn R (nI n) (nI c) a3 R' 1 ∧ Rep R' (trn t n c s κ p σ lk ws) ∧ Sme R R' := by
  obtain ⟨w1, w2, w3, w4, w5, w6⟩ := hA.1 n hn
  obtain ⟨q1, q2, q3, q4, q5, q6, q7⟩ := hA.2.2.2.2.1 n hn
  have h24' : mf R 24 (-1) = mf R 24 (-1) := rfl
  have hM := mid_node (x := -1) h
  have hA' := hA.sme (Sme.f (k := 24) (x := -1) (by omega))
  have hv : vp_in (nI n) 96 := v_in hn (by omega)
  have key : ∃ R', (if nI (nA t n) ≤ nI c then (if iO (nB t n) = -1 then (if (if nI c = 0 then 1 else (if R.1 23 = a3 then 0 else 1 : Int32) : Int32) = 0 then (R' = mf R 24 (-1)) else (if nI (nM t n) = 1 then (∃ R12 : RS, E_otherWay (mf R 24 (-1)) (nI n) (nI c) (R.1 23) (R.1 25) R12 0 ∧ R' = R12) else (∃ R8 : RS, E_otherWay (mf R 24 (-1)) (-1) (-1) (R.1 23) (R.1 25) R8 0 ∧ (∃ R10 : RS, E_goThrough R8 (nI n) (nI c) R10 0 ∧ R' = R10)))) else (if (if iO (nB t n) ≤ nI c then 0 else (if nI c = 0 then 1 else (if R.1 23 = a3 then 0 else 1 : Int32) : Int32) : Int32) = 0 then (R' = mf R 24 (-1)) else (if nI (nM t n) = 1 then (∃ R12 : RS, E_otherWay (mf R 24 (-1)) (nI n) (nI c) (R.1 23) (R.1 25) R12 0 ∧ R' = R12) else (∃ R8 : RS, E_otherWay (mf R 24 (-1)) (-1) (-1) (R.1 23) (R.1 25) R8 0 ∧ (∃ R10 : RS, E_goThrough R8 (nI n) (nI c) R10 0 ∧ R' = R10))))) else (∃ R26 : RS, E_goThrough (mf R 24 (-1)) (nI n) (nI c) R26 0 ∧ R' = R26)) ∧ Rep R' (trn t n c s κ p σ lk ws) ∧ Sme R R' := by
    by_cases ha : c < nA t n
    · obtain ⟨R', h1, h2, h3⟩ := thru_E hA' hM hl hn hc
      refine ⟨R', ?_, ?_, (Sme.f (by omega)).trans h3⟩
      · rw [if_neg (fun z => by have := (n_le (by omega) (by omega)).mp z; omega)]
        exact ⟨R', h1, rfl⟩
      · unfold trn; rw [if_pos ha]; exact h2
    · have hle : nI (nA t n) ≤ nI c := (n_le (by omega) (by omega)).mpr (by omega)
      have ec : (if nI c = 0 then 1 else (if R.1 23 = a3 then 0 else 1 : Int32) : Int32) = if (c == 0 || p != s) = true then 1 else 0 := by
        by_cases c0 : c = 0
        · subst c0; rfl
        · rw [if_neg (show ¬ nI c = 0 from fun z => c0 ((n_eq (b := 0) (by omega) (by omega)).mp z)), h.2.1, hs c0]
          by_cases ps : p = s
          · subst ps; simp [c0]
          · rw [if_neg (fun z => ps ((n_eq (by omega) (by omega)).mp z))]; simp [c0, ps]
      have goes : ∃ R', (if nI (nM t n) = 1 then (∃ R12 : RS, E_otherWay (mf R 24 (-1)) (nI n) (nI c) (R.1 23) (R.1 25) R12 0 ∧ R' = R12) else (∃ R8 : RS, E_otherWay (mf R 24 (-1)) (-1) (-1) (R.1 23) (R.1 25) R8 0 ∧ (∃ R10 : RS, E_goThrough R8 (nI n) (nI c) R10 0 ∧ R' = R10))) ∧ Rep R' (if nM t n = 1 then (none, κ, p, σ, lk, (some n, some c, p, κ, σ, lk) :: ws) else gThru t n c κ p σ lk ((none, none, p, κ, σ, lk) :: ws)) ∧ Sme R R' := by
        by_cases m1 : nM t n = 1
        · obtain ⟨R', h1, h2, h3, h4, h5, h6⟩ := mid_way hM hw (some n) (some c) p
          refine ⟨R', ?_, ?_, (Sme.f (by omega)).trans h3⟩
          · rw [if_pos (by rw [m1]; rfl)]; exact ⟨R', by rw [h.2.1]; exact h1, rfl⟩
          · rw [if_pos m1]; exact ⟨by rw [h4]; rfl, h2⟩
        · obtain ⟨R8, h1, h2, h3, h4, h5, h6⟩ := mid_way hM hw none none p
          obtain ⟨R', k1, k2, k3⟩ := thru_E (hA'.sme h3) h2 hl hn hc
          refine ⟨R', ?_, ?_, ((Sme.f (by omega)).trans h3).trans k3⟩
          · rw [if_neg (show ¬ nI (nM t n) = 1 from fun z => m1 ((n_eq (b := 1) (by omega) (by omega)).mp z))]; exact ⟨R8, by rw [h.2.1]; exact h1, R', k1, rfl⟩
          · rw [if_neg m1]; exact k2
      have et : ∀ b : Bool, onL t n c s p = b → trn t n c s κ p σ lk ws = if b then (if nM t n = 1 then (none, κ, p, σ, lk, (some n, some c, p, κ, σ, lk) :: ws) else gThru t n c κ p σ lk ((none, none, p, κ, σ, lk) :: ws)) else (none, κ, p, σ, lk, ws) := fun b hb => by
        unfold trn; rw [if_neg ha, hb]
      obtain ⟨Rg, g1, g2, g3⟩ := goes
      have s2 : Rep (mf R 24 (-1)) (none, κ, p, σ, lk, ws) := ⟨rfl, hM⟩
      have s3 : Sme R (mf R 24 (-1)) := Sme.f (by omega)
      cases hb : nB t n with
      | none =>
        by_cases ho : (c == 0 || p != s) = true
        · refine ⟨Rg, ?_, ?_, g3⟩
          · rw [if_pos hle, if_pos (show iO none = -1 from rfl), ec, if_pos ho, if_neg (by decide)]; exact g1
          · rw [et true (by unfold onL; rw [hb]; simp only [Bool.true_and]; exact ho), if_pos rfl]; exact g2
        · refine ⟨_, ?_, ?_, s3⟩
          · rw [if_pos hle, if_pos (show iO none = -1 from rfl), ec, if_neg ho, if_pos rfl]
          · rw [et false (by unfold onL; rw [hb]; simp only [Bool.true_and]; simpa using ho), if_neg (by decide)]; exact s2
      | some b =>
        have hb4 := q3 b hb
        have hm1 : ¬ iO (some b) = -1 := n_m1 (by omega)
        by_cases cb : c < b
        · have hbc : ¬ iO (some b) ≤ nI c := fun z => by have := (n_le (a := b) (by omega) (by omega)).mp z; omega
          by_cases ho : (c == 0 || p != s) = true
          · refine ⟨Rg, ?_, ?_, g3⟩
            · rw [if_pos hle, if_neg hm1, if_neg hbc, ec, if_pos ho, if_neg (by decide)]; exact g1
            · rw [et true (by unfold onL; rw [hb]; simp only [cb, decide_true, Bool.true_and]; exact ho), if_pos rfl]; exact g2
          · refine ⟨_, ?_, ?_, s3⟩
            · rw [if_pos hle, if_neg hm1, if_neg hbc, ec, if_neg ho, if_pos rfl]
            · rw [et false (by unfold onL; rw [hb]; simp only [cb, decide_true, Bool.true_and]; simpa using ho), if_neg (by decide)]; exact s2
        · refine ⟨_, ?_, ?_, s3⟩
          · rw [if_pos hle, if_neg hm1, if_pos (show iO (some b) ≤ nI c from (n_le (a := b) (by omega) (by omega)).mpr (by omega)), if_pos rfl]
          · rw [et false (by unfold onL; rw [hb]; simp [cb]), if_neg (by decide)]; exact s2
  obtain ⟨R', k1, k2, k3⟩ := key
  refine ⟨R', ?_, k2, k3⟩
  unfold E_turn
  rw [n_cl (show n < 2147483648 by omega), w2, w3, w4]
  refine ⟨hv, ?_⟩
  by_cases c1 : nI (nA t n) ≤ nI c
  · rw [if_pos c1] at k1 ⊢
    refine ⟨hv, ?_⟩
    by_cases c2 : iO (nB t n) = -1
    · rw [if_pos c2] at k1 ⊢
      generalize (if nI c = 0 then 1 else (if R.1 23 = a3 then 0 else 1 : Int32) : Int32) = X at k1 ⊢
      by_cases c3 : X = 0
      · rw [if_pos c3] at k1 ⊢; exact ⟨k1, rfl⟩
      · rw [if_neg c3] at k1 ⊢
        refine ⟨hv, ?_⟩
        by_cases c4 : nI (nM t n) = 1
        · rw [if_pos c4] at k1 ⊢
          obtain ⟨R12, a1, a2⟩ := k1
          exact ⟨R12, a1, a2, rfl⟩
        · rw [if_neg c4] at k1 ⊢
          obtain ⟨R8, a1, R10, a2, a3⟩ := k1
          exact ⟨R8, a1, R10, a2, a3, rfl⟩
    · rw [if_neg c2] at k1 ⊢
      refine ⟨hv, ?_⟩
      generalize (if iO (nB t n) ≤ nI c then 0 else (if nI c = 0 then 1 else (if R.1 23 = a3 then 0 else 1 : Int32) : Int32) : Int32) = X at k1 ⊢
      by_cases c3 : X = 0
      · rw [if_pos c3] at k1 ⊢; exact ⟨k1, rfl⟩
      · rw [if_neg c3] at k1 ⊢
        refine ⟨hv, ?_⟩
        by_cases c4 : nI (nM t n) = 1
        · rw [if_pos c4] at k1 ⊢
          obtain ⟨R12, a1, a2⟩ := k1
          exact ⟨R12, a1, a2, rfl⟩
        · rw [if_neg c4] at k1 ⊢
          obtain ⟨R8, a1, R10, a2, a3⟩ := k1
          exact ⟨R8, a1, R10, a2, a3, rfl⟩
  · rw [if_neg c1] at k1 ⊢
    obtain ⟨R26, a1, a2⟩ := k1
    exact ⟨R26, a1, a2, rfl⟩
end STEP
