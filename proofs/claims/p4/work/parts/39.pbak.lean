/-! back to the latest way -/
def Bk (R : RS) (ws : List Wy) (b : Nat) : Prop := R.1 27 = nI ws.length ∧ wys R.2.1 ws b ∧ R.1 29 = 1
theorem back_loop {w : Nat} (hw : w < 500) : ∀ (n k : Nat) (R : RS), k + n = 10 → R.1 27 = nI w → ∃ R2 : RS, (∀ R' r, L_back_64 1 R2 (nI 10) R' r → L_back_64 (n + 1) R (nI k) R' r) ∧ R2.1 = R.1 ∧ R2.2.2 = R.2.2 ∧ (∀ j, j ≠ 30 → R2.2.1 j = R.2.1 j) ∧ (∀ j, k ≤ j → j < 10 → R2.2.1 30 j = R.2.1 40 (10 * w + j)) ∧ ∀ j, j < k → R2.2.1 30 j = R.2.1 30 j
  | 0, k, R, hk, hR => ⟨R, fun R' r h => by rw [show k = 10 by omega]; exact h, rfl, rfl, fun _ _ => rfl, fun j a b => by omega, fun _ _ => rfl⟩
  | n + 1, k, R, hk, hR => by
    have e1 : (10 * R.1 27 + nI k : Int32) = nI (10 * w + k) := by rw [hR, show (10 : Int32) = nI 10 from rfl, n_mul, n_add]
    obtain ⟨R2, h1, h2, h3, h4, h5, h6⟩ := back_loop hw n (k + 1) (ma R 30 k (R.2.1 40 (10 * w + k))) (by omega) hR
    refine ⟨R2, fun R' r h => ?_, h2, h3, fun j hj => ?_, fun j a b => ?_, fun j hj => ?_⟩
    · unfold L_back_64
      rw [if_neg (show ¬ (10 : Int32) ≤ nI k from fun z => by have := (n_le (a := 10) (by omega) (by omega)).mp z; omega)]
      refine ⟨by rw [e1]; exact v_in (by omega) (by omega), v_in (by omega) (by omega), ?_⟩
      rw [e1, n_cl (by omega), n_cl (by omega), show nI k + 1 = nI (k + 1) from (nI_succ k).symm]
      exact h1 R' r h
    · rw [h4 j hj]; funext i; rw [ma_at, if_neg (by omega)]
    · by_cases e : j = k
      · subst e; rw [h6 j (by omega), ma_at, if_pos ⟨rfl, rfl⟩]
      · rw [h5 j (by omega) b, ma_at, if_neg (by omega)]
    · rw [h6 j (by omega), ma_at, if_neg (by omega)]
theorem back_E {R : RS} {t : Tn} (hA : Arr R t) {ws : List Wy} {b : Nat} (h : Bk R ws b) (hb : b ≤ 990) (hl : ws.length ≤ 491) (hv : ∀ w ∈ ws, wvd t w) : ∃ R', E_back R R' 0 ∧ Sme R R' ∧ match popW t ws with | some c => Rep R' c | none => R'.1 29 = 0 := by
  obtain ⟨h1, h2, h3⟩ := h
  cases ws with
  | nil =>
    refine ⟨mf R 29 0, ?_, Sme.f (by omega), rfl⟩
    unfold E_back
    rw [if_pos (show R.1 27 = 0 from h1)]
    exact ⟨rfl, rfl⟩
  | cons w ws =>
    obtain ⟨nd, cnt, p, κ, σ, lk⟩ := w
    obtain ⟨a1, a2, a3, a4, a5, a6, a7, a8⟩ := h2
    obtain ⟨v1, v2, v3, v4, v5⟩ := hv _ List.mem_cons_self
    dsimp only at a1 a2 a3 a4 a5 a6 a7 a8 v1 v2 v3 v4 v5
    rw [List.length_cons] at h1 hl
    have hN := hA.2.2.2.2.2.1
    have e27 : R.1 27 - 1 = nI ws.length := by rw [h1]; exact n_sub (b := 1) (by omega)
    have cl : (R.1 27 - 1).toNatClampNeg = ws.length := by rw [e27]; exact n_cl (by omega)
    obtain ⟨R2, k1, k2, k3, k4, k5, k6⟩ := back_loop (w := ws.length) (by omega) 10 0 (mf (mf (mf (mf R 27 (R.1 27 - 1)) 23 (R.2.1 37 ws.length)) 25 (R.2.1 38 ws.length)) 26 (R.2.1 39 ws.length)) (by omega) e27
    have hS2 : Sme R R2 := ⟨fun k x1 x2 x3 x4 x5 x6 => by
      rw [k2]; simp only [mf_at, mf_2]; simp [x1, x2, x3, x4, x5, x6], fun k hk => (k4 k (by omega)).trans rfl, k3.trans rfl⟩
    have hA2 := hA.sme hS2
    have f27 : R2.1 27 = nI ws.length := by rw [k2]; simp [mf_at, e27]
    have hM : Mid R2 κ p σ lk ws := by
      have arr : ∀ k, k ≠ 30 → R2.2.1 k = R.2.1 k := fun k hk => (k4 k hk).trans rfl
      refine ⟨?_, by rw [k2]; simp [mf_at, a3], fun k hk => by rw [k5 k (by omega) hk]; exact a7 k hk, by rw [k2]; simp [mf_at, a5], f27, wys_ext (fun k i x y _ => by rw [arr k (by omega)]) (fun k i x y _ => by rw [arr k (by omega)]) (fun i _ => by rw [arr 40 (by omega)]) a8, by rw [k2]; simp [mf_at, h3]⟩
      have e25 : R2.1 25 = R.2.1 38 ws.length := by rw [k2]; simp [mf_at]
      rw [e25]
      exact chn_ext (fun k i x y _ => by rw [arr k (by omega)]) a4
    have b35 : R2.2.1 35 (R2.1 27).toNatClampNeg = iO nd := by rw [f27, n_cl (by omega), k4 35 (by omega)]; exact a1
    have b36 : R2.2.1 36 (R2.1 27).toNatClampNeg = iO cnt := by rw [f27, n_cl (by omega), k4 36 (by omega)]; exact a2
    have hv27 : vp_in (R2.1 27) 500 := by rw [f27]; exact v_in (by omega) (by omega)
    have fin : ∀ R', L_back_64 1 R2 (nI 10) R' 0 → E_back R R' 0 := fun R' hL => by
      unfold E_back
      rw [if_neg (by rw [h1]; exact fun z => by have := (n_eq (b := 0) (by omega) (by omega)).mp z; omega)]
      have hvi : vp_in (R.1 27 - 1) 500 := by rw [e27]; exact v_in (by omega) (by omega)
      refine ⟨hvi, hvi, hvi, 11, ?_⟩
      rw [cl]
      exact k1 R' 0 hL
    have open1 : ∀ R', (if iO nd = -1 then (R' = (mf R2 24 (iO nd)) ∧ (0 : Int32) = 0) else (if iO cnt = -1 then (R' = (mf R2 24 (iO nd)) ∧ (0 : Int32) = 0) else (vp_in (iO nd) 96 ∧ (if R2.2.1 8 (iO nd).toNatClampNeg = 15 then (∃ R8 : RS, E_goThrough (mf R2 24 (iO nd)) (iO nd) (iO cnt) R8 0 ∧ (R' = R8 ∧ (0 : Int32) = 0)) else (∃ R6 : RS, E_before (mf R2 24 (iO nd)) (iO nd) (iO cnt) R6 0 ∧ (R' = R6 ∧ (0 : Int32) = 0)))))) → L_back_64 1 R2 (nI 10) R' 0 := fun R' hc => by
      unfold L_back_64
      rw [if_pos (by decide), b35, b36]
      exact ⟨hv27, hv27, hc⟩
    cases nd with
    | none =>
      refine ⟨mf R2 24 (-1), fin _ (open1 _ ?_), hS2.trans (Sme.f (by omega)), ?_⟩
      · rw [if_pos (show iO none = -1 from rfl)]; exact ⟨rfl, rfl⟩
      · have : popW t ((none, cnt, p, κ, σ, lk) :: ws) = some (none, κ, p, σ, lk, ws) := by cases cnt <;> rfl
        rw [this]
        exact ⟨rfl, mid_node hM⟩
    | some n =>
      have hn := v4 n rfl
      have nm1 : ¬ iO (some n) = -1 := n_m1 (by omega)
      cases cnt with
      | none =>
        refine ⟨mf R2 24 (nI n), fin _ (open1 _ ?_), hS2.trans (Sme.f (by omega)), ?_⟩
        · rw [if_neg nm1, if_pos (show iO none = -1 from rfl)]; exact ⟨rfl, rfl⟩
        · exact ⟨rfl, mid_node hM⟩
      | some c =>
        obtain ⟨n', hn', hq⟩ := v5 c rfl
        cases hn'
        have hA3 := hA2.sme (Sme.f (k := 24) (x := iO (some n)) (by omega))
        have ty : R2.2.1 8 (iO (some n)).toNatClampNeg = nI (nT t n) := by rw [show (iO (some n)).toNatClampNeg = n from n_cl (by omega)]; exact (hA2.1 n hn).1
        have hT15 := (hA.2.2.2.2.1 n hn).1
        rcases hq with ⟨q1, q2⟩ | ⟨q1, q2, q3⟩
        · obtain ⟨R8, g1, g2, g3⟩ := thru_E hA3 (mid_node (x := iO (some n)) hM) (by omega) hn (show c < 60 by omega)
          refine ⟨R8, fin _ (open1 _ ?_), (hS2.trans (Sme.f (by omega))).trans g3, ?_⟩
          · rw [if_neg nm1, if_neg (show ¬ iO (some c) = -1 from n_m1 (by omega))]
            refine ⟨v_in hn (by omega), ?_⟩
            rw [ty, q1, if_pos (by decide)]
            exact ⟨R8, g1, rfl, rfl⟩
          · have : popW t ((some n, some c, p, κ, σ, lk) :: ws) = some (gThru t n c κ p σ lk ws) := if_pos q1
            rw [this]; exact g2
        · obtain ⟨R6, g1, g2, g3⟩ := bef_E hA3 (mid_node (x := iO (some n)) hM) (by omega) hn (show c ≤ 8 by omega)
          have n15 : ¬ nT t n = 15 := by omega
          refine ⟨R6, fin _ (open1 _ ?_), (hS2.trans (Sme.f (by omega))).trans g3, ?_⟩
          · rw [if_neg nm1, if_neg (show ¬ iO (some c) = -1 from n_m1 (by omega))]
            refine ⟨v_in hn (by omega), ?_⟩
            rw [ty, if_neg (show ¬ nI (nT t n) = 15 from fun z => n15 ((n_eq (b := 15) (by omega) (by omega)).mp z))]
            exact ⟨R6, g1, rfl, rfl⟩
          · have : popW t ((some n, some c, p, κ, σ, lk) :: ws) = some (bef t n c κ σ lk ws) := if_neg n15
            rw [this]; exact g2
/-! characters -/
theorem chr_in {R : RS} {N q : Nat} (hN : R.2.1 2 1 = nI N) (h8 : N ≤ 8) (hq : q < N) : E_character R (nI q) R (chR R q) := by
  unfold E_character
  rw [if_neg (show ¬ nI q < 0 from fun z => by have := (n_lt (b := 0) (by omega) (by omega)).mp z; omega)]
  refine ⟨v_in (n := 1) (by omega) (by omega), ?_⟩
  have e1 : (1 : Int32).toNatClampNeg = 1 := by decide
  rw [e1, hN, if_neg (fun z => by have := (n_le (by omega) (by omega)).mp z; omega)]
  have e2 : (14 + nI q : Int32) = nI (14 + q) := n_add 14 q
  rw [e2]
  refine ⟨v_in (by omega) (by omega), rfl, ?_⟩
  rw [n_cl (by omega)]; rfl
theorem chr_out {R : RS} {N : Nat} {x : Int32} (hN : R.2.1 2 1 = nI N) (hx : x < 0 ∨ nI N ≤ x) : E_character R x R (-1) := by
  unfold E_character
  by_cases h : x < 0
  · rw [if_pos h]; exact ⟨rfl, rfl⟩
  · rw [if_neg h]
    refine ⟨v_in (n := 1) (by omega) (by omega), ?_⟩
    have e1 : (1 : Int32).toNatClampNeg = 1 := by decide
    rw [e1, hN, if_pos (hx.resolve_left h)]
    exact ⟨rfl, rfl⟩
theorem wI_01 (c : Int32) : wI c = 0 ∨ wI c = 1 := by
  unfold wI
  repeat' split
  all_goals first | exact Or.inl rfl | exact Or.inr rfl
theorem nar01 {x : Int32} (h : x = 0 ∨ x = 1) : narrow .boolean (.int x) = .int x := by rcases h with rfl | rfl <;> rfl
theorem isW_E (c : Int32) : E_isWord c (wI c) := by
  unfold E_isWord
  refine ⟨?_, rfl⟩
  exact nar01 (wI_01 c)
/-- the word's character at p - 1 -/
theorem wdA_E {R : RS} {N p : Nat} {x : Int32} (hN : R.2.1 2 1 = nI N) (h8 : N ≤ 8) (hp : p ≤ 9) (hx : x = nI p - 1) (hch : ∀ q, q < N → ¬ chR R q = -1) : E_isWordAt R x R (wdA R N p) := by
  unfold E_isWordAt wdA
  by_cases h0 : p = 0
  · subst h0
    rw [if_pos rfl]
    refine ⟨R, -1, chr_out hN (Or.inl (by rw [hx]; decide)), ?_⟩
    rw [if_pos rfl]; exact ⟨rfl, rfl⟩
  · rw [if_neg h0]
    have e : x = nI (p - 1) := by rw [hx]; exact n_sub (b := 1) (by omega)
    by_cases h1 : N < p
    · rw [if_pos h1]
      refine ⟨R, -1, chr_out hN (Or.inr (by rw [e]; exact (n_le (by omega) (by omega)).mpr (by omega))), ?_⟩
      rw [if_pos rfl]; exact ⟨rfl, rfl⟩
    · rw [if_neg h1]
      have hc := chr_in (q := p - 1) hN h8 (by omega)
      rw [← e] at hc
      refine ⟨R, _, hc, ?_⟩
      rw [if_neg (hch (p - 1) (by omega))]
      refine ⟨R, _, hc, _, isW_E _, ?_, rfl, rfl⟩
      exact nar01 (by by_cases h : wI (chR R (p - 1)) = 0 <;> simp [h])
theorem inR_01 (R : RS) (n : Nat) (c : Int32) : inR R n c = 0 ∨ inR R n c = 1 := by
  unfold inR
  repeat' split
  all_goals first | exact Or.inl rfl | exact Or.inr rfl
theorem inc_E {R : RS} {n : Nat} {c : Int32} (hn : n < 96) : E_includes R (nI n) c R (inR R n c) := by
  have h01 := inR_01 R n c
  unfold E_includes
  unfold inR at h01 ⊢
  by_cases h : 96 ≤ c
  · rw [if_pos h] at h01 ⊢
    rw [if_pos h, n_cl (by omega)]
    exact ⟨v_in hn (by omega), nar01 h01, rfl, rfl⟩
  · rw [if_neg h] at h01 ⊢
    rw [if_neg h, n_cl (by omega)]
    exact ⟨v_in hn (by omega), nar01 h01, rfl, rfl⟩
theorem one_E {R : RS} {N n p : Nat} (hN : R.2.1 2 1 = nI N) (h8 : N ≤ 8) (hp : p ≤ N) (hn : n < 96) (h23 : R.1 23 = nI p) (hch : ∀ q, q < N → ¬ chR R q = -1) :
    if p < N ∧ ¬ inR R n (chR R p) = 0 then E_one R (nI n) (mf R 23 (nI (p + 1))) 1 else E_one R (nI n) R 0 := by
  by_cases h1 : p < N
  · by_cases h2 : inR R n (chR R p) = 0
    · rw [if_neg (fun z => z.2 h2)]
      unfold E_one
      rw [h23]
      refine ⟨R, _, chr_in hN h8 h1, ?_⟩
      rw [if_neg (hch p h1)]
      refine ⟨R, _, inc_E hn, ?_⟩
      rw [if_pos h2]; exact ⟨rfl, rfl⟩
    · rw [if_pos ⟨h1, h2⟩]
      unfold E_one
      rw [h23]
      refine ⟨R, _, chr_in hN h8 h1, ?_⟩
      rw [if_neg (hch p h1)]
      refine ⟨R, _, inc_E hn, ?_⟩
      rw [if_neg h2, h23, show nI p + 1 = nI (p + 1) from (nI_succ p).symm]; exact ⟨rfl, rfl⟩
  · rw [if_neg (fun z => h1 z.1)]
    unfold E_one
    rw [h23]
    refine ⟨R, -1, chr_out hN (Or.inr ((n_le (by omega) (by omega)).mpr (by omega))), ?_⟩
    rw [if_pos rfl]; exact ⟨rfl, rfl⟩
theorem ag_loop {R : RS} {N p f : Nat} {x1 : Int32} (hN : R.2.1 2 1 = nI N) (h8 : N ≤ 8) (hp : p ≤ N) (h23 : R.1 23 = nI p) (hch : ∀ q, q < N → ¬ chR R q = -1) : ∀ (m k M : Nat), k + m = M → f + M ≤ N →
    if agR R N p f m k then L_again_32 (m + 1) R x1 (nI f) (nI M) (nI k) (mf R 23 (nI (p + M))) 1 else L_again_32 (m + 1) R x1 (nI f) (nI M) (nI k) R 0
  | 0, k, M, hk, hf => by
    rw [if_pos (show agR R N p f 0 k = true from rfl)]
    unfold L_again_32
    rw [if_pos ((n_le (by omega) (by omega)).mpr (by omega)), h23, n_add]
    exact ⟨rfl, rfl⟩
  | m + 1, k, M, hk, hf => by
    have ih := ag_loop (x1 := x1) hN h8 hp h23 hch m (k + 1) M (by omega) hf
    have e1 : R.1 23 + nI k = nI (p + k) := by rw [h23, n_add]
    have e2 : nI f + nI k = nI (f + k) := n_add f k
    have cf := chr_in (R := R) (q := f + k) hN h8 (by omega)
    have ng : ¬ nI M ≤ nI k := fun z => by have := (n_le (by omega) (by omega)).mp z; omega
    by_cases h1 : p + k < N
    · have cp := chr_in (R := R) (q := p + k) hN h8 h1
      by_cases h2 : chR R (p + k) = chR R (f + k)
      · have ea : agR R N p f (m + 1) k = agR R N p f m (k + 1) := by show (if _ then _ else _) = _; rw [if_pos ⟨h1, h2⟩]
        rw [ea]
        have go : ∀ R' r, L_again_32 (m + 1) R x1 (nI f) (nI M) (nI (k + 1)) R' r → L_again_32 (m + 1 + 1) R x1 (nI f) (nI M) (nI k) R' r := fun R' r hL => by
          rw [L_again_32.eq_2]
          rw [if_neg ng, e1, e2]
          refine ⟨R, _, cp, R, _, cf, ?_⟩
          rw [if_pos h2, e1]
          refine ⟨R, _, cp, ?_⟩
          rw [if_neg (hch _ h1), show nI k + 1 = nI (k + 1) from (nI_succ k).symm]
          exact hL
        cases ha : agR R N p f m (k + 1) with
        | true => rw [ha] at ih; exact go _ _ ih
        | false => rw [ha] at ih; exact go _ _ ih
      · have ea : agR R N p f (m + 1) k = false := by show (if _ then _ else _) = _; rw [if_neg (fun z => h2 z.2)]
        rw [ea]
        show L_again_32 (m + 1 + 1) R x1 (nI f) (nI M) (nI k) R 0
        rw [L_again_32.eq_2]
        rw [if_neg ng, e1, e2]
        refine ⟨R, _, cp, R, _, cf, ?_⟩
        rw [if_neg h2]; exact ⟨rfl, rfl⟩
    · have cp := chr_out (R := R) (x := nI (p + k)) hN (Or.inr ((n_le (by omega) (by omega)).mpr (by omega)))
      have ea : agR R N p f (m + 1) k = false := by show (if _ then _ else _) = _; rw [if_neg (fun z => h1 z.1)]
      rw [ea]
      show L_again_32 (m + 1 + 1) R x1 (nI f) (nI M) (nI k) R 0
      rw [L_again_32.eq_2]
      rw [if_neg ng, e1, e2]
      refine ⟨R, _, cp, R, _, cf, ?_⟩
      rw [if_neg (fun z => hch (f + k) (by omega) z.symm)]; exact ⟨rfl, rfl⟩
