
/-! a chain gone on -/
theorem goOn_E {R : RS} {t : Tn} {l : Lk} {κ : List Lk} {p : Nat} {σ : Sp} {lk : Nat} {ws : List Wy} (hA : Arr R t) (h : Rep R (none, l :: κ, p, σ, lk, ws)) (hv : Vd t (none, l :: κ, p, σ, lk, ws)) (hd : Hd (none, l :: κ, p, σ, lk, ws)) (hs : saf (none, l :: κ, p, σ, lk, ws)) :
    ∃ R1 b, E_goOn R R1 b ∧ Sme R R1 ∧ ((b = 1 ∧ ∃ c', gon t l κ p σ lk ws = some c' ∧ Rep R1 c') ∨ (b = 0 ∧ ∃ n, gon t l κ p σ lk ws = popW t (ws.drop n) ∧ Bk R1 (ws.drop n) lk)) := by
  obtain ⟨h24, ⟨i, hi1, hi2, hi3, hi4, hi5, hi6, hi7⟩, b23, bsp, b26, b27, bws, b29⟩ := h
  obtain ⟨-, hp, hsv, ⟨hlk, hcv⟩, hww⟩ := hv
  obtain ⟨hh1, hh2⟩ := hd
  obtain ⟨s1, s2, -⟩ := hs
  dsimp only at hi1 hi2 hi3 hi4 hi5 hi6 hi7 b23 bsp b26 b27 bws b29 hp hsv hlk hcv hww hh1 hh2 s1 s2 h24
  have h8 := hA.2.2.2.2.2.1
  obtain ⟨kd, x, y, z⟩ := l
  have v25 : vp_in (R.1 25) 1000 := by rw [hi1]; exact v_in hi3 (by omega)
  have c25 : (R.1 25).toNatClampNeg = i := by rw [hi1]; exact n_cl (by omega)
  have hM : Mid (mf R 25 (R.2.1 34 i)) κ p σ lk ws := ⟨chn_le (Nat.le_of_lt hi2) hi7, b23, bsp, b26, b27, bws, b29⟩
  have hS : Sme R (mf R 25 (R.2.1 34 i)) := Sme.f (by omega)
  have hA' := hA.sme hS
  have m24 : (mf R 25 (R.2.1 34 i)).1 24 = -1 := h24
  have one0 : narrow .boolean (.int 0) = .int 0 := rfl
  have one1 : narrow .boolean (.int 1) = .int 1 := rfl
  have all : ws.drop 0 = ws := rfl
  have hcut : isCut (kd, x, y, z) = true → x ≤ ws.length := fun hc => by
    unfold hvd at hh1
    rw [if_pos hc] at hh1
    exact hh1.2.1
  unfold lkd at hlk
  dsimp only at hlk hi4 hi5 hi6
  rcases (show kd = 20 ∨ kd = 21 ∨ kd = 22 ∨ kd = 23 ∨ kd = 14 ∨ kd = 10 ∨ kd = 11 ∨ kd = 12 ∨ kd = 13 by omega) with rfl | rfl | rfl | rfl | rfl | rfl | rfl | rfl | rfl

  · have hx : x < 96 := by omega
    have eA : lkA (20, x, y, z) = nI x := rfl
    have eB : lkB (20, x, y, z) = nI y := rfl
    rw [eA] at hi5; rw [eB] at hi6
    obtain ⟨R1, k1, k2, k3⟩ := pcs_E hA' hM (by omega) m24 (q := some x) (fun n hn => by cases hn; exact hx)
    refine ⟨R1, 1, ?_, hS.trans k3, Or.inl ⟨rfl, _, rfl, k2⟩⟩
    unfold E_goOn; rw [c25, hi4, hi5, hi6]; refine ⟨v25, v25, ?_⟩; rw [if_neg (show ¬ nI 20 = 10 by decide), if_neg (show ¬ nI 20 = 11 by decide), if_neg (show ¬ nI 20 = 12 by decide), if_neg (show ¬ nI 20 = 13 by decide), if_neg (show ¬ nI 20 = 14 by decide), if_neg (show ¬ nI 20 = 15 by decide), if_neg (show ¬ nI 20 = 16 by decide), if_neg (show ¬ nI 20 = 17 by decide), if_neg (show ¬ nI 20 = 18 by decide), if_neg (show ¬ nI 20 = 19 by decide), if_pos (show nI 20 = 20 from rfl)]
    exact ⟨v25, _, _, k1, one1, rfl, rfl⟩
  · have hx : 1 ≤ x ∧ x ≤ 4 ∧ y ≤ p := by omega
    have eA : lkA (21, x, y, z) = nI x := rfl
    have eB : lkB (21, x, y, z) = nI y := rfl
    rw [eA] at hi5; rw [eB] at hi6
    have e1 : (2 * nI x : Int32) = nI (2 * x) := n_mul 2 x
    have e2 : (2 * nI x + 1 : Int32) = nI (2 * x + 1) := by rw [e1]; exact (nI_succ _).symm
    refine ⟨ma (ma (mf R 25 (R.2.1 34 i)) 30 (2 * x) (nI y)) 30 (2 * x + 1) (nI p), 1, ?_, hS.trans ((Sme.a (by omega) (by omega)).trans (Sme.a (by omega) (by omega))), Or.inl ⟨rfl, _, rfl, h24, ?_⟩⟩
    · unfold E_goOn; rw [c25, hi4, hi5, hi6]; refine ⟨v25, v25, ?_⟩; rw [if_neg (show ¬ nI 21 = 10 by decide), if_neg (show ¬ nI 21 = 11 by decide), if_neg (show ¬ nI 21 = 12 by decide), if_neg (show ¬ nI 21 = 13 by decide), if_neg (show ¬ nI 21 = 14 by decide), if_neg (show ¬ nI 21 = 15 by decide), if_neg (show ¬ nI 21 = 16 by decide), if_neg (show ¬ nI 21 = 17 by decide), if_neg (show ¬ nI 21 = 18 by decide), if_neg (show ¬ nI 21 = 19 by decide), if_neg (show ¬ nI 21 = 20 by decide), if_pos (show nI 21 = 21 from rfl)]
      rw [e2, e1, n_cl (by omega), n_cl (by omega), b23]
      exact ⟨v25, v25, v_in (by omega) (by omega), v25, v_in (by omega) (by omega), rfl, rfl⟩
    · obtain ⟨m1, m2, m3, m4, m5, m6, m7⟩ := hM
      have ar : ∀ k j, k ≠ 30 → (ma (ma (mf R 25 (R.2.1 34 i)) 30 (2 * x) (nI y)) 30 (2 * x + 1) (nI p)).2.1 k j = R.2.1 k j := fun k j hk => by rw [ma_at, ma_at, if_neg (by omega), if_neg (by omega)]; rfl
      refine ⟨chn_ext (fun k j a b _ => ar k j (by omega)) m1, m2, fun k hk => ?_, m4, m5, wys_ext (fun k j a b _ => ar k j (by omega)) (fun k j a b _ => ar k j (by omega)) (fun j _ => ar 40 j (by omega)) m6, m7⟩
      show (ma (ma (mf R 25 (R.2.1 34 i)) 30 (2 * x) (nI y)) 30 (2 * x + 1) (nI p)).2.1 30 k = (if k = 2 * x + 1 then Int32.ofNat p else if k = 2 * x then Int32.ofNat y else σ k)
      rw [ma_at, ma_at]
      by_cases a1 : k = 2 * x + 1
      · rw [if_pos ⟨rfl, a1⟩, if_pos a1]; rfl
      · rw [if_neg (fun z => a1 z.2), if_neg a1]
        by_cases a2 : k = 2 * x
        · rw [if_pos ⟨rfl, a2⟩, if_pos a2]; rfl
        · rw [if_neg (fun z => a2 z.2), if_neg a2]; exact bsp k hk
  · have hx : x < 96 ∧ nT t x = 15 ∧ z ≤ p ∧ y ≤ z + 5 := by omega
    have eA : lkA (22, x, y, z) = nI (64 * x + y) := rfl
    have eB : lkB (22, x, y, z) = nI z := rfl
    rw [eA] at hi5; rw [eB] at hi6
    have d1 : (nI (64 * x + y) / 64 : Int32) = nI x := by rw [show (64 : Int32) = nI 64 from rfl, n_div (by omega) (by omega)]; congr 1; omega
    have d2 : (nI (64 * x + y) - nI (64 * x + y) / 64 * 64 : Int32) = nI y := by rw [d1, show (64 : Int32) = nI 64 from rfl, n_mul, n_sub (by omega)]; congr 1; omega
    obtain ⟨R1, k1, k2, k3⟩ := trn_E hA' hM (by omega) (by omega) m24 (s := z) (a3 := nI z) hx.1 hx.2.1 (show y < 60 by omega) (fun _ => rfl) (by omega) (by omega)
    refine ⟨R1, 1, ?_, hS.trans k3, Or.inl ⟨rfl, _, rfl, k2⟩⟩
    unfold E_goOn; rw [c25, hi4, hi5, hi6]; refine ⟨v25, v25, ?_⟩; rw [if_neg (show ¬ nI 22 = 10 by decide), if_neg (show ¬ nI 22 = 11 by decide), if_neg (show ¬ nI 22 = 12 by decide), if_neg (show ¬ nI 22 = 13 by decide), if_neg (show ¬ nI 22 = 14 by decide), if_neg (show ¬ nI 22 = 15 by decide), if_neg (show ¬ nI 22 = 16 by decide), if_neg (show ¬ nI 22 = 17 by decide), if_neg (show ¬ nI 22 = 18 by decide), if_neg (show ¬ nI 22 = 19 by decide), if_neg (show ¬ nI 22 = 20 by decide), if_neg (show ¬ nI 22 = 21 by decide), if_pos (show nI 22 = 22 from rfl)]; rw [d2, d1]
    exact ⟨v25, v25, v25, _, _, k1, one1, rfl, rfl⟩
  · have hk : κ = [] := by unfold hvd at hh1; exact hh1.1 rfl
    subst hk
    have hto : R.2.1 34 i = -1 := hi7
    have hW := hA.2.2.1
    have gg : gon t (23, x, y, z) [] p σ lk ws = if nW t = none ∨ nW t = some p then some (none, [], p, σ, lk, ws) else popW t ws := rfl
    by_cases a : nW t = none ∨ nW t = some p
    · rw [if_pos a] at gg
      refine ⟨mf R 25 (R.2.1 34 i), 1, ?_, hS, Or.inl ⟨rfl, _, gg, m24, hM⟩⟩
      unfold E_goOn; rw [c25, hi4]; refine ⟨v25, v25, ?_⟩; rw [if_neg (show ¬ nI 23 = 10 by decide), if_neg (show ¬ nI 23 = 11 by decide), if_neg (show ¬ nI 23 = 12 by decide), if_neg (show ¬ nI 23 = 13 by decide), if_neg (show ¬ nI 23 = 14 by decide), if_neg (show ¬ nI 23 = 15 by decide), if_neg (show ¬ nI 23 = 16 by decide), if_neg (show ¬ nI 23 = 17 by decide), if_neg (show ¬ nI 23 = 18 by decide), if_neg (show ¬ nI 23 = 19 by decide), if_neg (show ¬ nI 23 = 20 by decide), if_neg (show ¬ nI 23 = 21 by decide), if_neg (show ¬ nI 23 = 22 by decide), if_pos (show nI 23 = 23 from rfl)]
      by_cases b : R.1 28 = -1
      · rw [if_pos b]; exact ⟨rfl, rfl⟩
      · rw [if_neg b]
        rcases a with a | a
        · rw [a] at hW; exact absurd hW b
        · rw [a] at hW; rw [if_pos (show R.1 23 = R.1 28 by rw [b23, hW]; rfl)]; exact ⟨rfl, rfl⟩
    · rw [if_neg a] at gg
      have hw8 := hA.2.2.2.2.2.2.2
      refine ⟨mf (mf R 25 (R.2.1 34 i)) 25 (R.1 25), 0, ?_, hS.trans (Sme.f (by omega)), Or.inr ⟨rfl, 0, gg, b27, bws, b29⟩⟩
      unfold E_goOn; rw [c25, hi4]; refine ⟨v25, v25, ?_⟩; rw [if_neg (show ¬ nI 23 = 10 by decide), if_neg (show ¬ nI 23 = 11 by decide), if_neg (show ¬ nI 23 = 12 by decide), if_neg (show ¬ nI 23 = 13 by decide), if_neg (show ¬ nI 23 = 14 by decide), if_neg (show ¬ nI 23 = 15 by decide), if_neg (show ¬ nI 23 = 16 by decide), if_neg (show ¬ nI 23 = 17 by decide), if_neg (show ¬ nI 23 = 18 by decide), if_neg (show ¬ nI 23 = 19 by decide), if_neg (show ¬ nI 23 = 20 by decide), if_neg (show ¬ nI 23 = 21 by decide), if_neg (show ¬ nI 23 = 22 by decide), if_pos (show nI 23 = 23 from rfl)]
      cases hw : nW t with
      | none => exact absurd (Or.inl hw) a
      | some w =>
        rw [hw] at hW
        have w8 := hw8 w hw
        rw [if_neg (show ¬ R.1 28 = -1 by rw [hW]; exact n_m1 (by omega)), if_neg (show ¬ R.1 23 = R.1 28 by rw [hW, b23]; exact fun q => a (Or.inr (by rw [hw, (n_eq (by omega) (by omega)).mp q])))]
        exact ⟨_, 0, ⟨rfl, rfl⟩, rfl, rfl, rfl⟩
  · have hx : x ≤ ws.length := hcut rfl
    have eA : lkA (14, x, y, z) = nI x := rfl
    have eB : lkB (14, x, y, z) = nI y := rfl
    rw [eA] at hi5; rw [eB] at hi6
    refine ⟨mf (mf R 25 (R.2.1 34 i)) 27 (nI x), 1, ?_, hS.trans (Sme.f (by omega)), Or.inl ⟨rfl, _, rfl, h24, mid_cut hM hx⟩⟩
    unfold E_goOn; rw [c25, hi4, hi5, hi6]; refine ⟨v25, v25, ?_⟩; rw [if_neg (show ¬ nI 14 = 10 by decide), if_neg (show ¬ nI 14 = 11 by decide), if_neg (show ¬ nI 14 = 12 by decide), if_neg (show ¬ nI 14 = 13 by decide), if_pos (show nI 14 = 14 from rfl)]
    exact ⟨v25, rfl, rfl⟩
  · have hx : x ≤ ws.length := hcut rfl
    have eA : lkA (10, x, y, z) = nI x := rfl
    have eB : lkB (10, x, y, z) = nI y := rfl
    rw [eA] at hi5; rw [eB] at hi6
    refine ⟨mf (mf (mf R 25 (R.2.1 34 i)) 27 (nI x)) 23 (nI y), 1, ?_, (hS.trans (Sme.f (by omega))).trans (Sme.f (by omega)), Or.inl ⟨rfl, _, rfl, h24, mid_place (mid_cut hM hx)⟩⟩
    unfold E_goOn; rw [c25, hi4, hi5, hi6]; refine ⟨v25, v25, ?_⟩; rw [if_pos (show nI 10 = 10 from rfl)]
    exact ⟨v25, v25, rfl, rfl⟩
  · have hx : x ≤ ws.length := hcut rfl
    have eA : lkA (11, x, y, z) = nI x := rfl
    have eB : lkB (11, x, y, z) = nI y := rfl
    rw [eA] at hi5; rw [eB] at hi6
    have hc := mid_cut hM hx
    refine ⟨mf (mf R 25 (R.2.1 34 i)) 27 (nI x), 0, ?_, hS.trans (Sme.f (by omega)), Or.inr ⟨rfl, ws.length - x, rfl, hc.2.2.2.2.1, hc.2.2.2.2.2.1, hc.2.2.2.2.2.2⟩⟩
    unfold E_goOn; rw [c25, hi4, hi5, hi6]; refine ⟨v25, v25, ?_⟩; rw [if_neg (show ¬ nI 11 = 10 by decide), if_pos (show nI 11 = 11 from rfl)]
    exact ⟨v25, rfl, rfl⟩
  · have hx : x ≤ ws.length ∧ y ≤ nN t := ⟨hcut rfl, by omega⟩
    have eA : lkA (12, x, y, z) = nI x := rfl
    have eB : lkB (12, x, y, z) = nI y := rfl
    rw [eA] at hi5; rw [eB] at hi6
    have hc := mid_cut hM hx.1
    by_cases a : p = y
    · have gg : gon t (12, x, y, z) κ p σ lk ws = some (none, κ, p, σ, lk, cutW x ws) := if_pos a
      refine ⟨mf (mf R 25 (R.2.1 34 i)) 27 (nI x), 1, ?_, hS.trans (Sme.f (by omega)), Or.inl ⟨rfl, _, gg, h24, hc⟩⟩
      unfold E_goOn; rw [c25, hi4, hi5, hi6]; refine ⟨v25, v25, ?_⟩; rw [if_neg (show ¬ nI 12 = 10 by decide), if_neg (show ¬ nI 12 = 11 by decide), if_pos (show nI 12 = 12 from rfl)]
      rw [if_pos (show R.1 23 = nI y by rw [b23, a])]
      exact ⟨v25, v25, v25, one1, rfl, rfl⟩
    · have gg : gon t (12, x, y, z) κ p σ lk ws = popW t ws := if_neg a
      refine ⟨mf R 25 (R.2.1 34 i), 0, ?_, hS, Or.inr ⟨rfl, 0, gg, b27, bws, b29⟩⟩
      unfold E_goOn; rw [c25, hi4, hi5, hi6]; refine ⟨v25, v25, ?_⟩; rw [if_neg (show ¬ nI 12 = 10 by decide), if_neg (show ¬ nI 12 = 11 by decide), if_pos (show nI 12 = 12 from rfl)]
      rw [if_neg (show ¬ R.1 23 = nI y by rw [b23]; exact fun q => a ((n_eq (by omega) (by omega)).mp q))]
      exact ⟨v25, rfl, rfl⟩
  · have hx : x ≤ ws.length ∧ y ≤ nN t := ⟨hcut rfl, by omega⟩
    have eA : lkA (13, x, y, z) = nI x := rfl
    have eB : lkB (13, x, y, z) = nI y := rfl
    rw [eA] at hi5; rw [eB] at hi6
    have hc := mid_cut hM hx.1
    by_cases a : p = y
    · have gg : gon t (13, x, y, z) κ p σ lk ws = popW t (ws.drop (ws.length - x)) := if_pos a
      refine ⟨mf (mf R 25 (R.2.1 34 i)) 27 (nI x), 0, ?_, hS.trans (Sme.f (by omega)), Or.inr ⟨rfl, ws.length - x, gg, hc.2.2.2.2.1, hc.2.2.2.2.2.1, hc.2.2.2.2.2.2⟩⟩
      unfold E_goOn; rw [c25, hi4, hi5, hi6]; refine ⟨v25, v25, ?_⟩; rw [if_neg (show ¬ nI 13 = 10 by decide), if_neg (show ¬ nI 13 = 11 by decide), if_neg (show ¬ nI 13 = 12 by decide), if_pos (show nI 13 = 13 from rfl)]
      rw [if_pos (show R.1 23 = nI y by rw [b23, a])]
      exact ⟨v25, v25, v25, one0, rfl, rfl⟩
    · have gg : gon t (13, x, y, z) κ p σ lk ws = popW t ws := if_neg a
      refine ⟨mf R 25 (R.2.1 34 i), 0, ?_, hS, Or.inr ⟨rfl, 0, gg, b27, bws, b29⟩⟩
      unfold E_goOn; rw [c25, hi4, hi5, hi6]; refine ⟨v25, v25, ?_⟩; rw [if_neg (show ¬ nI 13 = 10 by decide), if_neg (show ¬ nI 13 = 11 by decide), if_neg (show ¬ nI 13 = 12 by decide), if_pos (show nI 13 = 13 from rfl)]
      rw [if_neg (show ¬ R.1 23 = nI y by rw [b23]; exact fun q => a ((n_eq (by omega) (by omega)).mp q))]
      exact ⟨v25, rfl, rfl⟩

/-! a step, a run -/
def Fit (t : Tn) (c : Cf) : Prop := Vd t c ∧ Hd c
theorem step_E {R : RS} {t : Tn} {c : Cf} (hA : Arr R t) (hX : Tx R t) (h : Rep R c) (hf : Fit t c) (hs : saf c) (nf : Nat) (x1 x2 x3 : Int32) :
    ∃ (R1 : RS) (x3' : Int32), (∀ R' r, L_run_80 nf R1 x1 x2 x3' R' r → L_run_80 (nf + 1) R x1 x2 x3 R' r) ∧ Sme R R1 ∧ (match stp t c with | some c' => Rep R1 c' | none => R1.1 29 = 0) := by
  obtain ⟨hv, hd⟩ := hf
  obtain ⟨nd, κ, p, σ, lk, ws⟩ := c
  have s1 : lk ≤ 990 := hs.1
  have s2 : ws.length ≤ 490 := hs.2.1
  have s3 : κ ≠ [] := hs.2.2
  have hww : ∀ w ∈ ws, wvd t w := hv.2.2.2.2
  have h29 : R.1 29 = 1 := h.2.2.2.2.2.2.2
  have h24 : R.1 24 = iO nd := h.1
  have n29 : ¬ R.1 29 = 0 := by rw [h29]; decide
  have n25 : ¬ R.1 25 = -1 := by
    have hc : chn R.2.1 (R.1 25) κ lk := h.2.1
    cases κ with
    | nil => exact absurd rfl s3
    | cons l κ =>
      obtain ⟨i, hi1, -, hi3, -⟩ := hc
      rw [hi1]; exact n_m1 (by omega)
  cases nd with
  | some n =>
    have hn := hv.1 n rfl
    obtain ⟨R1, b, k1, k2, k3⟩ := enter_E hA hX (Rep_of.mp h).2 hn hv.2.1 hv.2.2.1 s1 s2
    have hst : stp t (some n, κ, p, σ, lk, ws) = ent t n κ p σ lk ws := rfl
    have e24 : ¬ R.1 24 = -1 := by rw [h24]; exact n_m1 (by omega)
    rcases k3 with ⟨rfl, c', e1, e2⟩ | ⟨rfl, e1, e2⟩
    · refine ⟨R1, 1, fun R' r hL => ?_, k2, ?_⟩
      · rw [L_run_80.eq_2, if_neg n29, if_neg n25, if_neg e24]
        refine ⟨R1, 1, by rw [h24]; exact k1, ?_⟩
        rw [if_neg (by decide)]; exact hL
      · rw [hst, e1]; exact e2
    · obtain ⟨R2, g1, g2, g3⟩ := back_E (hA.sme k2) e2 s1 (by omega) hww
      refine ⟨R2, 0, fun R' r hL => ?_, k2.trans g2, ?_⟩
      · rw [L_run_80.eq_2, if_neg n29, if_neg n25, if_neg e24]
        refine ⟨R1, 0, by rw [h24]; exact k1, ?_⟩
        rw [if_pos rfl]; exact ⟨R2, g1, hL⟩
      · rw [hst, e1]; exact g3
  | none =>
    cases κ with
    | nil => exact absurd rfl s3
    | cons l κ =>
      obtain ⟨R1, b, k1, k2, k3⟩ := goOn_E hA h hv hd hs
      have hst : stp t (none, l :: κ, p, σ, lk, ws) = gon t l κ p σ lk ws := rfl
      have e24 : R.1 24 = -1 := h24
      rcases k3 with ⟨rfl, c', e1, e2⟩ | ⟨rfl, m, e1, e2⟩
      · refine ⟨R1, 1, fun R' r hL => ?_, k2, ?_⟩
        · rw [L_run_80.eq_2, if_neg n29, if_neg n25, if_pos e24]
          refine ⟨R1, 1, k1, ?_⟩
          rw [if_neg (by decide)]; exact hL
        · rw [hst, e1]; exact e2
      · obtain ⟨R2, g1, g2, g3⟩ := back_E (hA.sme k2) e2 s1 (by rw [List.length_drop]; omega) (fun w hw => hww w (List.mem_of_mem_drop hw))
        refine ⟨R2, 0, fun R' r hL => ?_, k2.trans g2, ?_⟩
        · rw [L_run_80.eq_2, if_neg n29, if_neg n25, if_pos e24]
          refine ⟨R1, 0, k1, ?_⟩
          rw [if_pos rfl]; exact ⟨R2, g1, hL⟩
        · rw [hst, e1]; exact g3
/-- from a state to the end of the loop: an end with κ gone, or no way left -/
theorem runs_E {t : Tn} (hW : Wt t) : ∀ (n : Nat) (R : RS) (c : Cf) (e : Option Cf) (x1 x2 x3 : Int32), rch t n (some c) e → Arr R t → Tx R t → Rep R c → Fit t c → (∀ c', e = some c' → c'.1 = none ∧ c'.2.1 = []) →
    ∃ (R1 : RS) (r : Int32), L_run_80 (n + 1) R x1 x2 x3 (if r = 0 then R1 else (ma (ma R1 30 0 x1) 30 1 (R1.1 23))) r ∧ Sme R R1 ∧ (match e with | some c' => r = 1 ∧ Rep R1 c' | none => r = 0)
  | 0, R, c, e, x1, x2, x3, hr, hA, hX, hR, hf, he => by
    have hr : some c = e := hr
    obtain ⟨h1, h2⟩ := he c hr.symm
    have h29 : R.1 29 = 1 := hR.2.2.2.2.2.2.2
    have h25 : R.1 25 = -1 := by
      have hc := hR.2.1
      rw [h2] at hc
      exact hc
    refine ⟨R, 1, ?_, Sme.refl, ?_⟩
    · rw [if_neg (by decide)]
      have n29 : ¬ R.1 29 = 0 := by rw [h29]; decide
      rw [L_run_80.eq_2, if_neg n29, if_pos h25, if_neg n29]
      exact ⟨v_in (n := 0) (by omega) (by omega), v_in (n := 1) (by omega) (by omega), rfl, rfl⟩
    · rw [← hr]; exact ⟨rfl, hR⟩
  | n + 1, R, c, e, x1, x2, x3, ⟨c0, hc0, hs, hr⟩, hA, hX, hR, hf, he => by
    cases hc0
    obtain ⟨R1, x3', k1, k2, k3⟩ := step_E hA hX hR hf hs (n + 1) x1 x2 x3
    cases hst : stp t c with
    | some c1 =>
      rw [hst] at hr k3
      obtain ⟨R2, r, g1, g2, g3⟩ := runs_E hW n R1 c1 e x1 x2 x3' hr (hA.sme k2) (hX.sme k2) k3 ⟨vd_step hW hf.1 hs hst, hd_step hf.2 hst⟩ he
      exact ⟨R2, r, k1 _ _ g1, k2.trans g2, g3⟩
    | none =>
      rw [hst] at hr k3
      have hn : n = 0 ∧ e = none := by
        cases n with
        | zero => exact ⟨rfl, hr.symm⟩
        | succ n => obtain ⟨c2, h2, -⟩ := hr; cases h2
      obtain ⟨rfl, rfl⟩ := hn
      refine ⟨R1, 0, k1 _ _ ?_, k2, rfl⟩
      rw [if_pos rfl, L_run_80.eq_2, if_pos k3, if_pos k3]
      exact ⟨rfl, rfl⟩

