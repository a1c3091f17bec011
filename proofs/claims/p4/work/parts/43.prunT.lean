/-! a run of the reference -/
def oN (x : Int32) : Option Nat := if x = -1 then none else some x.toNatClampNeg
theorem oN_iO {o : Option Nat} (h : ∀ m, o = some m → m < 2147483648) : oN (iO o) = o := by
  cases o with
  | none => rfl
  | some m =>
    show (if nI m = -1 then none else some (nI m).toNatClampNeg) = _
    rw [if_neg (n_m1 (h m rfl)), n_cl (h m rfl)]
theorem iO_oN {x : Int32} {B : Nat} (hB : B ≤ 2147483648) (h : x = -1 ∨ ∃ m, m < B ∧ x = nI m) : iO (oN x) = x ∧ ∀ m, oN x = some m → m < B := by
  rcases h with rfl | ⟨m, hm, rfl⟩
  · exact ⟨rfl, fun m h => by cases h⟩
  · have e : oN (nI m) = some m := by unfold oN; rw [if_neg (n_m1 (by omega)), n_cl (by omega)]
    rw [e]
    exact ⟨rfl, fun k hk => by cases hk; exact hm⟩
/-- the leaves' meaning over a text -/
def wdX (X : Nat → Int32) (N p : Nat) : Int32 := if p = 0 then 0 else if N < p then 0 else (if wI (X (14 + (p - 1))) = 0 then 0 else 1)
def inX (lo hi : Int64) (c : Int32) : Int32 := if 96 ≤ c then (if (lg_cmp ((hi >>> ((c - 96).toInt64 &&& 63)) &&& 1) 1) = 0 then 1 else 0 : Int32) else (if (lg_cmp ((lo >>> ((c - 32).toInt64 &&& 63)) &&& 1) 1) = 0 then 1 else 0 : Int32)
def agX (X : Nat → Int32) (N p f : Nat) : Nat → Nat → Bool
  | 0, _ => true
  | m + 1, k => if p + k < N ∧ X (14 + (p + k)) = X (14 + (f + k)) then agX X N p f m (k + 1) else false
def lfX (X : Nat → Int32) (N : Nat) (l : Lf) (p : Nat) (σ : Sp) : Option Nat :=
  if l.1 = 2 then (if p < N then (if inX l.2.2.1 l.2.2.2 (X (14 + p)) = 0 then none else some (p + 1)) else none)
  else if l.1 = 3 then (if p = 0 then some p else none)
  else if l.1 = 4 then (if p = N then some p else none)
  else if l.1 = 5 then (if wdX X N p = wdX X N (p + 1) then none else some p)
  else if l.1 = 6 then (if wdX X N p = wdX X N (p + 1) then some p else none)
  else if l.1 = 7 then (if σ (2 * l.2.1) = -1 then none else (if agX X N p (σ (2 * l.2.1)).toNatClampNeg ((σ (2 * l.2.1 + 1)).toNatClampNeg - (σ (2 * l.2.1)).toNatClampNeg) 0 then some (p + ((σ (2 * l.2.1 + 1)).toNatClampNeg - (σ (2 * l.2.1)).toNatClampNeg)) else none))
  else none
theorem agX_le {X : Nat → Int32} {N p f : Nat} : ∀ {m k : Nat}, agX X N p f m k = true → m = 0 ∨ p + k + m ≤ N
  | 0, _, _ => Or.inl rfl
  | m + 1, k, h => by
    unfold agX at h
    split at h
    · rename_i h1
      rcases agX_le h with h2 | h2 <;> right <;> omega
    · cases h
theorem lfX_ok {X : Nat → Int32} {N : Nat} {l : Lf} {p : Nat} {σ : Sp} {p' : Nat} (hp : p ≤ N) (h : lfX X N l p σ = some p') : p ≤ p' ∧ p' ≤ N := by
  unfold lfX at h
  split at h
  · split at h
    · split at h
      · cases h
      · cases h; omega
    · cases h
  · split at h
    · split at h
      · cases h; omega
      · cases h
    · split at h
      · split at h
        · cases h; omega
        · cases h
      · split at h
        · split at h
          · cases h
          · cases h; omega
        · split at h
          · split at h
            · cases h; omega
            · cases h
          · split at h
            · split at h
              · cases h
              · split at h
                · rename_i ha
                  cases h
                  rcases agX_le ha with h2 | h2 <;> omega
                · cases h
            · cases h
theorem lfX_z {X : Nat → Int32} {N : Nat} {l : Lf} {p : Nat} {σ : Sp} {p' : Nat} (hz : lfz l = false) (h : lfX X N l p σ = some p') : p' = p := by
  unfold lfz at hz
  have hz : ¬ (l.1 = 2 ∨ l.1 = 7) := by simpa using hz
  unfold lfX at h
  rw [if_neg (fun z => hz (Or.inl z))] at h
  split at h
  · split at h
    · cases h; rfl
    · cases h
  · split at h
    · split at h
      · cases h; rfl
      · cases h
    · split at h
      · split at h
        · cases h
        · cases h; rfl
      · split at h
        · split at h
          · cases h; rfl
          · cases h
        · rw [if_neg (fun z => hz (Or.inr z))] at h; cases h
/-- the node table that R's rows hold, over a text -/
def tnOf (R : RS) (w : Option Nat) : Tn := (fun n => (R.2.1 8 n).toNatClampNeg, fun n => (R.2.1 9 n).toNatClampNeg, fun n => oN (R.2.1 10 n), fun n => (R.2.1 11 n).toNatClampNeg, fun n => oN (R.2.1 12 n), fun n => oN (R.2.1 13 n), fun n p σ => lfX (R.2.1 1) (R.2.1 2 1).toNatClampNeg ((R.2.1 8 n).toNatClampNeg, (R.2.1 9 n).toNatClampNeg, R.2.2 14 n, R.2.2 15 n) p σ, (R.2.1 2 1).toNatClampNeg, w)
def NdR (R : RS) : Prop := ∀ n, n < 96 → ∃ k a m : Nat, R.2.1 8 n = nI k ∧ k ≤ 15 ∧ R.2.1 9 n = nI a ∧ a ≤ 4 ∧ (k = 7 ∨ k = 8 → 1 ≤ a) ∧ (R.2.1 10 n = -1 ∨ ∃ b, b < 5 ∧ R.2.1 10 n = nI b) ∧ R.2.1 11 n = nI m ∧ m ≤ 2 ∧ (R.2.1 12 n = -1 ∨ ∃ b, b < 96 ∧ R.2.1 12 n = nI b) ∧ (R.2.1 13 n = -1 ∨ ∃ b, b < 96 ∧ R.2.1 13 n = nI b)
def TxR (R : RS) : Prop := ∃ N, N ≤ 8 ∧ R.2.1 2 1 = nI N ∧ ∀ q, q < N → ∃ c, 32 ≤ c ∧ c ≤ 126 ∧ R.2.1 1 (14 + q) = nI c
theorem agX_R {R : RS} {N p f : Nat} : ∀ {m k : Nat}, agR R N p f m k = agX (R.2.1 1) N p f m k
  | 0, _ => rfl
  | m + 1, k => by unfold agR agX chR; rw [agX_R]
/-- where the type is a leaf's -/
theorem lfR_X {R : RS} {N n k a p : Nat} {σ : Sp} (h8 : R.2.1 8 n = nI k) (hk : 2 ≤ k ∧ k ≤ 7) (h9 : R.2.1 9 n = nI a) (ha : a ≤ 4) : lfR R N n p σ = lfX (R.2.1 1) N (k, a, R.2.2 14 n, R.2.2 15 n) p σ := by
  have ca : (R.2.1 9 n).toNatClampNeg = a := by rw [h9]; exact n_cl (by omega)
  have q : ∀ j, j ≤ 15 → (nI k = nI j ↔ k = j) := fun j hj => n_eq (by omega) (by omega)
  unfold lfR lfX
  rw [ca, h8]
  have e2 := q 2 (by omega); have e3 := q 3 (by omega); have e4 := q 4 (by omega); have e5 := q 5 (by omega); have e6 := q 6 (by omega)
  rcases (show k = 2 ∨ k = 3 ∨ k = 4 ∨ k = 5 ∨ k = 6 ∨ k = 7 by omega) with rfl | rfl | rfl | rfl | rfl | rfl
  · rfl
  · rfl
  · rfl
  · rfl
  · rfl
  · show (if σ (2 * a) = -1 then _ else _) = (if σ (2 * a) = -1 then _ else _)
    rw [agX_R]
theorem arr_of {R : RS} {w : Option Nat} (hn : NdR R) (ht : TxR R) (hw : R.1 28 = iO w) (hw8 : ∀ m, w = some m → m ≤ 8) : Arr R (tnOf R w) ∧ Tx R (tnOf R w) ∧ Wt (tnOf R w) := by
  obtain ⟨N, hN, hN2, hch⟩ := ht
  have cN : (R.2.1 2 1).toNatClampNeg = N := by rw [hN2]; exact n_cl (by omega)
  have hWt : Wt (tnOf R w) := by
    refine ⟨fun n h96 => ?_, by show (R.2.1 2 1).toNatClampNeg ≤ 8; rw [cN]; exact hN, fun n p σ p' hp h => lfX_ok hp h, hw8⟩
    obtain ⟨k, a, m, h1, h2, h3, h4, h5, h6, h7, h8, h9, h10⟩ := hn n h96
    have c1 : nT (tnOf R w) n = k := by show (R.2.1 8 n).toNatClampNeg = k; rw [h1]; exact n_cl (by omega)
    have c2 : nA (tnOf R w) n = a := by show (R.2.1 9 n).toNatClampNeg = a; rw [h3]; exact n_cl (by omega)
    have c3 : nM (tnOf R w) n = m := by show (R.2.1 11 n).toNatClampNeg = m; rw [h7]; exact n_cl (by omega)
    rw [c1, c2, c3]
    exact ⟨h2, h4, fun b hb => by have := (iO_oN (B := 5) (by omega) h6).2 b hb; omega, h8, (iO_oN (B := 96) (by omega) h9).2, (iO_oN (B := 96) (by omega) h10).2, h5⟩
  refine ⟨⟨fun n h96 => ?_, ?_, hw, fun n p σ h96 t1 t2 => ?_, hWt⟩, fun q hq => ?_, hWt⟩
  · obtain ⟨k, a, m, h1, h2, h3, h4, h5, h6, h7, h8, h9, h10⟩ := hn n h96
    refine ⟨?_, ?_, (iO_oN (B := 5) (by omega) h6).1.symm, ?_, (iO_oN (B := 96) (by omega) h9).1.symm, (iO_oN (B := 96) (by omega) h10).1.symm⟩
    · show R.2.1 8 n = nI (R.2.1 8 n).toNatClampNeg; rw [h1, n_cl (by omega)]
    · show R.2.1 9 n = nI (R.2.1 9 n).toNatClampNeg; rw [h3, n_cl (by omega)]
    · show R.2.1 11 n = nI (R.2.1 11 n).toNatClampNeg; rw [h7, n_cl (by omega)]
  · show R.2.1 2 1 = nI (R.2.1 2 1).toNatClampNeg; rw [cN]; exact hN2
  · obtain ⟨k, a, m, h1, h2, h3, h4, -⟩ := hn n h96
    have c1 : (R.2.1 8 n).toNatClampNeg = k := by rw [h1]; exact n_cl (by omega)
    have c2 : (R.2.1 9 n).toNatClampNeg = a := by rw [h3]; exact n_cl (by omega)
    have t1 : 2 ≤ (R.2.1 8 n).toNatClampNeg := t1
    have t2 : (R.2.1 8 n).toNatClampNeg ≤ 7 := t2
    rw [c1] at t1 t2
    show lfX (R.2.1 1) (R.2.1 2 1).toNatClampNeg ((R.2.1 8 n).toNatClampNeg, (R.2.1 9 n).toNatClampNeg, R.2.2 14 n, R.2.2 15 n) p σ = _
    rw [c1, c2]
    exact (lfR_X h1 ⟨t1, t2⟩ h3 h4).symm
  · have hq : q < (R.2.1 2 1).toNatClampNeg := hq
    rw [cN] at hq
    obtain ⟨c, c1, c2, c3⟩ := hch q hq
    show ¬ R.2.1 1 (14 + q) = -1
    rw [c3]; exact n_m1 (by omega)
theorem rch_vd {t : Tn} (hW : Wt t) : ∀ (n : Nat) (a : Option Cf) (e : Option Cf) {c c' : Cf}, rch t n a e → Vd t c → a = some c → e = some c' → Vd t c'
  | 0, a, e, c, c', hr, hv, ha, he => by
    have hr : a = e := hr
    rw [ha, he] at hr
    cases hr; exact hv
  | n + 1, a, e, c, c', ⟨c0, hc0, hs, hr⟩, hv, ha, he => by
    rw [ha] at hc0
    cases hc0
    cases hst : stp t c with
    | some c1 => rw [hst] at hr; exact rch_vd hW n _ e hr (vd_step hW hv hs hst) rfl he
    | none =>
      rw [hst, he] at hr
      cases n with
      | zero => cases hr
      | succ n => obtain ⟨c2, h2, -⟩ := hr; cases h2
/-! trees in node tables whose leaves are told by P0 -/
def isAg (P0 : Nat → Lf → Prop) (t : Tn) : (d : Nat) → Nat → At d → Prop
  | 0, n, l => P0 n l
  | _ + 1, n, .inl l => P0 n l
  | d + 1, n, .inr (kd, g, c) => nT t n = kd ∧ 8 ≤ kd ∧ kd ≤ 14 ∧ (kd = 8 → nA t n = g) ∧ ∃ m, nK t n = some m ∧ isR (isAg P0 t d) t m c
/-- tables alike but for leaves, text and end -/
def tEq (t t' : Tn) : Prop := nT t' = nT t ∧ nA t' = nA t ∧ nB t' = nB t ∧ nM t' = nM t ∧ nK t' = nK t ∧ nS t' = nS t
section TE
variable {t t' : Tn} {A : Type} {P Q : Nat → A → Prop}
theorem isP_to (h : tEq t t') (hPQ : ∀ n a, P n a → Q n a) {n : Nat} {x : A × Option Lp} (hx : isP P t n x) : isP Q t' n x := by
  obtain ⟨a, l⟩ := x
  obtain ⟨e1, e2, e3, e4, e5, e6⟩ := h
  cases l with
  | none => exact hPQ n a hx
  | some l =>
    obtain ⟨h1, ⟨m, h2, h3⟩, h4, h5, h6, h7, h8⟩ := hx
    exact ⟨by rw [e1]; exact h1, ⟨m, by rw [e5]; exact h2, hPQ m a h3⟩, by rw [e2]; exact h4, by rw [e3]; exact h5, by rw [e4]; exact h6, h7, h8⟩
theorem isS_to (h : tEq t t') (hPQ : ∀ n a, P n a → Q n a) : ∀ {xs : List (A × Option Lp)} {q : Option Nat}, isS P t q xs → isS Q t' q xs
  | [], _, hq => hq
  | _ :: _, _, ⟨n, hq, hx, hr⟩ => ⟨n, hq, isP_to h hPQ hx, by rw [h.2.2.2.2.2]; exact isS_to h hPQ hr⟩
theorem isC_to (h : tEq t t') (hPQ : ∀ n a, P n a → Q n a) : ∀ {ss : List (List (A × Option Lp))} {q : Option Nat}, isC P t q ss → isC Q t' q ss
  | [], _, hq => hq
  | _ :: _, _, ⟨n, hq, hT, hs, hr⟩ => ⟨n, hq, by rw [h.1]; exact hT, by rw [h.2.2.2.2.1]; exact isS_to h hPQ hs, by rw [h.2.2.2.2.2]; exact isC_to h hPQ hr⟩
theorem isR_to (h : tEq t t') (hPQ : ∀ n a, P n a → Q n a) {n : Nat} {c : List (List (A × Option Lp))} (hc : isR P t n c) : isR Q t' n c := ⟨by rw [h.1]; exact hc.1, hc.2.1, by rw [h.2.2.2.2.1]; exact isC_to h hPQ hc.2.2⟩
end TE
theorem isAg_A {P0 : Nat → Lf → Prop} {L : Lf → Nat → Sp → Option Nat} {t t' : Tn} (h : tEq t t') (hP : ∀ n l, P0 n l → isLf L t' n l) : ∀ (d n : Nat) (a : At d), isAg P0 t d n a → isA L t' d n a
  | 0, n, l, hx => hP n l hx
  | d + 1, n, .inl l, hx => hP n l hx
  | d + 1, n, .inr (kd, g, c), hx => by
    obtain ⟨h1, h2, h3, h4, m, h5, h6⟩ := hx
    exact ⟨by rw [h.1]; exact h1, h2, h3, fun e => by rw [h.2.1]; exact h4 e, m, by rw [h.2.2.2.2.1]; exact h5, isR_to h (fun n a => isAg_A h hP d n a) h6⟩
theorem isAg_to {P0 Q0 : Nat → Lf → Prop} {t t' : Tn} (h : tEq t t') (hP : ∀ n l, P0 n l → Q0 n l) : ∀ (d n : Nat) (a : At d), isAg P0 t d n a → isAg Q0 t' d n a
  | 0, n, l, hx => hP n l hx
  | d + 1, n, .inl l, hx => hP n l hx
  | d + 1, n, .inr (kd, g, c), hx => by
    obtain ⟨h1, h2, h3, h4, m, h5, h6⟩ := hx
    exact ⟨by rw [h.1]; exact h1, h2, h3, fun e => by rw [h.2.1]; exact h4 e, m, by rw [h.2.2.2.2.1]; exact h5, isR_to h (fun n a => isAg_to h hP d n a) h6⟩
def synLf (R : RS) (n : Nat) (l : Lf) : Prop := R.2.1 8 n = nI l.1 ∧ 2 ≤ l.1 ∧ l.1 ≤ 7 ∧ R.2.1 9 n = nI l.2.1 ∧ l.2.1 ≤ 4 ∧ R.2.2 14 n = l.2.2.1 ∧ R.2.2 15 n = l.2.2.2
/-- a pattern's tree, at most 14 characters, at the node β -/
def TreeR (R : RS) (β : Nat) (c : Ch 4) : Prop := isR (isAg (synLf R) (tnOf R none) 4) (tnOf R none) β c ∧ wfC (wfA 4) c ∧ szC (szA 4) c ≤ 14
theorem TreeR.isR {R : RS} {β : Nat} {c : Ch 4} (h : TreeR R β c) (w : Option Nat) : isR (isA (lfX (R.2.1 1) (R.2.1 2 1).toNatClampNeg) (tnOf R w) 4) (tnOf R w) β c := by
  have e : tEq (tnOf R none) (tnOf R w) := ⟨rfl, rfl, rfl, rfl, rfl, rfl⟩
  refine isR_to e (fun n a => isAg_A e (fun n l hl => ?_) 4 n a) h.1
  obtain ⟨h1, h2, h3, h4, h5, h6, h7⟩ := hl
  have c1 : (R.2.1 8 n).toNatClampNeg = l.1 := by rw [h1]; exact n_cl (by omega)
  have c2 : (R.2.1 9 n).toNatClampNeg = l.2.1 := by rw [h4]; exact n_cl (by omega)
  refine ⟨c1, h2, h3, fun p σ => ?_⟩
  show lfX (R.2.1 1) (R.2.1 2 1).toNatClampNeg ((R.2.1 8 n).toNatClampNeg, (R.2.1 9 n).toNatClampNeg, R.2.2 14 n, R.2.2 15 n) p σ = _
  rw [c1, c2, h6, h7]
/-- the outcomes of a tree over a text from a place -/
def outs (X : Nat → Int32) (N : Nat) (c : Ch 4) (p : Nat) : List (Nat × Sp) := altM (pcC (pcA (lfX X N) 4) c) p (fun _ => -1)
def fits9 (w : Option Nat) (o : Nat × Sp) : Bool := decide (w = none ∨ w = some o.1)
/-- what a run leaves as it was, its end apart -/
def SmR (R R' : RS) : Prop := (∀ k, k < 23 ∨ 29 < k → R'.1 k = R.1 k) ∧ (∀ k, k < 30 ∨ 40 < k → R'.2.1 k = R.2.1 k) ∧ R'.2.2 = R.2.2
theorem ini_loop {x1 x2 : Int32} : ∀ (n k : Nat) (R : RS), k + n = 10 → ∃ R2 : RS, (∀ R' r, L_run_35 1 R2 x1 x2 (nI 10) R' r → L_run_35 (n + 1) R x1 x2 (nI k) R' r) ∧ R2.1 = R.1 ∧ R2.2.2 = R.2.2 ∧ (∀ j, j ≠ 30 → R2.2.1 j = R.2.1 j) ∧ (∀ j, k ≤ j → j < 10 → R2.2.1 30 j = -1) ∧ ∀ j, j < k → R2.2.1 30 j = R.2.1 30 j
  | 0, k, R, hk => ⟨R, fun R' r h => by rw [show k = 10 by omega]; exact h, rfl, rfl, fun _ _ => rfl, fun j a b => by omega, fun _ _ => rfl⟩
  | n + 1, k, R, hk => by
    obtain ⟨R2, h1, h2, h3, h4, h5, h6⟩ := ini_loop (x1 := x1) (x2 := x2) n (k + 1) (ma R 30 k (-1)) (by omega)
    refine ⟨R2, fun R' r h => ?_, h2, h3, fun j hj => ?_, fun j a b => ?_, fun j hj => ?_⟩
    · rw [L_run_35.eq_2, if_neg (show ¬ (10 : Int32) ≤ nI k from fun z => by have := (n_le (a := 10) (by omega) (by omega)).mp z; omega)]
      refine ⟨v_in (by omega) (by omega), ?_⟩
      rw [n_cl (by omega), show nI k + 1 = nI (k + 1) from (nI_succ k).symm]
      exact h1 R' r h
    · rw [h4 j hj]; funext i; rw [ma_at, if_neg (by omega)]
    · by_cases e : j = k
      · subst e; rw [h6 j (by omega), ma_at, if_pos ⟨rfl, rfl⟩]
      · exact h5 j (by omega) b
    · rw [h6 j (by omega), ma_at, if_neg (by omega)]
theorem run_T {R : RS} {β N p : Nat} {c : Ch 4} {w : Option Nat} {a2 : Int32} (hnd : NdR R) (htx : TxR R) (hN : R.2.1 2 1 = nI N) (hN8 : N ≤ 8) (h3 : R.1 3 = nI β) (hβ : β < 96) (hc : TreeR R β c) (hp : p ≤ N) (hw : (a2 = 0 ∧ w = none) ∨ (a2 = 1 ∧ w = some N)) :
    ∃ (R' : RS) (r : Int32), E_run R (nI p) a2 R' r ∧ SmR R R' ∧ (match (outs (R.2.1 1) N c p).find? (fits9 w) with | some o => r = 1 ∧ o.1 ≤ N ∧ svd N o.2 ∧ R'.2.1 30 0 = nI p ∧ R'.2.1 30 1 = nI o.1 ∧ ∀ k, 2 ≤ k → k < 10 → R'.2.1 30 k = o.2 k | none => r = 0) := by
  have cN : (R.2.1 2 1).toNatClampNeg = N := by rw [hN]; exact n_cl (by omega)
  obtain ⟨R0, hR0⟩ : ∃ R0 : RS, R0 = mf (mf (mf (mf R 23 (nI p)) 26 0) 27 0) 28 (iO w) := ⟨_, rfl⟩
  have s0 : R0.2 = R.2 := by rw [hR0]; rfl
  obtain ⟨R2, k1, k2, k3, k4, k5, -⟩ := ini_loop (x1 := nI p) (x2 := a2) 10 0 R0 (by omega)
  have arr2 : ∀ k, k ≠ 30 → R2.2.1 k = R.2.1 k := fun k hk => by rw [k4 k hk, s0]
  have f1 : ∀ k, R2.1 k = R0.1 k := fun k => by rw [k2]
  have g26 : R2.1 26 = nI 0 := by rw [f1, hR0]; rfl
  obtain ⟨R4, hR4⟩ : ∃ R4 : RS, R4 = mf (mf (mf (lnk R2 0 23 0 0 (-1)) 25 (nI 0)) 24 (nI β)) 29 1 := ⟨_, rfl⟩
  have arr4 : ∀ k, k < 30 ∨ 40 < k → R4.2.1 k = R.2.1 k := fun k hk => by
    rw [hR4]; show (lnk R2 0 23 0 0 (-1)).2.1 k = _
    rw [lnk_Sme.2.1 k hk, arr2 k (by omega)]
  have lng4 : R4.2.2 = R.2.2 := by rw [hR4]; show R2.2.2 = _; rw [k3, s0]
  have i4 : ∀ k, k < 23 ∨ 29 < k ∨ k = 28 → R4.1 k = R0.1 k := fun k hk => by
    rw [hR4, mf_at, if_neg (by omega), mf_at, if_neg (by omega), mf_at, if_neg (by omega)]
    show (lnk R2 0 23 0 0 (-1)).1 k = _
    rw [lnk_Sme.1 k (by omega) (by omega) (by omega) (by omega) (by omega) (by omega), f1]
  have hw8 : ∀ m, w = some m → m ≤ 8 := fun m hm => by rcases hw with ⟨-, e⟩ | ⟨-, e⟩ <;> rw [e] at hm <;> cases hm; exact hN8
  have hnd4 : NdR R4 := fun n hn => by
    have := hnd n hn
    rw [arr4 8 (by omega), arr4 9 (by omega), arr4 10 (by omega), arr4 11 (by omega), arr4 12 (by omega), arr4 13 (by omega)]
    exact this
  have htx4 : TxR R4 := by
    unfold TxR
    rw [arr4 2 (by omega), arr4 1 (by omega)]
    exact htx
  have h28 : R4.1 28 = iO w := by rw [i4 28 (by omega), hR0]; rfl
  obtain ⟨hA, hX, hWt⟩ := arr_of hnd4 htx4 h28 hw8
  have hc4 : TreeR R4 β c := by
    refine ⟨isR_to ?_ (fun n a => isAg_to ?_ (fun n l hl => ?_) 4 n a) hc.1, hc.2⟩
    · exact ⟨by show (fun n => (R4.2.1 8 n).toNatClampNeg) = _; rw [arr4 8 (by omega)]; rfl, by show (fun n => (R4.2.1 9 n).toNatClampNeg) = _; rw [arr4 9 (by omega)]; rfl, by show (fun n => oN (R4.2.1 10 n)) = _; rw [arr4 10 (by omega)]; rfl, by show (fun n => (R4.2.1 11 n).toNatClampNeg) = _; rw [arr4 11 (by omega)]; rfl, by show (fun n => oN (R4.2.1 12 n)) = _; rw [arr4 12 (by omega)]; rfl, by show (fun n => oN (R4.2.1 13 n)) = _; rw [arr4 13 (by omega)]; rfl⟩
    · exact ⟨by show (fun n => (R4.2.1 8 n).toNatClampNeg) = _; rw [arr4 8 (by omega)]; rfl, by show (fun n => (R4.2.1 9 n).toNatClampNeg) = _; rw [arr4 9 (by omega)]; rfl, by show (fun n => oN (R4.2.1 10 n)) = _; rw [arr4 10 (by omega)]; rfl, by show (fun n => (R4.2.1 11 n).toNatClampNeg) = _; rw [arr4 11 (by omega)]; rfl, by show (fun n => oN (R4.2.1 12 n)) = _; rw [arr4 12 (by omega)]; rfl, by show (fun n => oN (R4.2.1 13 n)) = _; rw [arr4 13 (by omega)]; rfl⟩
    · unfold synLf at hl ⊢
      rw [arr4 8 (by omega), arr4 9 (by omega), lng4]
      exact hl
  have hR := hc4.isR w
  have e4 : nN (tnOf R4 w) = N := by show (R4.2.1 2 1).toNatClampNeg = N; rw [arr4 2 (by omega)]; exact cN
  have cN4 : (R4.2.1 2 1).toNatClampNeg = N := e4
  have hL : okL (tnOf R4 w) (lfX (R4.2.1 1) (R4.2.1 2 1).toNatClampNeg) := ⟨fun l p σ p' hp h => lfX_ok hp h, fun l p σ p' hz h => lfX_z hz h⟩
  have tr := tree_run (σ := fun _ => -1) (p := p) (by rw [e4]; exact hN8) hL hc4.2.1 hc4.2.2 hR (by rw [e4]; exact hp)
  rw [cN4, arr4 1 (by omega)] at tr
  have rep : Rep R4 (some β, [(23, 0, 0, 0)], p, fun _ => -1, 1, []) := by
    refine ⟨by rw [hR4]; rfl, ⟨0, by rw [hR4]; rfl, Nat.zero_lt_one, by omega, ?_, ?_, ?_, ?_⟩, ?_, fun k hk => ?_, by rw [hR4]; rfl, ?_, trivial, by rw [hR4]; rfl⟩
    · rw [hR4]; show (lnk R2 0 23 0 0 (-1)).2.1 31 0 = _; rw [lnk_at]; rfl
    · rw [hR4]; show (lnk R2 0 23 0 0 (-1)).2.1 32 0 = _; rw [lnk_at]; rfl
    · rw [hR4]; show (lnk R2 0 23 0 0 (-1)).2.1 33 0 = _; rw [lnk_at]; rfl
    · rw [hR4]; show (lnk R2 0 23 0 0 (-1)).2.1 34 0 = _; rw [lnk_at]; rfl
    · rw [hR4]; show R2.1 23 = _; rw [f1, hR0]; rfl
    · rw [hR4]; show (lnk R2 0 23 0 0 (-1)).2.1 30 k = _
      rw [lnk_at]; simp; exact k5 k (by omega) hk
    · rw [hR4]; show R2.1 27 = _; rw [f1, hR0]; rfl
  have fit : Fit (tnOf R4 w) (some β, [(23, 0, 0, 0)], p, fun _ => -1, 1, []) := ⟨⟨fun n hn => by cases hn; exact hβ, by show p ≤ nN (tnOf R4 w); rw [e4]; exact hp, fun g _ _ => Or.inl rfl, ⟨Or.inr (Or.inr (Or.inr (Or.inl rfl))), trivial⟩, fun w hw => by cases hw⟩, ⟨⟨fun _ => rfl, trivial⟩, trivial⟩⟩
  have fin : ∀ R' r, (∃ nf, L_run_80 nf R4 (nI p) a2 (nI 10) R' r) → E_run R (nI p) a2 R' r := fun R' r ⟨nf, hL⟩ => by
    have h35 : L_run_35 11 R0 (nI p) a2 (nI 0) R' r := by
      refine k1 R' r ?_
      rw [L_run_35.eq_2, if_pos (by decide)]
      refine ⟨lnk R2 0 23 0 0 (-1), nI 0, lnk_E g26 (by omega), nf, ?_⟩
      have e3 : (lnk R2 0 23 0 0 (-1)).1 3 = nI β := by rw [lnk_Sme.1 3 (by omega) (by omega) (by omega) (by omega) (by omega) (by omega), f1, hR0]; exact h3
      rw [e3, ← hR4]
      exact hL
    unfold E_run
    rcases hw with ⟨rfl, rfl⟩ | ⟨rfl, rfl⟩
    · rw [if_pos rfl]; exact ⟨11, by rw [hR0] at h35; exact h35⟩
    · rw [if_neg (by decide)]
      refine ⟨v_in (n := 1) (by omega) (by omega), 11, ?_⟩
      rw [show (1 : Int32).toNatClampNeg = 1 by decide, hN]
      rw [hR0] at h35; exact h35
  have sm4 : ∀ R1, Sme R4 R1 → SmR R R1 := fun R1 hs => ⟨fun k hk => by rw [hs.1 k (by omega) (by omega) (by omega) (by omega) (by omega) (by omega), i4 k (by omega), hR0, mf_at, if_neg (by omega), mf_at, if_neg (by omega), mf_at, if_neg (by omega), mf_at, if_neg (by omega)], fun k hk => by rw [hs.2.1 k hk, arr4 k hk], by rw [hs.2.2, lng4]⟩
  have efits : endOK (tnOf R4 w) = fits9 w := rfl
  rw [efits] at tr
  show ∃ (R' : RS) (r : Int32), E_run R (nI p) a2 R' r ∧ SmR R R' ∧ (match (altM (pcC (pcA (lfX (R.2.1 1) N) 4) c) p (fun _ => -1)).find? (fits9 w) with | some o => r = 1 ∧ o.1 ≤ N ∧ svd N o.2 ∧ R'.2.1 30 0 = nI p ∧ R'.2.1 30 1 = nI o.1 ∧ ∀ k, 2 ≤ k → k < 10 → R'.2.1 30 k = o.2 k | none => r = 0)
  cases hfi : (altM (pcC (pcA (lfX (R.2.1 1) N) 4) c) p (fun _ => -1)).find? (fits9 w) with
  | none =>
    rw [hfi] at tr
    obtain ⟨n, hr⟩ := tr
    obtain ⟨R1, r, q1, q2, q3⟩ := runs_E hWt n R4 _ none (nI p) a2 (nI 10) hr hA hX rep fit (fun c' h => by cases h)
    have q3 : r = 0 := q3
    subst q3
    rw [if_pos rfl] at q1
    exact ⟨R1, 0, fin _ _ ⟨_, q1⟩, sm4 R1 q2, rfl⟩
  | some o =>
    rw [hfi] at tr
    obtain ⟨lk, ws, n, hr⟩ := tr
    obtain ⟨R1, r, q1, q2, q3, q4⟩ := runs_E hWt n R4 _ _ (nI p) a2 (nI 10) hr hA hX rep fit (fun c' h => by cases h; exact ⟨rfl, rfl⟩)
    subst q3
    rw [if_neg (by decide)] at q1
    have hvd : Vd (tnOf R4 w) (none, [], o.1, o.2, lk, ws) := rch_vd hWt n _ _ hr fit.1 rfl rfl
    refine ⟨_, 1, fin _ _ ⟨_, q1⟩, ?_, rfl, by rw [← e4]; exact hvd.2.1, by rw [← e4]; exact hvd.2.2.1, ?_, ?_, fun k h1 h2 => ?_⟩
    · obtain ⟨a1, a2, a3⟩ := sm4 R1 q2
      exact ⟨a1, fun k hk => by rw [← a2 k hk]; funext i; rw [ma_at, ma_at, if_neg (by omega), if_neg (by omega)], a3⟩
    · rw [ma_at, if_neg (by omega), ma_at, if_pos ⟨rfl, rfl⟩]
    · rw [ma_at, if_pos ⟨rfl, rfl⟩]; exact q4.2.2.1
    · rw [ma_at, if_neg (by omega), ma_at, if_neg (by omega)]; exact q4.2.2.2.1 k h2
