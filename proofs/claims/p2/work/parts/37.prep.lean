/-! numbers of the reference's rows -/
theorem n_lt {a b : Nat} (ha : a < 2147483648) (hb : b < 2147483648) : nI a < nI b ↔ a < b := by
  rw [Int32.lt_iff_toInt_lt, nI_toInt ha, nI_toInt hb]; omega
theorem n_le {a b : Nat} (ha : a < 2147483648) (hb : b < 2147483648) : nI a ≤ nI b ↔ a ≤ b := by
  rw [Int32.le_iff_toInt_le, nI_toInt ha, nI_toInt hb]; omega
theorem n_eq {a b : Nat} (ha : a < 2147483648) (hb : b < 2147483648) : nI a = nI b ↔ a = b := by
  constructor
  · intro h
    have h2 := congrArg Int32.toInt h
    rw [nI_toInt ha, nI_toInt hb] at h2; omega
  · intro h; rw [h]
theorem n_m1 {a : Nat} (ha : a < 2147483648) : ¬ nI a = -1 := by
  intro h
  have h2 := congrArg Int32.toInt h
  rw [nI_toInt ha] at h2
  have : (-1 : Int32).toInt = -1 := by decide
  omega
theorem n_add (a b : Nat) : nI a + nI b = nI (a + b) := (Int32.ofNat_add a b).symm
theorem n_mul (a b : Nat) : nI a * nI b = nI (a * b) := (Int32.ofNat_mul a b).symm
theorem n_sub {a b : Nat} (h : b ≤ a) : nI a - nI b = nI (a - b) := by
  have : nI a = nI (a - b) + nI b := by rw [n_add, Nat.sub_add_cancel h]
  rw [this]
  exact Int32.add_sub_cancel _ _
theorem n_cl {a : Nat} (ha : a < 2147483648) : (nI a).toNatClampNeg = a := nI_clamp ha
theorem n_div {a b : Nat} (ha : a < 2147483648) (hb : b < 2147483648) : nI a / nI b = nI (a / b) := by
  apply Int32.toInt_inj.mp
  rw [nI_toInt (Nat.lt_of_le_of_lt (Nat.div_le_self _ _) ha), Int32.toInt_div, nI_toInt ha, nI_toInt hb]
  rw [Int.bmod_eq_of_le]
  · rfl
  · have : (0 : Int) ≤ (a : Int).tdiv b := Int.tdiv_nonneg (by omega) (by omega)
    omega
  · have : (a : Int).tdiv b = ((a / b : Nat) : Int) := rfl
    rw [this]
    have := Nat.div_le_self a b
    omega
def iO : Option Nat → Int32
  | none => -1
  | some n => nI n
theorem iO_some {o : Option Nat} {n : Nat} (hn : n < 2147483648) (ho : ∀ m, o = some m → m < 2147483648) : iO o = nI n ↔ o = some n := by
  cases o with
  | none => exact ⟨fun h => absurd h.symm (n_m1 hn), fun h => by cases h⟩
  | some m =>
    show nI m = nI n ↔ _
    rw [n_eq (ho m rfl) hn]
    exact ⟨fun h => by rw [h], fun h => by cases h; rfl⟩
theorem iO_none {o : Option Nat} (ho : ∀ m, o = some m → m < 2147483648) : iO o = -1 ↔ o = none := by
  cases o with
  | none => exact ⟨fun _ => rfl, fun _ => rfl⟩
  | some m => exact ⟨fun h => absurd h (n_m1 (ho m rfl)), fun h => by cases h⟩
theorem v_in {n N : Nat} (h : n < N) (hN : N < 2147483648) : vp_in (nI n) N := vp_in_nI h hN
/-! the reference's rows hold a state of the lists' machine -/
theorem ma_at {R : RS} {k i : Nat} {x : Int32} {j m : Nat} : (ma R k i x).2.1 j m = if j = k ∧ m = i then x else R.2.1 j m := by
  show va_up R.2.1 k (upd (R.2.1 k) i x) j m = _
  unfold va_up upd
  by_cases h : j = k
  · subst h; simp
  · simp [h]
theorem mf_at {R : RS} {k : Nat} {x : Int32} {j : Nat} : (mf R k x).1 j = if j = k then x else R.1 j := rfl
theorem mf_2 {R : RS} {k : Nat} {x : Int32} : (mf R k x).2 = R.2 := rfl
theorem ma_1 {R : RS} {k i : Nat} {x : Int32} : (ma R k i x).1 = R.1 := rfl
theorem ma_22 {R : RS} {k i : Nat} {x : Int32} : (ma R k i x).2.2 = R.2.2 := rfl
def lkA (l : Lk) : Int32 := if l.1 = 22 then nI (64 * l.2.1 + l.2.2.1) else nI l.2.1
def lkB (l : Lk) : Int32 := if l.1 = 22 then nI l.2.2.2 else nI l.2.2.1
/-- the chain that begins at x, its links all below b -/
def chn (M : Nat → Nat → Int32) : Int32 → List Lk → Nat → Prop
  | x, [], _ => x = -1
  | x, l :: κ, b => ∃ i, x = nI i ∧ i < b ∧ i < 1000 ∧ M 31 i = nI l.1 ∧ M 32 i = lkA l ∧ M 33 i = lkB l ∧ chn M (M 34 i) κ i
/-- the ways, the latest first, their links below b -/
def wys (M : Nat → Nat → Int32) : List Wy → Nat → Prop
  | [], _ => True
  | w :: ws, b => M 35 ws.length = iO w.1 ∧ M 36 ws.length = iO w.2.1 ∧ M 37 ws.length = nI w.2.2.1 ∧ chn M (M 38 ws.length) w.2.2.2.1 w.2.2.2.2.2 ∧ M 39 ws.length = nI w.2.2.2.2.2 ∧ w.2.2.2.2.2 ≤ b ∧ (∀ k, k < 10 → M 40 (10 * ws.length + k) = w.2.2.2.2.1 k) ∧ wys M ws w.2.2.2.2.2
def Rep (R : RS) (c : Cf) : Prop := R.1 24 = iO c.1 ∧ chn R.2.1 (R.1 25) c.2.1 c.2.2.2.2.1 ∧ R.1 23 = nI c.2.2.1 ∧ (∀ k, k < 10 → R.2.1 30 k = c.2.2.2.1 k) ∧ R.1 26 = nI c.2.2.2.2.1 ∧ R.1 27 = nI c.2.2.2.2.2.length ∧ wys R.2.1 c.2.2.2.2.2 c.2.2.2.2.1 ∧ R.1 29 = 1
/-- what a run leaves as it was -/
def Sme (R R' : RS) : Prop := (∀ k, k ≠ 23 → k ≠ 24 → k ≠ 25 → k ≠ 26 → k ≠ 27 → k ≠ 29 → R'.1 k = R.1 k) ∧ (∀ k, k < 30 ∨ 40 < k → R'.2.1 k = R.2.1 k) ∧ R'.2.2 = R.2.2
theorem Sme.refl {R : RS} : Sme R R := ⟨fun _ _ _ _ _ _ _ => rfl, fun _ _ => rfl, rfl⟩
theorem Sme.trans {R R' R'' : RS} (h : Sme R R') (h2 : Sme R' R'') : Sme R R'' := ⟨fun k a b c d e f => (h2.1 k a b c d e f).trans (h.1 k a b c d e f), fun k hk => (h2.2.1 k hk).trans (h.2.1 k hk), h2.2.2.trans h.2.2⟩
theorem Sme.f {R : RS} {k : Nat} {x : Int32} (hk : k = 23 ∨ k = 24 ∨ k = 25 ∨ k = 26 ∨ k = 27 ∨ k = 29) : Sme R (mf R k x) := ⟨fun j a b c d e f => by
  show (if j = k then x else R.1 j) = R.1 j
  rw [if_neg (by omega)], fun _ _ => rfl, rfl⟩
theorem Sme.a {R : RS} {k i : Nat} {x : Int32} (h1 : 30 ≤ k) (h2 : k ≤ 40) : Sme R (ma R k i x) := ⟨fun _ _ _ _ _ _ _ => rfl, fun j hj => by
  show va_up R.2.1 k (upd (R.2.1 k) i x) j = R.2.1 j
  unfold va_up
  rw [if_neg (by omega)], rfl⟩
theorem chn_ext {M M' : Nat → Nat → Int32} : ∀ {κ : List Lk} {x : Int32} {b : Nat}, (∀ k i, 31 ≤ k → k ≤ 34 → i < b → M' k i = M k i) → chn M x κ b → chn M' x κ b
  | [], _, _, _, h => h
  | l :: κ, x, b, he, ⟨i, h1, h2, h3, h4, h5, h6, h7⟩ => ⟨i, h1, h2, h3, by rw [he 31 i (by omega) (by omega) h2]; exact h4, by rw [he 32 i (by omega) (by omega) h2]; exact h5, by rw [he 33 i (by omega) (by omega) h2]; exact h6, by
    rw [he 34 i (by omega) (by omega) h2]
    exact chn_ext (fun k j a c d => he k j a c (by omega)) h7⟩
theorem chn_le {M : Nat → Nat → Int32} : ∀ {κ : List Lk} {x : Int32} {b b' : Nat}, b ≤ b' → chn M x κ b → chn M x κ b'
  | [], _, _, _, _, h => h
  | _ :: _, _, _, _, hb, ⟨i, h1, h2, h3⟩ => ⟨i, h1, by omega, h3⟩
theorem wys_ext {M M' : Nat → Nat → Int32} : ∀ {ws : List Wy} {b : Nat}, (∀ k i, 31 ≤ k → k ≤ 34 → i < b → M' k i = M k i) → (∀ k i, 35 ≤ k → k ≤ 39 → i < ws.length → M' k i = M k i) → (∀ i, i < 10 * ws.length → M' 40 i = M 40 i) → wys M ws b → wys M' ws b
  | [], _, _, _, _, _ => trivial
  | w :: ws, b, he, hw, hs, ⟨h1, h2, h3, h4, h5, h6, h7, h8⟩ => by
    rw [List.length_cons] at hw hs
    refine ⟨by rw [hw 35 _ (by omega) (by omega) (by omega)]; exact h1, by rw [hw 36 _ (by omega) (by omega) (by omega)]; exact h2, by rw [hw 37 _ (by omega) (by omega) (by omega)]; exact h3, ?_, by rw [hw 39 _ (by omega) (by omega) (by omega)]; exact h5, h6, fun k hk => by rw [hs _ (by omega)]; exact h7 k hk, wys_ext (fun k i a c d => he k i a c (by omega)) (fun k i a c d => hw k i a c (by omega)) (fun i hi => hs i (by omega)) h8⟩
    rw [hw 38 _ (by omega) (by omega) (by omega)]
    exact chn_ext (fun k i a c d => he k i a c (by omega)) h4
theorem wys_le {M : Nat → Nat → Int32} {ws : List Wy} {b b' : Nat} (hb : b ≤ b') (h : wys M ws b) : wys M ws b' := by
  cases ws with
  | nil => trivial
  | cons w ws => exact ⟨h.1, h.2.1, h.2.2.1, h.2.2.2.1, h.2.2.2.2.1, Nat.le_trans h.2.2.2.2.2.1 hb, h.2.2.2.2.2.2⟩
theorem wys_drop {M : Nat → Nat → Int32} : ∀ {ws : List Wy} {b : Nat} (n : Nat), wys M ws b → wys M (ws.drop n) b
  | [], _, n, _ => by rw [List.drop_nil]; trivial
  | w :: ws, b, 0, h => h
  | w :: ws, b, n + 1, h => wys_le h.2.2.2.2.2.1 (wys_drop n h.2.2.2.2.2.2.2)
/-- a link more -/
def lnk (R : RS) (lk : Nat) (kd a b to : Int32) : RS := mf (ma (ma (ma (ma R 31 lk kd) 32 lk a) 33 lk b) 34 lk to) 26 (nI (lk + 1))
theorem lnk_E {R : RS} {lk : Nat} {kd a b to : Int32} (h : R.1 26 = nI lk) (hl : lk < 1000) : E_link R kd a b to (lnk R lk kd a b to) (nI lk) := by
  have h1 : vp_in (R.1 26) 1000 := by rw [h]; exact v_in hl (by omega)
  have h2 : (R.1 26).toNatClampNeg = lk := by rw [h]; exact n_cl (by omega)
  unfold E_link
  refine ⟨h1, h1, h1, h1, ?_, ?_⟩
  · rw [h2]
    unfold lnk
    rw [h, show nI lk + 1 = nI (lk + 1) from (nI_succ lk).symm]
  · rw [h]
    exact (Int32.add_sub_cancel _ _).symm
theorem lnk_at {R : RS} {lk : Nat} {kd a b to : Int32} {k i : Nat} : (lnk R lk kd a b to).2.1 k i = if k = 34 ∧ i = lk then to else if k = 33 ∧ i = lk then b else if k = 32 ∧ i = lk then a else if k = 31 ∧ i = lk then kd else R.2.1 k i := by
  unfold lnk
  rw [mf_2, ma_at, ma_at, ma_at, ma_at]
theorem lnk_Sme {R : RS} {lk : Nat} {kd a b to : Int32} : Sme R (lnk R lk kd a b to) := (((((Sme.a (by omega) (by omega)).trans (Sme.a (by omega) (by omega))).trans (Sme.a (by omega) (by omega))).trans (Sme.a (by omega) (by omega))).trans (Sme.f (by omega)))
theorem lnk_chn {R : RS} {lk : Nat} {kd a b to x : Int32} {κ : List Lk} {c : Nat} (hc : c ≤ lk) (h : chn R.2.1 x κ c) : chn (lnk R lk kd a b to).2.1 x κ c := chn_ext (fun k i h1 h2 h3 => by rw [lnk_at]; simp [show i ≠ lk by omega]) h
theorem lnk_wys {R : RS} {lk : Nat} {kd a b to : Int32} {ws : List Wy} {c : Nat} (hc : c ≤ lk) (h : wys R.2.1 ws c) : wys (lnk R lk kd a b to).2.1 ws c := wys_ext (fun k i h1 h2 h3 => by rw [lnk_at]; simp [show i ≠ lk by omega]) (fun k i h1 h2 h3 => by rw [lnk_at]; simp [show k ≠ 34 by omega, show k ≠ 33 by omega, show k ≠ 32 by omega, show k ≠ 31 by omega]) (fun i h1 => by rw [lnk_at]; simp) h
theorem lnk_new {R : RS} {lk : Nat} {l : Lk} {to : Int32} {κ : List Lk} (hl : lk < 1000) (h : chn R.2.1 to κ lk) : chn (lnk R lk (nI l.1) (lkA l) (lkB l) to).2.1 (nI lk) (l :: κ) (lk + 1) := by
  refine ⟨lk, rfl, by omega, hl, by rw [lnk_at]; simp, by rw [lnk_at]; simp, by rw [lnk_at]; simp, ?_⟩
  have e : (lnk R lk (nI l.1) (lkA l) (lkB l) to).2.1 34 lk = to := by rw [lnk_at]; simp
  rw [e]
  exact lnk_chn (Nat.le_refl _) h
/-- a way more -/
theorem oth_loop {w : Nat} {x1 x2 x3 x4 : Int32} (hw : w < 500) : ∀ (n k : Nat) (R : RS), k + n = 10 → R.1 27 = nI w → ∃ R', L_otherWay_57 (n + 1) R x1 x2 x3 x4 (nI k) R' 0 ∧ R'.1 = upd R.1 27 (nI (w + 1)) ∧ R'.2.2 = R.2.2 ∧ (∀ j, j ≠ 40 → R'.2.1 j = R.2.1 j) ∧ (∀ j, k ≤ j → j < 10 → R'.2.1 40 (10 * w + j) = R.2.1 30 j) ∧ ∀ i, i < 10 * w + k ∨ 10 * w + 10 ≤ i → R'.2.1 40 i = R.2.1 40 i
  | 0, k, R, hk, hR => by
    refine ⟨mf R 27 (nI (w + 1)), ?_, rfl, rfl, fun _ _ => rfl, fun j h1 h2 => by omega, fun _ _ => rfl⟩
    unfold L_otherWay_57
    rw [if_pos (show (10 : Int32) ≤ nI k from (n_le (a := 10) (by omega) (by omega)).mpr (by omega))]
    refine ⟨?_, rfl⟩
    rw [hR, show nI w + 1 = nI (w + 1) from (nI_succ w).symm]
  | n + 1, k, R, hk, hR => by
    have e1 : (10 * R.1 27 + nI k : Int32) = nI (10 * w + k) := by rw [hR, show (10 : Int32) = nI 10 from rfl, n_mul, n_add]
    obtain ⟨R', h1, h2, h3, h4, h5, h6⟩ := oth_loop (x1 := x1) (x2 := x2) (x3 := x3) (x4 := x4) hw n (k + 1) (ma R 40 (10 * w + k) (R.2.1 30 k)) (by omega) hR
    refine ⟨R', ?_, h2, h3, fun j hj => ?_, fun j j1 j2 => ?_, fun i hi => ?_⟩
    · unfold L_otherWay_57
      rw [if_neg (show ¬ (10 : Int32) ≤ nI k from fun z => by have := (n_le (a := 10) (by omega) (by omega)).mp z; omega)]
      refine ⟨v_in (by omega) (by omega), by rw [e1]; exact v_in (by omega) (by omega), ?_⟩
      rw [e1, n_cl (by omega), n_cl (by omega), show nI k + 1 = nI (k + 1) from (nI_succ k).symm]
      exact h1
    · rw [h4 j hj]
      show va_up R.2.1 40 _ j = R.2.1 j
      unfold va_up
      rw [if_neg hj]
    · by_cases e : j = k
      · subst e
        rw [h6 _ (by omega)]
        rw [ma_at, if_pos ⟨rfl, rfl⟩]
      · rw [h5 j (by omega) j2, ma_at, if_neg (by omega)]
    · rw [h6 i (by omega), ma_at, if_neg (by omega)]
theorem oth_E {R : RS} {κ : List Lk} {ws : List Wy} {lk p : Nat} {n c to : Int32} {nd cnt : Option Nat} {σ : Sp} (h27 : R.1 27 = nI ws.length) (hw : ws.length < 500) (h26 : R.1 26 = nI lk) (hn : n = iO nd) (hc : c = iO cnt) (hk : chn R.2.1 to κ lk) (hs : ∀ k, k < 10 → R.2.1 30 k = σ k) (hws : wys R.2.1 ws lk) :
    ∃ R', E_otherWay R n c (nI p) to R' 0 ∧ R'.1 = upd R.1 27 (nI (ws.length + 1)) ∧ Sme R R' ∧ (∀ k, k < 35 → R'.2.1 k = R.2.1 k) ∧ wys R'.2.1 ((nd, cnt, p, κ, σ, lk) :: ws) lk := by
  have hv : vp_in (R.1 27) 500 := by rw [h27]; exact v_in hw (by omega)
  have hcl : (R.1 27).toNatClampNeg = ws.length := by rw [h27]; exact n_cl (by omega)
  obtain ⟨R', h1, h2, h3, h4, h5, h6⟩ := oth_loop (x1 := n) (x2 := c) (x3 := nI p) (x4 := to) hw 10 0 (ma (ma (ma (ma (ma R 35 ws.length n) 36 ws.length c) 37 ws.length (nI p)) 38 ws.length to) 39 ws.length (R.1 26)) (by omega) h27
  have at' : ∀ k i, k ≠ 40 → R'.2.1 k i = if k = 39 ∧ i = ws.length then R.1 26 else if k = 38 ∧ i = ws.length then to else if k = 37 ∧ i = ws.length then nI p else if k = 36 ∧ i = ws.length then c else if k = 35 ∧ i = ws.length then n else R.2.1 k i := fun k i hk40 => by
    rw [h4 k hk40, ma_at, ma_at, ma_at, ma_at, ma_at]
  have h40 : ∀ i, i < 10 * ws.length → R'.2.1 40 i = R.2.1 40 i := fun i hi => by
    rw [h6 i (Or.inl (by omega))]
    simp [ma_at]
  refine ⟨R', ?_, h2, ⟨fun k a b c d e f => ?_, fun k hk9 => ?_, h3⟩, fun k hk9 => ?_, ?_⟩
  · unfold E_otherWay
    refine ⟨hv, hv, hv, hv, hv, 11, ?_⟩
    rw [hcl]
    exact h1
  · rw [h2]; show (if k = 27 then _ else R.1 k) = R.1 k; rw [if_neg e]
  · funext i
    rw [at' k i (by omega)]
    simp [show k ≠ 39 by omega, show k ≠ 38 by omega, show k ≠ 37 by omega, show k ≠ 36 by omega, show k ≠ 35 by omega]
  · funext i
    rw [at' k i (by omega)]
    simp [show k ≠ 39 by omega, show k ≠ 38 by omega, show k ≠ 37 by omega, show k ≠ 36 by omega, show k ≠ 35 by omega]
  · have hl34 : ∀ k i, 31 ≤ k → k ≤ 34 → i < lk → R'.2.1 k i = R.2.1 k i := fun k i a b _ => by
      rw [at' k i (by omega)]
      simp [show k ≠ 39 by omega, show k ≠ 38 by omega, show k ≠ 37 by omega, show k ≠ 36 by omega, show k ≠ 35 by omega]
    refine ⟨by rw [at' 35 _ (by omega)]; simp [hn], by rw [at' 36 _ (by omega)]; simp [hc], by rw [at' 37 _ (by omega)]; simp, ?_, by rw [at' 39 _ (by omega)]; simp [h26], Nat.le_refl _, fun k hk9 => ?_, ?_⟩
    · rw [at' 38 _ (by omega)]
      simp
      exact chn_ext hl34 hk
    · rw [h5 k (by omega) hk9]
      simp [ma_at]
      exact hs k hk9
    · refine wys_ext hl34 (fun k i a b d => ?_) h40 hws
      rw [at' k i (by omega)]
      simp [show i ≠ ws.length by omega]
