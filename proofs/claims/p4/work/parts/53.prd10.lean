/-! a choice more, and what stands before it -/
def nchT (S : RS) (c0 v e : Nat) (w : Option Nat) (b : Int32) : RS := ma (crt (ma (ma S 18 e (iO w)) 22 e b) c0 v 0) 19 e (nI c0)
def nchW (S : RS) (c0 v e : Nat) (w : Option Nat) (b : Int32) : RS := match w with
  | none => nchT S c0 v e w b
  | some m => ma (nchT S c0 v e w b) 12 m (nI c0)
def nch (S : RS) (c0 v e : Nat) (w : Option Nat) (b : Int32) : RS := nsq (nchW S c0 v e w b) (c0 + 1) (v + 1) e c0 12
section NCH
variable {S : RS} {X : Nat → Int32} {N β a v e : Nat} {w : Option Nat} {b : Int32}
theorem nchT_at {c0 k j : Nat} : (nchT S c0 v e w b).2.1 k j = if k = 19 ∧ j = e then nI c0 else if (8 ≤ k ∧ k ≤ 13) ∧ j = c0 then (if k = 12 ∨ k = 13 then -1 else 0) else if k = 22 ∧ j = e then b else if k = 18 ∧ j = e then iO w else S.2.1 k j := by
  unfold nchT
  rw [ma_at, crt_at]
  by_cases c1 : k = 19 ∧ j = e
  · rw [if_pos c1, if_pos c1]
  · rw [if_neg c1, if_neg c1]
    by_cases c2 : (8 ≤ k ∧ k ≤ 13) ∧ j = c0
    · rw [if_pos c2, if_pos c2.2]
      by_cases k8 : k = 8
      · rw [if_pos k8, if_neg (by omega)]
      · rw [if_neg k8]
        by_cases k9 : k = 9 ∨ k = 10 ∨ k = 11
        · rw [if_pos k9, if_neg (by omega)]
        · rw [if_neg k9, if_pos (by omega), if_pos (by omega)]
    · rw [if_neg c2]
      have : (if j = c0 then (if k = 8 then (0 : Int32) else if k = 9 ∨ k = 10 ∨ k = 11 then 0 else if k = 12 ∨ k = 13 then -1 else (ma (ma S 18 e (iO w)) 22 e b).2.1 k j) else (ma (ma S 18 e (iO w)) 22 e b).2.1 k j) = (ma (ma S 18 e (iO w)) 22 e b).2.1 k j := by
        by_cases hj : j = c0
        · rw [if_pos hj, if_neg (by omega), if_neg (by omega), if_neg (by omega)]
        · rw [if_neg hj]
      rw [this, ma_at, ma_at]
theorem nchW_at {c0 k j : Nat} : (nchW S c0 v e w b).2.1 k j = if k = 12 ∧ some j = w then nI c0 else (nchT S c0 v e w b).2.1 k j := by
  cases w with
  | none => rw [if_neg (fun z => by cases z.2)]; rfl
  | some m =>
    show (ma (nchT S c0 v e (some m) b) 12 m (nI c0)).2.1 k j = _
    rw [ma_at]
    by_cases h : k = 12 ∧ j = m
    · rw [if_pos h, if_pos ⟨h.1, by rw [h.2]⟩]
    · rw [if_neg h, if_neg (fun z => h ⟨z.1, by have := z.2; cases this; rfl⟩)]
theorem nchW_f {c0 k : Nat} : (nchW S c0 v e w b).1 k = if k = 4 then nI (v + 1) else S.1 k := by
  cases w <;> rfl
theorem nchW_l {c0 k j : Nat} (h : j ≠ c0) : (nchW S c0 v e w b).2.2 k j = S.2.2 k j := by
  cases w with
  | none =>
    show (crt (ma (ma S 18 e (iO none)) 22 e b) c0 v 0).2.2 k j = _
    rw [crt_l h]; rfl
  | some m =>
    show (crt (ma (ma S 18 e (iO (some m))) 22 e b) c0 v 0).2.2 k j = _
    rw [crt_l h]; rfl
/-- what no new choice touches -/
theorem nch_o {c0 k j : Nat} (h1 : j ≠ c0 ∧ j ≠ c0 + 1 ∨ k < 8 ∨ 13 < k) (h2 : ¬ (18 ≤ k ∧ k ≤ 22 ∧ j = e)) (h3 : ¬ (k = 12 ∧ some j = w)) : (nch S c0 v e w b).2.1 k j = S.2.1 k j := by
  unfold nch
  rw [nsq_at, if_neg (by omega), if_neg (by omega), if_neg (by omega), crt_o (by omega), nchW_at, if_neg h3, nchT_at, if_neg (by omega), if_neg (by omega), if_neg (by omega), if_neg (by omega)]
theorem nch_l {c0 k j : Nat} (h : j ≠ c0) (h2 : j ≠ c0 + 1) : (nch S c0 v e w b).2.2 k j = S.2.2 k j := by
  unfold nch
  rw [nsq_l, crt_l h2, nchW_l h]
theorem nch_f {c0 k : Nat} : (nch S c0 v e w b).1 k = if k = 4 then nI (v + 2) else S.1 k := by
  unfold nch
  rw [nsq_f]
  by_cases h : k = 4
  · rw [if_pos h, if_pos h]
  · rw [if_neg h, if_neg h, nchW_f, if_neg h]
theorem nch_E (h : Rd S X N a β v) (hv : v + 1 < 48) (he : S.1 16 = nI e) (he5 : e ≤ 5) (hw : ∀ m, w = some m → m < 48 - β + v) (hb : b = 0 ∨ b = 1) : E_newChoice S (iO w) b (nch S (48 - β + v) v e w b) 0 := by
  have hβ := h.2.2.2.2.2.2.1
  have v6 : vp_in (nI e) 6 := v_in (by omega) (by omega)
  have cle : (nI e).toNatClampNeg = e := n_cl (by omega)
  have r1 : Rd (ma (ma S 18 e (iO w)) 22 e b) X N a β v := by
    obtain ⟨a1, a2, a3, a4, a5, a6, a7, a8⟩ := h
    refine ⟨?_, ?_, a3, a4, a5, a6, a7, a8⟩
    · rw [← a1]; funext j; rw [ma_at, if_neg (by omega), ma_at, if_neg (by omega)]
    · rw [ma_at, if_neg (by omega), ma_at, if_neg (by omega)]; exact a2
  have cr := crt_E (kd := 0) r1 (by omega)
  have nar : vp_nar .boolean b = b := by rcases hb with z | z <;> (rw [z]; rfl)
  have rW : Rd (nchW S (48 - β + v) v e w b) X N a β (v + 1) := by
    obtain ⟨a1, a2, a3, a4, a5, a6, a7, a8⟩ := h
    refine ⟨?_, ?_, a3, ?_, a5, ?_, a7, ?_⟩
    · rw [← a1]; funext j; rw [nchW_at, if_neg (by omega), nchT_at, if_neg (by omega), if_neg (by omega), if_neg (by omega), if_neg (by omega)]
    · rw [nchW_at, if_neg (by omega), nchT_at, if_neg (by omega), if_neg (by omega), if_neg (by omega), if_neg (by omega)]; exact a2
    · rw [nchW_f, if_neg (by omega)]; exact a4
    · rw [nchW_f, if_neg (by omega)]; exact a6
    · rw [nchW_f, if_pos rfl]
  have ns := nsq_E1 (R := nchW S (48 - β + v) v e w b) (lo := 48 - β + v) (d := e) rW (by omega) (by rw [nchW_f, if_neg (by omega)]; exact he) he5 (by rw [nchW_at, if_neg (by omega), nchT_at, if_pos ⟨rfl, rfl⟩]) (by omega) (by omega) (by
    rw [nchW_at, if_neg (fun z => by have := hw _ z.2.symm; omega), nchT_at, if_neg (by omega), if_pos (by omega), if_pos (by omega)])
  have ns' : E_newSequence (nchW S (48 - β + v) v e w b) (nch S (48 - β + v) v e w b) 0 := ns
  unfold E_newChoice
  rw [he, cle, nar]
  refine ⟨v6, v6, _, _, cr, v6, ?_⟩
  cases w with
  | none =>
    rw [if_pos (show iO none = -1 from rfl)]
    exact ⟨_, ns', rfl, rfl⟩
  | some m =>
    have hm := hw m rfl
    have clm : (nI m).toNatClampNeg = m := n_cl (by omega)
    rw [show iO (some m) = nI m from rfl, if_neg (n_m1 (by omega)), clm]
    have g16 : (crt (ma (ma S 18 e (nI m)) 22 e b) (48 - β + v) v 0).1 16 = nI e := by rw [crt_f, if_neg (by omega)]; exact he
    rw [g16, cle, ma_at, if_pos ⟨rfl, rfl⟩]
    exact ⟨v6, v_in (by omega) (by omega), _, ns', rfl, rfl⟩
end NCH
