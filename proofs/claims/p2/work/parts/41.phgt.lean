/-! the heights that links keep are heights of the stack -/
def isCut (l : Lk) : Bool := decide (l.1 = 10 ∨ l.1 = 11 ∨ l.1 = 12 ∨ l.1 = 13 ∨ l.1 = 14)
def hvd : List Lk → Nat → Prop
  | [], _ => True
  | l :: κ, h => (l.1 = 23 → κ = []) ∧ (if isCut l then l.2.1 ≤ h ∧ hvd κ l.2.1 else hvd κ h)
theorem hvd_mono : ∀ {κ : List Lk} {h h' : Nat}, h ≤ h' → hvd κ h → hvd κ h'
  | [], _, _, _, _ => trivial
  | l :: κ, h, h', hh, hk => by
    unfold hvd at hk ⊢
    refine ⟨hk.1, ?_⟩
    have hk := hk.2
    by_cases c : isCut l = true
    · rw [if_pos c] at hk ⊢; exact ⟨Nat.le_trans hk.1 hh, hk.2⟩
    · rw [if_neg c] at hk ⊢; exact hvd_mono hh hk
theorem hvd_push {l : Lk} {κ : List Lk} {h : Nat} (h1 : l.1 = 20 ∨ l.1 = 21 ∨ l.1 = 22) (hk : hvd κ h) : hvd (l :: κ) h := by
  unfold hvd
  refine ⟨fun z => absurd z (by omega), ?_⟩
  rw [if_neg (by unfold isCut; simp; omega)]
  exact hk
def hws : List Wy → Prop
  | [] => True
  | w :: ws => hvd w.2.2.2.1 ws.length ∧ hws ws
theorem hws_drop : ∀ {ws : List Wy} (n : Nat), hws ws → hws (ws.drop n)
  | [], n, _ => by rw [List.drop_nil]; trivial
  | _ :: _, 0, h => h
  | _ :: _, n + 1, h => hws_drop n h.2
def Hd (c : Cf) : Prop := hvd c.2.1 c.2.2.2.2.2.length ∧ hws c.2.2.2.2.2
section HD
variable {t : Tn}
theorem hd_pop {ws : List Wy} {c : Cf} (hw : hws ws) (h : popW t ws = some c) : Hd c := by
  cases ws with
  | nil => cases h
  | cons w ws =>
    obtain ⟨nd, cnt, p, κ, σ, lk⟩ := w
    obtain ⟨h1, h2⟩ := hw
    dsimp only at h1
    cases nd with
    | none =>
      have h : some (none, κ, p, σ, lk, ws) = some c := by cases cnt <;> exact h
      cases h
      exact ⟨h1, h2⟩
    | some n =>
      cases cnt with
      | none => cases h; exact ⟨h1, h2⟩
      | some k =>
        have h : (if nT t n = 15 then some (gThru t n k κ p σ lk ws) else some (bef t n k κ σ lk ws)) = some c := h
        split at h
        · cases h; exact ⟨hvd_push (Or.inr (Or.inr rfl)) h1, h2⟩
        · cases h
          unfold bef Hd
          dsimp only
          split
          · exact ⟨hvd_mono (Nat.le_succ _) h1, h1, h2⟩
          · exact ⟨h1, h2⟩
theorem hd_pcs {q : Option Nat} {κ : List Lk} {p : Nat} {σ : Sp} {lk : Nat} {ws : List Wy} (hk : hvd κ ws.length) (hw : hws ws) : Hd (pcs t q κ p σ lk ws) := by
  unfold pcs
  cases q with
  | none => exact ⟨hk, hw⟩
  | some n =>
    dsimp only
    cases nS t n with
    | none => exact ⟨hk, hw⟩
    | some m => exact ⟨hvd_push (Or.inl rfl) hk, hw⟩
theorem hd_trn {n c s : Nat} {κ : List Lk} {p : Nat} {σ : Sp} {lk : Nat} {ws : List Wy} (hk : hvd κ ws.length) (hw : hws ws) : Hd (trn t n c s κ p σ lk ws) := by
  unfold trn
  split
  · exact ⟨hvd_push (Or.inr (Or.inr rfl)) hk, hw⟩
  · split
    · split
      · exact ⟨hvd_mono (Nat.le_succ _) hk, hk, hw⟩
      · exact ⟨hvd_push (Or.inr (Or.inr rfl)) (hvd_mono (Nat.le_succ _) hk), hk, hw⟩
    · exact ⟨hk, hw⟩
theorem hd_bef {n f : Nat} {κ : List Lk} {σ : Sp} {lk : Nat} {ws : List Wy} (hk : hvd κ ws.length) (hw : hws ws) : Hd (bef t n f κ σ lk ws) := by
  unfold bef Hd
  dsimp only
  split
  · exact ⟨hvd_mono (Nat.le_succ _) hk, hk, hw⟩
  · exact ⟨hk, hw⟩
theorem cut_len {ws : List Wy} {n : Nat} (h : n ≤ ws.length) : (cutW n ws).length = n := by
  unfold cutW
  rw [List.length_drop]; omega
theorem hd_step {c c' : Cf} (hd : Hd c) (h : stp t c = some c') : Hd c' := by
  obtain ⟨nd, κ, p, σ, lk, ws⟩ := c
  obtain ⟨h1, h2⟩ := hd
  dsimp only at h1 h2
  cases nd with
  | some n =>
    have h : ent t n κ p σ lk ws = some c' := h
    have look : ∀ kd, (kd = 10 ∨ kd = 11 ∨ kd = 12 ∨ kd = 13 ∨ kd = 14) → hvd ((kd, ws.length, p, 0) :: κ) ws.length := fun kd hkd => by
      unfold hvd
      rw [if_pos (show isCut (kd, ws.length, p, 0) = true from decide_eq_true hkd)]
      exact ⟨fun z => absurd z (by show ¬ kd = 23; omega), Nat.le_refl _, h1⟩
    have w0 : hws ((none, none, p, κ, σ, lk) :: ws) := ⟨h1, h2⟩
    unfold ent at h
    split at h
    · cases h; exact ⟨h1, h2⟩
    · cases h
      cases nS t n with
      | none => exact hd_pcs h1 h2
      | some m => exact hd_pcs (hvd_mono (Nat.le_succ _) h1) ⟨h1, h2⟩
    · cases h; exact ⟨hvd_push (Or.inr (Or.inl rfl)) h1, h2⟩
    · cases h; exact ⟨h1, h2⟩
    · cases h; exact ⟨look 10 (by omega), h2⟩
    · cases h; exact ⟨look 14 (by omega), h2⟩
    · cases h
      split
      · exact hd_trn (look 14 (by omega)) h2
      · exact hd_trn h1 h2
    · cases h; exact ⟨hvd_mono (Nat.le_succ _) (look 11 (by omega)), w0⟩
    · cases h; exact hd_bef (look 12 (by omega)) h2
    · cases h; exact hd_bef (hvd_mono (Nat.le_succ _) (look 13 (by omega))) w0
    · split at h
      · cases h; exact ⟨h1, h2⟩
      · exact hd_pop h2 h
  | none =>
    cases κ with
    | nil => cases h
    | cons l κ =>
      have h : gon t l κ p σ lk ws = some c' := h
      obtain ⟨kd, x, y, z⟩ := l
      unfold hvd at h1
      have cut : isCut (kd, x, y, z) = true → hvd κ x ∧ (cutW x ws).length = x ∧ hws (cutW x ws) := fun hc => by
        rw [if_pos hc] at h1
        exact ⟨h1.2.2, cut_len h1.2.1, hws_drop _ h2⟩
      have nocut : isCut (kd, x, y, z) = false → hvd κ ws.length := fun hc => by
        rw [if_neg (by rw [hc]; decide)] at h1; exact h1.2
      unfold gon at h
      split at h
      · rename_i e; cases e; cases h; exact hd_pcs (nocut rfl) h2
      · rename_i e; cases e; cases h; exact ⟨nocut rfl, h2⟩
      · rename_i e; cases e; cases h; exact hd_trn (nocut rfl) h2
      · rename_i e; cases e; cases h; obtain ⟨a, b, d⟩ := cut rfl; exact ⟨by rw [b]; exact a, d⟩
      · rename_i e; cases e; cases h; obtain ⟨a, b, d⟩ := cut rfl; exact ⟨by rw [b]; exact a, d⟩
      · rename_i e; cases e; exact hd_pop (cut rfl).2.2 h
      · rename_i e; cases e
        split at h
        · cases h; obtain ⟨a, b, d⟩ := cut rfl; exact ⟨by rw [b]; exact a, d⟩
        · exact hd_pop h2 h
      · rename_i e; cases e
        split at h
        · exact hd_pop (cut rfl).2.2 h
        · exact hd_pop h2 h
      · split at h
        · cases h; exact ⟨trivial, h2⟩
        · exact hd_pop h2 h
end HD
