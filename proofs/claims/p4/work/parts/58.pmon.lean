/-! ways end behind their beginning -/
section MON
def Mon (N : Nat) (f : Sm) : Prop := ∀ p σ o, p ≤ N → o ∈ f p σ → p ≤ o.1 ∧ o.1 ≤ N
theorem mon_flat {N : Nat} {f : Sm} {g : Nat × Sp → List (Nat × Sp)} {p : Nat} {σ : Sp} {o : Nat × Sp} (hf : Mon N f) (hp : p ≤ N) (hg : ∀ q ∈ f p σ, p ≤ q.1 → q.1 ≤ N → ∀ o ∈ g q, q.1 ≤ o.1 ∧ o.1 ≤ N) (ho : o ∈ (f p σ).flatMap g) : p ≤ o.1 ∧ o.1 ≤ N := by
  obtain ⟨q, hq, hoq⟩ := List.mem_flatMap.mp ho
  have h1 := hf p σ q hp hq
  have h2 := hg q hq h1.1 h1.2 o hoq
  omega
theorem mon_loop {N : Nat} {f : Sm} {a : Nat} {b : Option Nat} {lz : Bool} (hf : Mon N f) : ∀ (k c s p : Nat) (σ : Sp) (o : Nat × Sp), p ≤ N → o ∈ loopW f a b lz k c s p σ → p ≤ o.1 ∧ o.1 ≤ N
  | 0, _, _, _, _, _, _, h => by cases h
  | k + 1, c, s, p, σ, o, hp, h => by
    have fl : o ∈ (f p σ).flatMap (fun o => loopW f a b lz k (c + 1) p o.1 o.2) → p ≤ o.1 ∧ o.1 ≤ N := fun h => mon_flat hf hp (fun q _ _ q2 o ho => mon_loop hf k (c + 1) p q.1 q.2 o q2 ho) h
    have se : o = (p, σ) → p ≤ o.1 ∧ o.1 ≤ N := fun e => by rw [e]; exact ⟨Nat.le_refl _, hp⟩
    unfold loopW at h
    by_cases c1 : c < a
    · rw [if_pos c1] at h; exact fl h
    · rw [if_neg c1] at h
      by_cases c2 : onW b c s p = true
      · rw [if_pos c2] at h
        cases lz with
        | true =>
          rw [if_pos rfl] at h
          rcases List.mem_cons.mp h with z | z
          · exact se z
          · exact fl z
        | false =>
          rw [if_neg (by decide)] at h
          rcases List.mem_append.mp h with z | z
          · exact fl z
          · exact se (List.mem_singleton.mp z)
      · rw [if_neg c2] at h; exact se (List.mem_singleton.mp h)
theorem mon_lop {N : Nat} {f : Sm} {l : Lp} (hf : Mon N f) : Mon N (lopW f l) := fun p σ o hp ho => by
  unfold lopW at ho
  by_cases c : l.2.2 = 2
  · rw [if_pos c] at ho; exact mon_loop hf _ _ _ _ _ _ hp (List.mem_of_mem_take ho)
  · rw [if_neg c] at ho; exact mon_loop hf _ _ _ _ _ _ hp ho
theorem mon_seq {N : Nat} : ∀ (xs : List (Pt × Sm)), (∀ x ∈ xs, Mon N x.2) → Mon N (seqM xs)
  | [], _ => fun p σ o hp ho => by rw [List.mem_singleton.mp ho]; exact ⟨Nat.le_refl _, hp⟩
  | x :: xs, h => fun p σ o hp ho => mon_flat (h x (List.mem_cons_self)) hp (fun q _ _ q2 o ho => mon_seq xs (fun y hy => h y (List.mem_cons_of_mem _ hy)) q.1 q.2 o q2 ho) ho
theorem mon_alt {N : Nat} {ss : List (List (Pt × Sm))} (h : ∀ s ∈ ss, ∀ x ∈ s, Mon N x.2) : Mon N (altM ss) := fun p σ o hp ho => by
  obtain ⟨s, hs, ho2⟩ := List.mem_flatMap.mp ho
  exact mon_seq s (h s hs) p σ o hp ho2
theorem mem_beh {f : Sm} {p : Nat} {σ : Sp} {o : Nat × Sp} : ∀ {k : Nat}, o ∈ behW f p σ k → o.1 = p
  | 0, h => of_decide_eq_true (List.mem_filter.mp h).2
  | k + 1, h => by
    rcases List.mem_append.mp h with z | z
    · exact of_decide_eq_true (List.mem_filter.mp z).2
    · exact mem_beh z
theorem mon_bk {N kd g : Nat} {f : Sm} (hf : Mon N f) : Mon N (bkW kd g f) := fun p σ o hp ho => by
  unfold bkW at ho
  have se : o.1 = p → p ≤ o.1 ∧ o.1 ≤ N := fun e => by omega
  by_cases c1 : kd = 8
  · rw [if_pos c1] at ho
    obtain ⟨q, hq, e⟩ := List.mem_map.mp ho
    rw [← e]; exact hf p σ q hp hq
  · rw [if_neg c1] at ho
    by_cases c2 : kd = 9
    · rw [if_pos c2] at ho; exact hf p σ o hp ho
    · rw [if_neg c2] at ho
      by_cases c3 : kd = 10
      · rw [if_pos c3] at ho
        obtain ⟨q, hq, e⟩ := List.mem_map.mp ho
        exact se (by rw [← e])
      · rw [if_neg c3] at ho
        by_cases c4 : kd = 11
        · rw [if_pos c4] at ho
          split at ho
          · exact se (by rw [List.mem_singleton.mp ho])
          · cases ho
        · rw [if_neg c4] at ho
          by_cases c5 : kd = 12
          · rw [if_pos c5] at ho; exact se (mem_beh (List.mem_of_mem_take ho))
          · rw [if_neg c5] at ho
            by_cases c6 : kd = 13
            · rw [if_pos c6] at ho
              split at ho
              · exact se (by rw [List.mem_singleton.mp ho])
              · cases ho
            · rw [if_neg c6] at ho; exact hf p σ o hp (List.mem_of_mem_take ho)
theorem mon_lf {X : Nat → Int32} {N : Nat} {l : Lf} : Mon N (lfS (lfX X N) l) := fun p σ o hp ho => by
  unfold lfS at ho
  cases e : lfX X N l p σ with
  | none => rw [e] at ho; cases ho
  | some p' =>
    rw [e] at ho
    rw [List.mem_singleton.mp ho]
    exact lfX_ok hp e
theorem mon_px {A : Type} {N : Nat} {h : A → Pt × Sm} (hh : ∀ a, Mon N (h a).2) (x : A × Option Lp) : Mon N (pcX h x).2 := by
  obtain ⟨a, o⟩ := x
  cases o with
  | none => exact hh a
  | some l => exact mon_lop (hh a)
theorem mon_pc {A : Type} {N : Nat} {h : A → Pt × Sm} (hh : ∀ a, Mon N (h a).2) (c : List (List (A × Option Lp))) : Mon N (altM (pcC h c)) := by
  refine mon_alt (fun s hs x hx => ?_)
  obtain ⟨s', _, e⟩ := List.mem_map.mp hs
  rw [← e] at hx
  obtain ⟨x', _, e2⟩ := List.mem_map.mp hx
  rw [← e2]
  exact mon_px hh x'
theorem mon_at {X : Nat → Int32} {N : Nat} : ∀ (d : Nat) (a : At d), Mon N (pcA (lfX X N) d a).2
  | 0, _ => mon_lf
  | _ + 1, .inl _ => mon_lf
  | d + 1, .inr (kd, g, c) => mon_bk (mon_pc (mon_at d) c)
theorem outs_in {X : Nat → Int32} {N p : Nat} {c : Ch 4} {o : Nat × Sp} (hp : p ≤ N) (h : o ∈ outs X N c p) : p ≤ o.1 ∧ o.1 ≤ N := mon_pc (mon_at 4) c p _ o hp h
end MON
