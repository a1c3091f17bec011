/-! the nodes of a program: n of them, at ad 0, ad 1 .., node i with the ints a i 0 .. a i 10 and the longs lo i, hi i -/
def ndF (a : Nat → Int32) (lo hi : Int64) : List Value := [.int (a 0), .int (a 1), .int (a 2), .int (a 3), .int (a 4), .int (a 5), .int (a 6), .int (a 7), .int (a 8), .int (a 9), .int (a 10), .long lo, .long hi]
def np (ad : Nat → Nat) (a : Nat → Nat → Int32) (lo hi : Nat → Int64) (n : Nat) : va_W := (List.range n).map (fun i => (ad i, .inr (0, ndF (a i) (lo i) (hi i))))
def nf (ad : Nat → Nat) (n : Nat) : Nat → Option Nat := fun j => if j < n then some (ad j) else none
def z64 : Nat → Int64 := fun _ => 0
def a0 : Nat → Nat → Int32 := fun i k => if k = 0 then nI i else 0
theorem nf_at {ad : Nat → Nat} {n j : Nat} (h : j < n) : nf ad n j = some (ad j) := if_pos h
theorem nf_push {ad : Nat → Nat} {i q : Nat} : va_up (nf ad i) i (some q) = nf (va_up ad i q) (i + 1) := by
  funext j
  unfold va_up nf
  by_cases h : j = i
  · subst h; simp
  · by_cases h2 : j < i
    · simp [h, h2, Nat.lt_succ_of_lt h2]
    · have h3 : ¬ j < i + 1 := by omega
      simp [h, h2, h3]
theorem nf_0 {ad : Nat → Nat} : (fun _ => none : Nat → Option Nat) = nf ad 0 := by
  funext j
  simp [nf]
theorem np_push {ad : Nat → Nat} {a : Nat → Nat → Int32} {lo hi : Nat → Int64} {i q : Nat} : np ad a lo hi i ++ [(q, .inr (0, ndF (a i) (lo i) (hi i)))] = np (va_up ad i q) a lo hi (i + 1) := by
  unfold np
  rw [List.range_succ, List.map_append]
  congr 1
  · apply List.map_congr_left
    intro j hj
    have : j ≠ i := by have := List.mem_range.mp hj; omega
    simp [va_up, this]
  · simp [va_up]
theorem np_get {ad : Nat → Nat} {a : Nat → Nat → Int32} {lo hi : Nat → Int64} {n i : Nat} (h : i < n) : (np ad a lo hi n)[i]? = some (ad i, .inr (0, ndF (a i) (lo i) (hi i))) := by
  unfold np
  rw [List.getElem?_map, List.getElem?_range h]
  rfl
theorem np_at {X : va_W} {ad : Nat → Nat} {a : Nat → Nat → Int32} {lo hi : Nat → Int64} {n i : Nat} (k : Nat) (hk : X.length = k) (h : i < n) {x : Nat → Int32} (hx : a i = x) : (X ++ np ad a lo hi n)[k + i]? = some (ad i, .inr (0, ndF x (lo i) (hi i))) := by
  subst hk; subst hx
  rw [List.getElem?_append_right (Nat.le_add_right _ _), Nat.add_sub_cancel_left]
  exact np_get h
theorem np_set {ad : Nat → Nat} {a : Nat → Nat → Int32} {lo hi : Nat → Int64} {n i : Nat} (h : i < n) {x : Nat → Int32} : (np ad a lo hi n).set i (ad i, .inr (0, ndF x (lo i) (hi i))) = np ad (va_up a i x) lo hi n := by
  apply List.ext_getElem?
  intro j
  by_cases hj : j = i
  · subst hj
    rw [np_get h, List.getElem?_set_self (by simp [np]; exact h)]
    simp [va_up]
  · rw [List.getElem?_set_ne (Ne.symm hj)]
    by_cases hn : j < n
    · rw [np_get hn, np_get hn]
      simp [va_up, hj]
    · simp [np, Nat.not_lt.mp hn]
theorem np_up {X : va_W} {ad : Nat → Nat} {a : Nat → Nat → Int32} {lo hi : Nat → Int64} {n i : Nat} (k : Nat) (hk : X.length = k) (h : i < n) {x : Nat → Int32} : (X ++ np ad a lo hi n).set (k + i) (ad i, .inr (0, ndF x (lo i) (hi i))) = X ++ np ad (va_up a i x) lo hi n := by
  subst hk
  rw [List.set_append_right _ _ (Nat.le_add_right _ _), Nat.add_sub_cancel_left, np_set h]
section NP1
variable {p : Program} {l : Launch} {e : Env} {R : Room} {s : State} {m : MethodId} {args : Array Value} {below : List Frame} {meth : Method} {c : Code} {H : Heap} {locs : List Loc} {cells slots : Nat} {Q : State → Prop}
variable {G : PG} {A : Nat → Prop} {mc ms pc : Nat} {ls : Array Slot} {X cx wr pl : va_W} {H0 : Heap} {st0 rest : List Value} {a : Array Value}
theorem va_A_app {ws pl : va_W} {sz : Nat} {q : Nat} (h : va_A ws sz q) : va_A (ws ++ pl) sz q := by
  rcases h with ⟨k, e, h⟩ | h
  · exact Or.inl ⟨k, e, by rw [List.getElem?_append_left (List.getElem?_eq_some_iff.mp h).1]; exact h⟩
  · exact Or.inr h
theorem kl_iQ {S : Type} {post : Int32 → S → Prop} {w1 : S → va_W}
    (hr : va_Run p l e R s m args below meth c H locs cells slots mc ms (F0 m pc ls st0) rest (va_Qi post (oB G (va_A cx H.size) w1) (va_A cx H.size) a) (va_A cx H.size))
    (hP : va_P G.1 vwCl (X ++ pl) H) (hD : va_D A (X ++ pl)) (hS : va_S A H0 H locs) (hA : ∀ q, H0.size ≤ q → A q) (isC isR : List Nat) (hC : isC.map (fun i => X[i]?) = cx.map some) (hR : isR.map (fun i => X[i]?) = wr.map some) (hn : va_nd isR = true) (hdis : ∀ i ∈ isR, i ∉ isC)
    (kk : ∀ (r : Int32) (u : S) (H1 : Heap) (locs1 : List Loc), post r u → va_P G.1 vwCl ((wr ++ w1 u) ++ pl) H1 → va_D A ((wr ++ w1 u) ++ pl) → va_S A H0 H1 locs1 → W p l e R s m args below meth c H1 locs1 (cells + mc) (slots + ms) Q (F0 m (pc + 3) ls (.int r :: rest))) :
    W p l e R s m args below meth c H locs cells slots Q (F0 m pc ls st0) := by
  have hF : ∀ q, va_A cx H.size q → A q := fun q h => va_freeP hD hS hA isC hC q (va_A_app h)
  refine va_calli hr hS (fun q _ h => hF q h) hF (fun r u t H1 locs1 ht hvm hp hB hz hk hS1 => ?_)
  obtain ⟨hP1, hD1⟩ := hB
  rw [ht] at hP1
  obtain ⟨hP2, hD2⟩ := va_joinQ (wr := wr) hP hD isC isR hC hR hn hdis hk hF hP1 hD1
  exact kk r u H1 locs1 hp hP2 hD2 hS1
theorem kl_iP {S : Type} {post : Int32 → S → Prop} {w1 pl1 : S → va_W}
    (hr : va_Run p l e R s m args below meth c H locs cells slots mc ms (F0 m pc ls st0) rest (va_Qi post (oB G (va_A (cx ++ pl) H.size) (fun u => w1 u ++ pl1 u)) (va_A (cx ++ pl) H.size) a) (va_A (cx ++ pl) H.size))
    (hP : va_P G.1 vwCl (X ++ pl) H) (hD : va_D A (X ++ pl)) (hS : va_S A H0 H locs) (hA : ∀ q, H0.size ≤ q → A q) (isC isR : List Nat) (hC : isC.map (fun i => X[i]?) = cx.map some) (hR : isR.map (fun i => X[i]?) = wr.map some) (hn : va_nd isR = true) (hdis : ∀ i ∈ isR, i ∉ isC)
    (kk : ∀ (r : Int32) (u : S) (H1 : Heap) (locs1 : List Loc), post r u → va_P G.1 vwCl ((wr ++ w1 u) ++ pl1 u) H1 → va_D A ((wr ++ w1 u) ++ pl1 u) → va_S A H0 H1 locs1 → W p l e R s m args below meth c H1 locs1 (cells + mc) (slots + ms) Q (F0 m (pc + 3) ls (.int r :: rest))) :
    W p l e R s m args below meth c H locs cells slots Q (F0 m pc ls st0) := by
  have hF : ∀ q, va_A (cx ++ pl) H.size q → A q := va_freeP hD hS hA isC hC
  refine va_calli hr hS (fun q _ h => hF q h) hF (fun r u t H1 locs1 ht hvm hp hB hz hk hS1 => ?_)
  obtain ⟨hP1, hD1⟩ := hB
  rw [ht] at hP1
  obtain ⟨hP2, hD2⟩ := va_joinP (wr := wr) hP hD isC isR hC hR hn hdis hk hF hP1 hD1
  exact kk r u H1 locs1 hp hP2 hD2 hS1
theorem kl_lQ {S : Type} {post : Int64 → S → Prop} {w1 : S → va_W}
    (hr : va_Run p l e R s m args below meth c H locs cells slots mc ms (F0 m pc ls st0) rest (va_Ql post (oB G (va_A cx H.size) w1) (va_A cx H.size) a) (va_A cx H.size))
    (hP : va_P G.1 vwCl (X ++ pl) H) (hD : va_D A (X ++ pl)) (hS : va_S A H0 H locs) (hA : ∀ q, H0.size ≤ q → A q) (isC isR : List Nat) (hC : isC.map (fun i => X[i]?) = cx.map some) (hR : isR.map (fun i => X[i]?) = wr.map some) (hn : va_nd isR = true) (hdis : ∀ i ∈ isR, i ∉ isC)
    (kk : ∀ (r : Int64) (u : S) (H1 : Heap) (locs1 : List Loc), post r u → va_P G.1 vwCl ((wr ++ w1 u) ++ pl) H1 → va_D A ((wr ++ w1 u) ++ pl) → va_S A H0 H1 locs1 → W p l e R s m args below meth c H1 locs1 (cells + mc) (slots + ms) Q (F0 m (pc + 3) ls (.long r :: rest))) :
    W p l e R s m args below meth c H locs cells slots Q (F0 m pc ls st0) := by
  have hF : ∀ q, va_A cx H.size q → A q := fun q h => va_freeP hD hS hA isC hC q (va_A_app h)
  refine va_calll hr hS (fun q _ h => hF q h) hF (fun r u t H1 locs1 ht hvm hp hB hz hk hS1 => ?_)
  obtain ⟨hP1, hD1⟩ := hB
  rw [ht] at hP1
  obtain ⟨hP2, hD2⟩ := va_joinQ (wr := wr) hP hD isC isR hC hR hn hdis hk hF hP1 hD1
  exact kk r u H1 locs1 hp hP2 hD2 hS1
theorem kl_lP {S : Type} {post : Int64 → S → Prop} {w1 pl1 : S → va_W}
    (hr : va_Run p l e R s m args below meth c H locs cells slots mc ms (F0 m pc ls st0) rest (va_Ql post (oB G (va_A (cx ++ pl) H.size) (fun u => w1 u ++ pl1 u)) (va_A (cx ++ pl) H.size) a) (va_A (cx ++ pl) H.size))
    (hP : va_P G.1 vwCl (X ++ pl) H) (hD : va_D A (X ++ pl)) (hS : va_S A H0 H locs) (hA : ∀ q, H0.size ≤ q → A q) (isC isR : List Nat) (hC : isC.map (fun i => X[i]?) = cx.map some) (hR : isR.map (fun i => X[i]?) = wr.map some) (hn : va_nd isR = true) (hdis : ∀ i ∈ isR, i ∉ isC)
    (kk : ∀ (r : Int64) (u : S) (H1 : Heap) (locs1 : List Loc), post r u → va_P G.1 vwCl ((wr ++ w1 u) ++ pl1 u) H1 → va_D A ((wr ++ w1 u) ++ pl1 u) → va_S A H0 H1 locs1 → W p l e R s m args below meth c H1 locs1 (cells + mc) (slots + ms) Q (F0 m (pc + 3) ls (.long r :: rest))) :
    W p l e R s m args below meth c H locs cells slots Q (F0 m pc ls st0) := by
  have hF : ∀ q, va_A (cx ++ pl) H.size q → A q := va_freeP hD hS hA isC hC
  refine va_calll hr hS (fun q _ h => hF q h) hF (fun r u t H1 locs1 ht hvm hp hB hz hk hS1 => ?_)
  obtain ⟨hP1, hD1⟩ := hB
  rw [ht] at hP1
  obtain ⟨hP2, hD2⟩ := va_joinP (wr := wr) hP hD isC isR hC hR hn hdis hk hF hP1 hD1
  exact kk r u H1 locs1 hp hP2 hD2 hS1
theorem kl_vQ {S : Type} {post : S → Prop} {w1 : S → va_W}
    (hr : va_Run p l e R s m args below meth c H locs cells slots mc ms (F0 m pc ls st0) rest (va_Qv post (oB G (va_A cx H.size) w1) (va_A cx H.size) a) (va_A cx H.size))
    (hP : va_P G.1 vwCl (X ++ pl) H) (hD : va_D A (X ++ pl)) (hS : va_S A H0 H locs) (hA : ∀ q, H0.size ≤ q → A q) (isC isR : List Nat) (hC : isC.map (fun i => X[i]?) = cx.map some) (hR : isR.map (fun i => X[i]?) = wr.map some) (hn : va_nd isR = true) (hdis : ∀ i ∈ isR, i ∉ isC)
    (kk : ∀ (u : S) (H1 : Heap) (locs1 : List Loc), post u → va_P G.1 vwCl ((wr ++ w1 u) ++ pl) H1 → va_D A ((wr ++ w1 u) ++ pl) → va_S A H0 H1 locs1 → W p l e R s m args below meth c H1 locs1 (cells + mc) (slots + ms) Q (F0 m (pc + 3) ls (rest))) :
    W p l e R s m args below meth c H locs cells slots Q (F0 m pc ls st0) := by
  have hF : ∀ q, va_A cx H.size q → A q := fun q h => va_freeP hD hS hA isC hC q (va_A_app h)
  refine va_callv hr hS (fun q _ h => hF q h) hF (fun u t H1 locs1 ht hvm hp hB hz hk hS1 => ?_)
  obtain ⟨hP1, hD1⟩ := hB
  rw [ht] at hP1
  obtain ⟨hP2, hD2⟩ := va_joinQ (wr := wr) hP hD isC isR hC hR hn hdis hk hF hP1 hD1
  exact kk u H1 locs1 hp hP2 hD2 hS1
theorem kl_vP {S : Type} {post : S → Prop} {w1 pl1 : S → va_W}
    (hr : va_Run p l e R s m args below meth c H locs cells slots mc ms (F0 m pc ls st0) rest (va_Qv post (oB G (va_A (cx ++ pl) H.size) (fun u => w1 u ++ pl1 u)) (va_A (cx ++ pl) H.size) a) (va_A (cx ++ pl) H.size))
    (hP : va_P G.1 vwCl (X ++ pl) H) (hD : va_D A (X ++ pl)) (hS : va_S A H0 H locs) (hA : ∀ q, H0.size ≤ q → A q) (isC isR : List Nat) (hC : isC.map (fun i => X[i]?) = cx.map some) (hR : isR.map (fun i => X[i]?) = wr.map some) (hn : va_nd isR = true) (hdis : ∀ i ∈ isR, i ∉ isC)
    (kk : ∀ (u : S) (H1 : Heap) (locs1 : List Loc), post u → va_P G.1 vwCl ((wr ++ w1 u) ++ pl1 u) H1 → va_D A ((wr ++ w1 u) ++ pl1 u) → va_S A H0 H1 locs1 → W p l e R s m args below meth c H1 locs1 (cells + mc) (slots + ms) Q (F0 m (pc + 3) ls (rest))) :
    W p l e R s m args below meth c H locs cells slots Q (F0 m pc ls st0) := by
  have hF : ∀ q, va_A (cx ++ pl) H.size q → A q := va_freeP hD hS hA isC hC
  refine va_callv hr hS (fun q _ h => hF q h) hF (fun u t H1 locs1 ht hvm hp hB hz hk hS1 => ?_)
  obtain ⟨hP1, hD1⟩ := hB
  rw [ht] at hP1
  obtain ⟨hP2, hD2⟩ := va_joinP (wr := wr) hP hD isC isR hC hR hn hdis hk hF hP1 hD1
  exact kk u H1 locs1 hp hP2 hD2 hS1
theorem kl_rQ {S : Type} {post : S → Prop} {pa : S → Nat → Prop} {w1 : S → va_W}
    (hr : va_Run p l e R s m args below meth c H locs cells slots mc ms (F0 m pc ls st0) rest (va_Qr post (oR G (va_A cx H.size) w1 pa) (va_A cx H.size) a) (va_A cx H.size))
    (hP : va_P G.1 vwCl (X ++ pl) H) (hD : va_D A (X ++ pl)) (hS : va_S A H0 H locs) (hA : ∀ q, H0.size ≤ q → A q) (isC isR : List Nat) (hC : isC.map (fun i => X[i]?) = cx.map some) (hR : isR.map (fun i => X[i]?) = wr.map some) (hn : va_nd isR = true) (hdis : ∀ i ∈ isR, i ∉ isC)
    (kk : ∀ (u : S) (ra : Nat) (H1 : Heap) (locs1 : List Loc), post u → pa u ra → va_P G.1 vwCl ((wr ++ w1 u) ++ pl) H1 → va_D A ((wr ++ w1 u) ++ pl) → va_S A H0 H1 locs1 → W p l e R s m args below meth c H1 locs1 (cells + mc) (slots + ms) Q (F0 m (pc + 3) ls (.ref ra :: rest))) :
    W p l e R s m args below meth c H locs cells slots Q (F0 m pc ls st0) := by
  have hF : ∀ q, va_A cx H.size q → A q := fun q h => va_freeP hD hS hA isC hC q (va_A_app h)
  refine va_callr hr hS (fun q _ h => hF q h) hF (fun u ra t H1 locs1 ht hvm hp hB hz hk hS1 => ?_)
  obtain ⟨ha, hP1, hD1⟩ := hB
  rw [ht] at hP1
  obtain ⟨hP2, hD2⟩ := va_joinQ (wr := wr) hP hD isC isR hC hR hn hdis hk hF hP1 hD1
  exact kk u ra H1 locs1 hp ha hP2 hD2 hS1
theorem kl_rP {S : Type} {post : S → Prop} {pa : S → Nat → Prop} {w1 pl1 : S → va_W}
    (hr : va_Run p l e R s m args below meth c H locs cells slots mc ms (F0 m pc ls st0) rest (va_Qr post (oR G (va_A (cx ++ pl) H.size) (fun u => w1 u ++ pl1 u) pa) (va_A (cx ++ pl) H.size) a) (va_A (cx ++ pl) H.size))
    (hP : va_P G.1 vwCl (X ++ pl) H) (hD : va_D A (X ++ pl)) (hS : va_S A H0 H locs) (hA : ∀ q, H0.size ≤ q → A q) (isC isR : List Nat) (hC : isC.map (fun i => X[i]?) = cx.map some) (hR : isR.map (fun i => X[i]?) = wr.map some) (hn : va_nd isR = true) (hdis : ∀ i ∈ isR, i ∉ isC)
    (kk : ∀ (u : S) (ra : Nat) (H1 : Heap) (locs1 : List Loc), post u → pa u ra → va_P G.1 vwCl ((wr ++ w1 u) ++ pl1 u) H1 → va_D A ((wr ++ w1 u) ++ pl1 u) → va_S A H0 H1 locs1 → W p l e R s m args below meth c H1 locs1 (cells + mc) (slots + ms) Q (F0 m (pc + 3) ls (.ref ra :: rest))) :
    W p l e R s m args below meth c H locs cells slots Q (F0 m pc ls st0) := by
  have hF : ∀ q, va_A (cx ++ pl) H.size q → A q := va_freeP hD hS hA isC hC
  refine va_callr hr hS (fun q _ h => hF q h) hF (fun u ra t H1 locs1 ht hvm hp hB hz hk hS1 => ?_)
  obtain ⟨ha, hP1, hD1⟩ := hB
  rw [ht] at hP1
  obtain ⟨hP2, hD2⟩ := va_joinP (wr := wr) hP hD isC isR hC hR hn hdis hk hF hP1 hD1
  exact kk u ra H1 locs1 hp ha hP2 hD2 hS1
end NP1
