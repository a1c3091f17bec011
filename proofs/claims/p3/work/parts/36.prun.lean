/-! the reference's search over lists: chains of links, a stack of ways -/
abbrev Sp : Type := Nat → Int32
abbrev Lk : Type := Nat × Nat × Nat × Nat
abbrev Wy : Type := Option Nat × Option Nat × Nat × List Lk × Sp × Nat
abbrev Cf : Type := Option Nat × List Lk × Nat × Sp × Nat × List Wy
/-- the tree: type, a, b, mode, kid, sibling; a leaf's step; the text's length; the place at which the whole must end -/
abbrev Tn : Type := (Nat → Nat) × (Nat → Nat) × (Nat → Option Nat) × (Nat → Nat) × (Nat → Option Nat) × (Nat → Option Nat) × (Nat → Nat → Sp → Option Nat) × Nat × Option Nat
abbrev nT (t : Tn) : Nat → Nat := t.1
abbrev nA (t : Tn) : Nat → Nat := t.2.1
abbrev nB (t : Tn) : Nat → Option Nat := t.2.2.1
abbrev nM (t : Tn) : Nat → Nat := t.2.2.2.1
abbrev nK (t : Tn) : Nat → Option Nat := t.2.2.2.2.1
abbrev nS (t : Tn) : Nat → Option Nat := t.2.2.2.2.2.1
abbrev nL (t : Tn) : Nat → Nat → Sp → Option Nat := t.2.2.2.2.2.2.1
abbrev nN (t : Tn) : Nat := t.2.2.2.2.2.2.2.1
abbrev nW (t : Tn) : Option Nat := t.2.2.2.2.2.2.2.2
section RM
variable (t : Tn)
def gThru (n c : Nat) (κ : List Lk) (p : Nat) (σ : Sp) (lk : Nat) (ws : List Wy) : Cf := (nK t n, (22, n, c + 1, p) :: κ, p, σ, lk + 1, ws)
def bef (n f : Nat) (κ : List Lk) (σ : Sp) (lk : Nat) (ws : List Wy) : Cf := (nK t n, κ, f, σ, lk, if 0 < f then (some n, some (f - 1), f - 1, κ, σ, lk) :: ws else ws)
def popW : List Wy → Option Cf
  | [] => none
  | (some n, some c, p, κ, σ, lk) :: ws => if nT t n = 15 then some (gThru t n c κ p σ lk ws) else some (bef t n c κ σ lk ws)
  | (nd, _, p, κ, σ, lk) :: ws => some (nd, κ, p, σ, lk, ws)
def pcs (q : Option Nat) (κ : List Lk) (p : Nat) (σ : Sp) (lk : Nat) (ws : List Wy) : Cf :=
  match q with
  | none => (none, κ, p, σ, lk, ws)
  | some n => match nS t n with
    | none => (some n, κ, p, σ, lk, ws)
    | some m => (some n, (20, m, 0, 0) :: κ, p, σ, lk + 1, ws)
/-- whether a loop goes on -/
def onL (n c s p : Nat) : Bool := (match nB t n with | none => true | some b => decide (c < b)) && (c == 0 || p != s)
def trn (n c s : Nat) (κ : List Lk) (p : Nat) (σ : Sp) (lk : Nat) (ws : List Wy) : Cf :=
  if c < nA t n then gThru t n c κ p σ lk ws
  else if onL t n c s p then
    (if nM t n = 1 then (none, κ, p, σ, lk, (some n, some c, p, κ, σ, lk) :: ws) else gThru t n c κ p σ lk ((none, none, p, κ, σ, lk) :: ws))
  else (none, κ, p, σ, lk, ws)
def cutW (h : Nat) (ws : List Wy) : List Wy := ws.drop (ws.length - h)
def setG (σ : Sp) (g p0 p : Nat) : Sp := fun k => if k = 2 * g + 1 then Int32.ofNat p else if k = 2 * g then Int32.ofNat p0 else σ k
def ent (n : Nat) (κ : List Lk) (p : Nat) (σ : Sp) (lk : Nat) (ws : List Wy) : Option Cf :=
  match nT t n with
  | 0 => some (nK t n, κ, p, σ, lk, ws)
  | 1 => some (pcs t (nK t n) κ p σ lk (match nS t n with | none => ws | some m => (some m, none, p, κ, σ, lk) :: ws))
  | 8 => some (nK t n, (21, nA t n, p, 0) :: κ, p, σ, lk + 1, ws)
  | 9 => some (nK t n, κ, p, σ, lk, ws)
  | 10 => some (nK t n, (10, ws.length, p, 0) :: κ, p, σ, lk + 1, ws)
  | 14 => some (nK t n, (14, ws.length, p, 0) :: κ, p, σ, lk + 1, ws)
  | 15 => some (if nM t n = 2 then trn t n 0 0 ((14, ws.length, p, 0) :: κ) p σ (lk + 1) ws else trn t n 0 0 κ p σ lk ws)
  | 11 => some (nK t n, (11, ws.length, p, 0) :: κ, p, σ, lk + 1, (none, none, p, κ, σ, lk) :: ws)
  | 12 => some (bef t n p ((12, ws.length, p, 0) :: κ) σ (lk + 1) ws)
  | 13 => some (bef t n p ((13, ws.length, p, 0) :: κ) σ (lk + 1) ((none, none, p, κ, σ, lk) :: ws))
  | _ => match nL t n p σ with
    | some p' => some (none, κ, p', σ, lk, ws)
    | none => popW t ws
def gon (l : Lk) (κ : List Lk) (p : Nat) (σ : Sp) (lk : Nat) (ws : List Wy) : Option Cf :=
  match l with
  | (20, n, _, _) => some (pcs t (some n) κ p σ lk ws)
  | (21, g, p0, _) => some (none, κ, p, setG σ g p0 p, lk, ws)
  | (22, n, c, s) => some (trn t n c s κ p σ lk ws)
  | (14, h, _, _) => some (none, κ, p, σ, lk, cutW h ws)
  | (10, h, p0, _) => some (none, κ, p0, σ, lk, cutW h ws)
  | (11, h, _, _) => popW t (cutW h ws)
  | (12, h, p0, _) => if p = p0 then some (none, κ, p, σ, lk, cutW h ws) else popW t ws
  | (13, h, p0, _) => if p = p0 then popW t (cutW h ws) else popW t ws
  | _ => if nW t = none ∨ nW t = some p then some (none, [], p, σ, lk, ws) else popW t ws
def stp (c : Cf) : Option Cf :=
  match c with
  | (some n, κ, p, σ, lk, ws) => ent t n κ p σ lk ws
  | (none, l :: κ, p, σ, lk, ws) => gon t l κ p σ lk ws
  | (none, [], _, _, _, _) => none
/-- room for what a step adds -/
def saf (c : Cf) : Prop := c.2.2.2.2.1 ≤ 990 ∧ c.2.2.2.2.2.length ≤ 490 ∧ c.2.1 ≠ []
def rch : Nat → Option Cf → Option Cf → Prop
  | 0, a, b => a = b
  | n + 1, a, b => ∃ c, a = some c ∧ saf c ∧ rch n (stp t c) b
def Rc (a b : Option Cf) : Prop := ∃ n, rch t n a b
theorem rch_add : ∀ (n m : Nat) (a b c : Option Cf), rch t n a b → rch t m b c → rch t (n + m) a c
  | 0, m, a, b, c, h, h2 => by rw [Nat.zero_add]; exact h ▸ h2
  | n + 1, m, a, b, c, ⟨x, hx, hs, h⟩, h2 => by
    rw [Nat.succ_add]
    exact ⟨x, hx, hs, rch_add n m _ b c h h2⟩
theorem Rc.refl (a : Option Cf) : Rc t a a := ⟨0, rfl⟩
variable {t}
theorem Rc.trans {a b c : Option Cf} (h : Rc t a b) (h2 : Rc t b c) : Rc t a c := by
  obtain ⟨n, h⟩ := h
  obtain ⟨m, h2⟩ := h2
  exact ⟨n + m, rch_add t n m a b c h h2⟩
theorem Rc.one {c : Cf} {b : Option Cf} (hs : saf c) (h : stp t c = b) : Rc t (some c) b := ⟨1, c, rfl, hs, h⟩
variable (t)
/-- what a state offers: its outcomes in their order, the chain κ before it, the ways ws below; F, G bound the links and the ways that an outcome leaves behind -/
def Off (κ : List Lk) (ws : List Wy) (p0 lk0 : Nat) (F G : Nat → Nat) : List (Nat × Sp) → Option Cf → Prop
  | [], c => Rc t c (popW t ws)
  | o :: os, c => p0 ≤ o.1 ∧ o.1 ≤ nN t ∧ ∃ S lk, Rc t c (some (none, κ, o.1, o.2, lk, S ++ ws)) ∧ lk ≤ lk0 + F (o.1 - p0) ∧ S.length ≤ G (o.1 - p0) ∧ Off κ ws p0 lk0 F G os (popW t (S ++ ws))
variable {t}
theorem Off.pre {κ : List Lk} {ws : List Wy} {p0 lk0 : Nat} {F G : Nat → Nat} {os : List (Nat × Sp)} {a b : Option Cf} (h : Rc t a b) (ho : Off t κ ws p0 lk0 F G os b) : Off t κ ws p0 lk0 F G os a := by
  cases os with
  | nil => exact h.trans ho
  | cons o os =>
    obtain ⟨h1, h2, S, lk, h3, h4⟩ := ho
    exact ⟨h1, h2, S, lk, h.trans h3, h4⟩
theorem Off.mono {κ : List Lk} {ws : List Wy} {p0 lk0 lk1 : Nat} {F G F' G' : Nat → Nat} (hF : ∀ c, lk0 + F c ≤ lk1 + F' c) (hG : ∀ c, G c ≤ G' c) : ∀ {os : List (Nat × Sp)} {a : Option Cf}, Off t κ ws p0 lk0 F G os a → Off t κ ws p0 lk1 F' G' os a
  | [], _, h => h
  | o :: os, _, ⟨h1, h2, S, lk, h3, h4, h5, h6⟩ => ⟨h1, h2, S, lk, h3, Nat.le_trans h4 (hF _), Nat.le_trans h5 (hG _), Off.mono hF hG h6⟩
/-- .. one after the other -/
theorem Off.bind {κ κ1 : List Lk} {ws : List Wy} {p0 lk0 : Nat} {F1 G1 F G : Nat → Nat} {F2 G2 : Nat → Nat → Nat} (f : Nat × Sp → List (Nat × Sp)) (hF : ∀ a b, F1 a + F2 a b ≤ F (a + b)) (hG : ∀ a b, G1 a + G2 a b ≤ G (a + b)) :
    ∀ {os : List (Nat × Sp)} {a : Option Cf}, Off t κ1 ws p0 lk0 F1 G1 os a → (∀ o ∈ os, p0 ≤ o.1 → o.1 ≤ nN t → ∀ lk S, lk ≤ lk0 + F1 (o.1 - p0) → S.length ≤ G1 (o.1 - p0) → Off t κ (S ++ ws) o.1 lk (F2 (o.1 - p0)) (G2 (o.1 - p0)) (f o) (some (none, κ1, o.1, o.2, lk, S ++ ws))) →
      Off t κ ws p0 lk0 F G (os.flatMap f) a
  | [], _, h, _ => h
  | o :: os, a, ⟨h1, h2, S, lk, h3, h4, h5, h6⟩, hf => by
    have ih := Off.bind f hF hG h6 (fun o' ho' => hf o' (List.mem_cons_of_mem _ ho'))
    have h7 := (hf o List.mem_cons_self h1 h2 lk S h4 h5).pre h3
    rw [List.flatMap_cons]
    generalize f o = fs at h7
    clear h3 hf h6
    induction fs generalizing a with
    | nil => exact Off.pre h7 ih
    | cons x xs ihx =>
      obtain ⟨k1, k2, S2, lk2, k3, k4, k5, k6⟩ := h7
      refine ⟨by omega, k2, S2 ++ S, lk2, by rw [List.append_assoc]; exact k3, ?_, ?_, ?_⟩
      · have h8 := hF (o.1 - p0) (x.1 - o.1)
        rw [show o.1 - p0 + (x.1 - o.1) = x.1 - p0 by omega] at h8
        omega
      · have h8 := hG (o.1 - p0) (x.1 - o.1)
        rw [show o.1 - p0 + (x.1 - o.1) = x.1 - p0 by omega] at h8
        rw [List.length_append]; omega
      · rw [List.append_assoc]; exact ihx _ k6
/-- .. or a way that waits -/
theorem Off.alt {κ : List Lk} {ws : List Wy} {w : Wy} {p0 lk0 : Nat} {F G G' : Nat → Nat} {os' : List (Nat × Sp)} (hG : ∀ c, G c + 1 ≤ G' c) (h2 : Off t κ ws p0 lk0 F G' os' (popW t (w :: ws))) : ∀ {os : List (Nat × Sp)} {a : Option Cf}, Off t κ (w :: ws) p0 lk0 F G os a → Off t κ ws p0 lk0 F G' (os ++ os') a
  | [], _, h => h2.pre h
  | _ :: _, _, ⟨k1, k2, S, lk, k3, k4, k5, k6⟩ => by
    refine ⟨k1, k2, S ++ [w], lk, by rw [List.append_assoc]; exact k3, k4, ?_, ?_⟩
    · rw [List.length_append]; exact Nat.le_trans (Nat.add_le_add_right k5 1) (hG _)
    · rw [List.append_assoc]; exact Off.alt hG h2 k6
theorem cutW_app (S ws : List Wy) : cutW ws.length (S ++ ws) = ws := by
  unfold cutW
  rw [List.length_append, Nat.add_sub_cancel, List.drop_left]
/-- one step, then what it offers -/
theorem Off.step {κ : List Lk} {ws : List Wy} {p0 lk0 : Nat} {F G : Nat → Nat} {os : List (Nat × Sp)} {c : Cf} {b : Option Cf} (hs : saf c) (h : stp t c = b) (ho : Off t κ ws p0 lk0 F G os b) : Off t κ ws p0 lk0 F G os (some c) := ho.pre (Rc.one hs h)
theorem Off.here {κ : List Lk} {ws : List Wy} {p lk : Nat} {σ : Sp} {F G : Nat → Nat} (hp : p ≤ nN t) : Off t κ ws p lk F G [(p, σ)] (some (none, κ, p, σ, lk, ws)) :=
  ⟨Nat.le_refl _, hp, [], lk, Rc.refl t _, Nat.le_add_right _ _, Nat.zero_le _, Rc.refl t _⟩
/-- the first outcome alone, the ways above ws cut off; its place may be set anew -/
theorem Off.cut {κ : List Lk} {ws : List Wy} {p0 lk0 : Nat} {F G F' : Nat → Nat} {l : Lk} {os : List (Nat × Sp)} {c : Option Cf} (pl : Nat × Sp → Nat) (hpl : ∀ o, p0 ≤ o.1 → o.1 ≤ nN t → p0 ≤ pl o ∧ pl o ≤ nN t)
    (hl : ∀ (p : Nat) (σ : Sp) (lk : Nat) (W : List Wy), stp t (none, l :: κ, p, σ, lk, W) = some (none, κ, pl (p, σ), σ, lk, cutW ws.length W)) (hsa : ∀ p S lk (σ : Sp), p0 ≤ p → p ≤ nN t → lk ≤ lk0 + F (p - p0) → S.length ≤ G (p - p0) → saf (none, l :: κ, p, σ, lk, S ++ ws))
    (hF : ∀ (p : Nat) (σ : Sp), p0 ≤ p → p ≤ nN t → F (p - p0) ≤ F' (pl (p, σ) - p0)) (h : Off t (l :: κ) ws p0 lk0 F G os c) : Off t κ ws p0 lk0 F' (fun _ => 0) ((os.take 1).map (fun o => (pl o, o.2))) c := by
  cases os with
  | nil => exact h
  | cons o os =>
    obtain ⟨h1, h2, S, lk, h3, h4, h5, -⟩ := h
    obtain ⟨q1, q2⟩ := hpl o h1 h2
    refine ⟨q1, q2, [], lk, h3.trans (Rc.one (hsa o.1 S lk o.2 h1 h2 h4 h5) ?_), ?_, Nat.zero_le _, Rc.refl t _⟩
    · rw [hl, cutW_app]; rfl
    · have := hF o.1 o.2 h1 h2
      have e : pl (o.1, o.2) = pl o := rfl
      rw [e] at this
      show lk ≤ lk0 + F' (pl o - p0)
      omega
/-! what the trees mean: the outcomes in the order in which they are tried -/
abbrev Lp : Type := Nat × Option Nat × Nat
def onW (b : Option Nat) (c s p : Nat) : Bool := (match b with | none => true | some b => decide (c < b)) && (c == 0 || p != s)
def loopW (f : Nat → Sp → List (Nat × Sp)) (a : Nat) (b : Option Nat) (lz : Bool) : Nat → Nat → Nat → Nat → Sp → List (Nat × Sp)
  | 0, _, _, _, _ => []
  | k + 1, c, s, p, σ => if c < a then (f p σ).flatMap (fun o => loopW f a b lz k (c + 1) p o.1 o.2)
    else if onW b c s p then (if lz then (p, σ) :: (f p σ).flatMap (fun o => loopW f a b lz k (c + 1) p o.1 o.2) else (f p σ).flatMap (fun o => loopW f a b lz k (c + 1) p o.1 o.2) ++ [(p, σ)])
    else [(p, σ)]
def pceW {A : Type} (f : A → Nat → Sp → List (Nat × Sp)) (x : A × Option Lp) (p : Nat) (σ : Sp) : List (Nat × Sp) :=
  match x.2 with
  | none => f x.1 p σ
  | some (a, b, mo) => if mo = 2 then (loopW (f x.1) a b false 16 0 0 p σ).take 1 else loopW (f x.1) a b (decide (mo = 1)) 16 0 0 p σ
def seqW {A : Type} (f : A → Nat → Sp → List (Nat × Sp)) : List (A × Option Lp) → Nat → Sp → List (Nat × Sp)
  | [], p, σ => [(p, σ)]
  | x :: xs, p, σ => (pceW f x p σ).flatMap (fun o => seqW f xs o.1 o.2)
def altW {A : Type} (f : A → Nat → Sp → List (Nat × Sp)) (cs : List (List (A × Option Lp))) (p : Nat) (σ : Sp) : List (Nat × Sp) := cs.flatMap (fun s => seqW f s p σ)
/-! potentials: whether characters are taken; links A + B c; ways that stay a + b c; ways at most u + v c -/
abbrev Pt : Type := Bool × (Nat × Nat) × (Nat × Nat) × (Nat × Nat)
abbrev Pt.F (x : Pt) (c : Nat) : Nat := x.2.1.1 + x.2.1.2 * c
abbrev Pt.G (x : Pt) (c : Nat) : Nat := x.2.2.1.1 + x.2.2.1.2 * c
abbrev Pt.P (x : Pt) (c : Nat) : Nat := x.2.2.2.1 + x.2.2.2.2 * c
/-- fit: the most is no less than what stays; nothing by the character where none is taken -/
def Pt.ok (x : Pt) : Prop := x.2.2.1.1 ≤ x.2.2.2.1 ∧ x.2.2.1.2 ≤ x.2.2.2.2 ∧ (x.1 = false → x.2.1.2 = 0 ∧ x.2.2.1.2 = 0 ∧ x.2.2.2.2 = 0)
/-- a node that offers f, within the potential x -/
def Is (t : Tn) (x : Pt) (f : Nat → Sp → List (Nat × Sp)) (nd : Option Nat) : Prop := ∀ (κ : List Lk) (p : Nat) (σ : Sp) (lk : Nat) (ws : List Wy), κ ≠ [] → p ≤ nN t → lk + x.F (nN t - p) ≤ 990 → ws.length + x.P (nN t - p) ≤ 490 → Off t κ ws p lk x.F x.G (f p σ) (some (nd, κ, p, σ, lk, ws))
def Zs (x : Pt) (f : Nat → Sp → List (Nat × Sp)) : Prop := x.1 = false → ∀ p σ, ∀ o ∈ f p σ, o.1 = p
/-! loops -/
def lpP (x : Pt) (m e : Nat) : Pt := (x.1, ((1 + x.2.1.1) * m, (if x.1 then e else 0) * (1 + x.2.1.1) + x.2.1.2), ((1 + x.2.2.1.1) * m, (if x.1 then e else 0) * (1 + x.2.2.1.1) + x.2.2.1.2), ((1 + x.2.2.1.1) * m + x.2.2.2.1, (if x.1 then e else 0) * (1 + x.2.2.1.1) + x.2.2.2.2))
def mmL (a : Nat) (b : Option Nat) (c s p : Nat) : Nat := match b with
  | none => if c < a then a - c else if onW b c s p then 1 else 0
  | some M => M - c
def epL (b : Option Nat) : Nat := match b with | none => 1 | some _ => 0
def muL (N a : Nat) (b : Option Nat) (c s p : Nat) : Nat := if c < a then (a - c) + (N - p) + 2 else if onW b c s p then (N - p) + 2 else 1
theorem onW_next {b : Option Nat} {c p : Nat} : onW b (c + 1) p p = false := by
  unfold onW
  simp
theorem onW_lt {M c s p : Nat} (h : onW (some M) c s p = true) : c < M := by
  unfold onW at h
  simp at h
  exact h.1
theorem mmL_go {a : Nat} {b : Option Nat} {c s p : Nat} (hab : ∀ M, b = some M → a ≤ M) (hg : c < a ∨ onW b c s p = true) : 1 ≤ mmL a b c s p := by
  unfold mmL
  cases b with
  | none =>
    dsimp only
    by_cases h : c < a
    · rw [if_pos h]; omega
    · rw [if_neg h]
      rcases hg with h1 | h1
      · exact absurd h1 h
      · rw [if_pos h1]; exact Nat.le_refl _
  | some M =>
    dsimp only
    have := hab M rfl
    rcases hg with h1 | h1
    · omega
    · have := onW_lt h1; omega
theorem mmL_step {a : Nat} {b : Option Nat} {c s p p' : Nat} (hab : ∀ M, b = some M → a ≤ M) (hg : c < a ∨ onW b c s p = true) (hp : p ≤ p') : mmL a b (c + 1) p p' ≤ mmL a b c s p - 1 + epL b * (p' - p) := by
  have h1 := mmL_go hab hg
  cases b with
  | some M => unfold mmL epL; dsimp only; omega
  | none =>
    unfold epL
    rw [Nat.one_mul]
    by_cases h : c + 1 < a
    · unfold mmL; dsimp only; rw [if_pos h, if_pos (by omega)]; omega
    · have hm : mmL a none (c + 1) p p' ≤ p' - p := by
        unfold mmL; dsimp only; rw [if_neg h]
        by_cases hq : p' = p
        · subst hq; rw [onW_next]; simp
        · split <;> omega
      omega
theorem muL_step {N a : Nat} {b : Option Nat} {c s p p' : Nat} (hg : c < a ∨ onW b c s p = true) (hp : p ≤ p') (hN : p' ≤ N) : muL N a b (c + 1) p p' < muL N a b c s p := by
  unfold muL
  by_cases h : c < a
  · rw [if_pos h]
    by_cases h2 : c + 1 < a
    · rw [if_pos h2]; omega
    · rw [if_neg h2]; split <;> omega
  · rw [if_neg h, if_neg (by omega)]
    rcases hg with h1 | h1
    · exact absurd h1 h
    · rw [if_pos h1]
      by_cases hq : p' = p
      · subst hq; rw [onW_next]; simp
      · split <;> omega
/-- through the body once more, then the next turn -/
theorem lp_go {x : Pt} {f : Nat → Sp → List (Nat × Sp)} {n m a : Nat} {b : Option Nat} {lz : Bool} {k c s p : Nat} (hx : x.ok) (hf : Is t x f (some m)) (hz : Zs x f) (hk : nK t n = some m) (hab : ∀ M, b = some M → a ≤ M) (hg : c < a ∨ onW b c s p = true)
    (ih : ∀ (c' s' p' : Nat) (σ : Sp) (lk : Nat) (ws : List Wy) (κ : List Lk), κ ≠ [] → p' ≤ nN t → muL (nN t) a b c' s' p' ≤ k → lk + (lpP x (mmL a b c' s' p') (epL b)).F (nN t - p') ≤ 990 → ws.length + (lpP x (mmL a b c' s' p') (epL b)).P (nN t - p') ≤ 490 →
      Off t κ ws p' lk (lpP x (mmL a b c' s' p') (epL b)).F (lpP x (mmL a b c' s' p') (epL b)).G (loopW f a b lz k c' s' p' σ) (some (trn t n c' s' κ p' σ lk ws)))
    (σ : Sp) (lk : Nat) (ws : List Wy) (κ : List Lk) (hκ : κ ≠ []) (hp : p ≤ nN t) (hmu : muL (nN t) a b c s p ≤ k + 1) (hF : lk + (lpP x (mmL a b c s p) (epL b)).F (nN t - p) ≤ 990) (h1 : Nat) (hP : ws.length + h1 + (lpP x (mmL a b c s p) (epL b)).P (nN t - p) ≤ 490 + 1) (hh : h1 ≤ 1) :
    Off t κ ws p lk (lpP x (mmL a b c s p) (epL b)).F (fun c' => x.2.2.1.1 + (1 + x.2.2.1.1) * (mmL a b c s p - 1) + ((if x.1 then epL b else 0) * (1 + x.2.2.1.1) + x.2.2.1.2) * c') ((f p σ).flatMap (fun o => loopW f a b lz k (c + 1) p o.1 o.2)) (some (gThru t n c κ p σ lk ws)) := by
  have hm := mmL_go hab hg
  obtain ⟨M, hM⟩ : ∃ M, mmL a b c s p = M + 1 := ⟨mmL a b c s p - 1, by omega⟩
  obtain ⟨z, ⟨A, B⟩, ⟨a', b'⟩, ⟨u, v⟩⟩ := x
  obtain ⟨hx1, hx2, hx3⟩ := hx
  dsimp only [lpP, Pt.F, Pt.G, Pt.P] at *
  generalize hE : (if z then epL b else 0) = E at *
  rw [hM] at hF hP ⊢
  have eF : (1 + A) * (M + 1) = (1 + A) * M + 1 + A := by rw [Nat.mul_succ]; omega
  have ea : (1 + a') * (M + 1) = (1 + a') * M + 1 + a' := by rw [Nat.mul_succ]; omega
  have dF : ∀ y, (E * (1 + A) + B) * y = E * (1 + A) * y + B * y := fun y => Nat.add_mul _ _ _
  have dG : ∀ y, (E * (1 + a') + b') * y = E * (1 + a') * y + b' * y := fun y => Nat.add_mul _ _ _
  have dP : ∀ y, (E * (1 + a') + v) * y = E * (1 + a') * y + v * y := fun y => Nat.add_mul _ _ _
  have mb : ∀ y, b' * y ≤ v * y := fun y => Nat.mul_le_mul_right _ hx2
  have hbody := hf ((22, n, c + 1, p) :: κ) p σ (lk + 1) ws (by simp) hp (by
    have := dF (nN t - p); dsimp only [Pt.F]; omega) (by
    have := dP (nN t - p); dsimp only [Pt.P]; omega)
  have e0 : gThru t n c κ p σ lk ws = (some m, (22, n, c + 1, p) :: κ, p, σ, lk + 1, ws) := by unfold gThru; rw [hk]
  rw [e0]
  refine Off.mono (lk0 := lk + 1) (F := fun y => A + (1 + A) * M + (E * (1 + A) + B) * y) (G := fun y => a' + (1 + a') * M + (E * (1 + a') + b') * y) (fun y => by dsimp only [Pt.F]; omega) (fun y => by rw [Nat.add_sub_cancel]; omega) ?_
  refine Off.bind (F1 := fun y => A + B * y) (G1 := fun y => a' + b' * y) (F2 := fun y w => (1 + A) * (M + E * y) + (E * (1 + A) + B) * w) (G2 := fun y w => (1 + a') * (M + E * y) + (E * (1 + a') + b') * w) _ (fun y w => ?_) (fun y w => ?_) hbody (fun o ho ho1 ho2 lk' S h3 h4 => ?_)
  · have q1 := dF y; have q2 := dF w; have q3 := dF (y + w)
    have q4 : (1 + A) * (M + E * y) = (1 + A) * M + E * (1 + A) * y := by rw [Nat.mul_add, Nat.mul_comm E (1 + A), Nat.mul_assoc]
    have q5 : (E * (1 + A) + B) * (y + w) = (E * (1 + A) + B) * y + (E * (1 + A) + B) * w := Nat.mul_add _ _ _
    omega
  · have q1 := dG y
    have q4 : (1 + a') * (M + E * y) = (1 + a') * M + E * (1 + a') * y := by rw [Nat.mul_add, Nat.mul_comm E (1 + a'), Nat.mul_assoc]
    have q5 : (E * (1 + a') + b') * (y + w) = (E * (1 + a') + b') * y + (E * (1 + a') + b') * w := Nat.mul_add _ _ _
    omega
  · have hst : stp t (none, (22, n, c + 1, p) :: κ, o.1, o.2, lk', S ++ ws) = some (trn t n (c + 1) p κ o.1 o.2 lk' (S ++ ws)) := rfl
    have hms := mmL_step (s := s) hab hg ho1
    have hmE : mmL a b (c + 1) p o.1 ≤ M + E * (o.1 - p) := by
      cases z with
      | true => simp only [if_true] at hE; rw [← hE]; omega
      | false =>
        have hop : o.1 = p := hz rfl p σ o ho
        rw [hop] at hms ⊢
        rw [Nat.sub_self, Nat.mul_zero] at hms
        omega
    have hsplit : nN t - p = (o.1 - p) + (nN t - o.1) := by omega
    have m1 : (1 + A) * mmL a b (c + 1) p o.1 ≤ (1 + A) * (M + E * (o.1 - p)) := Nat.mul_le_mul_left _ hmE
    have m2 : (1 + a') * mmL a b (c + 1) p o.1 ≤ (1 + a') * (M + E * (o.1 - p)) := Nat.mul_le_mul_left _ hmE
    have q4 : (1 + A) * (M + E * (o.1 - p)) = (1 + A) * M + E * (1 + A) * (o.1 - p) := by rw [Nat.mul_add, Nat.mul_comm E (1 + A), Nat.mul_assoc]
    have q5 : (1 + a') * (M + E * (o.1 - p)) = (1 + a') * M + E * (1 + a') * (o.1 - p) := by rw [Nat.mul_add, Nat.mul_comm E (1 + a'), Nat.mul_assoc]
    have r1 : (E * (1 + A) + B) * (nN t - p) = (E * (1 + A) + B) * (o.1 - p) + (E * (1 + A) + B) * (nN t - o.1) := by rw [hsplit]; exact Nat.mul_add _ _ _
    have r2 : (E * (1 + a') + v) * (nN t - p) = (E * (1 + a') + v) * (o.1 - p) + (E * (1 + a') + v) * (nN t - o.1) := by rw [hsplit]; exact Nat.mul_add _ _ _
    have d1 := dF (o.1 - p); have d2 := dG (o.1 - p); have d3 := dP (o.1 - p); have d4 := mb (o.1 - p)
    refine Off.step ⟨?_, ?_, by simp⟩ hst ?_
    · show lk' ≤ 990; omega
    · show (S ++ ws).length ≤ 490
      rw [List.length_append]; omega
    · refine Off.mono (lk0 := lk') (fun y => ?_) (fun y => ?_) (ih (c + 1) p o.1 o.2 lk' (S ++ ws) κ hκ ho2 ?_ ?_ ?_)
      · dsimp only [Pt.F]; omega
      · dsimp only [Pt.G]; omega
      · have := muL_step (N := nN t) hg ho1 ho2; omega
      · omega
      · rw [List.length_append]; omega
theorem lp_all {x : Pt} {f : Nat → Sp → List (Nat × Sp)} {n m a : Nat} {b : Option Nat} {lz : Bool} (hx : x.ok) (hf : Is t x f (some m)) (hz : Zs x f) (hT : nT t n = 15) (hk : nK t n = some m) (hA : nA t n = a) (hB : nB t n = b) (hM : decide (nM t n = 1) = lz) (hab : ∀ M, b = some M → a ≤ M) :
    ∀ (k c s p : Nat) (σ : Sp) (lk : Nat) (ws : List Wy) (κ : List Lk), κ ≠ [] → p ≤ nN t → muL (nN t) a b c s p ≤ k → lk + (lpP x (mmL a b c s p) (epL b)).F (nN t - p) ≤ 990 → ws.length + (lpP x (mmL a b c s p) (epL b)).P (nN t - p) ≤ 490 →
      Off t κ ws p lk (lpP x (mmL a b c s p) (epL b)).F (lpP x (mmL a b c s p) (epL b)).G (loopW f a b lz k c s p σ) (some (trn t n c s κ p σ lk ws)) := by
  intro k
  induction k with
  | zero =>
    intro c s p σ lk ws κ _ _ h
    exfalso
    unfold muL at h
    split at h
    · omega
    · split at h <;> omega
  | succ k ih =>
    intro c s p σ lk ws κ hκ hp hmu hF hP
    have hon : onL t n c s p = onW b c s p := by unfold onL onW; rw [hB]
    unfold loopW trn
    rw [hA, hon]
    by_cases h1 : c < a
    · rw [if_pos h1, if_pos h1]
      refine Off.mono (lk0 := lk) (fun y => Nat.le_refl _) (fun y => ?_) (lp_go (n := n) (lz := lz) hx hf hz hk hab (Or.inl h1) ih σ lk ws κ hκ hp hmu hF 0 (by omega) (by omega))
      have hm := mmL_go (s := s) (p := p) hab (Or.inl h1)
      obtain ⟨M, hM9⟩ : ∃ M, mmL a b c s p = M + 1 := ⟨mmL a b c s p - 1, by omega⟩
      dsimp only [lpP, Pt.G]
      rw [hM9, Nat.add_sub_cancel, Nat.mul_succ]
      omega
    · rw [if_neg h1, if_neg h1]
      by_cases h2 : onW b c s p = true
      · rw [if_pos h2, if_pos h2]
        have hm := mmL_go (a := a) (s := s) (p := p) hab (Or.inr h2)
        obtain ⟨M, hM9⟩ : ∃ M, mmL a b c s p = M + 1 := ⟨mmL a b c s p - 1, by omega⟩
        by_cases h3 : nM t n = 1
        · have hlz : lz = true := by rw [← hM]; exact decide_eq_true h3
          rw [if_pos h3, hlz, if_pos rfl]
          rw [hlz] at ih
          refine ⟨Nat.le_refl _, hp, [(some n, some c, p, κ, σ, lk)], lk, Rc.refl t _, Nat.le_add_right _ _, ?_, ?_⟩
          · dsimp only [lpP, Pt.G]; rw [hM9, Nat.mul_succ]; simp; omega
          · have e1 : popW t ([(some n, some c, p, κ, σ, lk)] ++ ws) = some (gThru t n c κ p σ lk ws) := if_pos hT
            rw [e1]
            refine Off.mono (lk0 := lk) (fun y => Nat.le_refl _) (fun y => ?_) (lp_go (n := n) (lz := true) hx hf hz hk hab (Or.inr h2) ih σ lk ws κ hκ hp hmu hF 0 (by omega) (by omega))
            dsimp only [lpP, Pt.G]
            rw [hM9, Nat.add_sub_cancel, Nat.mul_succ]
            omega
        · have hlz : lz = false := by rw [← hM]; exact decide_eq_false h3
          rw [if_neg h3, hlz]
          rw [hlz] at ih
          refine Off.alt (G := fun c' => x.2.2.1.1 + (1 + x.2.2.1.1) * (mmL a b c s p - 1) + ((if x.1 then epL b else 0) * (1 + x.2.2.1.1) + x.2.2.1.2) * c') (fun y => ?_) ?_ (lp_go (n := n) (lz := false) hx hf hz hk hab (Or.inr h2) ih σ lk ((none, none, p, κ, σ, lk) :: ws) κ hκ hp hmu hF 0 (by rw [List.length_cons]; omega) (by omega))
          · dsimp only [lpP, Pt.G]
            rw [hM9, Nat.add_sub_cancel, Nat.mul_succ]
            omega
          · exact Off.here hp
      · rw [if_neg h2, if_neg h2]
        exact Off.here hp
/-! pieces, sequences, choices -/
abbrev Sm : Type := Nat → Sp → List (Nat × Sp)
def m0L (a : Nat) (b : Option Nat) : Nat := match b with | none => max a 1 | some M => M
theorem m0L_eq {a : Nat} {b : Option Nat} {p : Nat} : mmL a b 0 0 p = m0L a b := by
  cases b with
  | some M => rfl
  | none =>
    show (if 0 < a then a - 0 else if onW none 0 0 p then 1 else 0) = max a 1
    have h : onW none 0 0 p = true := by unfold onW; simp
    rw [h]
    split
    · omega
    · simp; omega
theorem muL_16 {N a : Nat} {b : Option Nat} {p : Nat} (hN : N ≤ 8) (ha : a ≤ 4) : muL N a b 0 0 p ≤ 16 := by
  unfold muL
  split
  · omega
  · split <;> omega
def lopP (x : Pt) (l : Lp) : Pt := if l.2.2 = 2 then ((lpP x (m0L l.1 l.2.1) (epL l.2.1)).1, ((lpP x (m0L l.1 l.2.1) (epL l.2.1)).2.1.1 + 1, (lpP x (m0L l.1 l.2.1) (epL l.2.1)).2.1.2), (0, 0), (lpP x (m0L l.1 l.2.1) (epL l.2.1)).2.2.2) else lpP x (m0L l.1 l.2.1) (epL l.2.1)
def lopW (f : Sm) (l : Lp) : Sm := fun p σ => if l.2.2 = 2 then (loopW f l.1 l.2.1 false 16 0 0 p σ).take 1 else loopW f l.1 l.2.1 (decide (l.2.2 = 1)) 16 0 0 p σ
theorem lpP_ok {x : Pt} {m e : Nat} (hx : x.ok) : (lpP x m e).ok := by
  obtain ⟨h1, h2, h3⟩ := hx
  refine ⟨Nat.le_add_right _ _ |> fun h => by dsimp only [lpP]; omega, by dsimp only [lpP]; omega, fun h => ?_⟩
  have hz : x.1 = false := h
  obtain ⟨q1, q2, q3⟩ := h3 hz
  dsimp only [lpP]
  rw [hz, q1, q2, q3]
  simp
theorem lopP_ok {x : Pt} {l : Lp} (hx : x.ok) : (lopP x l).ok := by
  have h := lpP_ok (m := m0L l.1 l.2.1) (e := epL l.2.1) hx
  unfold lopP
  split
  · obtain ⟨h1, h2, h3⟩ := h
    exact ⟨Nat.zero_le _, Nat.zero_le _, fun hz => ⟨(h3 hz).1, rfl, (h3 hz).2.2⟩⟩
  · exact h
theorem loopW_z {x : Pt} {f : Sm} (hz : Zs x f) (h0 : x.1 = false) {a : Nat} {b : Option Nat} {lz : Bool} : ∀ (k c s p : Nat) (σ : Sp), ∀ o ∈ loopW f a b lz k c s p σ, o.1 = p
  | 0, _, _, _, _, _, h => by cases h
  | k + 1, c, s, p, σ, o, h => by
    have key : ∀ o ∈ (f p σ).flatMap (fun o => loopW f a b lz k (c + 1) p o.1 o.2), o.1 = p := fun o ho => by
      obtain ⟨o1, h1, h2⟩ := List.mem_flatMap.mp ho
      rw [loopW_z hz h0 k _ _ _ _ o h2, hz h0 p σ o1 h1]
    unfold loopW at h
    split at h
    · exact key o h
    · split at h
      · split at h
        · rcases List.mem_cons.mp h with rfl | h
          · rfl
          · exact key o h
        · rcases List.mem_append.mp h with h | h
          · exact key o h
          · rw [List.mem_singleton.mp h]
      · rw [List.mem_singleton.mp h]
theorem lop_z {x : Pt} {f : Sm} {l : Lp} (hz : Zs x f) : Zs (lopP x l) (lopW f l) := fun h0 p σ o ho => by
  have hx : x.1 = false := by
    unfold lopP at h0
    split at h0 <;> exact h0
  unfold lopW at ho
  split at ho
  · exact loopW_z hz hx _ _ _ _ _ o (List.mem_of_mem_take ho)
  · exact loopW_z hz hx _ _ _ _ _ o ho
theorem lop_is {x : Pt} {f : Sm} {n m : Nat} {l : Lp} (hx : x.ok) (hf : Is t x f (some m)) (hz : Zs x f) (hN : nN t ≤ 8) (hT : nT t n = 15) (hk : nK t n = some m) (hA : nA t n = l.1) (hB : nB t n = l.2.1) (hM : nM t n = l.2.2) (hab : ∀ M, l.2.1 = some M → l.1 ≤ M) (ha : l.1 ≤ 4) : Is t (lopP x l) (lopW f l) (some n) := by
  intro κ p σ lk ws hκ hp hF hP
  obtain ⟨a, b, mo⟩ := l
  dsimp only at hA hB hM hab ha
  have hst : stp t (some n, κ, p, σ, lk, ws) = some (if nM t n = 2 then trn t n 0 0 ((14, ws.length, p, 0) :: κ) p σ (lk + 1) ws else trn t n 0 0 κ p σ lk ws) := by
    show ent t n κ p σ lk ws = _
    unfold ent
    rw [hT]
    rfl
  have hs : saf (some n, κ, p, σ, lk, ws) := ⟨Nat.le_trans (Nat.le_add_right _ _) hF, Nat.le_trans (Nat.le_add_right _ _) hP, hκ⟩
  refine Off.step hs hst ?_
  unfold lopP lopW at *
  rw [hM]
  dsimp only at hF hP ⊢
  by_cases h2 : mo = 2
  · rw [if_pos h2] at hF hP ⊢
    rw [if_pos h2, if_pos h2]
    have hlz : decide (nM t n = 1) = false := by rw [hM, h2]; rfl
    have h := lp_all (lz := false) hx hf hz hT hk hA hB hlz hab 16 0 0 p σ (lk + 1) ws ((14, ws.length, p, 0) :: κ) (by simp) hp (muL_16 hN ha) (by rw [m0L_eq]; dsimp only [Pt.F] at hF ⊢; omega) (by rw [m0L_eq]; dsimp only [Pt.P] at hP ⊢; omega)
    rw [m0L_eq] at h
    have h9 := Off.cut (t := t) (F' := (lpP x (m0L a b) (epL b)).F) (fun o => o.1) (fun o q1 q2 => ⟨q1, q2⟩) (fun p' σ' lk' W => rfl) (fun p' S lk' σ' q1 q2 q3 q4 => ?_) (fun p' σ' q1 q2 => Nat.le_refl _) h
    · have e1 : ((loopW f a b false 16 0 0 p σ).take 1).map (fun o => (o.1, o.2)) = (loopW f a b false 16 0 0 p σ).take 1 := List.map_id' _
      rw [e1] at h9
      exact Off.mono (fun y => by dsimp only [Pt.F]; omega) (fun y => Nat.zero_le _) h9
    · have m1 : (lpP x (m0L a b) (epL b)).2.1.2 * (p' - p) ≤ (lpP x (m0L a b) (epL b)).2.1.2 * (nN t - p) := Nat.mul_le_mul_left _ (by omega)
      have m2 : (lpP x (m0L a b) (epL b)).2.2.1.2 * (p' - p) ≤ (lpP x (m0L a b) (epL b)).2.2.2.2 * (nN t - p) := Nat.mul_le_mul (lpP_ok hx).2.1 (by omega)
      have m3 := (lpP_ok (m := m0L a b) (e := epL b) hx).1
      dsimp only [Pt.F, Pt.P, Pt.G] at hF hP q3 q4
      refine ⟨?_, ?_, by simp⟩
      · show lk' ≤ 990; omega
      · show (S ++ ws).length ≤ 490; rw [List.length_append]; omega
  · rw [if_neg h2] at hF hP ⊢
    rw [if_neg h2, if_neg h2]
    have h := lp_all (lz := decide (mo = 1)) hx hf hz hT hk hA hB (by rw [hM]) hab 16 0 0 p σ lk ws κ hκ hp (muL_16 hN ha) (by rw [m0L_eq]; exact hF) (by rw [m0L_eq]; exact hP)
    rw [m0L_eq] at h
    exact h
/-- a sequence: its pieces' potentials and meanings, by their nodes -/
def seqR (t : Tn) : Option Nat → List (Pt × Sm) → Prop
  | q, [] => q = none
  | q, x :: xs => ∃ n, q = some n ∧ x.1.ok ∧ Is t x.1 x.2 (some n) ∧ Zs x.1 x.2 ∧ seqR t (nS t n) xs
def seqM : List (Pt × Sm) → Sm
  | [], p, σ => [(p, σ)]
  | x :: xs, p, σ => (x.2 p σ).flatMap (fun o => seqM xs o.1 o.2)
def pt0 : Pt := (false, (0, 0), (0, 0), (0, 0))
def thenP (x y : Pt) : Pt := (x.1 || y.1, (x.2.1.1 + y.2.1.1 + 1, max x.2.1.2 y.2.1.2), (x.2.2.1.1 + y.2.2.1.1, max x.2.2.1.2 y.2.2.1.2), (max x.2.2.2.1 (x.2.2.1.1 + y.2.2.2.1), max x.2.2.2.2 y.2.2.2.2))
def seqP : List (Pt × Sm) → Pt
  | [] => pt0
  | [x] => x.1
  | x :: y :: xs => thenP x.1 (seqP (y :: xs))
theorem thenP_ok {x y : Pt} (hx : x.ok) (hy : y.ok) : (thenP x y).ok := by
  obtain ⟨h1, h2, h3⟩ := hx
  obtain ⟨k1, k2, k3⟩ := hy
  refine ⟨by dsimp only [thenP]; omega, by dsimp only [thenP]; omega, fun h => ?_⟩
  have h9 : (x.1 || y.1) = false := h
  rw [Bool.or_eq_false_iff] at h9
  obtain ⟨a1, a2, a3⟩ := h3 h9.1
  obtain ⟨b1, b2, b3⟩ := k3 h9.2
  dsimp only [thenP]
  rw [a1, a2, a3, b1, b2, b3]
  exact ⟨rfl, rfl, rfl⟩
theorem seqP_ok {t : Tn} : ∀ {xs : List (Pt × Sm)} {q : Option Nat}, seqR t q xs → (seqP xs).ok
  | [], _, _ => ⟨Nat.le_refl _, Nat.le_refl _, fun _ => ⟨rfl, rfl, rfl⟩⟩
  | [_], _, ⟨_, _, h, _⟩ => h
  | _ :: _ :: _, _, ⟨_, _, h, _, _, hr⟩ => thenP_ok h (seqP_ok hr)
theorem flatMap_self {l : List (Nat × Sp)} : l.flatMap (fun o => [(o.1, o.2)]) = l := by
  induction l with
  | nil => rfl
  | cons x xs ih => rw [List.flatMap_cons, ih]; rfl
theorem mul_two {b v c d : Nat} (B : Nat) (h1 : b ≤ B) (h2 : v ≤ B) : b * c + v * d ≤ B * (c + d) := by
  rw [Nat.mul_add]
  exact Nat.add_le_add (Nat.mul_le_mul_right _ h1) (Nat.mul_le_mul_right _ h2)
theorem seq_off {t : Tn} : ∀ {xs : List (Pt × Sm)} {q : Option Nat}, seqR t q xs → ∀ (κ : List Lk) (p : Nat) (σ : Sp) (lk : Nat) (ws : List Wy), κ ≠ [] → p ≤ nN t → lk + (seqP xs).F (nN t - p) ≤ 990 → ws.length + (seqP xs).P (nN t - p) ≤ 490 →
    Off t κ ws p lk (seqP xs).F (seqP xs).G (seqM xs p σ) (some (pcs t q κ p σ lk ws))
  | [], q, h, κ, p, σ, lk, ws, hκ, hp, hF, hP => by
    have h9 : q = none := h
    subst h9
    exact Off.here hp
  | [x], q, ⟨n, hq, h1, h2, h3, h4⟩, κ, p, σ, lk, ws, hκ, hp, hF, hP => by
    subst hq
    have h9 : nS t n = none := h4
    have e1 : pcs t (some n) κ p σ lk ws = (some n, κ, p, σ, lk, ws) := by unfold pcs; dsimp only; rw [h9]
    rw [e1]
    have e2 : seqM [x] p σ = x.2 p σ := flatMap_self
    rw [e2]
    exact h2 κ p σ lk ws hκ hp hF hP
  | x :: y :: xs, q, ⟨n, hq, h1, h2, h3, h4⟩, κ, p, σ, lk, ws, hκ, hp, hF, hP => by
    subst hq
    have hr := seq_off h4
    have hok := seqP_ok h4
    obtain ⟨m, hm, -⟩ := h4
    have e1 : pcs t (some n) κ p σ lk ws = (some n, (20, m, 0, 0) :: κ, p, σ, lk + 1, ws) := by unfold pcs; dsimp only; rw [hm]
    rw [e1]
    have e3 : seqP (x :: y :: xs) = thenP x.1 (seqP (y :: xs)) := rfl
    rw [e3] at hF hP ⊢
    generalize hY : seqP (y :: xs) = Y at hr hok hF hP ⊢
    have ex : seqM (x :: y :: xs) p σ = (x.2 p σ).flatMap (fun o => seqM (y :: xs) o.1 o.2) := rfl
    rw [ex]
    generalize hX : x.1 = X at h1 h2 hF hP ⊢
    obtain ⟨z, ⟨A, B⟩, ⟨a', b'⟩, ⟨u, v⟩⟩ := X
    obtain ⟨z2, ⟨A2, B2⟩, ⟨a2, b2⟩, ⟨u2, v2⟩⟩ := Y
    obtain ⟨hx1, hx2, hx3⟩ := h1
    obtain ⟨hy1, hy2, hy3⟩ := hok
    dsimp only [thenP, Pt.F, Pt.G, Pt.P] at *
    have hBB : B ≤ max B B2 := Nat.le_max_left _ _
    have hB2 : B2 ≤ max B B2 := Nat.le_max_right _ _
    have hv : v ≤ max v v2 := Nat.le_max_left _ _
    have hv2 : v2 ≤ max v v2 := Nat.le_max_right _ _
    have hbody := h2 ((20, m, 0, 0) :: κ) p σ (lk + 1) ws (by simp) hp (by
      have := Nat.mul_le_mul_right (nN t - p) hBB; dsimp only [Pt.F]; omega) (by
      have := Nat.mul_le_mul_right (nN t - p) hv; dsimp only [Pt.P]; omega)
    refine Off.mono (lk0 := lk + 1) (F := fun c => A + A2 + max B B2 * c) (G := fun c => a' + a2 + max b' b2 * c) (fun c => by dsimp only [Pt.F]; omega) (fun c => by dsimp only [Pt.G]; omega) ?_
    refine Off.bind (F1 := fun c => A + B * c) (G1 := fun c => a' + b' * c) (F2 := fun _ c => A2 + B2 * c) (G2 := fun _ c => a2 + b2 * c) _ (fun c d => ?_) (fun c d => ?_) hbody (fun o ho ho1 ho2 lk' S q3 q4 => ?_)
    · have := mul_two (c := c) (d := d) (max B B2) hBB hB2; omega
    · have := mul_two (c := c) (d := d) (max b' b2) (Nat.le_max_left _ _) (Nat.le_max_right _ _); omega
    · have hsp : nN t - p = (o.1 - p) + (nN t - o.1) := by omega
      have m1 := mul_two (c := o.1 - p) (d := nN t - o.1) (max B B2) hBB hB2
      have m2 := mul_two (c := o.1 - p) (d := nN t - o.1) (max v v2) (Nat.le_trans hx2 hv) hv2
      rw [← hsp] at m1 m2
      refine Off.step ⟨?_, ?_, by simp⟩ (show stp t (none, (20, m, 0, 0) :: κ, o.1, o.2, lk', S ++ ws) = some (pcs t (some m) κ o.1 o.2 lk' (S ++ ws)) from rfl) ?_
      · show lk' ≤ 990; omega
      · show (S ++ ws).length ≤ 490; rw [List.length_append]; omega
      · rw [← hm]
        exact hr κ o.1 o.2 lk' (S ++ ws) hκ ho2 (by omega) (by rw [List.length_append]; omega)
theorem seq_z {t : Tn} : ∀ {xs : List (Pt × Sm)} {q : Option Nat}, seqR t q xs → Zs (seqP xs) (seqM xs)
  | [], _, _, _, p, σ, o, ho => by rw [List.mem_singleton.mp ho]
  | [x], _, ⟨_, _, _, _, h, _⟩, h0, p, σ, o, ho => by
    have e2 : seqM [x] p σ = x.2 p σ := flatMap_self
    rw [e2] at ho
    exact h h0 p σ o ho
  | x :: y :: xs, _, ⟨_, _, _, _, h, hr⟩, h0, p, σ, o, ho => by
    have h9 : (x.1.1 || (seqP (y :: xs)).1) = false := h0
    rw [Bool.or_eq_false_iff] at h9
    obtain ⟨o1, q1, q2⟩ := List.mem_flatMap.mp ho
    rw [seq_z hr h9.2 o1.1 o1.2 o q2, h h9.1 p σ o1 q1]
/-- a choice: its sequences by their nodes -/
def altR (t : Tn) : Option Nat → List (List (Pt × Sm)) → Prop
  | q, [] => q = none
  | q, s :: ss => ∃ n, q = some n ∧ nT t n = 1 ∧ seqR t (nK t n) s ∧ altR t (nS t n) ss
def altM (ss : List (List (Pt × Sm))) : Sm := fun p σ => ss.flatMap (fun s => seqM s p σ)
def orP (x y : Pt) : Pt := (x.1 || y.1, (max x.2.1.1 y.2.1.1, max x.2.1.2 y.2.1.2), (max (x.2.2.1.1 + 1) y.2.2.1.1, max x.2.2.1.2 y.2.2.1.2), (max (x.2.2.2.1 + 1) y.2.2.2.1, max x.2.2.2.2 y.2.2.2.2))
def altP : List (List (Pt × Sm)) → Pt
  | [] => pt0
  | [s] => seqP s
  | s :: s2 :: ss => orP (seqP s) (altP (s2 :: ss))
theorem orP_ok {x y : Pt} (hx : x.ok) (hy : y.ok) : (orP x y).ok := by
  obtain ⟨h1, h2, h3⟩ := hx
  obtain ⟨k1, k2, k3⟩ := hy
  refine ⟨by dsimp only [orP]; omega, by dsimp only [orP]; omega, fun h => ?_⟩
  have h9 : (x.1 || y.1) = false := h
  rw [Bool.or_eq_false_iff] at h9
  obtain ⟨a1, a2, a3⟩ := h3 h9.1
  obtain ⟨b1, b2, b3⟩ := k3 h9.2
  dsimp only [orP]
  rw [a1, a2, a3, b1, b2, b3]
  exact ⟨rfl, rfl, rfl⟩
theorem altP_ok {t : Tn} : ∀ {ss : List (List (Pt × Sm))} {q : Option Nat}, altR t q ss → (altP ss).ok
  | [], _, _ => ⟨Nat.le_refl _, Nat.le_refl _, fun _ => ⟨rfl, rfl, rfl⟩⟩
  | [_], _, ⟨_, _, _, h, _⟩ => seqP_ok h
  | _ :: _ :: _, _, ⟨_, _, _, h, hr⟩ => orP_ok (seqP_ok h) (altP_ok hr)
theorem alt_z {t : Tn} : ∀ {ss : List (List (Pt × Sm))} {q : Option Nat}, altR t q ss → Zs (altP ss) (altM ss)
  | [], _, _, _, p, σ, o, ho => by cases ho
  | [s], _, ⟨_, _, _, h, _⟩, h0, p, σ, o, ho => by
    have e2 : altM [s] p σ = seqM s p σ := by unfold altM; simp
    rw [e2] at ho
    exact seq_z h h0 p σ o ho
  | s :: s2 :: ss, _, ⟨_, _, _, h, hr⟩, h0, p, σ, o, ho => by
    have h9 : ((seqP s).1 || (altP (s2 :: ss)).1) = false := h0
    rw [Bool.or_eq_false_iff] at h9
    have e2 : altM (s :: s2 :: ss) p σ = seqM s p σ ++ altM (s2 :: ss) p σ := List.flatMap_cons
    rw [e2] at ho
    rcases List.mem_append.mp ho with ho | ho
    · exact seq_z h h9.1 p σ o ho
    · exact alt_z hr h9.2 p σ o ho
theorem alt_is {t : Tn} : ∀ {ss : List (List (Pt × Sm))} {n : Nat}, altR t (some n) ss → Is t (altP ss) (altM ss) (some n)
  | [], n, h, _, _, _, _, _, _, _, _, _ => by cases h
  | [s], n, ⟨n', hq, hT, hs, hr⟩, κ, p, σ, lk, ws, hκ, hp, hF, hP => by
    cases hq
    have h9 : nS t n = none := hr
    have hst : stp t (some n, κ, p, σ, lk, ws) = some (pcs t (nK t n) κ p σ lk ws) := by
      show ent t n κ p σ lk ws = _
      unfold ent
      rw [hT]
      simp only [h9]
    have e2 : altM [s] p σ = seqM s p σ := by unfold altM; simp
    rw [e2]
    exact Off.step ⟨Nat.le_trans (Nat.le_add_right _ _) hF, Nat.le_trans (Nat.le_add_right _ _) hP, hκ⟩ hst (seq_off hs κ p σ lk ws hκ hp hF hP)
  | s :: s2 :: ss, n, ⟨n', hq, hT, hs, hr⟩, κ, p, σ, lk, ws, hκ, hp, hF, hP => by
    cases hq
    have hr' := hr
    obtain ⟨m, hm, -⟩ := hr'
    rw [hm] at hr
    have ih := alt_is hr κ p σ lk ws hκ hp
    have hst : stp t (some n, κ, p, σ, lk, ws) = some (pcs t (nK t n) κ p σ lk ((some m, none, p, κ, σ, lk) :: ws)) := by
      show ent t n κ p σ lk ws = _
      unfold ent
      rw [hT]
      simp only [hm]
    have e2 : altM (s :: s2 :: ss) p σ = seqM s p σ ++ altM (s2 :: ss) p σ := List.flatMap_cons
    rw [e2]
    refine Off.step ⟨Nat.le_trans (Nat.le_add_right _ _) hF, Nat.le_trans (Nat.le_add_right _ _) hP, hκ⟩ hst ?_
    have hseq := seq_off hs κ p σ lk ((some m, none, p, κ, σ, lk) :: ws) hκ hp
    have e3 : altP (s :: s2 :: ss) = orP (seqP s) (altP (s2 :: ss)) := rfl
    rw [e3] at hF hP ⊢
    generalize altP (s2 :: ss) = Y at ih hF hP ⊢
    generalize seqP s = X at hseq hF hP ⊢
    obtain ⟨z, ⟨A, B⟩, ⟨a', b'⟩, ⟨u, v⟩⟩ := X
    obtain ⟨z2, ⟨A2, B2⟩, ⟨a2, b2⟩, ⟨u2, v2⟩⟩ := Y
    dsimp only [orP, Pt.F, Pt.G, Pt.P] at *
    have k1 : ∀ c, B * c ≤ max B B2 * c := fun c => Nat.mul_le_mul_right c (Nat.le_max_left _ _)
    have k2 : ∀ c, B2 * c ≤ max B B2 * c := fun c => Nat.mul_le_mul_right c (Nat.le_max_right _ _)
    have k3 : ∀ c, b' * c ≤ max b' b2 * c := fun c => Nat.mul_le_mul_right c (Nat.le_max_left _ _)
    have k4 : ∀ c, b2 * c ≤ max b' b2 * c := fun c => Nat.mul_le_mul_right c (Nat.le_max_right _ _)
    have k5 : ∀ c, v * c ≤ max v v2 * c := fun c => Nat.mul_le_mul_right c (Nat.le_max_left _ _)
    have k6 : ∀ c, v2 * c ≤ max v v2 * c := fun c => Nat.mul_le_mul_right c (Nat.le_max_right _ _)
    have g1 := k1 (nN t - p); have g2 := k2 (nN t - p); have g5 := k5 (nN t - p); have g6 := k6 (nN t - p)
    refine Off.alt (G := fun c => a' + b' * c) (fun c => ?_) ?_ (Off.mono (lk0 := lk) (fun c => ?_) (fun c => ?_) (hseq (by omega) (by rw [List.length_cons]; omega)))
    · have := k3 c; dsimp only [Pt.G]; omega
    · have e5 : popW t ((some m, none, p, κ, σ, lk) :: ws) = some (some m, κ, p, σ, lk, ws) := rfl
      rw [e5]
      refine Off.mono (lk0 := lk) (fun c => ?_) (fun c => ?_) (ih (by omega) (by omega))
      · have := k2 c; dsimp only [Pt.F]; omega
      · have := k4 c; dsimp only [Pt.G]; omega
    · have := k1 c; dsimp only [Pt.F]; omega
    · dsimp only [Pt.G]; omega
/-- the node of a choice -/
theorem cho_is {t : Tn} {ss : List (List (Pt × Sm))} {n m : Nat} (hT : nT t n = 0) (hk : nK t n = some m) (h : altR t (some m) ss) : Is t (altP ss) (altM ss) (some n) := by
  intro κ p σ lk ws hκ hp hF hP
  have hst : stp t (some n, κ, p, σ, lk, ws) = some (some m, κ, p, σ, lk, ws) := by
    show ent t n κ p σ lk ws = _
    unfold ent
    rw [hT]
    simp only [hk]
  exact Off.step ⟨Nat.le_trans (Nat.le_add_right _ _) hF, Nat.le_trans (Nat.le_add_right _ _) hP, hκ⟩ hst (alt_is h κ p σ lk ws hκ hp hF hP)
/-! brackets -/
def behW (f : Sm) (p : Nat) (σ : Sp) : Nat → List (Nat × Sp)
  | 0 => (f 0 σ).filter (fun o => decide (o.1 = p))
  | k + 1 => (f (k + 1) σ).filter (fun o => decide (o.1 = p)) ++ behW f p σ k
def bkW (kd g : Nat) (f : Sm) : Sm := fun p σ =>
  if kd = 8 then (f p σ).map (fun o => (o.1, setG o.2 g p o.1))
  else if kd = 9 then f p σ
  else if kd = 10 then ((f p σ).take 1).map (fun o => (p, o.2))
  else if kd = 11 then (if (f p σ).isEmpty then [(p, σ)] else [])
  else if kd = 12 then (behW f p σ p).take 1
  else if kd = 13 then (if (behW f p σ p).isEmpty then [(p, σ)] else [])
  else (f p σ).take 1
def bkP (kd : Nat) (x : Pt) : Pt :=
  if kd = 8 then (x.1, (x.2.1.1 + 1, x.2.1.2), x.2.2.1, x.2.2.2)
  else if kd = 9 then x
  else if kd = 10 ∨ kd = 11 then (false, (x.2.1.1 + 1 + 8 * x.2.1.2, 0), (0, 0), (x.2.2.2.1 + 1 + 8 * x.2.2.2.2, 0))
  else if kd = 12 ∨ kd = 13 then (false, (x.2.1.1 + 1 + 8 * x.2.1.2, 0), (0, 0), (x.2.2.2.1 + 2 + 8 * x.2.2.2.2, 0))
  else (x.1, (x.2.1.1 + 1, x.2.1.2), (0, 0), x.2.2.2)
theorem bkP_ok {kd : Nat} {x : Pt} (hx : x.ok) : (bkP kd x).ok := by
  obtain ⟨h1, h2, h3⟩ := hx
  unfold bkP
  split
  · exact ⟨h1, h2, h3⟩
  · split
    · exact ⟨h1, h2, h3⟩
    · split
      · exact ⟨Nat.zero_le _, Nat.le_refl _, fun _ => ⟨rfl, rfl, rfl⟩⟩
      · split
        · exact ⟨Nat.zero_le _, Nat.le_refl _, fun _ => ⟨rfl, rfl, rfl⟩⟩
        · exact ⟨Nat.zero_le _, Nat.zero_le _, fun h => ⟨(h3 h).1, rfl, (h3 h).2.2⟩⟩
theorem map_flat {l : List (Nat × Sp)} {h : Nat × Sp → Nat × Sp} : l.map h = l.flatMap (fun o => [h o]) := by
  induction l with
  | nil => rfl
  | cons x xs ih => rw [List.map_cons, List.flatMap_cons, ih]; rfl
theorem mul8 {B c : Nat} (h : c ≤ 8) : B * c ≤ 8 * B := by rw [Nat.mul_comm 8 B]; exact Nat.mul_le_mul_left _ h
theorem behW_p {f : Sm} {p : Nat} {σ : Sp} : ∀ {k : Nat}, ∀ o ∈ behW f p σ k, o.1 = p
  | 0, o, h => by simpa using (List.mem_filter.mp h).2
  | k + 1, o, h => by
    rcases List.mem_append.mp h with h | h
    · simpa using (List.mem_filter.mp h).2
    · exact behW_p o h
theorem bk_z {kd g : Nat} {x : Pt} {f : Sm} (hz : Zs x f) : Zs (bkP kd x) (bkW kd g f) := fun h0 p σ o ho => by
  unfold bkP at h0
  unfold bkW at ho
  split at ho
  · rw [if_pos ‹_›] at h0
    obtain ⟨o1, q1, q2⟩ := List.mem_map.mp ho
    rw [← q2]; exact hz h0 p σ o1 q1
  · rw [if_neg ‹_›] at h0
    split at ho
    · rw [if_pos ‹_›] at h0
      exact hz h0 p σ o ho
    · rw [if_neg ‹_›] at h0
      split at ho
      · obtain ⟨o1, q1, q2⟩ := List.mem_map.mp ho
        rw [← q2]
      · split at ho
        · split at ho
          · rw [List.mem_singleton.mp ho]
          · cases ho
        · split at ho
          · exact behW_p o (List.mem_of_mem_take ho)
          · split at ho
            · split at ho
              · rw [List.mem_singleton.mp ho]
              · cases ho
            · rw [if_neg (by omega), if_neg (by omega)] at h0
              exact hz h0 p σ o (List.mem_of_mem_take ho)
section BK
variable {x : Pt} {f : Sm} {n m : Nat}
theorem bk8 (hx : x.ok) (hf : Is t x f (some m)) (hk : nK t n = some m) {g : Nat} (hT : nT t n = 8) (hA : nA t n = g) : Is t (bkP 8 x) (bkW 8 g f) (some n) := by
  intro κ p σ lk ws hκ hp hF hP
  have e1 : bkP 8 x = (x.1, (x.2.1.1 + 1, x.2.1.2), x.2.2.1, x.2.2.2) := rfl
  have e2 : bkW 8 g f p σ = (f p σ).flatMap (fun o => [(o.1, setG o.2 g p o.1)]) := by rw [← map_flat]; rfl
  rw [e1] at hF hP ⊢
  rw [e2]
  have hst : stp t (some n, κ, p, σ, lk, ws) = some (some m, (21, g, p, 0) :: κ, p, σ, lk + 1, ws) := by
    show ent t n κ p σ lk ws = _
    unfold ent
    rw [hT]
    simp only [hk, hA]
  refine Off.step ⟨Nat.le_trans (Nat.le_add_right _ _) hF, Nat.le_trans (Nat.le_add_right _ _) hP, hκ⟩ hst ?_
  obtain ⟨z, ⟨A, B⟩, ⟨a', b'⟩, ⟨u, v⟩⟩ := x
  obtain ⟨hx1, hx2, hx3⟩ := hx
  dsimp only [Pt.F, Pt.G, Pt.P] at *
  have hbody := hf ((21, g, p, 0) :: κ) p σ (lk + 1) ws (by simp) hp (by dsimp only [Pt.F]; omega) (by dsimp only [Pt.P]; omega)
  refine Off.mono (lk0 := lk + 1) (F := fun c => A + B * c) (G := fun c => a' + b' * c) (fun c => by dsimp only [Pt.F]; omega) (fun c => by dsimp only [Pt.G]; omega) ?_
  refine Off.bind (F1 := fun c => A + B * c) (G1 := fun c => a' + b' * c) (F2 := fun _ _ => 0) (G2 := fun _ _ => 0) _ (fun c d => ?_) (fun c d => ?_) hbody (fun o ho ho1 ho2 lk' S q3 q4 => ?_)
  · have := Nat.mul_le_mul_left B (Nat.le_add_right c d); omega
  · have := Nat.mul_le_mul_left b' (Nat.le_add_right c d); omega
  · have m1 := Nat.mul_le_mul_left B (show o.1 - p ≤ nN t - p by omega)
    have m2 := Nat.mul_le_mul hx2 (show o.1 - p ≤ nN t - p by omega)
    refine Off.step ⟨?_, ?_, by simp⟩ (show stp t (none, (21, g, p, 0) :: κ, o.1, o.2, lk', S ++ ws) = some (none, κ, o.1, setG o.2 g p o.1, lk', S ++ ws) from rfl) (Off.here ho2)
    · show lk' ≤ 990; omega
    · show (S ++ ws).length ≤ 490; rw [List.length_append]; omega
theorem bk9 (hx : x.ok) (hf : Is t x f (some m)) (hk : nK t n = some m) {g : Nat} (hT : nT t n = 9) : Is t (bkP 9 x) (bkW 9 g f) (some n) := by
  intro κ p σ lk ws hκ hp hF hP
  have hst : stp t (some n, κ, p, σ, lk, ws) = some (some m, κ, p, σ, lk, ws) := by
    show ent t n κ p σ lk ws = _
    unfold ent
    rw [hT]
    simp only [hk]
  exact Off.step ⟨Nat.le_trans (Nat.le_add_right _ _) hF, Nat.le_trans (Nat.le_add_right _ _) hP, hκ⟩ hst (hf κ p σ lk ws hκ hp hF hP)
theorem bk14 (hx : x.ok) (hf : Is t x f (some m)) (hk : nK t n = some m) {g : Nat} (hT : nT t n = 14) : Is t (bkP 14 x) (bkW 14 g f) (some n) := by
  intro κ p σ lk ws hκ hp hF hP
  have e1 : bkP 14 x = (x.1, (x.2.1.1 + 1, x.2.1.2), (0, 0), x.2.2.2) := rfl
  have e2 : bkW 14 g f p σ = ((f p σ).take 1).map (fun o => (o.1, o.2)) := (List.map_id' _).symm
  rw [e1] at hF hP ⊢
  rw [e2]
  have hst : stp t (some n, κ, p, σ, lk, ws) = some (some m, (14, ws.length, p, 0) :: κ, p, σ, lk + 1, ws) := by
    show ent t n κ p σ lk ws = _
    unfold ent
    rw [hT]
    simp only [hk]
  refine Off.step ⟨Nat.le_trans (Nat.le_add_right _ _) hF, Nat.le_trans (Nat.le_add_right _ _) hP, hκ⟩ hst ?_
  obtain ⟨z, ⟨A, B⟩, ⟨a', b'⟩, ⟨u, v⟩⟩ := x
  obtain ⟨hx1, hx2, hx3⟩ := hx
  dsimp only [Pt.F, Pt.G, Pt.P] at *
  have hbody := hf ((14, ws.length, p, 0) :: κ) p σ (lk + 1) ws (by simp) hp (by dsimp only [Pt.F]; omega) (by dsimp only [Pt.P]; omega)
  refine Off.mono (lk0 := lk + 1) (F := fun c => A + B * c) (G := fun _ => 0) (fun c => by dsimp only [Pt.F]; omega) (fun c => by dsimp only [Pt.G]; omega) ?_
  refine Off.cut (F' := fun c => A + B * c) (fun o => o.1) (fun o q1 q2 => ⟨q1, q2⟩) (fun p' σ' lk' W => rfl) (fun p' S lk' σ' q1 q2 q3 q4 => ?_) (fun p' σ' q1 q2 => Nat.le_refl _) hbody
  dsimp only [Pt.F, Pt.G] at q3 q4
  have m1 := Nat.mul_le_mul_left B (show p' - p ≤ nN t - p by omega)
  have m2 := Nat.mul_le_mul hx2 (show p' - p ≤ nN t - p by omega)
  refine ⟨?_, ?_, by simp⟩
  · show lk' ≤ 990; omega
  · show (S ++ ws).length ≤ 490; rw [List.length_append]; omega
theorem bk10 (hx : x.ok) (hf : Is t x f (some m)) (hN : nN t ≤ 8) (hk : nK t n = some m) {g : Nat} (hT : nT t n = 10) : Is t (bkP 10 x) (bkW 10 g f) (some n) := by
  intro κ p σ lk ws hκ hp hF hP
  have e1 : bkP 10 x = (false, (x.2.1.1 + 1 + 8 * x.2.1.2, 0), (0, 0), (x.2.2.2.1 + 1 + 8 * x.2.2.2.2, 0)) := rfl
  have e2 : bkW 10 g f p σ = ((f p σ).take 1).map (fun o => (p, o.2)) := rfl
  rw [e1] at hF hP ⊢
  rw [e2]
  have hst : stp t (some n, κ, p, σ, lk, ws) = some (some m, (10, ws.length, p, 0) :: κ, p, σ, lk + 1, ws) := by
    show ent t n κ p σ lk ws = _
    unfold ent
    rw [hT]
    simp only [hk]
  refine Off.step ⟨Nat.le_trans (Nat.le_add_right _ _) hF, Nat.le_trans (Nat.le_add_right _ _) hP, hκ⟩ hst ?_
  obtain ⟨z, ⟨A, B⟩, ⟨a', b'⟩, ⟨u, v⟩⟩ := x
  obtain ⟨hx1, hx2, hx3⟩ := hx
  dsimp only [Pt.F, Pt.G, Pt.P] at *
  have hB := mul8 (B := B) (show nN t - p ≤ 8 by omega)
  have hv := mul8 (B := v) (show nN t - p ≤ 8 by omega)
  have hbody := hf ((10, ws.length, p, 0) :: κ) p σ (lk + 1) ws (by simp) hp (by dsimp only [Pt.F]; omega) (by dsimp only [Pt.P]; omega)
  refine Off.mono (lk0 := lk + 1) (F := fun _ => A + 8 * B) (G := fun _ => 0) (fun c => by dsimp only [Pt.F]; omega) (fun c => by dsimp only [Pt.G]; omega) ?_
  refine Off.cut (F' := fun _ => A + 8 * B) (fun _ => p) (fun o q1 q2 => ⟨Nat.le_refl _, hp⟩) (fun p' σ' lk' W => rfl) (fun p' S lk' σ' q1 q2 q3 q4 => ?_) (fun p' σ' q1 q2 => ?_) hbody
  · dsimp only [Pt.F, Pt.G] at q3 q4
    have m1 := Nat.mul_le_mul_left B (show p' - p ≤ nN t - p by omega)
    have m2 := Nat.mul_le_mul hx2 (show p' - p ≤ nN t - p by omega)
    refine ⟨?_, ?_, by simp⟩
    · show lk' ≤ 990; omega
    · show (S ++ ws).length ≤ 490; rw [List.length_append]; omega
  · have m1 := mul8 (B := B) (show p' - p ≤ 8 by omega)
    dsimp only [Pt.F]; omega
theorem bk11 (hx : x.ok) (hf : Is t x f (some m)) (hN : nN t ≤ 8) (hk : nK t n = some m) {g : Nat} (hT : nT t n = 11) : Is t (bkP 11 x) (bkW 11 g f) (some n) := by
  intro κ p σ lk ws hκ hp hF hP
  have e1 : bkP 11 x = (false, (x.2.1.1 + 1 + 8 * x.2.1.2, 0), (0, 0), (x.2.2.2.1 + 1 + 8 * x.2.2.2.2, 0)) := rfl
  have e2 : bkW 11 g f p σ = if (f p σ).isEmpty then [(p, σ)] else [] := rfl
  rw [e1] at hF hP ⊢
  rw [e2]
  have hst : stp t (some n, κ, p, σ, lk, ws) = some (some m, (11, ws.length, p, 0) :: κ, p, σ, lk + 1, (none, none, p, κ, σ, lk) :: ws) := by
    show ent t n κ p σ lk ws = _
    unfold ent
    rw [hT]
    simp only [hk]
  refine Off.step ⟨Nat.le_trans (Nat.le_add_right _ _) hF, Nat.le_trans (Nat.le_add_right _ _) hP, hκ⟩ hst ?_
  obtain ⟨z, ⟨A, B⟩, ⟨a', b'⟩, ⟨u, v⟩⟩ := x
  obtain ⟨hx1, hx2, hx3⟩ := hx
  dsimp only [Pt.F, Pt.G, Pt.P] at *
  have hB := mul8 (B := B) (show nN t - p ≤ 8 by omega)
  have hv := mul8 (B := v) (show nN t - p ≤ 8 by omega)
  have hbody := hf ((11, ws.length, p, 0) :: κ) p σ (lk + 1) ((none, none, p, κ, σ, lk) :: ws) (by simp) hp (by dsimp only [Pt.F]; omega) (by dsimp only [Pt.P]; rw [List.length_cons]; omega)
  cases hfp : f p σ with
  | nil =>
    rw [hfp] at hbody
    exact Off.pre hbody (Off.here hp)
  | cons o os =>
    rw [hfp] at hbody
    obtain ⟨q1, q2, S, lk', q3, q4, q5, -⟩ := hbody
    dsimp only [Pt.F, Pt.G] at q4 q5
    have m1 := Nat.mul_le_mul_left B (show o.1 - p ≤ nN t - p by omega)
    have m2 := Nat.mul_le_mul hx2 (show o.1 - p ≤ nN t - p by omega)
    refine q3.trans (Rc.one ⟨?_, ?_, by simp⟩ ?_)
    · show lk' ≤ 990; omega
    · show (S ++ (none, none, p, κ, σ, lk) :: ws).length ≤ 490; rw [List.length_append, List.length_cons]; omega
    · show popW t (cutW ws.length (S ++ (none, none, p, κ, σ, lk) :: ws)) = _
      rw [show S ++ (none, none, p, κ, σ, lk) :: ws = (S ++ [(none, none, p, κ, σ, lk)]) ++ ws by simp, cutW_app]
end BK
/-- looks behind: the outcomes of a body that end at p, one after the other -/
theorem scan12 {κ : List Lk} {ws E : List Wy} {p k lk1 : Nat} {F G Fc : Nat → Nat} {R : List (Nat × Sp)} (hp : p ≤ nN t) (hsa : ∀ p' S lk' (σ' : Sp), k ≤ p' → p' ≤ nN t → lk' ≤ lk1 + F (p' - k) → S.length ≤ G (p' - k) → saf (none, (12, ws.length, p, 0) :: κ, p', σ', lk', S ++ (E ++ ws))) (hFc : ∀ c, c ≤ nN t - k → F c ≤ Fc 0)
    (hR : Off t κ ws p lk1 Fc (fun _ => 0) (R.take 1) (popW t (E ++ ws))) : ∀ {os : List (Nat × Sp)} {a : Option Cf}, Off t ((12, ws.length, p, 0) :: κ) (E ++ ws) k lk1 F G os a → Off t κ ws p lk1 Fc (fun _ => 0) ((os.filter (fun o => decide (o.1 = p)) ++ R).take 1) a
  | [], _, h => hR.pre h
  | o :: os, a, ⟨q1, q2, S, lk', q3, q4, q5, q6⟩ => by
    have hs := hsa o.1 S lk' o.2 q1 q2 q4 q5
    by_cases h : o.1 = p
    · rw [List.filter_cons_of_pos (by simp [h])]
      refine ⟨by rw [h]; exact Nat.le_refl _, q2, [], lk', q3.trans (Rc.one hs ?_), ?_, Nat.le_refl _, Rc.refl t _⟩
      · show (if o.1 = p then some (none, κ, o.1, o.2, lk', cutW ws.length (S ++ (E ++ ws))) else popW t (S ++ (E ++ ws))) = _
        rw [if_pos h, ← List.append_assoc, cutW_app]; rfl
      · rw [h, Nat.sub_self]
        have := hFc (o.1 - k) (by omega)
        omega
    · rw [List.filter_cons_of_neg (by simp [h])]
      refine Off.pre (q3.trans (Rc.one hs ?_)) (scan12 hp hsa hFc hR q6)
      show (if o.1 = p then some (none, κ, o.1, o.2, lk', cutW ws.length (S ++ (E ++ ws))) else popW t (S ++ (E ++ ws))) = _
      rw [if_neg h]
theorem scan13 {κ : List Lk} {ws E : List Wy} {p k lk1 : Nat} {F G : Nat → Nat} {R : List (Nat × Sp)} {b : Option Cf} (hsa : ∀ p' S lk' (σ' : Sp), k ≤ p' → p' ≤ nN t → lk' ≤ lk1 + F (p' - k) → S.length ≤ G (p' - k) → saf (none, (13, ws.length, p, 0) :: κ, p', σ', lk', S ++ (E ++ ws)))
    (hR : Rc t (popW t (E ++ ws)) (if R.isEmpty then b else popW t ws)) : ∀ {os : List (Nat × Sp)} {a : Option Cf}, Off t ((13, ws.length, p, 0) :: κ) (E ++ ws) k lk1 F G os a → Rc t a (if (os.filter (fun o => decide (o.1 = p)) ++ R).isEmpty then b else popW t ws)
  | [], _, h => Rc.trans h hR
  | o :: os, a, ⟨q1, q2, S, lk', q3, q4, q5, q6⟩ => by
    have hs := hsa o.1 S lk' o.2 q1 q2 q4 q5
    by_cases h : o.1 = p
    · rw [List.filter_cons_of_pos (by simp [h])]
      refine q3.trans (Rc.one hs ?_)
      show (if o.1 = p then popW t (cutW ws.length (S ++ (E ++ ws))) else popW t (S ++ (E ++ ws))) = _
      rw [if_pos h, ← List.append_assoc, cutW_app]; rfl
    · rw [List.filter_cons_of_neg (by simp [h])]
      refine (q3.trans (Rc.one hs ?_)).trans (scan13 hsa hR q6)
      show (if o.1 = p then popW t (cutW ws.length (S ++ (E ++ ws))) else popW t (S ++ (E ++ ws))) = _
      rw [if_neg h]
section BK2
variable {x : Pt} {f : Sm} {n m : Nat}
theorem beh12 (hx : x.ok) (hf : Is t x f (some m)) (hN : nN t ≤ 8) (hk : nK t n = some m) (hT : nT t n = 12) {κ : List Lk} {p : Nat} {σ : Sp} {lk1 : Nat} {ws : List Wy} (hp : p ≤ nN t) (hF : lk1 + (x.2.1.1 + 8 * x.2.1.2) ≤ 990) (hP : ws.length + (x.2.2.2.1 + 1 + 8 * x.2.2.2.2) ≤ 490) :
    ∀ k, k ≤ p → Off t κ ws p lk1 (fun _ => x.2.1.1 + 8 * x.2.1.2) (fun _ => 0) ((behW f p σ k).take 1) (some (bef t n k ((12, ws.length, p, 0) :: κ) σ lk1 ws)) := by
  obtain ⟨hx1, hx2, hx3⟩ := hx
  have key : ∀ (k : Nat) (E : List Wy) (R : List (Nat × Sp)), k ≤ p → E.length ≤ 1 → Off t κ ws p lk1 (fun _ => x.2.1.1 + 8 * x.2.1.2) (fun _ => 0) (R.take 1) (popW t (E ++ ws)) →
      Off t κ ws p lk1 (fun _ => x.2.1.1 + 8 * x.2.1.2) (fun _ => 0) (((f k σ).filter (fun o => decide (o.1 = p)) ++ R).take 1) (some (some m, (12, ws.length, p, 0) :: κ, k, σ, lk1, E ++ ws)) := by
    intro k E R hkp hE hR
    have hB := mul8 (B := x.2.1.2) (show nN t - k ≤ 8 by omega)
    have hv := mul8 (B := x.2.2.2.2) (show nN t - k ≤ 8 by omega)
    have hbody := hf ((12, ws.length, p, 0) :: κ) k σ lk1 (E ++ ws) (by simp) (by omega) (by dsimp only [Pt.F]; omega) (by dsimp only [Pt.P]; rw [List.length_append]; omega)
    refine scan12 hp (fun p' S lk' σ' q1 q2 q3 q4 => ?_) (fun c hc => ?_) hR hbody
    · dsimp only [Pt.F, Pt.G] at q3 q4
      have m1 := Nat.mul_le_mul_left x.2.1.2 (show p' - k ≤ nN t - k by omega)
      have m2 := Nat.mul_le_mul hx2 (show p' - k ≤ nN t - k by omega)
      refine ⟨?_, ?_, by simp⟩
      · show lk' ≤ 990; omega
      · show (S ++ (E ++ ws)).length ≤ 490; rw [List.length_append, List.length_append]; omega
    · have m1 := mul8 (B := x.2.1.2) (show c ≤ 8 by omega)
      dsimp only [Pt.F]; omega
  intro k
  induction k with
  | zero =>
    intro h0
    have h := key 0 [] [] h0 (by simp) (Rc.refl t _)
    rw [List.append_nil] at h
    have e : bef t n 0 ((12, ws.length, p, 0) :: κ) σ lk1 ws = (some m, (12, ws.length, p, 0) :: κ, 0, σ, lk1, ws) := by unfold bef; rw [hk]; rfl
    rw [e]
    exact h
  | succ k ih =>
    intro h0
    have e : bef t n (k + 1) ((12, ws.length, p, 0) :: κ) σ lk1 ws = (some m, (12, ws.length, p, 0) :: κ, k + 1, σ, lk1, [(some n, some k, k, (12, ws.length, p, 0) :: κ, σ, lk1)] ++ ws) := by unfold bef; rw [hk]; rfl
    rw [e]
    refine key (k + 1) _ (behW f p σ k) h0 (by simp) ?_
    have e2 : popW t ([(some n, some k, k, (12, ws.length, p, 0) :: κ, σ, lk1)] ++ ws) = some (bef t n k ((12, ws.length, p, 0) :: κ) σ lk1 ws) := if_neg (by rw [hT]; decide)
    rw [e2]
    exact ih (by omega)
theorem beh13 (hx : x.ok) (hf : Is t x f (some m)) (hN : nN t ≤ 8) (hk : nK t n = some m) (hT : nT t n = 13) {κ : List Lk} {p : Nat} {σ : Sp} {lk1 : Nat} {w0 : Wy} {ws : List Wy} (hp : p ≤ nN t) (hF : lk1 + (x.2.1.1 + 8 * x.2.1.2) ≤ 990) (hP : ws.length + (x.2.2.2.1 + 2 + 8 * x.2.2.2.2) ≤ 490) :
    ∀ k, k ≤ p → Rc t (some (bef t n k ((13, ws.length, p, 0) :: κ) σ lk1 (w0 :: ws))) (if (behW f p σ k).isEmpty then popW t (w0 :: ws) else popW t ws) := by
  obtain ⟨hx1, hx2, hx3⟩ := hx
  have key : ∀ (k : Nat) (E : List Wy) (R : List (Nat × Sp)), k ≤ p → E.length ≤ 2 → Rc t (popW t (E ++ ws)) (if R.isEmpty then popW t (w0 :: ws) else popW t ws) →
      Rc t (some (some m, (13, ws.length, p, 0) :: κ, k, σ, lk1, E ++ ws)) (if ((f k σ).filter (fun o => decide (o.1 = p)) ++ R).isEmpty then popW t (w0 :: ws) else popW t ws) := by
    intro k E R hkp hE hR
    have hB := mul8 (B := x.2.1.2) (show nN t - k ≤ 8 by omega)
    have hv := mul8 (B := x.2.2.2.2) (show nN t - k ≤ 8 by omega)
    have hbody := hf ((13, ws.length, p, 0) :: κ) k σ lk1 (E ++ ws) (by simp) (by omega) (by dsimp only [Pt.F]; omega) (by dsimp only [Pt.P]; rw [List.length_append]; omega)
    refine scan13 (fun p' S lk' σ' q1 q2 q3 q4 => ?_) hR hbody
    dsimp only [Pt.F, Pt.G] at q3 q4
    have m1 := Nat.mul_le_mul_left x.2.1.2 (show p' - k ≤ nN t - k by omega)
    have m2 := Nat.mul_le_mul hx2 (show p' - k ≤ nN t - k by omega)
    refine ⟨?_, ?_, by simp⟩
    · show lk' ≤ 990; omega
    · show (S ++ (E ++ ws)).length ≤ 490; rw [List.length_append, List.length_append]; omega
  intro k
  induction k with
  | zero =>
    intro h0
    have h := key 0 [w0] [] h0 (by simp) (Rc.refl t _)
    rw [List.append_nil] at h
    have e : bef t n 0 ((13, ws.length, p, 0) :: κ) σ lk1 (w0 :: ws) = (some m, (13, ws.length, p, 0) :: κ, 0, σ, lk1, w0 :: ws) := by unfold bef; rw [hk]; rfl
    rw [e]
    exact h
  | succ k ih =>
    intro h0
    have e : bef t n (k + 1) ((13, ws.length, p, 0) :: κ) σ lk1 (w0 :: ws) = (some m, (13, ws.length, p, 0) :: κ, k + 1, σ, lk1, [(some n, some k, k, (13, ws.length, p, 0) :: κ, σ, lk1), w0] ++ ws) := by unfold bef; rw [hk]; rfl
    rw [e]
    refine key (k + 1) _ (behW f p σ k) h0 (by simp) ?_
    have e2 : popW t ([(some n, some k, k, (13, ws.length, p, 0) :: κ, σ, lk1), w0] ++ ws) = some (bef t n k ((13, ws.length, p, 0) :: κ) σ lk1 (w0 :: ws)) := if_neg (by rw [hT]; decide)
    rw [e2]
    exact ih (by omega)
theorem bk12 (hx : x.ok) (hf : Is t x f (some m)) (hN : nN t ≤ 8) (hk : nK t n = some m) {g : Nat} (hT : nT t n = 12) : Is t (bkP 12 x) (bkW 12 g f) (some n) := by
  intro κ p σ lk ws hκ hp hF hP
  have e1 : bkP 12 x = (false, (x.2.1.1 + 1 + 8 * x.2.1.2, 0), (0, 0), (x.2.2.2.1 + 2 + 8 * x.2.2.2.2, 0)) := rfl
  have e2 : bkW 12 g f p σ = (behW f p σ p).take 1 := rfl
  rw [e1] at hF hP ⊢
  rw [e2]
  have hst : stp t (some n, κ, p, σ, lk, ws) = some (bef t n p ((12, ws.length, p, 0) :: κ) σ (lk + 1) ws) := by
    show ent t n κ p σ lk ws = _
    unfold ent
    rw [hT]
    rfl
  refine Off.step ⟨Nat.le_trans (Nat.le_add_right _ _) hF, Nat.le_trans (Nat.le_add_right _ _) hP, hκ⟩ hst ?_
  dsimp only [Pt.F, Pt.P] at hF hP
  exact Off.mono (lk0 := lk + 1) (fun c => by dsimp only [Pt.F]; omega) (fun c => Nat.zero_le _) (beh12 hx hf hN hk hT hp (by omega) (by omega) p (Nat.le_refl _))
theorem bk13 (hx : x.ok) (hf : Is t x f (some m)) (hN : nN t ≤ 8) (hk : nK t n = some m) {g : Nat} (hT : nT t n = 13) : Is t (bkP 13 x) (bkW 13 g f) (some n) := by
  intro κ p σ lk ws hκ hp hF hP
  have e1 : bkP 13 x = (false, (x.2.1.1 + 1 + 8 * x.2.1.2, 0), (0, 0), (x.2.2.2.1 + 2 + 8 * x.2.2.2.2, 0)) := rfl
  have e2 : bkW 13 g f p σ = if (behW f p σ p).isEmpty then [(p, σ)] else [] := rfl
  rw [e1] at hF hP ⊢
  rw [e2]
  have hst : stp t (some n, κ, p, σ, lk, ws) = some (bef t n p ((13, ws.length, p, 0) :: κ) σ (lk + 1) ((none, none, p, κ, σ, lk) :: ws)) := by
    show ent t n κ p σ lk ws = _
    unfold ent
    rw [hT]
    rfl
  refine Off.step ⟨Nat.le_trans (Nat.le_add_right _ _) hF, Nat.le_trans (Nat.le_add_right _ _) hP, hκ⟩ hst ?_
  dsimp only [Pt.F, Pt.P] at hF hP
  have h := beh13 hx hf hN hk hT (κ := κ) (σ := σ) (lk1 := lk + 1) (w0 := (none, none, p, κ, σ, lk)) (ws := ws) hp (by omega) (by omega) p (Nat.le_refl _)
  by_cases he : (behW f p σ p).isEmpty
  · rw [if_pos he] at h ⊢
    exact Off.pre h (Off.here hp)
  · rw [if_neg he] at h ⊢
    exact h
end BK2
/-! leaves; a whole run -/
def lfP (z : Bool) : Pt := (z, (0, 0), (0, 0), (0, 0))
def lfW (t : Tn) (n : Nat) : Sm := fun p σ => match nL t n p σ with | some p' => [(p', σ)] | none => []
theorem lf_ok {z : Bool} : (lfP z).ok := ⟨Nat.le_refl _, Nat.le_refl _, fun _ => ⟨rfl, rfl, rfl⟩⟩
theorem lf_is {z : Bool} {n : Nat} (hT : 2 ≤ nT t n ∧ nT t n ≤ 7) (hl : ∀ p σ p', p ≤ nN t → nL t n p σ = some p' → p ≤ p' ∧ p' ≤ nN t) : Is t (lfP z) (lfW t n) (some n) := by
  intro κ p σ lk ws hκ hp hF hP
  have hs : saf (some n, κ, p, σ, lk, ws) := ⟨Nat.le_trans (Nat.le_add_right _ _) hF, Nat.le_trans (Nat.le_add_right _ _) hP, hκ⟩
  have hst : stp t (some n, κ, p, σ, lk, ws) = (match nL t n p σ with | some p' => some (none, κ, p', σ, lk, ws) | none => popW t ws) := by
    show ent t n κ p σ lk ws = _
    unfold ent
    obtain ⟨h1, h2⟩ := hT
    generalize nT t n = k at h1 h2
    rcases (show k = 2 ∨ k = 3 ∨ k = 4 ∨ k = 5 ∨ k = 6 ∨ k = 7 by omega) with rfl | rfl | rfl | rfl | rfl | rfl <;> rfl
  refine Off.step hs hst ?_
  unfold lfW
  cases h : nL t n p σ with
  | none => exact Rc.refl t _
  | some p' =>
    obtain ⟨q1, q2⟩ := hl p σ p' hp h
    exact ⟨q1, q2, [], lk, Rc.refl t _, Nat.le_add_right _ _, Nat.zero_le _, Rc.refl t _⟩
theorem lf_z {z : Bool} {n : Nat} (hz : z = false → ∀ p σ p', nL t n p σ = some p' → p' = p) : Zs (lfP z) (lfW t n) := fun h0 p σ o ho => by
  unfold lfW at ho
  cases h : nL t n p σ with
  | none => rw [h] at ho; cases ho
  | some p' =>
    rw [h] at ho
    rw [List.mem_singleton.mp ho]
    exact hz h0 p σ p' h
def endOK (t : Tn) (o : Nat × Sp) : Bool := decide (nW t = none ∨ nW t = some o.1)
theorem run_scan {F G : Nat → Nat} {p0 lk0 : Nat} (hsa : ∀ p' S lk' (σ' : Sp), p0 ≤ p' → p' ≤ nN t → lk' ≤ lk0 + F (p' - p0) → S.length ≤ G (p' - p0) → saf (none, [(23, 0, 0, 0)], p', σ', lk', S ++ [])) : ∀ {os : List (Nat × Sp)} {a : Option Cf}, Off t [(23, 0, 0, 0)] [] p0 lk0 F G os a →
    match os.find? (endOK t) with
    | some o => ∃ lk ws, Rc t a (some (none, [], o.1, o.2, lk, ws))
    | none => Rc t a none
  | [], _, h => h
  | o :: os, a, ⟨q1, q2, S, lk', q3, q4, q5, q6⟩ => by
    have hs := hsa o.1 S lk' o.2 q1 q2 q4 q5
    by_cases h : nW t = none ∨ nW t = some o.1
    · have e : (o :: os).find? (endOK t) = some o := List.find?_cons_of_pos (by unfold endOK; exact decide_eq_true h)
      rw [e]
      refine ⟨lk', S ++ [], q3.trans (Rc.one hs ?_)⟩
      show (if nW t = none ∨ nW t = some o.1 then some (none, [], o.1, o.2, lk', S ++ []) else popW t (S ++ [])) = _
      rw [if_pos h]
    · have e : (o :: os).find? (endOK t) = os.find? (endOK t) := List.find?_cons_of_neg (by unfold endOK; simp [h])
      rw [e]
      have hr : Rc t a (popW t (S ++ [])) := q3.trans (Rc.one hs (by
        show (if nW t = none ∨ nW t = some o.1 then some (none, [], o.1, o.2, lk', S ++ []) else popW t (S ++ [])) = _
        rw [if_neg h]))
      have ih := run_scan hsa q6
      cases hf : os.find? (endOK t) with
      | none => rw [hf] at ih; exact hr.trans ih
      | some o2 =>
        rw [hf] at ih
        obtain ⟨lk, ws, h9⟩ := ih
        exact ⟨lk, ws, hr.trans h9⟩
theorem run_all {x : Pt} {f : Sm} {n p : Nat} {σ : Sp} (hx : x.ok) (hf : Is t x f (some n)) (hN : nN t ≤ 8) (hp : p ≤ nN t) (hF : x.F 8 ≤ 989) (hP : x.P 8 ≤ 490) :
    match (f p σ).find? (endOK t) with
    | some o => ∃ lk ws, Rc t (some (some n, [(23, 0, 0, 0)], p, σ, 1, [])) (some (none, [], o.1, o.2, lk, ws))
    | none => Rc t (some (some n, [(23, 0, 0, 0)], p, σ, 1, [])) none := by
  obtain ⟨hx1, hx2, hx3⟩ := hx
  dsimp only [Pt.F, Pt.P] at hF hP
  have a1 := Nat.mul_le_mul_left x.2.1.2 (show nN t - p ≤ 8 by omega)
  have a2 := Nat.mul_le_mul_left x.2.2.2.2 (show nN t - p ≤ 8 by omega)
  refine run_scan (lk0 := 1) (F := x.F) (G := x.G) (fun p' S lk' σ' q1 q2 q3 q4 => ?_) (hf [(23, 0, 0, 0)] p σ 1 [] (by simp) hp (by dsimp only [Pt.F]; omega) (by dsimp only [Pt.P]; simp only [List.length_nil]; omega))
  dsimp only [Pt.F, Pt.G] at q3 q4
  have m1 := Nat.mul_le_mul_left x.2.1.2 (show p' - p ≤ 8 by omega)
  have m2 := Nat.mul_le_mul hx2 (show p' - p ≤ 8 by omega)
  refine ⟨?_, ?_, by simp⟩
  · show lk' ≤ 990; omega
  · show (S ++ []).length ≤ 490; rw [List.append_nil]; omega
/-! the trees' potentials by the number of their characters: a table for atoms, one for sequences, one for choices; a row a size: links, ways that stay, ways at most where no character is taken; links, links a character, ways that stay, a character, ways at most, a character, at eight characters -/
def tbl : List (List (List Nat)) := [[[0, 0, 0, 0, 0, 0, 0, 0, 0, 0], [0, 0, 0, 0, 0, 0, 0, 0, 0, 0], [1, 0, 0, 0, 0, 0, 0, 0, 0, 0], [1, 1, 1, 1, 0, 0, 0, 0, 0, 0], [2, 1, 1, 2, 1, 1, 1, 1, 1, 9], [3, 2, 2, 3, 1, 2, 1, 2, 1, 10], [10, 4, 10, 5, 2, 4, 1, 4, 1, 10], [11, 5, 11, 6, 4, 5, 3, 5, 3, 27], [21, 8, 12, 10, 5, 5, 4, 5, 4, 37], [38, 9, 28, 13, 8, 8, 6, 10, 6, 55], [50, 12, 38, 17, 11, 12, 9, 15, 9, 81], [77, 20, 56, 25, 16, 20, 10, 24, 10, 91], [105, 24, 82, 46, 22, 24, 15, 30, 15, 136], [153, 36, 92, 52, 29, 25, 22, 38, 22, 198], [222, 40, 137, 90, 42, 36, 31, 56, 31, 280]],
  [[0, 0, 0, 0, 0, 0, 0, 0, 0, 0], [0, 0, 0, 0, 0, 0, 0, 0, 0, 0], [1, 1, 1, 1, 1, 1, 1, 1, 1, 9], [2, 1, 1, 2, 1, 1, 1, 1, 1, 9], [4, 4, 4, 4, 2, 4, 1, 4, 1, 10], [8, 4, 4, 5, 4, 4, 3, 4, 3, 27], [10, 8, 10, 9, 5, 5, 4, 5, 4, 37], [12, 8, 15, 12, 8, 8, 6, 10, 6, 55], [21, 12, 17, 16, 11, 12, 9, 15, 9, 81], [44, 20, 30, 24, 16, 20, 10, 24, 10, 91], [50, 24, 38, 45, 22, 24, 15, 30, 15, 136], [88, 36, 56, 51, 29, 24, 22, 38, 22, 198], [156, 40, 82, 89, 42, 36, 31, 56, 31, 280], [204, 52, 107, 157, 69, 52, 40, 82, 40, 361], [312, 84, 140, 205, 82, 84, 48, 108, 48, 432]],
  [[0, 0, 0, 0, 0, 0, 0, 0, 0, 0], [0, 1, 1, 0, 0, 0, 0, 0, 0, 0], [1, 1, 1, 1, 1, 1, 1, 1, 1, 9], [2, 2, 2, 2, 1, 2, 1, 2, 1, 10], [4, 4, 4, 4, 2, 4, 1, 4, 1, 10], [8, 5, 5, 5, 4, 5, 3, 5, 3, 27], [10, 8, 10, 9, 5, 5, 4, 5, 4, 37], [12, 9, 15, 12, 8, 8, 6, 10, 6, 55], [21, 12, 17, 16, 11, 12, 9, 15, 9, 81], [44, 20, 30, 24, 16, 20, 10, 24, 10, 91], [50, 24, 38, 45, 22, 24, 15, 30, 15, 136], [88, 36, 56, 51, 29, 25, 22, 38, 22, 198], [156, 40, 82, 89, 42, 36, 31, 56, 31, 280], [204, 52, 107, 157, 69, 52, 40, 82, 40, 361], [312, 84, 140, 205, 82, 84, 48, 108, 48, 432]]]
def tb (c s k : Nat) : Nat := ((tbl.getD c []).getD s []).getD k 0
def Bd (c s : Nat) (x : Pt) : Prop := (x.1 = true → 1 ≤ s ∧ x.2.1.1 ≤ tb c s 3 ∧ x.2.1.2 ≤ tb c s 4 ∧ x.2.2.1.1 ≤ tb c s 5 ∧ x.2.2.1.2 ≤ tb c s 6 ∧ x.2.2.2.1 ≤ tb c s 7 ∧ x.2.2.2.2 ≤ tb c s 8 ∧ x.2.2.2.1 + 8 * x.2.2.2.2 ≤ tb c s 9) ∧ (x.1 = false → x.2.1.1 ≤ tb c s 0 ∧ x.2.2.1.1 ≤ tb c s 1 ∧ x.2.2.2.1 ≤ tb c s 2)
def le10 (c s c' s' : Nat) : Bool := (List.range 10).all (fun k => Nat.ble (tb c s k) (tb c' s' k))
theorem le10_at {c s c' s' : Nat} (h : le10 c s c' s' = true) {k : Nat} (hk : k < 10) : tb c s k ≤ tb c' s' k := by
  unfold le10 at h
  rw [List.all_eq_true] at h
  exact Nat.le_of_ble_eq_true (h k (List.mem_range.mpr hk))
theorem Bd.le {c s c' s' : Nat} {x : Pt} (h : Bd c s x) (hs : s ≤ s') (ht : le10 c s c' s' = true) : Bd c' s' x := by
  obtain ⟨h1, h2⟩ := h
  refine ⟨fun hz => ?_, fun hz => ?_⟩
  · obtain ⟨a0, a1, a2, a3, a4, a5, a6, a7⟩ := h1 hz
    exact ⟨by omega, Nat.le_trans a1 (le10_at ht (by decide)), Nat.le_trans a2 (le10_at ht (by decide)), Nat.le_trans a3 (le10_at ht (by decide)), Nat.le_trans a4 (le10_at ht (by decide)), Nat.le_trans a5 (le10_at ht (by decide)), Nat.le_trans a6 (le10_at ht (by decide)), Nat.le_trans a7 (le10_at ht (by decide))⟩
  · obtain ⟨a0, a1, a2⟩ := h2 hz
    exact ⟨Nat.le_trans a0 (le10_at ht (by decide)), Nat.le_trans a1 (le10_at ht (by decide)), Nat.le_trans a2 (le10_at ht (by decide))⟩
theorem tb_mono : ∀ c < 3, ∀ s < 15, ∀ s' < 15, s ≤ s' → le10 c s c s' = true := by decide +kernel
theorem tb_AS : ∀ s < 15, le10 0 s 1 s = true := by decide +kernel
theorem tb_SC : ∀ s < 15, le10 1 s 2 s = true := by decide +kernel
/-- one after the other -/
def ckT0_l (s : Nat) (r : Nat) : List (Nat × Nat) := [(tb 1 s 0 + tb 1 r 0 + 1, tb 1 (s + r) 0), (tb 1 s 1 + tb 1 r 1, tb 1 (s + r) 1), (tb 1 s 2, tb 1 (s + r) 2), (tb 1 s 1 + tb 1 r 2, tb 1 (s + r) 2)]
set_option maxRecDepth 100000 in
theorem ckT0_c : (List.range 15).all (fun s => (List.range 15).all (fun r => (!(decide (1 ≤ s) && decide (1 ≤ r) && decide (s + r ≤ 14)) || (ckT0_l s r).all (fun p => Nat.ble p.1 p.2)))) = true := by decide +kernel
theorem ckT0_k {s : Nat} {r : Nat} (h_s : s < 15) (h_r : r < 15) (g0 : 1 ≤ s) (g1 : 1 ≤ r) (g2 : s + r ≤ 14) : tb 1 s 0 + tb 1 r 0 + 1 ≤ tb 1 (s + r) 0 ∧ tb 1 s 1 + tb 1 r 1 ≤ tb 1 (s + r) 1 ∧ tb 1 s 2 ≤ tb 1 (s + r) 2 ∧ tb 1 s 1 + tb 1 r 2 ≤ tb 1 (s + r) 2 := by
  have h := ckT0_c
  rw [List.all_eq_true] at h
  have h := h s (List.mem_range.mpr h_s)
  rw [List.all_eq_true] at h
  have h := h r (List.mem_range.mpr h_r)
  simp only [decide_eq_true g0, decide_eq_true g1, decide_eq_true g2, Bool.and_self, Bool.not_true, Bool.false_or] at h
  simp only [ckT0_l, List.all_cons, List.all_nil, Bool.and_true, Bool.and_eq_true, Nat.ble_eq] at h
  exact h
def ckT1_l (s : Nat) (r : Nat) : List (Nat × Nat) := [(tb 1 s 3 + tb 1 r 3 + 1, tb 1 (s + r) 3), (tb 1 s 4, tb 1 (s + r) 4), (tb 1 r 4, tb 1 (s + r) 4), (tb 1 s 5 + tb 1 r 5, tb 1 (s + r) 5), (tb 1 s 6, tb 1 (s + r) 6), (tb 1 r 6, tb 1 (s + r) 6), (tb 1 s 7, tb 1 (s + r) 7), (tb 1 s 5 + tb 1 r 7, tb 1 (s + r) 7), (tb 1 s 8, tb 1 (s + r) 8), (tb 1 r 8, tb 1 (s + r) 8), (tb 1 s 9, tb 1 (s + r) 9), (tb 1 s 7 + 8 * tb 1 r 8, tb 1 (s + r) 9), (tb 1 s 5 + tb 1 r 7 + 8 * tb 1 s 8, tb 1 (s + r) 9), (tb 1 s 5 + tb 1 r 9, tb 1 (s + r) 9)]
set_option maxRecDepth 100000 in
theorem ckT1_c : (List.range 15).all (fun s => (List.range 15).all (fun r => (!(decide (1 ≤ s) && decide (1 ≤ r) && decide (s + r ≤ 14)) || (ckT1_l s r).all (fun p => Nat.ble p.1 p.2)))) = true := by decide +kernel
theorem ckT1_k {s : Nat} {r : Nat} (h_s : s < 15) (h_r : r < 15) (g0 : 1 ≤ s) (g1 : 1 ≤ r) (g2 : s + r ≤ 14) : tb 1 s 3 + tb 1 r 3 + 1 ≤ tb 1 (s + r) 3 ∧ tb 1 s 4 ≤ tb 1 (s + r) 4 ∧ tb 1 r 4 ≤ tb 1 (s + r) 4 ∧ tb 1 s 5 + tb 1 r 5 ≤ tb 1 (s + r) 5 ∧ tb 1 s 6 ≤ tb 1 (s + r) 6 ∧ tb 1 r 6 ≤ tb 1 (s + r) 6 ∧ tb 1 s 7 ≤ tb 1 (s + r) 7 ∧ tb 1 s 5 + tb 1 r 7 ≤ tb 1 (s + r) 7 ∧ tb 1 s 8 ≤ tb 1 (s + r) 8 ∧ tb 1 r 8 ≤ tb 1 (s + r) 8 ∧ tb 1 s 9 ≤ tb 1 (s + r) 9 ∧ tb 1 s 7 + 8 * tb 1 r 8 ≤ tb 1 (s + r) 9 ∧ tb 1 s 5 + tb 1 r 7 + 8 * tb 1 s 8 ≤ tb 1 (s + r) 9 ∧ tb 1 s 5 + tb 1 r 9 ≤ tb 1 (s + r) 9 := by
  have h := ckT1_c
  rw [List.all_eq_true] at h
  have h := h s (List.mem_range.mpr h_s)
  rw [List.all_eq_true] at h
  have h := h r (List.mem_range.mpr h_r)
  simp only [decide_eq_true g0, decide_eq_true g1, decide_eq_true g2, Bool.and_self, Bool.not_true, Bool.false_or] at h
  simp only [ckT1_l, List.all_cons, List.all_nil, Bool.and_true, Bool.and_eq_true, Nat.ble_eq] at h
  exact h
def ckT2_l (s : Nat) (r : Nat) : List (Nat × Nat) := [(tb 1 s 0 + tb 1 r 3 + 1, tb 1 (s + r) 3), (tb 1 s 1 + tb 1 r 5, tb 1 (s + r) 5), (tb 1 s 2, tb 1 (s + r) 7), (tb 1 s 1 + tb 1 r 7, tb 1 (s + r) 7), (tb 1 s 2 + 8 * tb 1 r 8, tb 1 (s + r) 9), (tb 1 s 1 + tb 1 r 9, tb 1 (s + r) 9)]
set_option maxRecDepth 100000 in
theorem ckT2_c : (List.range 15).all (fun s => (List.range 15).all (fun r => (!(decide (1 ≤ s) && decide (1 ≤ r) && decide (s + r ≤ 14)) || (ckT2_l s r).all (fun p => Nat.ble p.1 p.2)))) = true := by decide +kernel
theorem ckT2_k {s : Nat} {r : Nat} (h_s : s < 15) (h_r : r < 15) (g0 : 1 ≤ s) (g1 : 1 ≤ r) (g2 : s + r ≤ 14) : tb 1 s 0 + tb 1 r 3 + 1 ≤ tb 1 (s + r) 3 ∧ tb 1 s 1 + tb 1 r 5 ≤ tb 1 (s + r) 5 ∧ tb 1 s 2 ≤ tb 1 (s + r) 7 ∧ tb 1 s 1 + tb 1 r 7 ≤ tb 1 (s + r) 7 ∧ tb 1 s 2 + 8 * tb 1 r 8 ≤ tb 1 (s + r) 9 ∧ tb 1 s 1 + tb 1 r 9 ≤ tb 1 (s + r) 9 := by
  have h := ckT2_c
  rw [List.all_eq_true] at h
  have h := h s (List.mem_range.mpr h_s)
  rw [List.all_eq_true] at h
  have h := h r (List.mem_range.mpr h_r)
  simp only [decide_eq_true g0, decide_eq_true g1, decide_eq_true g2, Bool.and_self, Bool.not_true, Bool.false_or] at h
  simp only [ckT2_l, List.all_cons, List.all_nil, Bool.and_true, Bool.and_eq_true, Nat.ble_eq] at h
  exact h
def ckT3_l (s : Nat) (r : Nat) : List (Nat × Nat) := [(tb 1 s 3 + tb 1 r 0 + 1, tb 1 (s + r) 3), (tb 1 s 5 + tb 1 r 1, tb 1 (s + r) 5), (tb 1 s 7, tb 1 (s + r) 7), (tb 1 s 5 + tb 1 r 2, tb 1 (s + r) 7), (tb 1 s 5 + tb 1 r 2 + 8 * tb 1 s 8, tb 1 (s + r) 9)]
set_option maxRecDepth 100000 in
theorem ckT3_c : (List.range 15).all (fun s => (List.range 15).all (fun r => (!(decide (1 ≤ s) && decide (1 ≤ r) && decide (s + r ≤ 14)) || (ckT3_l s r).all (fun p => Nat.ble p.1 p.2)))) = true := by decide +kernel
theorem ckT3_k {s : Nat} {r : Nat} (h_s : s < 15) (h_r : r < 15) (g0 : 1 ≤ s) (g1 : 1 ≤ r) (g2 : s + r ≤ 14) : tb 1 s 3 + tb 1 r 0 + 1 ≤ tb 1 (s + r) 3 ∧ tb 1 s 5 + tb 1 r 1 ≤ tb 1 (s + r) 5 ∧ tb 1 s 7 ≤ tb 1 (s + r) 7 ∧ tb 1 s 5 + tb 1 r 2 ≤ tb 1 (s + r) 7 ∧ tb 1 s 5 + tb 1 r 2 + 8 * tb 1 s 8 ≤ tb 1 (s + r) 9 := by
  have h := ckT3_c
  rw [List.all_eq_true] at h
  have h := h s (List.mem_range.mpr h_s)
  rw [List.all_eq_true] at h
  have h := h r (List.mem_range.mpr h_r)
  simp only [decide_eq_true g0, decide_eq_true g1, decide_eq_true g2, Bool.and_self, Bool.not_true, Bool.false_or] at h
  simp only [ckT3_l, List.all_cons, List.all_nil, Bool.and_true, Bool.and_eq_true, Nat.ble_eq] at h
  exact h
abbrev ckThen (s r : Nat) : Prop :=
  (tb 1 s 0 + tb 1 r 0 + 1 ≤ tb 1 (s + r) 0 ∧ tb 1 s 1 + tb 1 r 1 ≤ tb 1 (s + r) 1 ∧ tb 1 s 2 ≤ tb 1 (s + r) 2 ∧ tb 1 s 1 + tb 1 r 2 ≤ tb 1 (s + r) 2) ∧
  (tb 1 s 3 + tb 1 r 3 + 1 ≤ tb 1 (s + r) 3 ∧ tb 1 s 4 ≤ tb 1 (s + r) 4 ∧ tb 1 r 4 ≤ tb 1 (s + r) 4 ∧ tb 1 s 5 + tb 1 r 5 ≤ tb 1 (s + r) 5 ∧ tb 1 s 6 ≤ tb 1 (s + r) 6 ∧ tb 1 r 6 ≤ tb 1 (s + r) 6 ∧ tb 1 s 7 ≤ tb 1 (s + r) 7 ∧ tb 1 s 5 + tb 1 r 7 ≤ tb 1 (s + r) 7 ∧ tb 1 s 8 ≤ tb 1 (s + r) 8 ∧ tb 1 r 8 ≤ tb 1 (s + r) 8 ∧ tb 1 s 9 ≤ tb 1 (s + r) 9 ∧ tb 1 s 7 + 8 * tb 1 r 8 ≤ tb 1 (s + r) 9 ∧ tb 1 s 5 + tb 1 r 7 + 8 * tb 1 s 8 ≤ tb 1 (s + r) 9 ∧ tb 1 s 5 + tb 1 r 9 ≤ tb 1 (s + r) 9) ∧
  (tb 1 s 0 + tb 1 r 3 + 1 ≤ tb 1 (s + r) 3 ∧ tb 1 s 1 + tb 1 r 5 ≤ tb 1 (s + r) 5 ∧ tb 1 s 2 ≤ tb 1 (s + r) 7 ∧ tb 1 s 1 + tb 1 r 7 ≤ tb 1 (s + r) 7 ∧ tb 1 s 2 + 8 * tb 1 r 8 ≤ tb 1 (s + r) 9 ∧ tb 1 s 1 + tb 1 r 9 ≤ tb 1 (s + r) 9) ∧
  (tb 1 s 3 + tb 1 r 0 + 1 ≤ tb 1 (s + r) 3 ∧ tb 1 s 5 + tb 1 r 1 ≤ tb 1 (s + r) 5 ∧ tb 1 s 7 ≤ tb 1 (s + r) 7 ∧ tb 1 s 5 + tb 1 r 2 ≤ tb 1 (s + r) 7 ∧ tb 1 s 5 + tb 1 r 2 + 8 * tb 1 s 8 ≤ tb 1 (s + r) 9)
theorem ck_then : ∀ s < 15, ∀ r < 15, 1 ≤ s → 1 ≤ r → s + r ≤ 14 → ckThen s r := fun s h1 r h2 g0 g1 g2 => ⟨ckT0_k h1 h2 g0 g1 g2, ckT1_k h1 h2 g0 g1 g2, ckT2_k h1 h2 g0 g1 g2, ckT3_k h1 h2 g0 g1 g2⟩
theorem bd_then {s r : Nat} {x y : Pt} (hx : x.ok) (hy : y.ok) (h1 : Bd 1 s x) (h2 : Bd 1 r y) (hs : 1 ≤ s) (hr : 1 ≤ r) (hsr : s + r ≤ 14) : Bd 1 (s + r) (thenP x y) := by
  obtain ⟨c1, c2, c3, c4⟩ := ck_then s (by omega) r (by omega) hs hr hsr
  obtain ⟨p1, p2⟩ := h1
  obtain ⟨q1, q2⟩ := h2
  obtain ⟨z, ⟨A, B⟩, ⟨a, b⟩, ⟨u, v⟩⟩ := x
  obtain ⟨z2, ⟨A2, B2⟩, ⟨a2, b2⟩, ⟨u2, v2⟩⟩ := y
  obtain ⟨-, -, ox⟩ := hx
  obtain ⟨-, -, oy⟩ := hy
  cases z <;> cases z2 <;> simp only [thenP, Bd, Bool.or_false, Bool.or_true, Bool.false_or, Bool.true_or, forall_const, false_implies, true_and, and_true, reduceCtorEq, imp_self, Bool.false_eq_true, Bool.true_eq_false] at *
  · omega
  · omega
  · omega
  · omega
/-- one or the other: TS s, TC r, and a bar -/
def ckO0_l (s : Nat) (r : Nat) : List (Nat × Nat) := [(tb 1 s 0, tb 2 (s + r + 1) 0), (tb 2 r 0, tb 2 (s + r + 1) 0), (tb 1 s 1 + 1, tb 2 (s + r + 1) 1), (tb 2 r 1, tb 2 (s + r + 1) 1), (tb 1 s 2 + 1, tb 2 (s + r + 1) 2), (tb 2 r 2, tb 2 (s + r + 1) 2)]
set_option maxRecDepth 100000 in
theorem ckO0_c : (List.range 15).all (fun s => (List.range 15).all (fun r => (!(decide (s + r + 1 ≤ 14)) || (ckO0_l s r).all (fun p => Nat.ble p.1 p.2)))) = true := by decide +kernel
theorem ckO0_k {s : Nat} {r : Nat} (h_s : s < 15) (h_r : r < 15) (g0 : s + r + 1 ≤ 14) : tb 1 s 0 ≤ tb 2 (s + r + 1) 0 ∧ tb 2 r 0 ≤ tb 2 (s + r + 1) 0 ∧ tb 1 s 1 + 1 ≤ tb 2 (s + r + 1) 1 ∧ tb 2 r 1 ≤ tb 2 (s + r + 1) 1 ∧ tb 1 s 2 + 1 ≤ tb 2 (s + r + 1) 2 ∧ tb 2 r 2 ≤ tb 2 (s + r + 1) 2 := by
  have h := ckO0_c
  rw [List.all_eq_true] at h
  have h := h s (List.mem_range.mpr h_s)
  rw [List.all_eq_true] at h
  have h := h r (List.mem_range.mpr h_r)
  simp only [decide_eq_true g0, Bool.and_self, Bool.not_true, Bool.false_or] at h
  simp only [ckO0_l, List.all_cons, List.all_nil, Bool.and_true, Bool.and_eq_true, Nat.ble_eq] at h
  exact h
def ckO1_l (s : Nat) (r : Nat) : List (Nat × Nat) := [(tb 1 s 3, tb 2 (s + r + 1) 3), (tb 2 r 3, tb 2 (s + r + 1) 3), (tb 1 s 4, tb 2 (s + r + 1) 4), (tb 2 r 4, tb 2 (s + r + 1) 4), (tb 1 s 5 + 1, tb 2 (s + r + 1) 5), (tb 2 r 5, tb 2 (s + r + 1) 5), (tb 1 s 6, tb 2 (s + r + 1) 6), (tb 2 r 6, tb 2 (s + r + 1) 6), (tb 1 s 7 + 1, tb 2 (s + r + 1) 7), (tb 2 r 7, tb 2 (s + r + 1) 7), (tb 1 s 8, tb 2 (s + r + 1) 8), (tb 2 r 8, tb 2 (s + r + 1) 8), (tb 1 s 9 + 1, tb 2 (s + r + 1) 9), (tb 1 s 7 + 1 + 8 * tb 2 r 8, tb 2 (s + r + 1) 9), (tb 2 r 7 + 8 * tb 1 s 8, tb 2 (s + r + 1) 9), (tb 2 r 9, tb 2 (s + r + 1) 9)]
set_option maxRecDepth 100000 in
theorem ckO1_c : (List.range 15).all (fun s => (List.range 15).all (fun r => (!(decide (s + r + 1 ≤ 14) && decide (1 ≤ s) && decide (1 ≤ r)) || (ckO1_l s r).all (fun p => Nat.ble p.1 p.2)))) = true := by decide +kernel
theorem ckO1_k {s : Nat} {r : Nat} (h_s : s < 15) (h_r : r < 15) (g0 : s + r + 1 ≤ 14) (g1 : 1 ≤ s) (g2 : 1 ≤ r) : tb 1 s 3 ≤ tb 2 (s + r + 1) 3 ∧ tb 2 r 3 ≤ tb 2 (s + r + 1) 3 ∧ tb 1 s 4 ≤ tb 2 (s + r + 1) 4 ∧ tb 2 r 4 ≤ tb 2 (s + r + 1) 4 ∧ tb 1 s 5 + 1 ≤ tb 2 (s + r + 1) 5 ∧ tb 2 r 5 ≤ tb 2 (s + r + 1) 5 ∧ tb 1 s 6 ≤ tb 2 (s + r + 1) 6 ∧ tb 2 r 6 ≤ tb 2 (s + r + 1) 6 ∧ tb 1 s 7 + 1 ≤ tb 2 (s + r + 1) 7 ∧ tb 2 r 7 ≤ tb 2 (s + r + 1) 7 ∧ tb 1 s 8 ≤ tb 2 (s + r + 1) 8 ∧ tb 2 r 8 ≤ tb 2 (s + r + 1) 8 ∧ tb 1 s 9 + 1 ≤ tb 2 (s + r + 1) 9 ∧ tb 1 s 7 + 1 + 8 * tb 2 r 8 ≤ tb 2 (s + r + 1) 9 ∧ tb 2 r 7 + 8 * tb 1 s 8 ≤ tb 2 (s + r + 1) 9 ∧ tb 2 r 9 ≤ tb 2 (s + r + 1) 9 := by
  have h := ckO1_c
  rw [List.all_eq_true] at h
  have h := h s (List.mem_range.mpr h_s)
  rw [List.all_eq_true] at h
  have h := h r (List.mem_range.mpr h_r)
  simp only [decide_eq_true g0, decide_eq_true g1, decide_eq_true g2, Bool.and_self, Bool.not_true, Bool.false_or] at h
  simp only [ckO1_l, List.all_cons, List.all_nil, Bool.and_true, Bool.and_eq_true, Nat.ble_eq] at h
  exact h
def ckO2_l (s : Nat) (r : Nat) : List (Nat × Nat) := [(tb 1 s 0, tb 2 (s + r + 1) 3), (tb 2 r 3, tb 2 (s + r + 1) 3), (tb 2 r 4, tb 2 (s + r + 1) 4), (tb 1 s 1 + 1, tb 2 (s + r + 1) 5), (tb 2 r 5, tb 2 (s + r + 1) 5), (tb 2 r 6, tb 2 (s + r + 1) 6), (tb 1 s 2 + 1, tb 2 (s + r + 1) 7), (tb 2 r 7, tb 2 (s + r + 1) 7), (tb 2 r 8, tb 2 (s + r + 1) 8), (tb 1 s 2 + 1 + 8 * tb 2 r 8, tb 2 (s + r + 1) 9), (tb 2 r 9, tb 2 (s + r + 1) 9)]
set_option maxRecDepth 100000 in
theorem ckO2_c : (List.range 15).all (fun s => (List.range 15).all (fun r => (!(decide (s + r + 1 ≤ 14) && decide (1 ≤ r)) || (ckO2_l s r).all (fun p => Nat.ble p.1 p.2)))) = true := by decide +kernel
theorem ckO2_k {s : Nat} {r : Nat} (h_s : s < 15) (h_r : r < 15) (g0 : s + r + 1 ≤ 14) (g1 : 1 ≤ r) : tb 1 s 0 ≤ tb 2 (s + r + 1) 3 ∧ tb 2 r 3 ≤ tb 2 (s + r + 1) 3 ∧ tb 2 r 4 ≤ tb 2 (s + r + 1) 4 ∧ tb 1 s 1 + 1 ≤ tb 2 (s + r + 1) 5 ∧ tb 2 r 5 ≤ tb 2 (s + r + 1) 5 ∧ tb 2 r 6 ≤ tb 2 (s + r + 1) 6 ∧ tb 1 s 2 + 1 ≤ tb 2 (s + r + 1) 7 ∧ tb 2 r 7 ≤ tb 2 (s + r + 1) 7 ∧ tb 2 r 8 ≤ tb 2 (s + r + 1) 8 ∧ tb 1 s 2 + 1 + 8 * tb 2 r 8 ≤ tb 2 (s + r + 1) 9 ∧ tb 2 r 9 ≤ tb 2 (s + r + 1) 9 := by
  have h := ckO2_c
  rw [List.all_eq_true] at h
  have h := h s (List.mem_range.mpr h_s)
  rw [List.all_eq_true] at h
  have h := h r (List.mem_range.mpr h_r)
  simp only [decide_eq_true g0, decide_eq_true g1, Bool.and_self, Bool.not_true, Bool.false_or] at h
  simp only [ckO2_l, List.all_cons, List.all_nil, Bool.and_true, Bool.and_eq_true, Nat.ble_eq] at h
  exact h
def ckO3_l (s : Nat) (r : Nat) : List (Nat × Nat) := [(tb 1 s 3, tb 2 (s + r + 1) 3), (tb 2 r 0, tb 2 (s + r + 1) 3), (tb 1 s 4, tb 2 (s + r + 1) 4), (tb 1 s 5 + 1, tb 2 (s + r + 1) 5), (tb 2 r 1, tb 2 (s + r + 1) 5), (tb 1 s 6, tb 2 (s + r + 1) 6), (tb 1 s 7 + 1, tb 2 (s + r + 1) 7), (tb 2 r 2, tb 2 (s + r + 1) 7), (tb 1 s 8, tb 2 (s + r + 1) 8), (tb 1 s 9 + 1, tb 2 (s + r + 1) 9), (tb 2 r 2 + 8 * tb 1 s 8, tb 2 (s + r + 1) 9)]
set_option maxRecDepth 100000 in
theorem ckO3_c : (List.range 15).all (fun s => (List.range 15).all (fun r => (!(decide (s + r + 1 ≤ 14) && decide (1 ≤ s)) || (ckO3_l s r).all (fun p => Nat.ble p.1 p.2)))) = true := by decide +kernel
theorem ckO3_k {s : Nat} {r : Nat} (h_s : s < 15) (h_r : r < 15) (g0 : s + r + 1 ≤ 14) (g1 : 1 ≤ s) : tb 1 s 3 ≤ tb 2 (s + r + 1) 3 ∧ tb 2 r 0 ≤ tb 2 (s + r + 1) 3 ∧ tb 1 s 4 ≤ tb 2 (s + r + 1) 4 ∧ tb 1 s 5 + 1 ≤ tb 2 (s + r + 1) 5 ∧ tb 2 r 1 ≤ tb 2 (s + r + 1) 5 ∧ tb 1 s 6 ≤ tb 2 (s + r + 1) 6 ∧ tb 1 s 7 + 1 ≤ tb 2 (s + r + 1) 7 ∧ tb 2 r 2 ≤ tb 2 (s + r + 1) 7 ∧ tb 1 s 8 ≤ tb 2 (s + r + 1) 8 ∧ tb 1 s 9 + 1 ≤ tb 2 (s + r + 1) 9 ∧ tb 2 r 2 + 8 * tb 1 s 8 ≤ tb 2 (s + r + 1) 9 := by
  have h := ckO3_c
  rw [List.all_eq_true] at h
  have h := h s (List.mem_range.mpr h_s)
  rw [List.all_eq_true] at h
  have h := h r (List.mem_range.mpr h_r)
  simp only [decide_eq_true g0, decide_eq_true g1, Bool.and_self, Bool.not_true, Bool.false_or] at h
  simp only [ckO3_l, List.all_cons, List.all_nil, Bool.and_true, Bool.and_eq_true, Nat.ble_eq] at h
  exact h
abbrev ckOr (s r : Nat) : Prop :=
  (tb 1 s 0 ≤ tb 2 (s + r + 1) 0 ∧ tb 2 r 0 ≤ tb 2 (s + r + 1) 0 ∧ tb 1 s 1 + 1 ≤ tb 2 (s + r + 1) 1 ∧ tb 2 r 1 ≤ tb 2 (s + r + 1) 1 ∧ tb 1 s 2 + 1 ≤ tb 2 (s + r + 1) 2 ∧ tb 2 r 2 ≤ tb 2 (s + r + 1) 2) ∧
  (1 ≤ s → 1 ≤ r → tb 1 s 3 ≤ tb 2 (s + r + 1) 3 ∧ tb 2 r 3 ≤ tb 2 (s + r + 1) 3 ∧ tb 1 s 4 ≤ tb 2 (s + r + 1) 4 ∧ tb 2 r 4 ≤ tb 2 (s + r + 1) 4 ∧ tb 1 s 5 + 1 ≤ tb 2 (s + r + 1) 5 ∧ tb 2 r 5 ≤ tb 2 (s + r + 1) 5 ∧ tb 1 s 6 ≤ tb 2 (s + r + 1) 6 ∧ tb 2 r 6 ≤ tb 2 (s + r + 1) 6 ∧ tb 1 s 7 + 1 ≤ tb 2 (s + r + 1) 7 ∧ tb 2 r 7 ≤ tb 2 (s + r + 1) 7 ∧ tb 1 s 8 ≤ tb 2 (s + r + 1) 8 ∧ tb 2 r 8 ≤ tb 2 (s + r + 1) 8 ∧ tb 1 s 9 + 1 ≤ tb 2 (s + r + 1) 9 ∧ tb 1 s 7 + 1 + 8 * tb 2 r 8 ≤ tb 2 (s + r + 1) 9 ∧ tb 2 r 7 + 8 * tb 1 s 8 ≤ tb 2 (s + r + 1) 9 ∧ tb 2 r 9 ≤ tb 2 (s + r + 1) 9) ∧
  (1 ≤ r → tb 1 s 0 ≤ tb 2 (s + r + 1) 3 ∧ tb 2 r 3 ≤ tb 2 (s + r + 1) 3 ∧ tb 2 r 4 ≤ tb 2 (s + r + 1) 4 ∧ tb 1 s 1 + 1 ≤ tb 2 (s + r + 1) 5 ∧ tb 2 r 5 ≤ tb 2 (s + r + 1) 5 ∧ tb 2 r 6 ≤ tb 2 (s + r + 1) 6 ∧ tb 1 s 2 + 1 ≤ tb 2 (s + r + 1) 7 ∧ tb 2 r 7 ≤ tb 2 (s + r + 1) 7 ∧ tb 2 r 8 ≤ tb 2 (s + r + 1) 8 ∧ tb 1 s 2 + 1 + 8 * tb 2 r 8 ≤ tb 2 (s + r + 1) 9 ∧ tb 2 r 9 ≤ tb 2 (s + r + 1) 9) ∧
  (1 ≤ s → tb 1 s 3 ≤ tb 2 (s + r + 1) 3 ∧ tb 2 r 0 ≤ tb 2 (s + r + 1) 3 ∧ tb 1 s 4 ≤ tb 2 (s + r + 1) 4 ∧ tb 1 s 5 + 1 ≤ tb 2 (s + r + 1) 5 ∧ tb 2 r 1 ≤ tb 2 (s + r + 1) 5 ∧ tb 1 s 6 ≤ tb 2 (s + r + 1) 6 ∧ tb 1 s 7 + 1 ≤ tb 2 (s + r + 1) 7 ∧ tb 2 r 2 ≤ tb 2 (s + r + 1) 7 ∧ tb 1 s 8 ≤ tb 2 (s + r + 1) 8 ∧ tb 1 s 9 + 1 ≤ tb 2 (s + r + 1) 9 ∧ tb 2 r 2 + 8 * tb 1 s 8 ≤ tb 2 (s + r + 1) 9)
theorem ck_or : ∀ s < 15, ∀ r < 15, s + r + 1 ≤ 14 → ckOr s r := fun s h1 r h2 g0 => ⟨ckO0_k h1 h2 g0, fun a0 a1 => ckO1_k h1 h2 g0 a0 a1, fun a0 => ckO2_k h1 h2 g0 a0, fun a0 => ckO3_k h1 h2 g0 a0⟩
theorem bd_or {s r : Nat} {x y : Pt} (hx : x.ok) (hy : y.ok) (h1 : Bd 1 s x) (h2 : Bd 2 r y) (hsr : s + r + 1 ≤ 14) : Bd 2 (s + r + 1) (orP x y) := by
  obtain ⟨c1, c2, c3, c4⟩ := ck_or s (by omega) r (by omega) hsr
  obtain ⟨p1, p2⟩ := h1
  obtain ⟨q1, q2⟩ := h2
  obtain ⟨z, ⟨A, B⟩, ⟨a, b⟩, ⟨u, v⟩⟩ := x
  obtain ⟨z2, ⟨A2, B2⟩, ⟨a2, b2⟩, ⟨u2, v2⟩⟩ := y
  obtain ⟨-, -, ox⟩ := hx
  obtain ⟨-, -, oy⟩ := hy
  cases z <;> cases z2 <;> simp only [orP, Bd, Bool.or_false, Bool.or_true, Bool.false_or, Bool.true_or, forall_const, false_implies, true_and, and_true, reduceCtorEq, imp_self, Bool.false_eq_true, Bool.true_eq_false] at *
  · omega
  · have c3 := c3 q1.1; omega
  · have c4 := c4 p1.1; omega
  · have c2 := c2 p1.1 q1.1; omega
/-- what a loop costs -/
def lpc (l : Lp) : Nat := (match l.2.1 with | none => if l.1 ≤ 1 then 1 else 4 | some M => if l.1 = 0 ∧ M = 1 then 1 else if l.1 = M then 3 else 5) + (if l.2.2 = 0 then 0 else 1)
abbrev ckLop (s m e k : Nat) (po : Bool) : Prop :=
  ((1 + tb 0 s 0) * m + (if po then 1 else 0) ≤ tb 1 (s + k) 0 ∧ (if po then 0 else (1 + tb 0 s 1) * m) ≤ tb 1 (s + k) 1 ∧ (1 + tb 0 s 1) * m + tb 0 s 2 ≤ tb 1 (s + k) 2) ∧
  ((1 + tb 0 s 3) * m + (if po then 1 else 0) ≤ tb 1 (s + k) 3 ∧ e * (1 + tb 0 s 3) + tb 0 s 4 ≤ tb 1 (s + k) 4 ∧ (if po then 0 else (1 + tb 0 s 5) * m) ≤ tb 1 (s + k) 5 ∧ (if po then 0 else e * (1 + tb 0 s 5) + tb 0 s 6) ≤ tb 1 (s + k) 6 ∧ (1 + tb 0 s 5) * m + tb 0 s 7 ≤ tb 1 (s + k) 7 ∧ e * (1 + tb 0 s 5) + tb 0 s 8 ≤ tb 1 (s + k) 8 ∧ (1 + tb 0 s 5) * m + 8 * (e * (1 + tb 0 s 5)) + tb 0 s 9 ≤ tb 1 (s + k) 9)
theorem bd_lop_ {s m e k : Nat} {po : Bool} {x : Pt} (hx : x.ok) (h : Bd 0 s x) (hm : m ≤ 4) (he : e ≤ 1) (c : ckLop s m e k po) : Bd 1 (s + k) (if po then ((lpP x m e).1, ((lpP x m e).2.1.1 + 1, (lpP x m e).2.1.2), (0, 0), (lpP x m e).2.2.2) else lpP x m e) := by
  obtain ⟨c1, c2⟩ := c
  obtain ⟨p1, p2⟩ := h
  obtain ⟨z, ⟨A, B⟩, ⟨a, b⟩, ⟨u, v⟩⟩ := x
  obtain ⟨-, -, ox⟩ := hx
  have hm' : m = 0 ∨ m = 1 ∨ m = 2 ∨ m = 3 ∨ m = 4 := by omega
  have he' : e = 0 ∨ e = 1 := by omega
  cases po <;> cases z <;> simp only [lpP, Bd, forall_const, false_implies, true_and, and_true, reduceCtorEq, imp_self, Bool.false_eq_true, Bool.true_eq_false, if_true, if_false, ↓reduceIte] at * <;> rcases hm' with rfl | rfl | rfl | rfl | rfl <;> rcases he' with rfl | rfl <;> omega
def ckLlop0_0_l (s : Nat) (m : Nat) (po : Bool) : List (Nat × Nat) := [((1 + tb 0 s 0) * m + (if po then 1 else 0), tb 1 (s + ((if m = 1 then 1 else 3) + (if po then 1 else 0))) 0), ((if po then 0 else (1 + tb 0 s 1) * m), tb 1 (s + ((if m = 1 then 1 else 3) + (if po then 1 else 0))) 1), ((1 + tb 0 s 1) * m + tb 0 s 2, tb 1 (s + ((if m = 1 then 1 else 3) + (if po then 1 else 0))) 2)]
set_option maxRecDepth 100000 in
theorem ckLlop0_0_c : (List.range 15).all (fun s => (List.range 5).all (fun m => ([false, true]).all (fun po => (!(decide (s ≥ 1) && decide (s + (if m = 1 then 1 else 3) + (if po then 1 else 0) ≤ 14)) || (ckLlop0_0_l s m po).all (fun p => Nat.ble p.1 p.2))))) = true := by decide +kernel
theorem ckLlop0_0_k {s : Nat} {m : Nat} {po : Bool} (h_s : s < 15) (h_m : m < 5) (g0 : s ≥ 1) (g1 : s + (if m = 1 then 1 else 3) + (if po then 1 else 0) ≤ 14) : (1 + tb 0 s 0) * m + (if po then 1 else 0) ≤ tb 1 (s + ((if m = 1 then 1 else 3) + (if po then 1 else 0))) 0 ∧ (if po then 0 else (1 + tb 0 s 1) * m) ≤ tb 1 (s + ((if m = 1 then 1 else 3) + (if po then 1 else 0))) 1 ∧ (1 + tb 0 s 1) * m + tb 0 s 2 ≤ tb 1 (s + ((if m = 1 then 1 else 3) + (if po then 1 else 0))) 2 := by
  have h := ckLlop0_0_c
  rw [List.all_eq_true] at h
  have h := h s (List.mem_range.mpr h_s)
  rw [List.all_eq_true] at h
  have h := h m (List.mem_range.mpr h_m)
  rw [List.all_eq_true] at h
  have h := h po (by cases po <;> simp)
  simp only [decide_eq_true g0, decide_eq_true g1, Bool.and_self, Bool.not_true, Bool.false_or] at h
  simp only [ckLlop0_0_l, List.all_cons, List.all_nil, Bool.and_true, Bool.and_eq_true, Nat.ble_eq] at h
  exact h
def ckLlop0_1_l (s : Nat) (m : Nat) (po : Bool) : List (Nat × Nat) := [((1 + tb 0 s 3) * m + (if po then 1 else 0), tb 1 (s + ((if m = 1 then 1 else 3) + (if po then 1 else 0))) 3), (0 * (1 + tb 0 s 3) + tb 0 s 4, tb 1 (s + ((if m = 1 then 1 else 3) + (if po then 1 else 0))) 4), ((if po then 0 else (1 + tb 0 s 5) * m), tb 1 (s + ((if m = 1 then 1 else 3) + (if po then 1 else 0))) 5), ((if po then 0 else 0 * (1 + tb 0 s 5) + tb 0 s 6), tb 1 (s + ((if m = 1 then 1 else 3) + (if po then 1 else 0))) 6), ((1 + tb 0 s 5) * m + tb 0 s 7, tb 1 (s + ((if m = 1 then 1 else 3) + (if po then 1 else 0))) 7), (0 * (1 + tb 0 s 5) + tb 0 s 8, tb 1 (s + ((if m = 1 then 1 else 3) + (if po then 1 else 0))) 8), ((1 + tb 0 s 5) * m + 8 * (0 * (1 + tb 0 s 5)) + tb 0 s 9, tb 1 (s + ((if m = 1 then 1 else 3) + (if po then 1 else 0))) 9)]
set_option maxRecDepth 100000 in
theorem ckLlop0_1_c : (List.range 15).all (fun s => (List.range 5).all (fun m => ([false, true]).all (fun po => (!(decide (s ≥ 1) && decide (s + (if m = 1 then 1 else 3) + (if po then 1 else 0) ≤ 14)) || (ckLlop0_1_l s m po).all (fun p => Nat.ble p.1 p.2))))) = true := by decide +kernel
theorem ckLlop0_1_k {s : Nat} {m : Nat} {po : Bool} (h_s : s < 15) (h_m : m < 5) (g0 : s ≥ 1) (g1 : s + (if m = 1 then 1 else 3) + (if po then 1 else 0) ≤ 14) : (1 + tb 0 s 3) * m + (if po then 1 else 0) ≤ tb 1 (s + ((if m = 1 then 1 else 3) + (if po then 1 else 0))) 3 ∧ 0 * (1 + tb 0 s 3) + tb 0 s 4 ≤ tb 1 (s + ((if m = 1 then 1 else 3) + (if po then 1 else 0))) 4 ∧ (if po then 0 else (1 + tb 0 s 5) * m) ≤ tb 1 (s + ((if m = 1 then 1 else 3) + (if po then 1 else 0))) 5 ∧ (if po then 0 else 0 * (1 + tb 0 s 5) + tb 0 s 6) ≤ tb 1 (s + ((if m = 1 then 1 else 3) + (if po then 1 else 0))) 6 ∧ (1 + tb 0 s 5) * m + tb 0 s 7 ≤ tb 1 (s + ((if m = 1 then 1 else 3) + (if po then 1 else 0))) 7 ∧ 0 * (1 + tb 0 s 5) + tb 0 s 8 ≤ tb 1 (s + ((if m = 1 then 1 else 3) + (if po then 1 else 0))) 8 ∧ (1 + tb 0 s 5) * m + 8 * (0 * (1 + tb 0 s 5)) + tb 0 s 9 ≤ tb 1 (s + ((if m = 1 then 1 else 3) + (if po then 1 else 0))) 9 := by
  have h := ckLlop0_1_c
  rw [List.all_eq_true] at h
  have h := h s (List.mem_range.mpr h_s)
  rw [List.all_eq_true] at h
  have h := h m (List.mem_range.mpr h_m)
  rw [List.all_eq_true] at h
  have h := h po (by cases po <;> simp)
  simp only [decide_eq_true g0, decide_eq_true g1, Bool.and_self, Bool.not_true, Bool.false_or] at h
  simp only [ckLlop0_1_l, List.all_cons, List.all_nil, Bool.and_true, Bool.and_eq_true, Nat.ble_eq] at h
  exact h
theorem ck_lop0 : ∀ s < 15, ∀ m < 5, ∀ po : Bool, s ≥ 1 → s + (if m = 1 then 1 else 3) + (if po then 1 else 0) ≤ 14 → ckLop s m 0 ((if m = 1 then 1 else 3) + (if po then 1 else 0)) po := fun s h1 m h2 po g0 g1 => ⟨ckLlop0_0_k h1 h2 g0 g1, ckLlop0_1_k h1 h2 g0 g1⟩
def ckLlop1_0_l (s : Nat) (m : Nat) (po : Bool) : List (Nat × Nat) := [((1 + tb 0 s 0) * m + (if po then 1 else 0), tb 1 (s + ((if m = 1 then 1 else 4) + (if po then 1 else 0))) 0), ((if po then 0 else (1 + tb 0 s 1) * m), tb 1 (s + ((if m = 1 then 1 else 4) + (if po then 1 else 0))) 1), ((1 + tb 0 s 1) * m + tb 0 s 2, tb 1 (s + ((if m = 1 then 1 else 4) + (if po then 1 else 0))) 2)]
set_option maxRecDepth 100000 in
theorem ckLlop1_0_c : (List.range 15).all (fun s => (List.range 5).all (fun m => ([false, true]).all (fun po => (!(decide (s ≥ 1) && decide (1 ≤ m) && decide (s + (if m = 1 then 1 else 4) + (if po then 1 else 0) ≤ 14)) || (ckLlop1_0_l s m po).all (fun p => Nat.ble p.1 p.2))))) = true := by decide +kernel
theorem ckLlop1_0_k {s : Nat} {m : Nat} {po : Bool} (h_s : s < 15) (h_m : m < 5) (g0 : s ≥ 1) (g1 : 1 ≤ m) (g2 : s + (if m = 1 then 1 else 4) + (if po then 1 else 0) ≤ 14) : (1 + tb 0 s 0) * m + (if po then 1 else 0) ≤ tb 1 (s + ((if m = 1 then 1 else 4) + (if po then 1 else 0))) 0 ∧ (if po then 0 else (1 + tb 0 s 1) * m) ≤ tb 1 (s + ((if m = 1 then 1 else 4) + (if po then 1 else 0))) 1 ∧ (1 + tb 0 s 1) * m + tb 0 s 2 ≤ tb 1 (s + ((if m = 1 then 1 else 4) + (if po then 1 else 0))) 2 := by
  have h := ckLlop1_0_c
  rw [List.all_eq_true] at h
  have h := h s (List.mem_range.mpr h_s)
  rw [List.all_eq_true] at h
  have h := h m (List.mem_range.mpr h_m)
  rw [List.all_eq_true] at h
  have h := h po (by cases po <;> simp)
  simp only [decide_eq_true g0, decide_eq_true g1, decide_eq_true g2, Bool.and_self, Bool.not_true, Bool.false_or] at h
  simp only [ckLlop1_0_l, List.all_cons, List.all_nil, Bool.and_true, Bool.and_eq_true, Nat.ble_eq] at h
  exact h
def ckLlop1_1_l (s : Nat) (m : Nat) (po : Bool) : List (Nat × Nat) := [((1 + tb 0 s 3) * m + (if po then 1 else 0), tb 1 (s + ((if m = 1 then 1 else 4) + (if po then 1 else 0))) 3), (1 * (1 + tb 0 s 3) + tb 0 s 4, tb 1 (s + ((if m = 1 then 1 else 4) + (if po then 1 else 0))) 4), ((if po then 0 else (1 + tb 0 s 5) * m), tb 1 (s + ((if m = 1 then 1 else 4) + (if po then 1 else 0))) 5), ((if po then 0 else 1 * (1 + tb 0 s 5) + tb 0 s 6), tb 1 (s + ((if m = 1 then 1 else 4) + (if po then 1 else 0))) 6), ((1 + tb 0 s 5) * m + tb 0 s 7, tb 1 (s + ((if m = 1 then 1 else 4) + (if po then 1 else 0))) 7), (1 * (1 + tb 0 s 5) + tb 0 s 8, tb 1 (s + ((if m = 1 then 1 else 4) + (if po then 1 else 0))) 8), ((1 + tb 0 s 5) * m + 8 * (1 * (1 + tb 0 s 5)) + tb 0 s 9, tb 1 (s + ((if m = 1 then 1 else 4) + (if po then 1 else 0))) 9)]
set_option maxRecDepth 100000 in
theorem ckLlop1_1_c : (List.range 15).all (fun s => (List.range 5).all (fun m => ([false, true]).all (fun po => (!(decide (s ≥ 1) && decide (1 ≤ m) && decide (s + (if m = 1 then 1 else 4) + (if po then 1 else 0) ≤ 14)) || (ckLlop1_1_l s m po).all (fun p => Nat.ble p.1 p.2))))) = true := by decide +kernel
theorem ckLlop1_1_k {s : Nat} {m : Nat} {po : Bool} (h_s : s < 15) (h_m : m < 5) (g0 : s ≥ 1) (g1 : 1 ≤ m) (g2 : s + (if m = 1 then 1 else 4) + (if po then 1 else 0) ≤ 14) : (1 + tb 0 s 3) * m + (if po then 1 else 0) ≤ tb 1 (s + ((if m = 1 then 1 else 4) + (if po then 1 else 0))) 3 ∧ 1 * (1 + tb 0 s 3) + tb 0 s 4 ≤ tb 1 (s + ((if m = 1 then 1 else 4) + (if po then 1 else 0))) 4 ∧ (if po then 0 else (1 + tb 0 s 5) * m) ≤ tb 1 (s + ((if m = 1 then 1 else 4) + (if po then 1 else 0))) 5 ∧ (if po then 0 else 1 * (1 + tb 0 s 5) + tb 0 s 6) ≤ tb 1 (s + ((if m = 1 then 1 else 4) + (if po then 1 else 0))) 6 ∧ (1 + tb 0 s 5) * m + tb 0 s 7 ≤ tb 1 (s + ((if m = 1 then 1 else 4) + (if po then 1 else 0))) 7 ∧ 1 * (1 + tb 0 s 5) + tb 0 s 8 ≤ tb 1 (s + ((if m = 1 then 1 else 4) + (if po then 1 else 0))) 8 ∧ (1 + tb 0 s 5) * m + 8 * (1 * (1 + tb 0 s 5)) + tb 0 s 9 ≤ tb 1 (s + ((if m = 1 then 1 else 4) + (if po then 1 else 0))) 9 := by
  have h := ckLlop1_1_c
  rw [List.all_eq_true] at h
  have h := h s (List.mem_range.mpr h_s)
  rw [List.all_eq_true] at h
  have h := h m (List.mem_range.mpr h_m)
  rw [List.all_eq_true] at h
  have h := h po (by cases po <;> simp)
  simp only [decide_eq_true g0, decide_eq_true g1, decide_eq_true g2, Bool.and_self, Bool.not_true, Bool.false_or] at h
  simp only [ckLlop1_1_l, List.all_cons, List.all_nil, Bool.and_true, Bool.and_eq_true, Nat.ble_eq] at h
  exact h
theorem ck_lop1 : ∀ s < 15, ∀ m < 5, ∀ po : Bool, s ≥ 1 → 1 ≤ m → s + (if m = 1 then 1 else 4) + (if po then 1 else 0) ≤ 14 → ckLop s m 1 ((if m = 1 then 1 else 4) + (if po then 1 else 0)) po := fun s h1 m h2 po g0 g1 g2 => ⟨ckLlop1_0_k h1 h2 g0 g1 g2, ckLlop1_1_k h1 h2 g0 g1 g2⟩
theorem bd_lop {s : Nat} {x : Pt} {l : Lp} (hx : x.ok) (h : Bd 0 s x) (hs : 1 ≤ s) (ha : l.1 ≤ 4) (hab : ∀ M, l.2.1 = some M → l.1 ≤ M ∧ M ≤ 4) (hsk : s + lpc l ≤ 14) : Bd 1 (s + lpc l) (lopP x l) := by
  obtain ⟨a, b, mo⟩ := l
  dsimp only at ha hab
  obtain ⟨po, hpo⟩ : ∃ po : Bool, po = decide (mo = 2) := ⟨_, rfl⟩
  have e1 : lopP x (a, b, mo) = if po then ((lpP x (m0L a b) (epL b)).1, ((lpP x (m0L a b) (epL b)).2.1.1 + 1, (lpP x (m0L a b) (epL b)).2.1.2), (0, 0), (lpP x (m0L a b) (epL b)).2.2.2) else lpP x (m0L a b) (epL b) := by
    unfold lopP
    rw [hpo]
    by_cases h2 : mo = 2
    · rw [if_pos h2, if_pos (decide_eq_true h2)]
    · rw [if_neg h2, if_neg (by simp [h2])]
  rw [e1]
  have hq : (if po then 1 else 0) ≤ (if mo = 0 then 0 else 1 : Nat) := by
    rw [hpo]
    by_cases h2 : mo = 2
    · subst h2; decide
    · simp [h2]
  cases b with
  | none =>
    have hk : lpc (a, none, mo) = (if a ≤ 1 then 1 else 4) + (if mo = 0 then 0 else 1) := rfl
    have hm1 : m0L a none = max a 1 := rfl
    have hk2 : (if a ≤ 1 then 1 else 4 : Nat) = (if max a 1 = 1 then 1 else 4) := by
      by_cases h2 : a ≤ 1
      · rw [if_pos h2, if_pos (by omega)]
      · rw [if_neg h2, if_neg (by omega)]
    rw [hk] at hsk ⊢
    rw [hk2] at hsk ⊢
    have hh := bd_lop_ (po := po) hx h (m := max a 1) (e := 1) (by omega) (Nat.le_refl _) (ck_lop1 s (by omega) (max a 1) (by omega) po hs (by omega) (by omega))
    exact hh.le (by omega) (tb_mono 1 (by decide) _ (by omega) _ (by omega) (by omega))
  | some M =>
    obtain ⟨h3, h4⟩ := hab M rfl
    have hk : lpc (a, some M, mo) = (if a = 0 ∧ M = 1 then 1 else if a = M then 3 else 5) + (if mo = 0 then 0 else 1) := rfl
    have hk2 : (if M = 1 then 1 else 3 : Nat) ≤ (if a = 0 ∧ M = 1 then 1 else if a = M then 3 else 5) := by
      by_cases h2 : M = 1
      · rw [if_pos h2]; split
        · omega
        · split <;> omega
      · rw [if_neg h2, if_neg (fun z => h2 z.2)]; split <;> omega
    rw [hk] at hsk ⊢
    have hh := bd_lop_ (po := po) hx h (m := M) (e := 0) h4 (by omega) (ck_lop0 s (by omega) M (by omega) po hs (by omega))
    exact hh.le (by omega) (tb_mono 1 (by decide) _ (by omega) _ (by omega) (by omega))
/-- brackets -/
def bkc (kd : Nat) : Nat := if kd = 8 then 2 else if kd = 12 ∨ kd = 13 then 5 else 4
def ckB0_l (s : Nat) : List (Nat × Nat) := [(tb 2 s 0 + 1, tb 0 (s + 2) 0), (tb 2 s 1, tb 0 (s + 2) 1), (tb 2 s 2, tb 0 (s + 2) 2)]
set_option maxRecDepth 100000 in
theorem ckB0_c : (List.range 15).all (fun s => (!(decide (s + 2 ≤ 14)) || (ckB0_l s).all (fun p => Nat.ble p.1 p.2))) = true := by decide +kernel
theorem ckB0_k {s : Nat} (h_s : s < 15) (g0 : s + 2 ≤ 14) : tb 2 s 0 + 1 ≤ tb 0 (s + 2) 0 ∧ tb 2 s 1 ≤ tb 0 (s + 2) 1 ∧ tb 2 s 2 ≤ tb 0 (s + 2) 2 := by
  have h := ckB0_c
  rw [List.all_eq_true] at h
  have h := h s (List.mem_range.mpr h_s)
  simp only [decide_eq_true g0, Bool.and_self, Bool.not_true, Bool.false_or] at h
  simp only [ckB0_l, List.all_cons, List.all_nil, Bool.and_true, Bool.and_eq_true, Nat.ble_eq] at h
  exact h
def ckC0_l (s : Nat) : List (Nat × Nat) := [(tb 2 s 3 + 1, tb 0 (s + 2) 3), (tb 2 s 4, tb 0 (s + 2) 4), (tb 2 s 5, tb 0 (s + 2) 5), (tb 2 s 6, tb 0 (s + 2) 6), (tb 2 s 7, tb 0 (s + 2) 7), (tb 2 s 8, tb 0 (s + 2) 8), (tb 2 s 9, tb 0 (s + 2) 9)]
set_option maxRecDepth 100000 in
theorem ckC0_c : (List.range 15).all (fun s => (!(decide (s + 2 ≤ 14) && decide (1 ≤ s)) || (ckC0_l s).all (fun p => Nat.ble p.1 p.2))) = true := by decide +kernel
theorem ckC0_k {s : Nat} (h_s : s < 15) (g0 : s + 2 ≤ 14) (g1 : 1 ≤ s) : tb 2 s 3 + 1 ≤ tb 0 (s + 2) 3 ∧ tb 2 s 4 ≤ tb 0 (s + 2) 4 ∧ tb 2 s 5 ≤ tb 0 (s + 2) 5 ∧ tb 2 s 6 ≤ tb 0 (s + 2) 6 ∧ tb 2 s 7 ≤ tb 0 (s + 2) 7 ∧ tb 2 s 8 ≤ tb 0 (s + 2) 8 ∧ tb 2 s 9 ≤ tb 0 (s + 2) 9 := by
  have h := ckC0_c
  rw [List.all_eq_true] at h
  have h := h s (List.mem_range.mpr h_s)
  simp only [decide_eq_true g0, decide_eq_true g1, Bool.and_self, Bool.not_true, Bool.false_or] at h
  simp only [ckC0_l, List.all_cons, List.all_nil, Bool.and_true, Bool.and_eq_true, Nat.ble_eq] at h
  exact h
def ckB1_l (s : Nat) : List (Nat × Nat) := [(tb 2 s 0 + 1, tb 0 (s + 4) 0), (tb 2 s 1, tb 0 (s + 4) 1), (tb 2 s 2 + 1, tb 0 (s + 4) 2)]
set_option maxRecDepth 100000 in
theorem ckB1_c : (List.range 15).all (fun s => (!(decide (s + 4 ≤ 14)) || (ckB1_l s).all (fun p => Nat.ble p.1 p.2))) = true := by decide +kernel
theorem ckB1_k {s : Nat} (h_s : s < 15) (g0 : s + 4 ≤ 14) : tb 2 s 0 + 1 ≤ tb 0 (s + 4) 0 ∧ tb 2 s 1 ≤ tb 0 (s + 4) 1 ∧ tb 2 s 2 + 1 ≤ tb 0 (s + 4) 2 := by
  have h := ckB1_c
  rw [List.all_eq_true] at h
  have h := h s (List.mem_range.mpr h_s)
  simp only [decide_eq_true g0, Bool.and_self, Bool.not_true, Bool.false_or] at h
  simp only [ckB1_l, List.all_cons, List.all_nil, Bool.and_true, Bool.and_eq_true, Nat.ble_eq] at h
  exact h
def ckC1_l (s : Nat) : List (Nat × Nat) := [(tb 2 s 3 + 1, tb 0 (s + 4) 3), (tb 2 s 4, tb 0 (s + 4) 4), (tb 2 s 5, tb 0 (s + 4) 5), (tb 2 s 6, tb 0 (s + 4) 6), (tb 2 s 7, tb 0 (s + 4) 7), (tb 2 s 8, tb 0 (s + 4) 8), (tb 2 s 9, tb 0 (s + 4) 9), (tb 2 s 3 + 1 + 8 * tb 2 s 4, tb 0 (s + 4) 0), (tb 2 s 9 + 1, tb 0 (s + 4) 2)]
set_option maxRecDepth 100000 in
theorem ckC1_c : (List.range 15).all (fun s => (!(decide (s + 4 ≤ 14) && decide (1 ≤ s)) || (ckC1_l s).all (fun p => Nat.ble p.1 p.2))) = true := by decide +kernel
theorem ckC1_k {s : Nat} (h_s : s < 15) (g0 : s + 4 ≤ 14) (g1 : 1 ≤ s) : tb 2 s 3 + 1 ≤ tb 0 (s + 4) 3 ∧ tb 2 s 4 ≤ tb 0 (s + 4) 4 ∧ tb 2 s 5 ≤ tb 0 (s + 4) 5 ∧ tb 2 s 6 ≤ tb 0 (s + 4) 6 ∧ tb 2 s 7 ≤ tb 0 (s + 4) 7 ∧ tb 2 s 8 ≤ tb 0 (s + 4) 8 ∧ tb 2 s 9 ≤ tb 0 (s + 4) 9 ∧ tb 2 s 3 + 1 + 8 * tb 2 s 4 ≤ tb 0 (s + 4) 0 ∧ tb 2 s 9 + 1 ≤ tb 0 (s + 4) 2 := by
  have h := ckC1_c
  rw [List.all_eq_true] at h
  have h := h s (List.mem_range.mpr h_s)
  simp only [decide_eq_true g0, decide_eq_true g1, Bool.and_self, Bool.not_true, Bool.false_or] at h
  simp only [ckC1_l, List.all_cons, List.all_nil, Bool.and_true, Bool.and_eq_true, Nat.ble_eq] at h
  exact h
def ckB2_l (s : Nat) : List (Nat × Nat) := [(tb 2 s 0 + 1, tb 0 (s + 5) 0), (tb 2 s 2 + 2, tb 0 (s + 5) 2)]
set_option maxRecDepth 100000 in
theorem ckB2_c : (List.range 15).all (fun s => (!(decide (s + 5 ≤ 14)) || (ckB2_l s).all (fun p => Nat.ble p.1 p.2))) = true := by decide +kernel
theorem ckB2_k {s : Nat} (h_s : s < 15) (g0 : s + 5 ≤ 14) : tb 2 s 0 + 1 ≤ tb 0 (s + 5) 0 ∧ tb 2 s 2 + 2 ≤ tb 0 (s + 5) 2 := by
  have h := ckB2_c
  rw [List.all_eq_true] at h
  have h := h s (List.mem_range.mpr h_s)
  simp only [decide_eq_true g0, Bool.and_self, Bool.not_true, Bool.false_or] at h
  simp only [ckB2_l, List.all_cons, List.all_nil, Bool.and_true, Bool.and_eq_true, Nat.ble_eq] at h
  exact h
def ckC2_l (s : Nat) : List (Nat × Nat) := [(tb 2 s 3 + 1 + 8 * tb 2 s 4, tb 0 (s + 5) 0), (tb 2 s 9 + 2, tb 0 (s + 5) 2)]
set_option maxRecDepth 100000 in
theorem ckC2_c : (List.range 15).all (fun s => (!(decide (s + 5 ≤ 14) && decide (1 ≤ s)) || (ckC2_l s).all (fun p => Nat.ble p.1 p.2))) = true := by decide +kernel
theorem ckC2_k {s : Nat} (h_s : s < 15) (g0 : s + 5 ≤ 14) (g1 : 1 ≤ s) : tb 2 s 3 + 1 + 8 * tb 2 s 4 ≤ tb 0 (s + 5) 0 ∧ tb 2 s 9 + 2 ≤ tb 0 (s + 5) 2 := by
  have h := ckC2_c
  rw [List.all_eq_true] at h
  have h := h s (List.mem_range.mpr h_s)
  simp only [decide_eq_true g0, decide_eq_true g1, Bool.and_self, Bool.not_true, Bool.false_or] at h
  simp only [ckC2_l, List.all_cons, List.all_nil, Bool.and_true, Bool.and_eq_true, Nat.ble_eq] at h
  exact h
abbrev ckBk (s : Nat) : Prop :=
  (s + 2 ≤ 14 → tb 2 s 0 + 1 ≤ tb 0 (s + 2) 0 ∧ tb 2 s 1 ≤ tb 0 (s + 2) 1 ∧ tb 2 s 2 ≤ tb 0 (s + 2) 2 ∧ (1 ≤ s → tb 2 s 3 + 1 ≤ tb 0 (s + 2) 3 ∧ tb 2 s 4 ≤ tb 0 (s + 2) 4 ∧ tb 2 s 5 ≤ tb 0 (s + 2) 5 ∧ tb 2 s 6 ≤ tb 0 (s + 2) 6 ∧ tb 2 s 7 ≤ tb 0 (s + 2) 7 ∧ tb 2 s 8 ≤ tb 0 (s + 2) 8 ∧ tb 2 s 9 ≤ tb 0 (s + 2) 9)) ∧
  (s + 4 ≤ 14 → tb 2 s 0 + 1 ≤ tb 0 (s + 4) 0 ∧ tb 2 s 1 ≤ tb 0 (s + 4) 1 ∧ tb 2 s 2 + 1 ≤ tb 0 (s + 4) 2 ∧ (1 ≤ s → tb 2 s 3 + 1 ≤ tb 0 (s + 4) 3 ∧ tb 2 s 4 ≤ tb 0 (s + 4) 4 ∧ tb 2 s 5 ≤ tb 0 (s + 4) 5 ∧ tb 2 s 6 ≤ tb 0 (s + 4) 6 ∧ tb 2 s 7 ≤ tb 0 (s + 4) 7 ∧ tb 2 s 8 ≤ tb 0 (s + 4) 8 ∧ tb 2 s 9 ≤ tb 0 (s + 4) 9 ∧ tb 2 s 3 + 1 + 8 * tb 2 s 4 ≤ tb 0 (s + 4) 0 ∧ tb 2 s 9 + 1 ≤ tb 0 (s + 4) 2)) ∧
  (s + 5 ≤ 14 → tb 2 s 0 + 1 ≤ tb 0 (s + 5) 0 ∧ tb 2 s 2 + 2 ≤ tb 0 (s + 5) 2 ∧ (1 ≤ s → tb 2 s 3 + 1 + 8 * tb 2 s 4 ≤ tb 0 (s + 5) 0 ∧ tb 2 s 9 + 2 ≤ tb 0 (s + 5) 2))
theorem ck_bk : ∀ s < 15, ckBk s := fun s h1 => ⟨fun g0 => by have h9 := ckB0_k h1 g0; obtain ⟨z0, z1, z2⟩ := h9; exact ⟨z0, z1, z2, fun g1 => ckC0_k h1 g0 g1⟩, fun g0 => by have h9 := ckB1_k h1 g0; obtain ⟨z0, z1, z2⟩ := h9; exact ⟨z0, z1, z2, fun g1 => ckC1_k h1 g0 g1⟩, fun g0 => by have h9 := ckB2_k h1 g0; obtain ⟨z0, z1⟩ := h9; exact ⟨z0, z1, fun g1 => ckC2_k h1 g0 g1⟩⟩
theorem bd_bk {s kd : Nat} {x : Pt} (hx : x.ok) (h : Bd 2 s x) (hs : s + bkc kd ≤ 14) : Bd 0 (s + bkc kd) (bkP kd x) := by
  obtain ⟨c1, c2, c3⟩ := ck_bk s (by omega)
  obtain ⟨p1, p2⟩ := h
  obtain ⟨z, ⟨A, B⟩, ⟨a, b⟩, ⟨u, v⟩⟩ := x
  obtain ⟨-, -, ox⟩ := hx
  unfold bkc at hs ⊢
  unfold bkP
  by_cases h8 : kd = 8
  · rw [if_pos h8] at hs ⊢
    rw [if_pos h8]
    have c1 := c1 hs
    cases z <;> simp only [Bd, forall_const, false_implies, true_and, and_true, reduceCtorEq, Bool.false_eq_true, Bool.true_eq_false] at *
    · omega
    · have c1 := c1.2.2.2 p1.1; omega
  · rw [if_neg h8] at hs ⊢
    rw [if_neg h8]
    by_cases h12 : kd = 12 ∨ kd = 13
    · rw [if_pos h12] at hs ⊢
      rw [if_neg (by omega), if_neg (by omega), if_pos h12]
      have c3 := c3 hs
      cases z <;> simp only [Bd, forall_const, false_implies, true_and, and_true, reduceCtorEq, Bool.false_eq_true, Bool.true_eq_false] at *
      · omega
      · have c3 := c3.2.2 p1.1; omega
    · rw [if_neg h12] at hs ⊢
      have c2 := c2 hs
      by_cases h9 : kd = 9
      · rw [if_pos h9]
        cases z <;> simp only [Bd, forall_const, false_implies, true_and, and_true, reduceCtorEq, Bool.false_eq_true, Bool.true_eq_false] at *
        · omega
        · have c2 := c2.2.2.2 p1.1; omega
      · rw [if_neg h9]
        by_cases h10 : kd = 10 ∨ kd = 11
        · rw [if_pos h10]
          cases z <;> simp only [Bd, forall_const, false_implies, true_and, and_true, reduceCtorEq, Bool.false_eq_true, Bool.true_eq_false] at *
          · omega
          · have c2 := c2.2.2.2 p1.1; omega
        · rw [if_neg h10, if_neg h12]
          cases z <;> simp only [Bd, forall_const, false_implies, true_and, and_true, reduceCtorEq, Bool.false_eq_true, Bool.true_eq_false] at *
          · omega
          · have c2 := c2.2.2.2 p1.1; omega
theorem bd_lf {z : Bool} : Bd 0 1 (lfP z) := ⟨fun _ => ⟨Nat.le_refl _, Nat.zero_le _, Nat.zero_le _, Nat.zero_le _, Nat.zero_le _, Nat.zero_le _, Nat.zero_le _, Nat.zero_le _⟩, fun _ => ⟨Nat.zero_le _, Nat.zero_le _, Nat.zero_le _⟩⟩
theorem bd_root {s : Nat} {x : Pt} (hx : x.ok) (h : Bd 2 s x) (hs : s ≤ 14) : x.F 8 ≤ 989 ∧ x.P 8 ≤ 490 := by
  have h := h.le (s' := 14) hs (tb_mono 2 (by decide) s (by omega) 14 (by decide) hs)
  obtain ⟨p1, p2⟩ := h
  obtain ⟨z, ⟨A, B⟩, ⟨a, b⟩, ⟨u, v⟩⟩ := x
  obtain ⟨-, -, ox⟩ := hx
  have e : tb 2 14 3 = 205 ∧ tb 2 14 4 = 82 ∧ tb 2 14 9 = 432 ∧ tb 2 14 0 = 312 ∧ tb 2 14 2 = 140 := by decide +kernel
  dsimp only [Pt.F, Pt.P]
  cases z <;> simp only [forall_const, false_implies, true_and, and_true, reduceCtorEq, Bool.false_eq_true, Bool.true_eq_false] at * <;> omega
end RM
/-! typed trees: d brackets deep -/
abbrev Lf : Type := Nat × Nat × Int64 × Int64
def At : Nat → Type
  | 0 => Lf
  | d + 1 => Lf ⊕ (Nat × Nat × List (List (At d × Option Lp)))
abbrev Ch (d : Nat) : Type := List (List (At d × Option Lp))
def lfz (l : Lf) : Bool := decide (l.1 = 2 ∨ l.1 = 7)
def lfS (L : Lf → Nat → Sp → Option Nat) (l : Lf) : Sm := fun p σ => match L l p σ with | some p' => [(p', σ)] | none => []
def pcX {A : Type} (h : A → Pt × Sm) (x : A × Option Lp) : Pt × Sm := match x.2 with
  | none => h x.1
  | some l => (lopP (h x.1).1 l, lopW (h x.1).2 l)
def pcC {A : Type} (h : A → Pt × Sm) (c : List (List (A × Option Lp))) : List (List (Pt × Sm)) := c.map (List.map (pcX h))
def pcA (L : Lf → Nat → Sp → Option Nat) : (d : Nat) → At d → Pt × Sm
  | 0, l => (lfP (lfz l), lfS L l)
  | _ + 1, .inl l => (lfP (lfz l), lfS L l)
  | d + 1, .inr (kd, g, c) => (bkP kd (altP (pcC (pcA L d) c)), bkW kd g (altM (pcC (pcA L d) c)))
/-- how a tree lies in the nodes -/
def isLf (L : Lf → Nat → Sp → Option Nat) (t : Tn) (n : Nat) (l : Lf) : Prop := nT t n = l.1 ∧ 2 ≤ l.1 ∧ l.1 ≤ 7 ∧ ∀ p σ, nL t n p σ = L l p σ
def isP {A : Type} (P : Nat → A → Prop) (t : Tn) (n : Nat) (x : A × Option Lp) : Prop := match x.2 with
  | none => P n x.1
  | some l => nT t n = 15 ∧ (∃ m, nK t n = some m ∧ P m x.1) ∧ nA t n = l.1 ∧ nB t n = l.2.1 ∧ nM t n = l.2.2 ∧ l.1 ≤ 4 ∧ ∀ M, l.2.1 = some M → l.1 ≤ M ∧ M ≤ 4
def isS {A : Type} (P : Nat → A → Prop) (t : Tn) : Option Nat → List (A × Option Lp) → Prop
  | q, [] => q = none
  | q, x :: xs => ∃ n, q = some n ∧ isP P t n x ∧ isS P t (nS t n) xs
def isC {A : Type} (P : Nat → A → Prop) (t : Tn) : Option Nat → List (List (A × Option Lp)) → Prop
  | q, [] => q = none
  | q, s :: ss => ∃ n, q = some n ∧ nT t n = 1 ∧ isS P t (nK t n) s ∧ isC P t (nS t n) ss
/-- the node of a choice -/
def isR {A : Type} (P : Nat → A → Prop) (t : Tn) (n : Nat) (c : List (List (A × Option Lp))) : Prop := nT t n = 0 ∧ c ≠ [] ∧ isC P t (nK t n) c
def isA (L : Lf → Nat → Sp → Option Nat) (t : Tn) : (d : Nat) → Nat → At d → Prop
  | 0, n, l => isLf L t n l
  | _ + 1, n, .inl l => isLf L t n l
  | d + 1, n, .inr (kd, g, c) => nT t n = kd ∧ 8 ≤ kd ∧ kd ≤ 14 ∧ (kd = 8 → nA t n = g) ∧ ∃ m, nK t n = some m ∧ isR (isA L t d) t m c
/-- what a leaf must keep -/
def okL (t : Tn) (L : Lf → Nat → Sp → Option Nat) : Prop := (∀ l p σ p', p ≤ nN t → L l p σ = some p' → p ≤ p' ∧ p' ≤ nN t) ∧ ∀ l p σ p', lfz l = false → L l p σ = some p' → p' = p
section TI
variable {L : Lf → Nat → Sp → Option Nat} {t : Tn}
def Gd (t : Tn) (n : Nat) (x : Pt × Sm) : Prop := x.1.ok ∧ Is t x.1 x.2 (some n) ∧ Zs x.1 x.2
theorem isP_gd {A : Type} {P : Nat → A → Prop} {h : A → Pt × Sm} (hN : nN t ≤ 8) (hP : ∀ n a, P n a → Gd t n (h a)) {n : Nat} {x : A × Option Lp} (hx : isP P t n x) : Gd t n (pcX h x) := by
  obtain ⟨a, l⟩ := x
  cases l with
  | none => exact hP n a hx
  | some l =>
    obtain ⟨h1, ⟨m, h2, h3⟩, h4, h5, h6, h7, h8⟩ := hx
    obtain ⟨k1, k2, k3⟩ := hP m a h3
    exact ⟨lopP_ok k1, lop_is k1 k2 k3 hN h1 h2 h4 h5 h6 (fun M hM => (h8 M hM).1) h7, lop_z k3⟩
theorem isS_seqR {A : Type} {P : Nat → A → Prop} {h : A → Pt × Sm} (hN : nN t ≤ 8) (hP : ∀ n a, P n a → Gd t n (h a)) : ∀ {xs : List (A × Option Lp)} {q : Option Nat}, isS P t q xs → seqR t q (xs.map (pcX h))
  | [], _, hq => hq
  | x :: xs, _, ⟨n, hq, hx, hr⟩ => by
    obtain ⟨k1, k2, k3⟩ := isP_gd hN hP hx
    exact ⟨n, hq, k1, k2, k3, isS_seqR hN hP hr⟩
theorem isC_altR {A : Type} {P : Nat → A → Prop} {h : A → Pt × Sm} (hN : nN t ≤ 8) (hP : ∀ n a, P n a → Gd t n (h a)) : ∀ {ss : List (List (A × Option Lp))} {q : Option Nat}, isC P t q ss → altR t q (pcC h ss)
  | [], _, hq => hq
  | s :: ss, _, ⟨n, hq, hT, hs, hr⟩ => ⟨n, hq, hT, isS_seqR hN hP hs, isC_altR hN hP hr⟩
theorem isR_gd {A : Type} {P : Nat → A → Prop} {h : A → Pt × Sm} (hN : nN t ≤ 8) (hP : ∀ n a, P n a → Gd t n (h a)) {c : List (List (A × Option Lp))} {n : Nat} (hc : isR P t n c) : Gd t n (altP (pcC h c), altM (pcC h c)) := by
  obtain ⟨hT, hne, hC⟩ := hc
  cases c with
  | nil => exact absurd rfl hne
  | cons s ss =>
    have hA := isC_altR hN hP hC
    obtain ⟨m, hm, -⟩ := hC
    rw [hm] at hA
    exact ⟨altP_ok hA, cho_is hT hm hA, alt_z hA⟩
theorem lf_gd (hL : okL t L) {n : Nat} {l : Lf} (h : isLf L t n l) : Gd t n (lfP (lfz l), lfS L l) := by
  obtain ⟨h1, h2, h3, h4⟩ := h
  have e : lfS L l = lfW t n := by
    funext p σ
    unfold lfS lfW
    rw [h4]
  rw [e]
  exact ⟨lf_ok, lf_is (by rw [h1]; exact ⟨h2, h3⟩) (fun p σ p' hp hq => hL.1 l p σ p' hp (by rw [← h4]; exact hq)), lf_z (fun hz p σ p' hq => hL.2 l p σ p' hz (by rw [← h4]; exact hq))⟩
theorem isA_gd (hN : nN t ≤ 8) (hL : okL t L) : ∀ (d n : Nat) (a : At d), isA L t d n a → Gd t n (pcA L d a)
  | 0, n, l, h => lf_gd hL h
  | d + 1, n, .inl l, h => lf_gd hL h
  | d + 1, n, .inr (kd, g, c), h => by
    obtain ⟨h1, h2, h3, h4, m, h5, h6⟩ := h
    obtain ⟨k1, k2, k3⟩ := isR_gd hN (fun n a => isA_gd hN hL d n a) h6
    refine ⟨bkP_ok k1, ?_, bk_z k3⟩
    rcases (show kd = 8 ∨ kd = 9 ∨ kd = 10 ∨ kd = 11 ∨ kd = 12 ∨ kd = 13 ∨ kd = 14 by omega) with rfl | rfl | rfl | rfl | rfl | rfl | rfl
    · exact bk8 k1 k2 h5 h1 (h4 rfl)
    · exact bk9 k1 k2 h5 (g := g) h1
    · exact bk10 k1 k2 hN h5 (g := g) h1
    · exact bk11 k1 k2 hN h5 (g := g) h1
    · exact bk12 k1 k2 hN h5 (g := g) h1
    · exact bk13 k1 k2 hN h5 (g := g) h1
    · exact bk14 k1 k2 h5 (g := g) h1
end TI
/-! how many characters a tree takes at least -/
def szP {A : Type} (z : A → Nat) (x : A × Option Lp) : Nat := z x.1 + match x.2 with | none => 0 | some l => lpc l
def szS {A : Type} (z : A → Nat) (s : List (A × Option Lp)) : Nat := (s.map (szP z)).sum
def szC {A : Type} (z : A → Nat) : List (List (A × Option Lp)) → Nat
  | [] => 0
  | [s] => szS z s
  | s :: s2 :: ss => szS z s + szC z (s2 :: ss) + 1
def szA : (d : Nat) → At d → Nat
  | 0, _ => 1
  | _ + 1, .inl _ => 1
  | d + 1, .inr (kd, _, c) => szC (szA d) c + bkc kd
/-- loops within their bounds -/
def wfL (l : Lp) : Prop := l.1 ≤ 4 ∧ ∀ M, l.2.1 = some M → l.1 ≤ M ∧ M ≤ 4
def wfP {A : Type} (w : A → Prop) (x : A × Option Lp) : Prop := w x.1 ∧ match x.2 with | none => True | some l => wfL l
def wfC {A : Type} (w : A → Prop) (c : List (List (A × Option Lp))) : Prop := ∀ s ∈ c, ∀ x ∈ s, wfP w x
def wfA : (d : Nat) → At d → Prop
  | 0, _ => True
  | _ + 1, .inl _ => True
  | d + 1, .inr (_, _, c) => wfC (wfA d) c
theorem pt0_ok : pt0.ok := ⟨Nat.le_refl _, Nat.le_refl _, fun _ => ⟨rfl, rfl, rfl⟩⟩
theorem pt0_bd {c s : Nat} : Bd c s pt0 := ⟨fun hz => Bool.noConfusion (show false = true from hz), fun _ => ⟨Nat.zero_le _, Nat.zero_le _, Nat.zero_le _⟩⟩
section SZ
variable {A : Type} {h : A → Pt × Sm} {z : A → Nat} {w : A → Prop}
def Gs (h : A → Pt × Sm) (z : A → Nat) (w : A → Prop) : Prop := ∀ a, w a → 1 ≤ z a ∧ (h a).1.ok ∧ (z a ≤ 14 → Bd 0 (z a) (h a).1)
theorem szP_bd (H : Gs h z w) {x : A × Option Lp} (hw : wfP w x) : 1 ≤ szP z x ∧ (pcX h x).1.ok ∧ (szP z x ≤ 14 → Bd 1 (szP z x) (pcX h x).1) := by
  obtain ⟨a, l⟩ := x
  obtain ⟨h1, h2, h3⟩ := H a hw.1
  cases l with
  | none => exact ⟨h1, h2, fun hs => (h3 hs).le (Nat.le_refl _) (tb_AS _ (by have : z a ≤ 14 := hs; omega))⟩
  | some l =>
    have hl : wfL l := hw.2
    exact ⟨by show 1 ≤ z a + lpc l; omega, lopP_ok h2, fun hs => by
      have hs : z a + lpc l ≤ 14 := hs
      exact bd_lop h2 (h3 (by omega)) h1 hl.1 hl.2 hs⟩
theorem szS_bd (H : Gs h z w) : ∀ {s : List (A × Option Lp)}, (∀ x ∈ s, wfP w x) → (seqP (s.map (pcX h))).ok ∧ (szS z s ≤ 14 → Bd 1 (szS z s) (seqP (s.map (pcX h)))) ∧ (s ≠ [] → 1 ≤ szS z s)
  | [], _ => ⟨pt0_ok, fun _ => pt0_bd, fun hh => absurd rfl hh⟩
  | [x], hw => by
    obtain ⟨h1, h2, h3⟩ := szP_bd H (hw x List.mem_cons_self)
    have e : szS z [x] = szP z x := by unfold szS; simp
    rw [e]
    exact ⟨h2, h3, fun _ => h1⟩
  | x :: y :: xs, hw => by
    obtain ⟨h1, h2, h3⟩ := szP_bd H (hw x List.mem_cons_self)
    obtain ⟨k1, k2, k3⟩ := szS_bd H (s := y :: xs) (fun q hq => hw q (List.mem_cons_of_mem _ hq))
    have e : szS z (x :: y :: xs) = szP z x + szS z (y :: xs) := by unfold szS; simp
    have k3 := k3 (by simp)
    rw [e]
    exact ⟨thenP_ok h2 k1, fun hs => bd_then h2 k1 (h3 (by omega)) (k2 (by omega)) h1 k3 hs, fun _ => by omega⟩
theorem szC_bd (H : Gs h z w) : ∀ {c : List (List (A × Option Lp))}, wfC w c → (altP (pcC h c)).ok ∧ (szC z c ≤ 14 → Bd 2 (szC z c) (altP (pcC h c)))
  | [], _ => ⟨pt0_ok, fun _ => pt0_bd⟩
  | [s], hw => by
    obtain ⟨h1, h2, -⟩ := szS_bd H (hw s List.mem_cons_self)
    exact ⟨h1, fun hs => (h2 hs).le (Nat.le_refl _) (tb_SC _ (by have : szS z s ≤ 14 := hs; omega))⟩
  | s :: s2 :: ss, hw => by
    obtain ⟨h1, h2, -⟩ := szS_bd H (hw s List.mem_cons_self)
    obtain ⟨k1, k2⟩ := szC_bd H (c := s2 :: ss) (fun q hq => hw q (List.mem_cons_of_mem _ hq))
    refine ⟨orP_ok h1 k1, fun hs => ?_⟩
    have hs : szS z s + szC z (s2 :: ss) + 1 ≤ 14 := hs
    exact bd_or h1 k1 (h2 (by omega)) (k2 (by omega)) hs
end SZ
theorem szA_bd {L : Lf → Nat → Sp → Option Nat} : ∀ d, Gs (pcA L d) (szA d) (wfA d)
  | 0, l, _ => ⟨Nat.le_refl _, lf_ok, fun _ => bd_lf⟩
  | d + 1, .inl l, _ => ⟨Nat.le_refl _, lf_ok, fun _ => bd_lf⟩
  | d + 1, .inr (kd, g, c), hw => by
    obtain ⟨h1, h2⟩ := szC_bd (szA_bd d) (c := c) hw
    refine ⟨?_, bkP_ok h1, fun hs => ?_⟩
    · show 1 ≤ szC (szA d) c + bkc kd
      unfold bkc; split
      · omega
      · split <;> omega
    · have hs : szC (szA d) c + bkc kd ≤ 14 := hs
      exact bd_bk h1 (h2 (by omega)) hs
/-- a run over a tree of at most 14 characters -/
theorem tree_run {L : Lf → Nat → Sp → Option Nat} {t : Tn} {d n p : Nat} {c : Ch d} {σ : Sp} (hN : nN t ≤ 8) (hL : okL t L) (hw : wfC (wfA d) c) (hs : szC (szA d) c ≤ 14) (hc : isR (isA L t d) t n c) (hp : p ≤ nN t) :
    match (altM (pcC (pcA L d) c) p σ).find? (endOK t) with
    | some o => ∃ lk ws, Rc t (some (some n, [(23, 0, 0, 0)], p, σ, 1, [])) (some (none, [], o.1, o.2, lk, ws))
    | none => Rc t (some (some n, [(23, 0, 0, 0)], p, σ, 1, [])) none := by
  obtain ⟨k1, k2, k3⟩ := isR_gd hN (fun n a => isA_gd hN hL d n a) hc
  obtain ⟨h1, h2⟩ := szC_bd (szA_bd (L := L) d) hw
  obtain ⟨b1, b2⟩ := bd_root h1 (h2 hs) hs
  exact run_all k1 k2 hN hp b1 b2
/-! what stays fit while the lists' machine goes on -/
def svd (N : Nat) (σ : Sp) : Prop := ∀ g, 1 ≤ g → g ≤ 4 → σ (2 * g) = -1 ∨ ∃ s e : Nat, σ (2 * g) = Int32.ofNat s ∧ σ (2 * g + 1) = Int32.ofNat e ∧ s ≤ e ∧ e ≤ N
def lkd (t : Tn) (l : Lk) (p : Nat) : Prop := (l.1 = 20 ∧ l.2.1 < 96) ∨ (l.1 = 21 ∧ 1 ≤ l.2.1 ∧ l.2.1 ≤ 4 ∧ l.2.2.1 ≤ p) ∨ (l.1 = 22 ∧ l.2.1 < 96 ∧ nT t l.2.1 = 15 ∧ l.2.2.2 ≤ p ∧ l.2.2.1 ≤ l.2.2.2 + 5) ∨ (l.1 = 23) ∨ (l.1 = 14 ∧ l.2.1 ≤ 490) ∨ ((l.1 = 10 ∨ l.1 = 11 ∨ l.1 = 12 ∨ l.1 = 13) ∧ l.2.1 ≤ 490 ∧ l.2.2.1 ≤ nN t)
def lpl (l : Lk) (p : Nat) : Nat := if l.1 = 10 ∨ l.1 = 11 ∨ l.1 = 12 ∨ l.1 = 13 then l.2.2.1 else p
def cvd (t : Tn) : List Lk → Nat → Prop
  | [], _ => True
  | l :: κ, p => lkd t l p ∧ cvd t κ (lpl l p)
def wvd (t : Tn) (w : Wy) : Prop := w.2.2.1 ≤ nN t ∧ svd (nN t) w.2.2.2.2.1 ∧ cvd t w.2.2.2.1 w.2.2.1 ∧ (∀ n, w.1 = some n → n < 96) ∧ ∀ c, w.2.1 = some c → ∃ n, w.1 = some n ∧ ((nT t n = 15 ∧ c + 1 ≤ w.2.2.1 + 5) ∨ ((nT t n = 12 ∨ nT t n = 13) ∧ c = w.2.2.1 ∧ ∀ p, cvd t w.2.2.2.1 p))
def Vd (t : Tn) (c : Cf) : Prop := (∀ n, c.1 = some n → n < 96) ∧ c.2.2.1 ≤ nN t ∧ svd (nN t) c.2.2.2.1 ∧ cvd t c.2.1 c.2.2.1 ∧ ∀ w ∈ c.2.2.2.2.2, wvd t w
/-- the tree's rows hold what they may -/
def Wt (t : Tn) : Prop := (∀ n, n < 96 → nT t n ≤ 15 ∧ nA t n ≤ 4 ∧ (∀ b, nB t n = some b → b ≤ 4) ∧ nM t n ≤ 2 ∧ (∀ m, nK t n = some m → m < 96) ∧ (∀ m, nS t n = some m → m < 96) ∧ (nT t n = 7 ∨ nT t n = 8 → 1 ≤ nA t n)) ∧ nN t ≤ 8 ∧ (∀ n p σ p', p ≤ nN t → nL t n p σ = some p' → p ≤ p' ∧ p' ≤ nN t) ∧ ∀ w, nW t = some w → w ≤ 8
theorem lkd_mono {t : Tn} {l : Lk} {p p' : Nat} (h : p ≤ p') (hl : lkd t l p) : lkd t l p' := by
  unfold lkd at *
  omega
theorem cvd_mono {t : Tn} : ∀ {κ : List Lk} {p p' : Nat}, p ≤ p' → cvd t κ p → cvd t κ p'
  | [], _, _, _, _ => trivial
  | l :: κ, p, p', h, ⟨h1, h2⟩ => ⟨lkd_mono h h1, cvd_mono (by unfold lpl; split <;> omega) h2⟩
section VD
variable {t : Tn}
theorem vd_thru (hW : Wt t) {n c : Nat} {κ : List Lk} {p : Nat} {σ : Sp} {lk : Nat} {ws : List Wy} (hn : n < 96) (hT : nT t n = 15) (hc : c + 1 ≤ p + 5) (hp : p ≤ nN t) (hs : svd (nN t) σ) (hk : cvd t κ p) (hw : ∀ w ∈ ws, wvd t w) : Vd t (gThru t n c κ p σ lk ws) := by
  refine ⟨fun m hm => ((hW.1 n hn).2.2.2.2.1 m hm), hp, hs, ⟨?_, ?_⟩, hw⟩
  · exact Or.inr (Or.inr (Or.inl ⟨rfl, hn, hT, Nat.le_refl _, hc⟩))
  · exact hk
theorem vd_bef (hW : Wt t) {n f : Nat} {κ : List Lk} {σ : Sp} {lk : Nat} {ws : List Wy} (hn : n < 96) (hT : nT t n = 12 ∨ nT t n = 13) (hf : f ≤ nN t) (hs : svd (nN t) σ) (hk : ∀ p, cvd t κ p) (hw : ∀ w ∈ ws, wvd t w) : Vd t (bef t n f κ σ lk ws) := by
  refine ⟨fun m hm => ((hW.1 n hn).2.2.2.2.1 m hm), hf, hs, hk _, fun w hw' => ?_⟩
  have hw' : w ∈ (if 0 < f then (some n, some (f - 1), f - 1, κ, σ, lk) :: ws else ws) := hw'
  split at hw'
  · rcases List.mem_cons.mp hw' with rfl | h
    · refine ⟨by show f - 1 ≤ nN t; omega, hs, hk _, fun m hm => ?_, fun c hc => ⟨n, rfl, Or.inr ⟨hT, ?_, hk⟩⟩⟩
      · cases hm; exact hn
      · cases hc; rfl
    · exact hw w h
  · exact hw w hw'
theorem vd_pop (hW : Wt t) {ws : List Wy} {c : Cf} (hw : ∀ w ∈ ws, wvd t w) (h : popW t ws = some c) : Vd t c := by
  cases ws with
  | nil => cases h
  | cons w ws =>
    obtain ⟨nd, cnt, p, κ, σ, lk⟩ := w
    obtain ⟨h1, h2, h3, h4, h5⟩ := hw _ List.mem_cons_self
    dsimp only at h1 h2 h3 h4 h5
    have hr : ∀ w ∈ ws, wvd t w := fun w hx => hw w (List.mem_cons_of_mem _ hx)
    cases nd with
    | none =>
      have h : some (none, κ, p, σ, lk, ws) = some c := by cases cnt <;> exact h
      cases h
      exact ⟨fun n hn => (by cases hn), h1, h2, h3, hr⟩
    | some n =>
      cases cnt with
      | none =>
        have h : some (some n, κ, p, σ, lk, ws) = some c := h
        cases h
        exact ⟨fun m hm => h4 m hm, h1, h2, h3, hr⟩
      | some k =>
        obtain ⟨n', hn', hq⟩ := h5 k rfl
        cases hn'
        have h : (if nT t n = 15 then some (gThru t n k κ p σ lk ws) else some (bef t n k κ σ lk ws)) = some c := h
        rcases hq with ⟨q1, q2⟩ | ⟨q1, q2, q3⟩
        · rw [if_pos q1] at h
          cases h
          exact vd_thru hW (h4 n rfl) q1 q2 h1 h2 h3 hr
        · rw [if_neg (by omega)] at h
          cases h
          exact vd_bef hW (h4 n rfl) q1 (by omega) h2 q3 hr
theorem vd_pcs (hW : Wt t) {q : Option Nat} {κ : List Lk} {p : Nat} {σ : Sp} {lk : Nat} {ws : List Wy} (hq : ∀ n, q = some n → n < 96) (hp : p ≤ nN t) (hs : svd (nN t) σ) (hk : cvd t κ p) (hw : ∀ w ∈ ws, wvd t w) : Vd t (pcs t q κ p σ lk ws) := by
  unfold pcs
  cases q with
  | none => exact ⟨fun n hn => (by cases hn), hp, hs, hk, hw⟩
  | some n =>
    dsimp only
    cases hS : nS t n with
    | none => exact ⟨fun m hm => hq m hm, hp, hs, hk, hw⟩
    | some m => exact ⟨fun m' hm => hq m' hm, hp, hs, ⟨Or.inl ⟨rfl, (hW.1 n (hq n rfl)).2.2.2.2.2.1 m hS⟩, hk⟩, hw⟩
theorem vd_trn (hW : Wt t) {n c s : Nat} {κ : List Lk} {p : Nat} {σ : Sp} {lk : Nat} {ws : List Wy} (hn : n < 96) (hT : nT t n = 15) (hc : c ≤ s + 5 ∨ c = 0) (hsp : c ≠ 0 → s ≤ p) (hp : p ≤ nN t) (hs : svd (nN t) σ) (hk : cvd t κ p) (hw : ∀ w ∈ ws, wvd t w) : Vd t (trn t n c s κ p σ lk ws) := by
  have ha := (hW.1 n hn).2.1
  unfold trn
  split
  · exact vd_thru hW hn hT (by omega) hp hs hk hw
  · split
    · rename_i h1 h2
      have hcp : c + 1 ≤ p + 5 := by
        unfold onL at h2
        simp only [Bool.and_eq_true, Bool.or_eq_true, beq_iff_eq, bne_iff_ne, ne_eq] at h2
        omega
      split
      · refine ⟨fun m hm => (by cases hm), hp, hs, hk, fun w hw' => ?_⟩
        rcases List.mem_cons.mp hw' with rfl | h
        · refine ⟨hp, hs, hk, fun m hm => ?_, fun c' hc' => ⟨n, rfl, Or.inl ⟨hT, ?_⟩⟩⟩
          · cases hm; exact hn
          · cases hc'; exact hcp
        · exact hw w h
      · refine vd_thru hW hn hT hcp hp hs hk (fun w hw' => ?_)
        rcases List.mem_cons.mp hw' with rfl | h
        · exact ⟨hp, hs, hk, fun m hm => (by cases hm), fun c' hc' => (by cases hc')⟩
        · exact hw w h
    · exact ⟨fun m hm => (by cases hm), hp, hs, hk, hw⟩
theorem svd_set (hW : Wt t) {σ : Sp} {g p0 p : Nat} (hg : g ≤ 4) (h0 : p0 ≤ p) (hp : p ≤ nN t) (hs : svd (nN t) σ) : svd (nN t) (setG σ g p0 p) := by
  intro g' h1 h2
  by_cases e : g' = g
  · subst e
    refine Or.inr ⟨p0, p, ?_, ?_, h0, hp⟩
    · unfold setG; rw [if_neg (by omega), if_pos rfl]
    · unfold setG; rw [if_pos rfl]
  · have e1 : setG σ g p0 p (2 * g') = σ (2 * g') := by unfold setG; rw [if_neg (by omega), if_neg (by omega)]
    have e2 : setG σ g p0 p (2 * g' + 1) = σ (2 * g' + 1) := by unfold setG; rw [if_neg (by omega), if_neg (by omega)]
    rw [e1, e2]
    exact hs g' h1 h2
theorem vd_step (hW : Wt t) {c c' : Cf} (hv : Vd t c) (hs : saf c) (h : stp t c = some c') : Vd t c' := by
  obtain ⟨nd, κ, p, σ, lk, ws⟩ := c
  obtain ⟨v1, v2, v3, v4, v5⟩ := hv
  obtain ⟨s1, s2, s3⟩ := hs
  dsimp only at v1 v2 v3 v4 v5 s1 s2 s3
  have way0 : ∀ w ∈ (none, none, p, κ, σ, lk) :: ws, wvd t w := fun w hw => by
    rcases List.mem_cons.mp hw with rfl | h
    · exact ⟨v2, v3, v4, fun m hm => (by cases hm), fun c hc => (by cases hc)⟩
    · exact v5 w h
  cases nd with
  | some n =>
    have hn := v1 n rfl
    obtain ⟨w1, w2, w3, w4, w5, w6, w7⟩ := hW.1 n hn
    have h : ent t n κ p σ lk ws = some c' := h
    have look : ∀ kd, (kd = 10 ∨ kd = 11 ∨ kd = 12 ∨ kd = 13) → ∀ q, cvd t ((kd, ws.length, p, 0) :: κ) q := fun kd hkd q => ⟨Or.inr (Or.inr (Or.inr (Or.inr (Or.inr ⟨hkd, s2, v2⟩)))), by unfold lpl; rw [if_pos hkd]; exact v4⟩
    have cut14 : cvd t ((14, ws.length, p, 0) :: κ) p := ⟨Or.inr (Or.inr (Or.inr (Or.inr (Or.inl ⟨rfl, s2⟩)))), v4⟩
    unfold ent at h
    split at h
    · cases h; exact ⟨fun m hm => w5 m hm, v2, v3, v4, v5⟩
    · cases h
      refine vd_pcs hW (fun m hm => w5 m hm) v2 v3 v4 (fun w hw => ?_)
      cases hS : nS t n with
      | none => rw [hS] at hw; exact v5 w hw
      | some m =>
        rw [hS] at hw
        rcases List.mem_cons.mp hw with rfl | h
        · exact ⟨v2, v3, v4, fun m' hm => (by cases hm; exact w6 m hS), fun c hc => (by cases hc)⟩
        · exact v5 w h
    · rename_i h8
      cases h
      exact ⟨fun m hm => w5 m hm, v2, v3, ⟨Or.inr (Or.inl ⟨rfl, w7 (Or.inr h8), w2, Nat.le_refl _⟩), v4⟩, v5⟩
    · cases h; exact ⟨fun m hm => w5 m hm, v2, v3, v4, v5⟩
    · cases h; exact ⟨fun m hm => w5 m hm, v2, v3, look 10 (by omega) p, v5⟩
    · cases h; exact ⟨fun m hm => w5 m hm, v2, v3, cut14, v5⟩
    · rename_i h15
      cases h
      split
      · exact vd_trn hW hn h15 (by omega) (by omega) v2 v3 cut14 v5
      · exact vd_trn hW hn h15 (by omega) (by omega) v2 v3 v4 v5
    · cases h; exact ⟨fun m hm => w5 m hm, v2, v3, look 11 (by omega) p, way0⟩
    · rename_i h12
      cases h; exact vd_bef hW hn (Or.inl h12) v2 v3 (look 12 (by omega)) v5
    · rename_i h13
      cases h; exact vd_bef hW hn (Or.inr h13) v2 v3 (look 13 (by omega)) way0
    · split at h
      · rename_i p' hp'
        cases h
        obtain ⟨q1, q2⟩ := hW.2.2.1 n p σ p' v2 hp'
        exact ⟨fun m hm => (by cases hm), q2, v3, cvd_mono q1 v4, v5⟩
      · exact vd_pop hW v5 h
  | none =>
    cases κ with
    | nil => exact absurd rfl s3
    | cons l κ =>
      have h : gon t l κ p σ lk ws = some c' := h
      obtain ⟨k1, k2⟩ := v4
      obtain ⟨kd, x, y, z⟩ := l
      have cutv : ∀ hh, ∀ w ∈ cutW hh ws, wvd t w := fun hh w hw => v5 w (List.mem_of_mem_drop hw)
      unfold lkd at k1
      unfold gon at h
      split at h
      · rename_i e; cases e
        cases h
        simp at k1
        exact vd_pcs hW (fun m hm => (by cases hm; exact k1)) v2 v3 k2 v5
      · rename_i e; cases e
        cases h
        simp at k1
        exact ⟨fun m hm => (by cases hm), v2, svd_set hW k1.2.1 k1.2.2 v2 v3, k2, v5⟩
      · rename_i e; cases e
        cases h
        simp at k1
        exact vd_trn hW k1.1 k1.2.1 (Or.inl k1.2.2.2) (fun _ => k1.2.2.1) v2 v3 k2 v5
      · rename_i e; cases e
        cases h
        exact ⟨fun m hm => (by cases hm), v2, v3, k2, cutv _⟩
      · rename_i e; cases e
        cases h
        simp at k1
        exact ⟨fun m hm => (by cases hm), k1.2, v3, k2, cutv _⟩
      · exact vd_pop hW (cutv _) h
      · rename_i e; cases e
        split at h
        · rename_i e2
          cases h
          simp at k1
          refine ⟨fun m hm => (by cases hm), v2, v3, ?_, cutv _⟩
          have k2 : cvd t κ y := k2
          show cvd t κ p
          rw [e2]; exact k2
        · exact vd_pop hW v5 h
      · split at h
        · exact vd_pop hW (cutv _) h
        · exact vd_pop hW v5 h
      · split at h
        · cases h
          exact ⟨fun m hm => (by cases hm), v2, v3, trivial, v5⟩
        · exact vd_pop hW v5 h
end VD
