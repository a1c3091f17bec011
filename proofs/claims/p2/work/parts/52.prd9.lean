/-! sequences, choices, brackets -/
theorem crt_at {R : RS} {n u : Nat} {kd : Int32} {k j : Nat} : (crt R n u kd).2.1 k j = if j = n then (if k = 8 then kd else if k = 9 ∨ k = 10 ∨ k = 11 then 0 else if k = 12 ∨ k = 13 then -1 else R.2.1 k j) else R.2.1 k j := by
  show (ma (ma (ma (ma (ma (ma (mf R 4 (nI (u + 1))) 8 n kd) 9 n 0) 10 n 0) 11 n 0) 12 n (-1)) 13 n (-1)).2.1 k j = _
  rw [ma_at, ma_at, ma_at, ma_at, ma_at, ma_at]
  by_cases hj : j = n
  · subst hj
    simp only [and_true, if_true]
    by_cases k8 : k = 8
    · subst k8; simp
    · by_cases k9 : k = 9
      · subst k9; simp
      · by_cases k10 : k = 10
        · subst k10; simp
        · by_cases k11 : k = 11
          · subst k11; simp
          · by_cases k12 : k = 12
            · subst k12; simp
            · by_cases k13 : k = 13
              · subst k13; simp
              · simp [k8, k9, k10, k11, k12, k13]; rfl
  · simp [hj]; rfl
theorem crt_l {R : RS} {n u : Nat} {kd : Int32} {k j : Nat} (h : j ≠ n) : (crt R n u kd).2.2 k j = R.2.2 k j := by
  show (ml (ml R 14 n 0) 15 n 0).2.2 k j = _
  rw [ml_at, ml_at, if_neg (fun z => h z.2), if_neg (fun z => h z.2)]
theorem crt_f {R : RS} {n u : Nat} {kd : Int32} {k : Nat} : (crt R n u kd).1 k = if k = 4 then nI (u + 1) else R.1 k := rfl
theorem crt_o {R : RS} {n u : Nat} {kd : Int32} {k j : Nat} (h : j ≠ n ∨ k < 8 ∨ 13 < k) : (crt R n u kd).2.1 k j = R.2.1 k j := by
  rw [crt_at]
  by_cases hj : j = n
  · rw [if_pos hj, if_neg (by omega), if_neg (by omega), if_neg (by omega)]
  · rw [if_neg hj]
/-- a sequence more -/
def nsq (R : RS) (n u d w row : Nat) : RS := ma (ma (ma (crt R n u 1) row w (nI n)) 20 d (nI n)) 21 d (-1)
theorem nsq_at {R : RS} {n u d w row k j : Nat} : (nsq R n u d w row).2.1 k j = if k = 21 ∧ j = d then -1 else if k = 20 ∧ j = d then nI n else if k = row ∧ j = w then nI n else (crt R n u 1).2.1 k j := by
  unfold nsq; rw [ma_at, ma_at, ma_at]
theorem nsq_l {R : RS} {n u d w row : Nat} : (nsq R n u d w row).2.2 = (crt R n u 1).2.2 := rfl
theorem nsq_f {R : RS} {n u d w row k : Nat} : (nsq R n u d w row).1 k = if k = 4 then nI (u + 1) else R.1 k := rfl
section BRK
variable {R : RS} {X : Nat → Int32} {N β k d o a u lo sq : Nat} {bh : Bool} {tl : Option Nat}
theorem nsq_E1 (h : Rd R X N a β u) (hu : u < 48) (hd : R.1 16 = nI d) (hd5 : d ≤ 5) (hlo : R.2.1 19 d = nI lo) (hl9 : lo < 96) (hne : lo ≠ 48 - β + u) (hk : R.2.1 12 lo = -1) : E_newSequence R (nsq R (48 - β + u) u d lo 12) 0 := by
  have cr := crt_E (kd := 1) h hu
  have v6 : vp_in (nI d) 6 := v_in (by omega) (by omega)
  have g16 : (crt R (48 - β + u) u 1).1 16 = nI d := by rw [crt_f, if_neg (by omega), hd]
  have cld : (nI d).toNatClampNeg = d := n_cl (by omega)
  have g19 : (crt R (48 - β + u) u 1).2.1 19 d = nI lo := by rw [crt_o (by omega), hlo]
  have cl : (nI lo).toNatClampNeg = lo := n_cl (by omega)
  have g12 : (crt R (48 - β + u) u 1).2.1 12 lo = -1 := by rw [crt_o (Or.inl hne), hk]
  unfold E_newSequence
  refine ⟨_, _, cr, ?_⟩
  rw [g16, cld, g19, cl, g12, if_pos rfl]
  exact ⟨v6, v_in hl9 (by omega), v6, v_in hl9 (by omega), v6, v6, rfl, rfl⟩
theorem nsq_E2 (h : Rd R X N a β u) (hu : u < 48) (hd : R.1 16 = nI d) (hd5 : d ≤ 5) (hlo : R.2.1 19 d = nI lo) (hl9 : lo < 96) (hne : lo ≠ 48 - β + u) (hk : R.2.1 12 lo ≠ -1) (hsq : R.2.1 20 d = nI sq) (hs9 : sq < 96) : E_newSequence R (nsq R (48 - β + u) u d sq 13) 0 := by
  have cr := crt_E (kd := 1) h hu
  have v6 : vp_in (nI d) 6 := v_in (by omega) (by omega)
  have g16 : (crt R (48 - β + u) u 1).1 16 = nI d := by rw [crt_f, if_neg (by omega), hd]
  have cld : (nI d).toNatClampNeg = d := n_cl (by omega)
  have g19 : (crt R (48 - β + u) u 1).2.1 19 d = nI lo := by rw [crt_o (by omega), hlo]
  have g20 : (crt R (48 - β + u) u 1).2.1 20 d = nI sq := by rw [crt_o (by omega), hsq]
  have cl : (nI lo).toNatClampNeg = lo := n_cl (by omega)
  have cl2 : (nI sq).toNatClampNeg = sq := n_cl (by omega)
  have g12 : ¬ (crt R (48 - β + u) u 1).2.1 12 lo = -1 := by rw [crt_o (Or.inl hne)]; exact hk
  unfold E_newSequence
  refine ⟨_, _, cr, ?_⟩
  rw [g16, cld, g19, cl, g20, cl2, if_neg g12]
  exact ⟨v6, v_in hl9 (by omega), v6, v_in hs9 (by omega), v6, v6, rfl, rfl⟩
theorem crt_nd {n : Nat} {kd : Nat} (hk : kd ≤ 6) (nd : NdR R) : NdR (crt R n u (nI kd)) := fun j hj => by
  by_cases e : j = n
  · subst e
    refine ⟨kd, 0, 0, ?_, by omega, ?_, by omega, by omega, Or.inr ⟨0, by omega, ?_⟩, ?_, by omega, Or.inl ?_, Or.inl ?_⟩
    · rw [crt_at, if_pos rfl, if_pos rfl]
    · rw [crt_at, if_pos rfl, if_neg (by omega), if_pos (by omega)]; rfl
    · rw [crt_at, if_pos rfl, if_neg (by omega), if_pos (by omega)]; rfl
    · rw [crt_at, if_pos rfl, if_neg (by omega), if_pos (by omega)]; rfl
    · rw [crt_at, if_pos rfl, if_neg (by omega), if_neg (by omega), if_pos (by omega)]
    · rw [crt_at, if_pos rfl, if_neg (by omega), if_neg (by omega), if_pos (by omega)]
  · exact nd_eq (fun k _ _ => crt_o (Or.inl e)) (nd j hj)
theorem bar_lv {as : Ch k} {xs : List (At k × Option Lp)} (h : LvR R X N β d k bh o a u lo sq tl) (hl : LyL R k lo (48 - β + u) sq tl as xs) (hu : u ≤ 2 + 3 * a) (ha : a < N) (nd : NdR R) :
    ∃ R', E_bar R R' 1 ∧ LvR R' X N β d k bh o (a + 1) (u + 1) lo (48 - β + u) none ∧ LyL R' k lo (48 - β + (u + 1)) (48 - β + u) none (as ++ [xs]) [] ∧ NdR R' ∧ LvF R R' β lo d := by
  have hlt := hl.lt
  have hseq := hl.seq
  obtain ⟨hr, c1, c2, c3, c4, c5, c6, c7, c8, c9, c10⟩ := h
  have hN : N ≤ 14 := hr.2.2.1
  have hβ := hr.2.2.2.2.2.2.1
  have hr1 : Rd (mf R 17 (nI (a + 1))) X N (a + 1) β u := hr.to (by omega)
  obtain ⟨b0, b1, b2, b3, b4⟩ := hl
  have hk : R.2.1 12 lo ≠ -1 := by
    cases as with
    | nil => obtain ⟨e, -⟩ := b1; rw [e]; exact n_m1 (by omega)
    | cons s ss => obtain ⟨mid, e, -⟩ := b1; rw [e]; exact n_m1 (by omega)
  have e1 : R.1 17 + 1 = nI (a + 1) := by rw [hr.2.2.2.1]; exact (nI_succ a).symm
  have ns := nsq_E2 (R := mf R 17 (nI (a + 1))) hr1 (by omega) c4 (by omega) c7 (by omega) (by omega) hk c8 (by omega)
  have at' : ∀ k j, j ≠ 48 - β + u ∨ k < 8 ∨ 13 < k → ¬ (k = 21 ∧ j = d) → ¬ (k = 20 ∧ j = d) → ¬ (k = 13 ∧ j = sq) → (nsq (mf R 17 (nI (a + 1))) (48 - β + u) u d sq 13).2.1 k j = R.2.1 k j := fun k j h1 h2 h3 h4 => by
    rw [nsq_at, if_neg h2, if_neg h3, if_neg h4, crt_o h1]; rfl
  have al : ∀ k j, j ≠ 48 - β + u → (nsq (mf R 17 (nI (a + 1))) (48 - β + u) u d sq 13).2.2 k j = R.2.2 k j := fun k j h1 => by rw [nsq_l, crt_l h1]; rfl
  have agN : ∀ j, j ≠ 48 - β + u → AgN R (nsq (mf R 17 (nI (a + 1))) (48 - β + u) u d sq 13) j := fun j hj => ⟨fun k k1 k2 => at' k j (Or.inl hj) (by omega) (by omega) (by omega), al 14 j hj, al 15 j hj⟩
  have ag : ∀ j, j ≠ 48 - β + u → j ≠ sq → AgS R (nsq (mf R 17 (nI (a + 1))) (48 - β + u) u d sq 13) j := fun j hj hs => ⟨agN j hj, at' 13 j (Or.inl hj) (by omega) (by omega) (by omega)⟩
  refine ⟨nsq (mf R 17 (nI (a + 1))) (48 - β + u) u d sq 13, ?_, ⟨⟨?_, ?_, hN, rfl, by omega, hr.2.2.2.2.2.1, hβ, rfl⟩, by omega, c2, c3, c4, c5, ?_, ?_, ?_, ?_, c10⟩, ⟨?_, ?_, ?_, ?_, Or.inl ⟨rfl, rfl, ?_, by omega⟩⟩, ?_, ⟨fun k k1 k2 k3 k4 => ?_, fun k j hk => ?_, fun k j h1 h2 hj => ?_, fun k j h1 h2 hj => ?_, fun k hk => ?_, fun k j hj => al k j (by omega)⟩⟩
  · unfold E_bar; rw [e1]; exact ⟨_, ns, rfl, rfl⟩
  · rw [← hr.1]; funext j; exact at' 1 j (by omega) (by omega) (by omega) (by omega)
  · rw [at' 2 0 (by omega) (by omega) (by omega) (by omega)]; exact hr.2.1
  · rw [at' 22 d (by omega) (by omega) (by omega) (by omega)]; exact c6
  · rw [at' 19 d (by omega) (by omega) (by omega) (by omega)]; exact c7
  · rw [nsq_at, if_neg (by omega), if_pos ⟨rfl, rfl⟩]
  · rw [nsq_at, if_pos ⟨rfl, rfl⟩]; rfl
  · rw [at' 8 lo (by omega) (by omega) (by omega) (by omega)]; exact b0
  · rw [at' 12 lo (by omega) (by omega) (by omega) (by omega)]
    refine lyC_snoc (mid := sq) (lyC_fr (LO := lo + 1) (HI := sq) (lyA_in k) (fun j j1 j2 => ag j (by omega) (by omega)) (fun lo hi m a _ _ => lyA_fr k lo hi m a) (Nat.le_refl _) (Nat.le_refl _) b1) ?_ ?_ ?_
    · rw [at' 8 sq (by omega) (by omega) (by omega) (by omega)]; exact b2
    · rw [at' 12 sq (by omega) (by omega) (by omega) (by omega)]
      exact lyS_fr (LO := sq + 1) (HI := 48 - β + u) (lyA_in k) (fun j j1 j2 => ag j (by omega) (by omega)) (fun lo hi m a _ _ => lyA_fr k lo hi m a) (Nat.le_refl _) (Nat.le_refl _) hseq
    · rw [nsq_at, if_neg (by omega), if_neg (by omega), if_pos ⟨rfl, rfl⟩]
  · rw [nsq_at, if_neg (by omega), if_neg (by omega), if_neg (by omega), crt_at, if_pos rfl, if_pos rfl]; rfl
  · rw [nsq_at, if_neg (by omega), if_neg (by omega), if_neg (by omega), crt_at, if_pos rfl, if_neg (by omega), if_neg (by omega), if_pos (by omega)]
  · rw [nsq_at, if_neg (by omega), if_neg (by omega), if_neg (by omega), crt_at, if_pos rfl, if_neg (by omega), if_neg (by omega), if_pos (by omega)]
  · intro j hj
    exact nd_lv (by omega) (nd_lv (by omega) (nd_13 (by omega) (crt_nd (R := mf R 17 (nI (a + 1))) (kd := 1) (by omega) nd j hj)))
  · rw [nsq_f, if_neg k1]
    show (if k = 17 then _ else R.1 k) = _
    rw [if_neg k4]
  · exact at' k j (by omega) (by omega) (by omega) (by omega)
  · exact at' k j (by omega) (by omega) (by omega) (by omega)
  · exact at' k j (by omega) (by omega) (by omega) (by omega)
  · exact at' k d (by omega) (by omega) (by omega) (by omega)
end BRK
