/-! what the class throws on a new object; compile of an empty row -/
set_option maxRecDepth 100000 in
theorem at_ISE {args : Array Value} {s : State} (hts : ∀ w ∈ aW, w.before args s = true) (hT : pg_T s) : ∀ a ∈ Bundle.ownAtoms0 yX5_compile.cls 89 xISE xUp, a.before args s = true :=
  List.forall_mem_cons.mpr ⟨hts _ (aw_t (ti_1 (List.mem_of_getElem? (i := 14) rfl)) rfl), List.forall_mem_cons.mpr ⟨hts _ (aw_t (ti_3 (List.mem_of_getElem? (i := 72) rfl)) rfl), List.forall_mem_cons.mpr ⟨hts _ (aw_t (ti_3 (List.mem_of_getElem? (i := 81) rfl)) rfl), List.forall_mem_cons.mpr ⟨hts _ (aw_t (ti_3 (List.mem_of_getElem? (i := 85) rfl)) rfl), List.forall_mem_cons.mpr ⟨hts _ (aw_t (ti_3 (List.mem_of_getElem? (i := 88) rfl)) rfl), List.forall_mem_cons.mpr ⟨hts _ (aw_t (ti_3 (List.mem_of_getElem? (i := 90) rfl)) rfl), List.forall_mem_cons.mpr ⟨hts _ (aw_t (ti_3 (List.mem_of_getElem? (i := 73) rfl)) rfl), List.forall_mem_cons.mpr ⟨hts _ (aw_t (ti_3 (List.mem_of_getElem? (i := 74) rfl)) rfl), List.forall_mem_cons.mpr ⟨hts _ (aw_t (ti_1 (List.mem_of_getElem? (i := 26) rfl)) rfl), List.forall_mem_cons.mpr ⟨hts _ (aw_t (ti_1 (List.mem_of_getElem? (i := 27) rfl)) rfl), List.forall_mem_cons.mpr ⟨hts _ (aw_t (ti_3 (List.mem_of_getElem? (i := 75) rfl)) rfl), List.forall_mem_cons.mpr ⟨hts _ (aw_t (ti_3 (List.mem_of_getElem? (i := 80) rfl)) rfl), List.forall_mem_cons.mpr ⟨hts _ (aw_t (ti_3 (List.mem_of_getElem? (i := 86) rfl)) rfl), List.forall_mem_cons.mpr ⟨hts _ (aw_t (ti_3 (List.mem_of_getElem? (i := 102) rfl)) rfl), List.forall_mem_cons.mpr ⟨hts _ (aw_t (ti_3 (List.mem_of_getElem? (i := 62) rfl)) rfl), List.forall_mem_cons.mpr ⟨hts _ (aw_t (ti_3 (List.mem_of_getElem? (i := 103) rfl)) rfl), List.forall_mem_cons.mpr ⟨hts _ (aw_t (ti_3 (List.mem_of_getElem? (i := 64) rfl)) rfl), List.forall_mem_cons.mpr ⟨hts _ (aw_t (ti_3 (List.mem_of_getElem? (i := 104) rfl)) rfl), List.forall_mem_cons.mpr ⟨hts _ (aw_t (ti_3 (List.mem_of_getElem? (i := 66) rfl)) rfl), List.forall_mem_cons.mpr ⟨hts _ (aw_t (ti_3 (List.mem_of_getElem? (i := 76) rfl)) rfl), List.forall_mem_cons.mpr ⟨hT.2.1.1, List.forall_mem_cons.mpr ⟨hts _ (aw_t (ti_3 (List.mem_of_getElem? (i := 78) rfl)) rfl), List.forall_mem_cons.mpr ⟨hT.2.2.1.1, List.forall_mem_cons.mpr ⟨hts _ (aw_t (ti_3 (List.mem_of_getElem? (i := 68) rfl)) rfl), List.forall_mem_cons.mpr ⟨hts _ (aw_t (ti_3 (List.mem_of_getElem? (i := 132) rfl)) rfl), List.forall_mem_cons.mpr ⟨hts _ (aw_t (ti_3 (List.mem_of_getElem? (i := 133) rfl)) rfl), List.forall_mem_cons.mpr ⟨hts _ (aw_t (ti_3 (List.mem_of_getElem? (i := 134) rfl)) rfl), List.forall_mem_cons.mpr ⟨hts _ (aw_t (ti_3 (List.mem_of_getElem? (i := 95) rfl)) rfl), List.forall_mem_cons.mpr ⟨va_Nw.use rfl (hT.1 _ (List.mem_of_getElem? (i := 3) rfl)), List.forall_mem_cons.mpr ⟨hts _ (aw_t (ti_3 (List.mem_of_getElem? (i := 95) rfl)) rfl), List.forall_mem_cons.mpr ⟨hts _ (aw_t (ti_3 (List.mem_of_getElem? (i := 96) rfl)) rfl), List.forall_mem_cons.mpr ⟨hts _ (aw_t (ti_3 (List.mem_of_getElem? (i := 97) rfl)) rfl), List.forall_mem_cons.mpr ⟨hts _ (aw_t (ti_3 (List.mem_of_getElem? (i := 98) rfl)) rfl), List.forall_mem_cons.mpr ⟨va_Nw.use rfl (hT.1 _ (List.mem_of_getElem? (i := 4) rfl)), List.forall_mem_cons.mpr ⟨hts _ (aw_t (ti_3 (List.mem_of_getElem? (i := 98) rfl)) rfl), List.forall_mem_cons.mpr ⟨hts _ (aw_t (ti_3 (List.mem_of_getElem? (i := 99) rfl)) rfl), List.forall_mem_cons.mpr ⟨hts _ (aw_t (ti_3 (List.mem_of_getElem? (i := 100) rfl)) rfl), List.forall_mem_cons.mpr ⟨hts _ (aw_t (ti_3 (List.mem_of_getElem? (i := 73) rfl)) rfl), List.forall_mem_cons.mpr ⟨va_Nw.use rfl (hT.1 _ (List.mem_of_getElem? (i := 5) rfl)), List.forall_mem_cons.mpr ⟨hts _ (aw_t (ti_3 (List.mem_of_getElem? (i := 131) rfl)) rfl), List.forall_mem_cons.mpr ⟨hts _ (aw_t (ti_3 (List.mem_of_getElem? (i := 123) rfl)) rfl), List.forall_mem_cons.mpr ⟨va_Nw.use rfl (hT.1 _ (List.mem_of_getElem? (i := 0) rfl)), List.forall_mem_cons.mpr ⟨hts _ (aw_t (ti_3 (List.mem_of_getElem? (i := 125) rfl)) rfl), List.forall_mem_cons.mpr ⟨hts _ (aw_t (ti_3 (List.mem_of_getElem? (i := 83) rfl)) rfl), List.forall_mem_cons.mpr ⟨hts _ (aw_t (ti_3 (List.mem_of_getElem? (i := 126) rfl)) rfl), List.forall_mem_cons.mpr ⟨hts _ (aw_t (ti_3 (List.mem_of_getElem? (i := 127) rfl)) rfl), List.forall_mem_cons.mpr ⟨hts _ (aw_t (ti_3 (List.mem_of_getElem? (i := 128) rfl)) rfl), List.forall_mem_cons.mpr ⟨hts _ (aw_t (ti_3 (List.mem_of_getElem? (i := 129) rfl)) rfl), List.forall_mem_cons.mpr ⟨hT.2.1.2, List.forall_mem_cons.mpr ⟨hT.2.2.1.2, List.forall_mem_cons.mpr ⟨hts _ (aw_t (ti_3 (List.mem_of_getElem? (i := 71) rfl)) rfl), List.forall_mem_cons.mpr ⟨hts _ (aw_t (ti_3 (List.mem_of_getElem? (i := 70) rfl)) rfl), List.forall_mem_cons.mpr ⟨hts _ (aw_t (ti_3 (List.mem_of_getElem? (i := 130) rfl)) rfl), fun _ h => absurd h List.not_mem_nil⟩⟩⟩⟩⟩⟩⟩⟩⟩⟩⟩⟩⟩⟩⟩⟩⟩⟩⟩⟩⟩⟩⟩⟩⟩⟩⟩⟩⟩⟩⟩⟩⟩⟩⟩⟩⟩⟩⟩⟩⟩⟩⟩⟩⟩⟩⟩⟩⟩⟩⟩⟩⟩
set_option maxRecDepth 100000 in
theorem at_IAE {args : Array Value} {s : State} (hts : ∀ w ∈ aW, w.before args s = true) (hT : pg_T s) : ∀ a ∈ Bundle.ownAtoms0 yX5_compile.cls 72 xIAE xUp, a.before args s = true :=
  List.forall_mem_cons.mpr ⟨hts _ (aw_t (ti_1 (List.mem_of_getElem? (i := 14) rfl)) rfl), List.forall_mem_cons.mpr ⟨hts _ (aw_t (ti_3 (List.mem_of_getElem? (i := 72) rfl)) rfl), List.forall_mem_cons.mpr ⟨hts _ (aw_t (ti_3 (List.mem_of_getElem? (i := 81) rfl)) rfl), List.forall_mem_cons.mpr ⟨hts _ (aw_t (ti_3 (List.mem_of_getElem? (i := 85) rfl)) rfl), List.forall_mem_cons.mpr ⟨hts _ (aw_t (ti_3 (List.mem_of_getElem? (i := 88) rfl)) rfl), List.forall_mem_cons.mpr ⟨hts _ (aw_t (ti_3 (List.mem_of_getElem? (i := 90) rfl)) rfl), List.forall_mem_cons.mpr ⟨hts _ (aw_t (ti_3 (List.mem_of_getElem? (i := 73) rfl)) rfl), List.forall_mem_cons.mpr ⟨hts _ (aw_t (ti_3 (List.mem_of_getElem? (i := 74) rfl)) rfl), List.forall_mem_cons.mpr ⟨hts _ (aw_t (ti_1 (List.mem_of_getElem? (i := 26) rfl)) rfl), List.forall_mem_cons.mpr ⟨hts _ (aw_t (ti_1 (List.mem_of_getElem? (i := 27) rfl)) rfl), List.forall_mem_cons.mpr ⟨hts _ (aw_t (ti_3 (List.mem_of_getElem? (i := 75) rfl)) rfl), List.forall_mem_cons.mpr ⟨hts _ (aw_t (ti_3 (List.mem_of_getElem? (i := 80) rfl)) rfl), List.forall_mem_cons.mpr ⟨hts _ (aw_t (ti_3 (List.mem_of_getElem? (i := 86) rfl)) rfl), List.forall_mem_cons.mpr ⟨hts _ (aw_t (ti_3 (List.mem_of_getElem? (i := 102) rfl)) rfl), List.forall_mem_cons.mpr ⟨hts _ (aw_t (ti_3 (List.mem_of_getElem? (i := 62) rfl)) rfl), List.forall_mem_cons.mpr ⟨hts _ (aw_t (ti_3 (List.mem_of_getElem? (i := 103) rfl)) rfl), List.forall_mem_cons.mpr ⟨hts _ (aw_t (ti_3 (List.mem_of_getElem? (i := 64) rfl)) rfl), List.forall_mem_cons.mpr ⟨hts _ (aw_t (ti_3 (List.mem_of_getElem? (i := 104) rfl)) rfl), List.forall_mem_cons.mpr ⟨hts _ (aw_t (ti_3 (List.mem_of_getElem? (i := 66) rfl)) rfl), List.forall_mem_cons.mpr ⟨hts _ (aw_t (ti_3 (List.mem_of_getElem? (i := 76) rfl)) rfl), List.forall_mem_cons.mpr ⟨hT.2.1.1, List.forall_mem_cons.mpr ⟨hts _ (aw_t (ti_3 (List.mem_of_getElem? (i := 78) rfl)) rfl), List.forall_mem_cons.mpr ⟨hT.2.2.1.1, List.forall_mem_cons.mpr ⟨hts _ (aw_t (ti_3 (List.mem_of_getElem? (i := 68) rfl)) rfl), List.forall_mem_cons.mpr ⟨hts _ (aw_t (ti_3 (List.mem_of_getElem? (i := 92) rfl)) rfl), List.forall_mem_cons.mpr ⟨hts _ (aw_t (ti_3 (List.mem_of_getElem? (i := 93) rfl)) rfl), List.forall_mem_cons.mpr ⟨hts _ (aw_t (ti_3 (List.mem_of_getElem? (i := 94) rfl)) rfl), List.forall_mem_cons.mpr ⟨hts _ (aw_t (ti_3 (List.mem_of_getElem? (i := 95) rfl)) rfl), List.forall_mem_cons.mpr ⟨va_Nw.use rfl (hT.1 _ (List.mem_of_getElem? (i := 3) rfl)), List.forall_mem_cons.mpr ⟨hts _ (aw_t (ti_3 (List.mem_of_getElem? (i := 95) rfl)) rfl), List.forall_mem_cons.mpr ⟨hts _ (aw_t (ti_3 (List.mem_of_getElem? (i := 96) rfl)) rfl), List.forall_mem_cons.mpr ⟨hts _ (aw_t (ti_3 (List.mem_of_getElem? (i := 97) rfl)) rfl), List.forall_mem_cons.mpr ⟨hts _ (aw_t (ti_3 (List.mem_of_getElem? (i := 98) rfl)) rfl), List.forall_mem_cons.mpr ⟨va_Nw.use rfl (hT.1 _ (List.mem_of_getElem? (i := 4) rfl)), List.forall_mem_cons.mpr ⟨hts _ (aw_t (ti_3 (List.mem_of_getElem? (i := 98) rfl)) rfl), List.forall_mem_cons.mpr ⟨hts _ (aw_t (ti_3 (List.mem_of_getElem? (i := 99) rfl)) rfl), List.forall_mem_cons.mpr ⟨hts _ (aw_t (ti_3 (List.mem_of_getElem? (i := 100) rfl)) rfl), List.forall_mem_cons.mpr ⟨hts _ (aw_t (ti_3 (List.mem_of_getElem? (i := 73) rfl)) rfl), List.forall_mem_cons.mpr ⟨va_Nw.use rfl (hT.1 _ (List.mem_of_getElem? (i := 5) rfl)), List.forall_mem_cons.mpr ⟨hts _ (aw_t (ti_3 (List.mem_of_getElem? (i := 91) rfl)) rfl), List.forall_mem_cons.mpr ⟨hts _ (aw_t (ti_3 (List.mem_of_getElem? (i := 51) rfl)) rfl), List.forall_mem_cons.mpr ⟨va_Nw.use rfl (hT.1 _ (List.mem_of_getElem? (i := 1) rfl)), List.forall_mem_cons.mpr ⟨hts _ (aw_t (ti_3 (List.mem_of_getElem? (i := 59) rfl)) rfl), List.forall_mem_cons.mpr ⟨hts _ (aw_t (ti_3 (List.mem_of_getElem? (i := 60) rfl)) rfl), List.forall_mem_cons.mpr ⟨hts _ (aw_t (ti_3 (List.mem_of_getElem? (i := 61) rfl)) rfl), List.forall_mem_cons.mpr ⟨hts _ (aw_t (ti_3 (List.mem_of_getElem? (i := 63) rfl)) rfl), List.forall_mem_cons.mpr ⟨hts _ (aw_t (ti_3 (List.mem_of_getElem? (i := 65) rfl)) rfl), List.forall_mem_cons.mpr ⟨hts _ (aw_t (ti_3 (List.mem_of_getElem? (i := 67) rfl)) rfl), List.forall_mem_cons.mpr ⟨hT.2.1.2, List.forall_mem_cons.mpr ⟨hT.2.2.1.2, List.forall_mem_cons.mpr ⟨hts _ (aw_t (ti_3 (List.mem_of_getElem? (i := 71) rfl)) rfl), List.forall_mem_cons.mpr ⟨hts _ (aw_t (ti_3 (List.mem_of_getElem? (i := 70) rfl)) rfl), List.forall_mem_cons.mpr ⟨hts _ (aw_t (ti_3 (List.mem_of_getElem? (i := 69) rfl)) rfl), fun _ h => absurd h List.not_mem_nil⟩⟩⟩⟩⟩⟩⟩⟩⟩⟩⟩⟩⟩⟩⟩⟩⟩⟩⟩⟩⟩⟩⟩⟩⟩⟩⟩⟩⟩⟩⟩⟩⟩⟩⟩⟩⟩⟩⟩⟩⟩⟩⟩⟩⟩⟩⟩⟩⟩⟩⟩⟩⟩
set_option maxRecDepth 100000 in
theorem at_IOO {args : Array Value} {s : State} (hts : ∀ w ∈ aW, w.before args s = true) (hT : pg_T s) : ∀ a ∈ Bundle.ownAtoms0 yX5_compile.cls 100 xIOO xUp, a.before args s = true :=
  List.forall_mem_cons.mpr ⟨hts _ (aw_t (ti_1 (List.mem_of_getElem? (i := 14) rfl)) rfl), List.forall_mem_cons.mpr ⟨hts _ (aw_t (ti_3 (List.mem_of_getElem? (i := 72) rfl)) rfl), List.forall_mem_cons.mpr ⟨hts _ (aw_t (ti_3 (List.mem_of_getElem? (i := 81) rfl)) rfl), List.forall_mem_cons.mpr ⟨hts _ (aw_t (ti_3 (List.mem_of_getElem? (i := 85) rfl)) rfl), List.forall_mem_cons.mpr ⟨hts _ (aw_t (ti_3 (List.mem_of_getElem? (i := 88) rfl)) rfl), List.forall_mem_cons.mpr ⟨hts _ (aw_t (ti_3 (List.mem_of_getElem? (i := 90) rfl)) rfl), List.forall_mem_cons.mpr ⟨hts _ (aw_t (ti_3 (List.mem_of_getElem? (i := 73) rfl)) rfl), List.forall_mem_cons.mpr ⟨hts _ (aw_t (ti_3 (List.mem_of_getElem? (i := 74) rfl)) rfl), List.forall_mem_cons.mpr ⟨hts _ (aw_t (ti_1 (List.mem_of_getElem? (i := 26) rfl)) rfl), List.forall_mem_cons.mpr ⟨hts _ (aw_t (ti_1 (List.mem_of_getElem? (i := 27) rfl)) rfl), List.forall_mem_cons.mpr ⟨hts _ (aw_t (ti_3 (List.mem_of_getElem? (i := 75) rfl)) rfl), List.forall_mem_cons.mpr ⟨hts _ (aw_t (ti_3 (List.mem_of_getElem? (i := 80) rfl)) rfl), List.forall_mem_cons.mpr ⟨hts _ (aw_t (ti_3 (List.mem_of_getElem? (i := 86) rfl)) rfl), List.forall_mem_cons.mpr ⟨hts _ (aw_t (ti_3 (List.mem_of_getElem? (i := 102) rfl)) rfl), List.forall_mem_cons.mpr ⟨hts _ (aw_t (ti_3 (List.mem_of_getElem? (i := 62) rfl)) rfl), List.forall_mem_cons.mpr ⟨hts _ (aw_t (ti_3 (List.mem_of_getElem? (i := 103) rfl)) rfl), List.forall_mem_cons.mpr ⟨hts _ (aw_t (ti_3 (List.mem_of_getElem? (i := 64) rfl)) rfl), List.forall_mem_cons.mpr ⟨hts _ (aw_t (ti_3 (List.mem_of_getElem? (i := 104) rfl)) rfl), List.forall_mem_cons.mpr ⟨hts _ (aw_t (ti_3 (List.mem_of_getElem? (i := 66) rfl)) rfl), List.forall_mem_cons.mpr ⟨hts _ (aw_t (ti_3 (List.mem_of_getElem? (i := 76) rfl)) rfl), List.forall_mem_cons.mpr ⟨hT.2.1.1, List.forall_mem_cons.mpr ⟨hts _ (aw_t (ti_3 (List.mem_of_getElem? (i := 78) rfl)) rfl), List.forall_mem_cons.mpr ⟨hT.2.2.1.1, List.forall_mem_cons.mpr ⟨hts _ (aw_t (ti_3 (List.mem_of_getElem? (i := 68) rfl)) rfl), List.forall_mem_cons.mpr ⟨hts _ (aw_t (ti_4 (List.mem_of_getElem? (i := 33) rfl)) rfl), List.forall_mem_cons.mpr ⟨hts _ (aw_t (ti_4 (List.mem_of_getElem? (i := 34) rfl)) rfl), List.forall_mem_cons.mpr ⟨hts _ (aw_t (ti_4 (List.mem_of_getElem? (i := 35) rfl)) rfl), List.forall_mem_cons.mpr ⟨hts _ (aw_t (ti_3 (List.mem_of_getElem? (i := 95) rfl)) rfl), List.forall_mem_cons.mpr ⟨va_Nw.use rfl (hT.1 _ (List.mem_of_getElem? (i := 3) rfl)), List.forall_mem_cons.mpr ⟨hts _ (aw_t (ti_3 (List.mem_of_getElem? (i := 95) rfl)) rfl), List.forall_mem_cons.mpr ⟨hts _ (aw_t (ti_3 (List.mem_of_getElem? (i := 96) rfl)) rfl), List.forall_mem_cons.mpr ⟨hts _ (aw_t (ti_3 (List.mem_of_getElem? (i := 97) rfl)) rfl), List.forall_mem_cons.mpr ⟨hts _ (aw_t (ti_3 (List.mem_of_getElem? (i := 98) rfl)) rfl), List.forall_mem_cons.mpr ⟨va_Nw.use rfl (hT.1 _ (List.mem_of_getElem? (i := 4) rfl)), List.forall_mem_cons.mpr ⟨hts _ (aw_t (ti_3 (List.mem_of_getElem? (i := 98) rfl)) rfl), List.forall_mem_cons.mpr ⟨hts _ (aw_t (ti_3 (List.mem_of_getElem? (i := 99) rfl)) rfl), List.forall_mem_cons.mpr ⟨hts _ (aw_t (ti_3 (List.mem_of_getElem? (i := 100) rfl)) rfl), List.forall_mem_cons.mpr ⟨hts _ (aw_t (ti_3 (List.mem_of_getElem? (i := 73) rfl)) rfl), List.forall_mem_cons.mpr ⟨va_Nw.use rfl (hT.1 _ (List.mem_of_getElem? (i := 5) rfl)), List.forall_mem_cons.mpr ⟨hts _ (aw_t (ti_4 (List.mem_of_getElem? (i := 32) rfl)) rfl), List.forall_mem_cons.mpr ⟨hts _ (aw_t (ti_4 (List.mem_of_getElem? (i := 24) rfl)) rfl), List.forall_mem_cons.mpr ⟨va_Nw.use rfl (hT.1 _ (List.mem_of_getElem? (i := 2) rfl)), List.forall_mem_cons.mpr ⟨hts _ (aw_t (ti_4 (List.mem_of_getElem? (i := 26) rfl)) rfl), List.forall_mem_cons.mpr ⟨hts _ (aw_t (ti_3 (List.mem_of_getElem? (i := 84) rfl)) rfl), List.forall_mem_cons.mpr ⟨hts _ (aw_t (ti_4 (List.mem_of_getElem? (i := 27) rfl)) rfl), List.forall_mem_cons.mpr ⟨hts _ (aw_t (ti_4 (List.mem_of_getElem? (i := 28) rfl)) rfl), List.forall_mem_cons.mpr ⟨hts _ (aw_t (ti_4 (List.mem_of_getElem? (i := 29) rfl)) rfl), List.forall_mem_cons.mpr ⟨hts _ (aw_t (ti_4 (List.mem_of_getElem? (i := 30) rfl)) rfl), List.forall_mem_cons.mpr ⟨hT.2.1.2, List.forall_mem_cons.mpr ⟨hT.2.2.1.2, List.forall_mem_cons.mpr ⟨hts _ (aw_t (ti_3 (List.mem_of_getElem? (i := 71) rfl)) rfl), List.forall_mem_cons.mpr ⟨hts _ (aw_t (ti_3 (List.mem_of_getElem? (i := 70) rfl)) rfl), List.forall_mem_cons.mpr ⟨hts _ (aw_t (ti_4 (List.mem_of_getElem? (i := 31) rfl)) rfl), fun _ h => absurd h List.not_mem_nil⟩⟩⟩⟩⟩⟩⟩⟩⟩⟩⟩⟩⟩⟩⟩⟩⟩⟩⟩⟩⟩⟩⟩⟩⟩⟩⟩⟩⟩⟩⟩⟩⟩⟩⟩⟩⟩⟩⟩⟩⟩⟩⟩⟩⟩⟩⟩⟩⟩⟩⟩⟩⟩

set_option maxHeartbeats 4000000 in
set_option maxRecDepth 100000 in
theorem p_row_size (l : Launch) (G : PG) (h a n : Nat) (k : Int32) (f : Nat → Int32) : Pi l yX3_size (Cond.code yX3_size cX3_size 1 (some .int) :: aW) { frames := 0, cells := 0, slots := 0, locals := 0 } G [(h, .inr (3, [.ref a, .int k])), (a, .inl (G.2 2, n, .inl f))] [.ref h] (fun (r9 : Int32) => r9 = k) := by
  refine ofP (y := yX3_size) (G := G) (cc := cX3_size) (maxL := 1) (ret := (some .int)) (by decide) rfl ?_
  intro p e s m below meth c F hK hP hD
  have hx := F.1.1; have hb := F.1.2.1; have hml := F.1.2.2.1; have hts := F.1.2.2.2.2
  have hown : s.vm.findClass RX3 = some m.cls := F.1.2.2.2.1
  have hl := lv_entry ([.ref h]) (n := 1) (Nat.le_of_ble_eq_true rfl)
  rw [lg_entry_eq]
  generalize (lg_sl ([.ref h]) ++ List.replicate (1 - (lg_sl ([.ref h])).length) Slot.unset).toArray = ls at hl ⊢
  have hl : lv_has ls 1 [(0, .ref h)] := hl
  refine lv_aload_n hx hb dX3_size_0 rfl (lv_at hl 0 rfl) ?_
  refine va_get (D := G.1) (ci := 3) (v := .int k) (C := RX3) (T := TX3) (N := 2) hx hb hts inX3 hown hK.1 hP 0 rfl rfl 1 (by decide) (hts _ w_41) (fun _ h9 => h9) rfl dX3_size_1 ?_
  exact en_p F k (by rfl) rfl dX3_size_4

theorem dX5_matches_0 : decode cX5_matches 0 = .ok (.aload_n 0, 1) := by decide +kernel
theorem dX5_matches_1 : decode cX5_matches 1 = .ok (.getfield 76, 3) := by decide +kernel
theorem dX5_matches_4 : decode cX5_matches 4 = .ok (.ifCond .ne 11, 3) := by decide +kernel
theorem dX5_matches_7 : decode cX5_matches 7 = .ok (.new 87, 3) := by decide +kernel
theorem dX5_matches_10 : decode cX5_matches 10 = .ok (.dup, 1) := by decide +kernel
theorem dX5_matches_11 : decode cX5_matches 11 = .ok (.invokespecial 89, 3) := by decide +kernel
theorem dX5_matches_14 : decode cX5_matches 14 = .ok (.athrow, 1) := by decide +kernel
set_option maxHeartbeats 4000000 in
set_option maxRecDepth 100000 in
theorem x_matches (l : Launch) (G : PG) (hst : l.stackTraces = false) (h se tx rs sp md pf pt : Nat) (mt mf mo pcs : Int32) (msp : Int64) : Xt l yX5_matches (Cond.code yX5_matches cX5_matches 1 (some .boolean) :: aW) { frames := 6, cells := 1, slots := 6, locals := 100 } G [(h, .inr (5, [.ref se, .ref tx, .ref rs, .ref sp, .int 0, .int mt, .int mf, .int mo, .long msp, .ref md, .ref pf, .ref pt, .int pcs]))] [.ref h] (fun E => E = xISE) := by
  refine ofX (y := yX5_matches) (G := G) (cc := cX5_matches) (maxL := 1) (ret := (some .boolean)) (by decide) rfl ?_
  intro p e s m below meth c F hK hT hex hP hD
  have hx := F.1.1; have hb := F.1.2.1; have hml := F.1.2.2.1; have hts := F.1.2.2.2.2
  have hown : s.vm.findClass RX5 = some m.cls := F.1.2.2.2.1
  have hl := lv_entry ([.ref h]) (n := 1) (Nat.le_of_ble_eq_true rfl)
  rw [lg_entry_eq]
  generalize (lg_sl ([.ref h]) ++ List.replicate (1 - (lg_sl ([.ref h])).length) Slot.unset).toArray = ls at hl ⊢
  have hl : lv_has ls 1 [(0, .ref h)] := hl
  refine lv_aload_n hx hb dX5_matches_0 rfl (lv_at hl 0 rfl) ?_
  refine va_get (D := G.1) (ci := 5) (v := .int 0) (C := RX5) (T := TX5) (N := 13) hx hb hts inX5 hown hK.1 hP 0 rfl rfl 4 (by decide) (hts _ w_194) (fun _ h9 => h9) rfl dX5_matches_1 ?_
  refine lv_if_ne (tgt := 15) hx hb dX5_matches_4 (by decide) (fun h => absurd rfl h) (fun _ => ?_)
  exact th_0 (E := xISE) (names := xUp) (ik := 87) (ic := 89) F hst (by decide +kernel) (by decide +kernel) (hts _ w_602) (hts _ w_603) (hts _ w_18) (at_ISE hts hT) hex hl.1 dX5_matches_7 dX5_matches_10 dX5_matches_11 dX5_matches_14 (by decide) (by decide) (by decide) (by decide) rfl

theorem dX5_looking_0 : decode cX5_looking 0 = .ok (.aload_n 0, 1) := by decide +kernel
theorem dX5_looking_1 : decode cX5_looking 1 = .ok (.getfield 76, 3) := by decide +kernel
theorem dX5_looking_4 : decode cX5_looking 4 = .ok (.ifCond .ne 11, 3) := by decide +kernel
theorem dX5_looking_7 : decode cX5_looking 7 = .ok (.new 87, 3) := by decide +kernel
theorem dX5_looking_10 : decode cX5_looking 10 = .ok (.dup, 1) := by decide +kernel
theorem dX5_looking_11 : decode cX5_looking 11 = .ok (.invokespecial 89, 3) := by decide +kernel
theorem dX5_looking_14 : decode cX5_looking 14 = .ok (.athrow, 1) := by decide +kernel
set_option maxHeartbeats 4000000 in
set_option maxRecDepth 100000 in
theorem x_looking (l : Launch) (G : PG) (hst : l.stackTraces = false) (h se tx rs sp md pf pt : Nat) (mt mf mo pcs : Int32) (msp : Int64) : Xt l yX5_looking (Cond.code yX5_looking cX5_looking 1 (some .boolean) :: aW) { frames := 6, cells := 1, slots := 6, locals := 100 } G [(h, .inr (5, [.ref se, .ref tx, .ref rs, .ref sp, .int 0, .int mt, .int mf, .int mo, .long msp, .ref md, .ref pf, .ref pt, .int pcs]))] [.ref h] (fun E => E = xISE) := by
  refine ofX (y := yX5_looking) (G := G) (cc := cX5_looking) (maxL := 1) (ret := (some .boolean)) (by decide) rfl ?_
  intro p e s m below meth c F hK hT hex hP hD
  have hx := F.1.1; have hb := F.1.2.1; have hml := F.1.2.2.1; have hts := F.1.2.2.2.2
  have hown : s.vm.findClass RX5 = some m.cls := F.1.2.2.2.1
  have hl := lv_entry ([.ref h]) (n := 1) (Nat.le_of_ble_eq_true rfl)
  rw [lg_entry_eq]
  generalize (lg_sl ([.ref h]) ++ List.replicate (1 - (lg_sl ([.ref h])).length) Slot.unset).toArray = ls at hl ⊢
  have hl : lv_has ls 1 [(0, .ref h)] := hl
  refine lv_aload_n hx hb dX5_looking_0 rfl (lv_at hl 0 rfl) ?_
  refine va_get (D := G.1) (ci := 5) (v := .int 0) (C := RX5) (T := TX5) (N := 13) hx hb hts inX5 hown hK.1 hP 0 rfl rfl 4 (by decide) (hts _ w_194) (fun _ h9 => h9) rfl dX5_looking_1 ?_
  refine lv_if_ne (tgt := 15) hx hb dX5_looking_4 (by decide) (fun h => absurd rfl h) (fun _ => ?_)
  exact th_0 (E := xISE) (names := xUp) (ik := 87) (ic := 89) F hst (by decide +kernel) (by decide +kernel) (hts _ w_602) (hts _ w_603) (hts _ w_18) (at_ISE hts hT) hex hl.1 dX5_looking_7 dX5_looking_10 dX5_looking_11 dX5_looking_14 (by decide) (by decide) (by decide) (by decide) rfl

theorem dX5_replace_0 : decode cX5_replace 0 = .ok (.aload_n 0, 1) := by decide +kernel
theorem dX5_replace_1 : decode cX5_replace 1 = .ok (.getfield 76, 3) := by decide +kernel
theorem dX5_replace_4 : decode cX5_replace 4 = .ok (.ifCond .ne 11, 3) := by decide +kernel
theorem dX5_replace_7 : decode cX5_replace 7 = .ok (.new 87, 3) := by decide +kernel
theorem dX5_replace_10 : decode cX5_replace 10 = .ok (.dup, 1) := by decide +kernel
theorem dX5_replace_11 : decode cX5_replace 11 = .ok (.invokespecial 89, 3) := by decide +kernel
theorem dX5_replace_14 : decode cX5_replace 14 = .ok (.athrow, 1) := by decide +kernel
set_option maxHeartbeats 4000000 in
set_option maxRecDepth 100000 in
theorem x_replace (l : Launch) (G : PG) (hst : l.stackTraces = false) (h se tx rs sp md pf pt : Nat) (mt mf mo pcs : Int32) (msp : Int64) : Xt l yX5_replace (Cond.code yX5_replace cX5_replace 5 (some .int) :: aW) { frames := 6, cells := 1, slots := 6, locals := 100 } G [(h, .inr (5, [.ref se, .ref tx, .ref rs, .ref sp, .int 0, .int mt, .int mf, .int mo, .long msp, .ref md, .ref pf, .ref pt, .int pcs]))] [.ref h] (fun E => E = xISE) := by
  refine ofX (y := yX5_replace) (G := G) (cc := cX5_replace) (maxL := 5) (ret := (some .int)) (by decide) rfl ?_
  intro p e s m below meth c F hK hT hex hP hD
  have hx := F.1.1; have hb := F.1.2.1; have hml := F.1.2.2.1; have hts := F.1.2.2.2.2
  have hown : s.vm.findClass RX5 = some m.cls := F.1.2.2.2.1
  have hl := lv_entry ([.ref h]) (n := 5) (Nat.le_of_ble_eq_true rfl)
  rw [lg_entry_eq]
  generalize (lg_sl ([.ref h]) ++ List.replicate (5 - (lg_sl ([.ref h])).length) Slot.unset).toArray = ls at hl ⊢
  have hl : lv_has ls 5 [(0, .ref h)] := hl
  refine lv_aload_n hx hb dX5_replace_0 rfl (lv_at hl 0 rfl) ?_
  refine va_get (D := G.1) (ci := 5) (v := .int 0) (C := RX5) (T := TX5) (N := 13) hx hb hts inX5 hown hK.1 hP 0 rfl rfl 4 (by decide) (hts _ w_194) (fun _ h9 => h9) rfl dX5_replace_1 ?_
  refine lv_if_ne (tgt := 15) hx hb dX5_replace_4 (by decide) (fun h => absurd rfl h) (fun _ => ?_)
  exact th_0 (E := xISE) (names := xUp) (ik := 87) (ic := 89) F hst (by decide +kernel) (by decide +kernel) (hts _ w_602) (hts _ w_603) (hts _ w_18) (at_ISE hts hT) hex hl.1 dX5_replace_7 dX5_replace_10 dX5_replace_11 dX5_replace_14 (by decide) (by decide) (by decide) (by decide) rfl

theorem dX5_split_0 : decode cX5_split 0 = .ok (.aload_n 0, 1) := by decide +kernel
theorem dX5_split_1 : decode cX5_split 1 = .ok (.getfield 76, 3) := by decide +kernel
theorem dX5_split_4 : decode cX5_split 4 = .ok (.ifCond .ne 11, 3) := by decide +kernel
theorem dX5_split_7 : decode cX5_split 7 = .ok (.new 87, 3) := by decide +kernel
theorem dX5_split_10 : decode cX5_split 10 = .ok (.dup, 1) := by decide +kernel
theorem dX5_split_11 : decode cX5_split 11 = .ok (.invokespecial 89, 3) := by decide +kernel
theorem dX5_split_14 : decode cX5_split 14 = .ok (.athrow, 1) := by decide +kernel
set_option maxHeartbeats 4000000 in
set_option maxRecDepth 100000 in
theorem x_split (l : Launch) (G : PG) (hst : l.stackTraces = false) (h se tx rs sp md pf pt : Nat) (mt mf mo pcs : Int32) (msp : Int64) : Xt l yX5_split (Cond.code yX5_split cX5_split 4 (some .int) :: aW) { frames := 6, cells := 1, slots := 6, locals := 100 } G [(h, .inr (5, [.ref se, .ref tx, .ref rs, .ref sp, .int 0, .int mt, .int mf, .int mo, .long msp, .ref md, .ref pf, .ref pt, .int pcs]))] [.ref h] (fun E => E = xISE) := by
  refine ofX (y := yX5_split) (G := G) (cc := cX5_split) (maxL := 4) (ret := (some .int)) (by decide) rfl ?_
  intro p e s m below meth c F hK hT hex hP hD
  have hx := F.1.1; have hb := F.1.2.1; have hml := F.1.2.2.1; have hts := F.1.2.2.2.2
  have hown : s.vm.findClass RX5 = some m.cls := F.1.2.2.2.1
  have hl := lv_entry ([.ref h]) (n := 4) (Nat.le_of_ble_eq_true rfl)
  rw [lg_entry_eq]
  generalize (lg_sl ([.ref h]) ++ List.replicate (4 - (lg_sl ([.ref h])).length) Slot.unset).toArray = ls at hl ⊢
  have hl : lv_has ls 4 [(0, .ref h)] := hl
  refine lv_aload_n hx hb dX5_split_0 rfl (lv_at hl 0 rfl) ?_
  refine va_get (D := G.1) (ci := 5) (v := .int 0) (C := RX5) (T := TX5) (N := 13) hx hb hts inX5 hown hK.1 hP 0 rfl rfl 4 (by decide) (hts _ w_194) (fun _ h9 => h9) rfl dX5_split_1 ?_
  refine lv_if_ne (tgt := 15) hx hb dX5_split_4 (by decide) (fun h => absurd rfl h) (fun _ => ?_)
  exact th_0 (E := xISE) (names := xUp) (ik := 87) (ic := 89) F hst (by decide +kernel) (by decide +kernel) (hts _ w_602) (hts _ w_603) (hts _ w_18) (at_ISE hts hT) hex hl.1 dX5_split_7 dX5_split_10 dX5_split_11 dX5_split_14 (by decide) (by decide) (by decide) (by decide) rfl

theorem dX5_start_0 : decode cX5_start 0 = .ok (.aload_n 0, 1) := by decide +kernel
theorem dX5_start_1 : decode cX5_start 1 = .ok (.getfield 80, 3) := by decide +kernel
theorem dX5_start_4 : decode cX5_start 4 = .ok (.ifCond .ne 11, 3) := by decide +kernel
theorem dX5_start_7 : decode cX5_start 7 = .ok (.new 87, 3) := by decide +kernel
theorem dX5_start_10 : decode cX5_start 10 = .ok (.dup, 1) := by decide +kernel
theorem dX5_start_11 : decode cX5_start 11 = .ok (.invokespecial 89, 3) := by decide +kernel
theorem dX5_start_14 : decode cX5_start 14 = .ok (.athrow, 1) := by decide +kernel
set_option maxHeartbeats 4000000 in
set_option maxRecDepth 100000 in
theorem x_start (l : Launch) (G : PG) (hst : l.stackTraces = false) (h se tx rs sp md pf pt : Nat) (cp mf mo pcs : Int32) (msp : Int64) (g : Int32) : Xt l yX5_start (Cond.code yX5_start cX5_start 2 (some .int) :: aW) { frames := 6, cells := 1, slots := 6, locals := 100 } G [(h, .inr (5, [.ref se, .ref tx, .ref rs, .ref sp, .int cp, .int 0, .int mf, .int mo, .long msp, .ref md, .ref pf, .ref pt, .int pcs]))] [.ref h, .int g] (fun E => E = xISE) := by
  refine ofX (y := yX5_start) (G := G) (cc := cX5_start) (maxL := 2) (ret := (some .int)) (by decide) rfl ?_
  intro p e s m below meth c F hK hT hex hP hD
  have hx := F.1.1; have hb := F.1.2.1; have hml := F.1.2.2.1; have hts := F.1.2.2.2.2
  have hown : s.vm.findClass RX5 = some m.cls := F.1.2.2.2.1
  have hl := lv_entry ([.ref h, .int g]) (n := 2) (Nat.le_of_ble_eq_true rfl)
  rw [lg_entry_eq]
  generalize (lg_sl ([.ref h, .int g]) ++ List.replicate (2 - (lg_sl ([.ref h, .int g])).length) Slot.unset).toArray = ls at hl ⊢
  have hl : lv_has ls 2 [(0, .ref h), (1, .int g)] := hl
  refine lv_aload_n hx hb dX5_start_0 rfl (lv_at hl 0 rfl) ?_
  refine va_get (D := G.1) (ci := 5) (v := .int 0) (C := RX5) (T := TX5) (N := 13) hx hb hts inX5 hown hK.1 hP 0 rfl rfl 5 (by decide) (hts _ w_195) (fun _ h9 => h9) rfl dX5_start_1 ?_
  refine lv_if_ne (tgt := 15) hx hb dX5_start_4 (by decide) (fun h => absurd rfl h) (fun _ => ?_)
  exact th_0 (E := xISE) (names := xUp) (ik := 87) (ic := 89) F hst (by decide +kernel) (by decide +kernel) (hts _ w_602) (hts _ w_603) (hts _ w_18) (at_ISE hts hT) hex hl.1 dX5_start_7 dX5_start_10 dX5_start_11 dX5_start_14 (by decide) (by decide) (by decide) (by decide) rfl

theorem dX5_end_0 : decode cX5_end 0 = .ok (.aload_n 0, 1) := by decide +kernel
theorem dX5_end_1 : decode cX5_end 1 = .ok (.getfield 80, 3) := by decide +kernel
theorem dX5_end_4 : decode cX5_end 4 = .ok (.ifCond .ne 11, 3) := by decide +kernel
theorem dX5_end_7 : decode cX5_end 7 = .ok (.new 87, 3) := by decide +kernel
theorem dX5_end_10 : decode cX5_end 10 = .ok (.dup, 1) := by decide +kernel
theorem dX5_end_11 : decode cX5_end 11 = .ok (.invokespecial 89, 3) := by decide +kernel
theorem dX5_end_14 : decode cX5_end 14 = .ok (.athrow, 1) := by decide +kernel
set_option maxHeartbeats 4000000 in
set_option maxRecDepth 100000 in
theorem x_end (l : Launch) (G : PG) (hst : l.stackTraces = false) (h se tx rs sp md pf pt : Nat) (cp mf mo pcs : Int32) (msp : Int64) (g : Int32) : Xt l yX5_end (Cond.code yX5_end cX5_end 2 (some .int) :: aW) { frames := 6, cells := 1, slots := 6, locals := 100 } G [(h, .inr (5, [.ref se, .ref tx, .ref rs, .ref sp, .int cp, .int 0, .int mf, .int mo, .long msp, .ref md, .ref pf, .ref pt, .int pcs]))] [.ref h, .int g] (fun E => E = xISE) := by
  refine ofX (y := yX5_end) (G := G) (cc := cX5_end) (maxL := 2) (ret := (some .int)) (by decide) rfl ?_
  intro p e s m below meth c F hK hT hex hP hD
  have hx := F.1.1; have hb := F.1.2.1; have hml := F.1.2.2.1; have hts := F.1.2.2.2.2
  have hown : s.vm.findClass RX5 = some m.cls := F.1.2.2.2.1
  have hl := lv_entry ([.ref h, .int g]) (n := 2) (Nat.le_of_ble_eq_true rfl)
  rw [lg_entry_eq]
  generalize (lg_sl ([.ref h, .int g]) ++ List.replicate (2 - (lg_sl ([.ref h, .int g])).length) Slot.unset).toArray = ls at hl ⊢
  have hl : lv_has ls 2 [(0, .ref h), (1, .int g)] := hl
  refine lv_aload_n hx hb dX5_end_0 rfl (lv_at hl 0 rfl) ?_
  refine va_get (D := G.1) (ci := 5) (v := .int 0) (C := RX5) (T := TX5) (N := 13) hx hb hts inX5 hown hK.1 hP 0 rfl rfl 5 (by decide) (hts _ w_195) (fun _ h9 => h9) rfl dX5_end_1 ?_
  refine lv_if_ne (tgt := 15) hx hb dX5_end_4 (by decide) (fun h => absurd rfl h) (fun _ => ?_)
  exact th_0 (E := xISE) (names := xUp) (ik := 87) (ic := 89) F hst (by decide +kernel) (by decide +kernel) (hts _ w_602) (hts _ w_603) (hts _ w_18) (at_ISE hts hT) hex hl.1 dX5_end_7 dX5_end_10 dX5_end_11 dX5_end_14 (by decide) (by decide) (by decide) (by decide) rfl

theorem dX5_find_0 : decode cX5_find 0 = .ok (.iload_n 1, 1) := by decide +kernel
theorem dX5_find_1 : decode cX5_find 1 = .ok (.ifCond .lt 14, 3) := by decide +kernel
theorem dX5_find_4 : decode cX5_find 4 = .ok (.iload_n 1, 1) := by decide +kernel
theorem dX5_find_5 : decode cX5_find 5 = .ok (.aload_n 0, 1) := by decide +kernel
theorem dX5_find_6 : decode cX5_find 6 = .ok (.getfield 20, 3) := by decide +kernel
theorem dX5_find_9 : decode cX5_find 9 = .ok (.invokevirtual 90, 3) := by decide +kernel
theorem dX5_find_12 : decode cX5_find 12 = .ok (.if_icmp .le 11, 3) := by decide +kernel
theorem dX5_find_23 : decode cX5_find 23 = .ok (.aload_n 0, 1) := by decide +kernel
theorem dX5_find_24 : decode cX5_find 24 = .ok (.getfield 76, 3) := by decide +kernel
theorem dX5_find_27 : decode cX5_find 27 = .ok (.ifCond .ne 11, 3) := by decide +kernel
theorem dX5_find_30 : decode cX5_find 30 = .ok (.new 87, 3) := by decide +kernel
theorem dX5_find_33 : decode cX5_find 33 = .ok (.dup, 1) := by decide +kernel
theorem dX5_find_34 : decode cX5_find 34 = .ok (.invokespecial 89, 3) := by decide +kernel
theorem dX5_find_37 : decode cX5_find 37 = .ok (.athrow, 1) := by decide +kernel
set_option maxHeartbeats 4000000 in
set_option maxRecDepth 100000 in
theorem x_find_ise (l : Launch) (G : PG) (hst : l.stackTraces = false) (h se tx rs sp md pf pt : Nat) (mt mf mo pcs : Int32) (msp : Int64) (tc j1 : Nat) (g1 : Nat → Int32) (fr : Int32) (h0 : ¬ fr < 0) (h1 : fr ≤ nI j1) : Xt l yX5_find (Cond.code yX5_find cX5_find 2 (some .int) :: aW) { frames := 6, cells := 1, slots := 6, locals := 100 } G [(h, .inr (5, [.ref se, .ref tx, .ref rs, .ref sp, .int 0, .int mt, .int mf, .int mo, .long msp, .ref md, .ref pf, .ref pt, .int pcs])), (tx, .inr (3, [.ref tc, .int (nI j1)])), (tc, .inl (G.2 2, 8, .inl g1))] [.ref h, .int fr] (fun E => E = xISE) := by
  refine ofX (y := yX5_find) (G := G) (cc := cX5_find) (maxL := 2) (ret := (some .int)) (by decide) rfl ?_
  intro p e s m below meth c F hK hT hex hP hD
  have hx := F.1.1; have hb := F.1.2.1; have hml := F.1.2.2.1; have hts := F.1.2.2.2.2
  have hown : s.vm.findClass RX5 = some m.cls := F.1.2.2.2.1
  have hl := lv_entry ([.ref h, .int fr]) (n := 2) (Nat.le_of_ble_eq_true rfl)
  rw [lg_entry_eq]
  generalize (lg_sl ([.ref h, .int fr]) ++ List.replicate (2 - (lg_sl ([.ref h, .int fr])).length) Slot.unset).toArray = ls at hl ⊢
  have hl : lv_has ls 2 [(0, .ref h), (1, .int fr)] := hl
  refine lv_iload_n hx hb dX5_find_0 rfl (lv_at hl 1 rfl) ?_
  refine lv_if_lt (tgt := 15) hx hb dX5_find_1 (by decide) (fun h => absurd h h0) (fun _ => ?_)
  refine lv_iload_n hx hb dX5_find_4 rfl (lv_at hl 1 rfl) ?_
  refine lv_aload_n hx hb dX5_find_5 rfl (lv_at hl 0 rfl) ?_
  refine va_get (D := G.1) (ci := 5) (v := .ref tx) (C := RX5) (T := TX5) (N := 13) hx hb hts inX5 hown hK.1 hP 0 rfl rfl 1 (by decide) (hts _ w_191) (fun _ h9 => h9) rfl dX5_find_6 ?_
  have hPc := hP.sub (ws' := [(tx, .inr (3, [.ref tc, .int (nI j1)])), (tc, .inl (G.2 2, 8, .inl g1))]) [1, 2] rfl
  have hDc := hD.sub (ws' := [(tx, .inr (3, [.ref tc, .int (nI j1)])), (tc, .inl (G.2 2, 8, .inl g1))]) [1, 2] (by decide) rfl
  have hqc : 0 + 0 ≤ 1 ∧ 0 + 0 ≤ 6 := ⟨by omega, by omega⟩
  refine kp_i (va_runV (As := []) (rest := [.int fr]) F.1 (p_row_size l G _ _ _ _ _ _) (cwV 0 hts (aw_V w_257 w_258 w_259 w_3 w_260) rfl rfl rfl (by decide +kernel) ⟨by decide, by decide⟩) ⟨cS_blind, va_recv (q := (RX3, TX3, 2)) (ci := 3) (q0 := 0) hK.1 hPc rfl rfl, cS_pre hPc hDc hK⟩ rfl rfl hl.1 rfl (lv_room (Nat.le_of_ble_eq_true rfl)) dX5_find_9 hqc) (fun r hp => ?_)
  subst hp
  refine lv_icmp_le (tgt := 23) hx hb dX5_find_12 (by decide) (fun _ => ?_) (fun h => absurd h1 h)
  refine lv_aload_n hx hb dX5_find_23 rfl (lv_at hl 0 rfl) ?_
  refine va_get (D := G.1) (ci := 5) (v := .int 0) (C := RX5) (T := TX5) (N := 13) hx hb hts inX5 hown hK.1 hP 0 rfl rfl 4 (by decide) (hts _ w_194) (fun _ h9 => h9) rfl dX5_find_24 ?_
  refine lv_if_ne (tgt := 38) hx hb dX5_find_27 (by decide) (fun h => absurd rfl h) (fun _ => ?_)
  exact th_0 (E := xISE) (names := xUp) (ik := 87) (ic := 89) F hst (by decide +kernel) (by decide +kernel) (hts _ w_602) (hts _ w_603) (hts _ w_18) (at_ISE hts hT) hex hl.1 dX5_find_30 dX5_find_33 dX5_find_34 dX5_find_37 (by decide) (by decide) (by decide) (by decide) rfl

theorem xf_1 {fr k : Int32} (h : fr < 0 ∨ k < fr) (h0 : ¬ fr < 0) : ¬ fr ≤ k := fun z => h.elim h0 (fun y => pk_nle y z)
theorem dX5_find_15 : decode cX5_find 15 = .ok (.new 98, 3) := by decide +kernel
theorem dX5_find_18 : decode cX5_find 18 = .ok (.dup, 1) := by decide +kernel
theorem dX5_find_19 : decode cX5_find 19 = .ok (.invokespecial 100, 3) := by decide +kernel
theorem dX5_find_22 : decode cX5_find 22 = .ok (.athrow, 1) := by decide +kernel
set_option maxHeartbeats 4000000 in
set_option maxRecDepth 100000 in
theorem x_find_oob (l : Launch) (G : PG) (hst : l.stackTraces = false) (h se tx rs sp md pf pt : Nat) (cp mt mf mo pcs : Int32) (msp : Int64) (tc j1 : Nat) (g1 : Nat → Int32) (fr : Int32) (hb9 : fr < 0 ∨ nI j1 < fr) : Xt l yX5_find (Cond.code yX5_find cX5_find 2 (some .int) :: aW) { frames := 6, cells := 1, slots := 6, locals := 100 } G [(h, .inr (5, [.ref se, .ref tx, .ref rs, .ref sp, .int cp, .int mt, .int mf, .int mo, .long msp, .ref md, .ref pf, .ref pt, .int pcs])), (tx, .inr (3, [.ref tc, .int (nI j1)])), (tc, .inl (G.2 2, 8, .inl g1))] [.ref h, .int fr] (fun E => E = xIOO) := by
  refine ofX (y := yX5_find) (G := G) (cc := cX5_find) (maxL := 2) (ret := (some .int)) (by decide) rfl ?_
  intro p e s m below meth c F hK hT hex hP hD
  have hx := F.1.1; have hb := F.1.2.1; have hml := F.1.2.2.1; have hts := F.1.2.2.2.2
  have hown : s.vm.findClass RX5 = some m.cls := F.1.2.2.2.1
  have hl := lv_entry ([.ref h, .int fr]) (n := 2) (Nat.le_of_ble_eq_true rfl)
  rw [lg_entry_eq]
  generalize (lg_sl ([.ref h, .int fr]) ++ List.replicate (2 - (lg_sl ([.ref h, .int fr])).length) Slot.unset).toArray = ls at hl ⊢
  have hl : lv_has ls 2 [(0, .ref h), (1, .int fr)] := hl
  refine lv_iload_n hx hb dX5_find_0 rfl (lv_at hl 1 rfl) ?_
  refine lv_if_lt (tgt := 15) hx hb dX5_find_1 (by decide) (fun h1 => ?_) (fun h1 => ?_)
  ·
    exact th_0 (E := xIOO) (names := xUp) (ik := 98) (ic := 100) F hst (by decide +kernel) (by decide +kernel) (hts _ w_743) (hts _ w_744) (hts _ w_19) (at_IOO hts hT) hex hl.1 dX5_find_15 dX5_find_18 dX5_find_19 dX5_find_22 (by decide) (by decide) (by decide) (by decide) rfl
  ·
    refine lv_iload_n hx hb dX5_find_4 rfl (lv_at hl 1 rfl) ?_
    refine lv_aload_n hx hb dX5_find_5 rfl (lv_at hl 0 rfl) ?_
    refine va_get (D := G.1) (ci := 5) (v := .ref tx) (C := RX5) (T := TX5) (N := 13) hx hb hts inX5 hown hK.1 hP 0 rfl rfl 1 (by decide) (hts _ w_191) (fun _ h9 => h9) rfl dX5_find_6 ?_
    have hPc := hP.sub (ws' := [(tx, .inr (3, [.ref tc, .int (nI j1)])), (tc, .inl (G.2 2, 8, .inl g1))]) [1, 2] rfl
    have hDc := hD.sub (ws' := [(tx, .inr (3, [.ref tc, .int (nI j1)])), (tc, .inl (G.2 2, 8, .inl g1))]) [1, 2] (by decide) rfl
    have hqc : 0 + 0 ≤ 1 ∧ 0 + 0 ≤ 6 := ⟨by omega, by omega⟩
    refine kp_i (va_runV (As := []) (rest := [.int fr]) F.1 (p_row_size l G _ _ _ _ _ _) (cwV 0 hts (aw_V w_257 w_258 w_259 w_3 w_260) rfl rfl rfl (by decide +kernel) ⟨by decide, by decide⟩) ⟨cS_blind, va_recv (q := (RX3, TX3, 2)) (ci := 3) (q0 := 0) hK.1 hPc rfl rfl, cS_pre hPc hDc hK⟩ rfl rfl hl.1 rfl (lv_room (Nat.le_of_ble_eq_true rfl)) dX5_find_9 hqc) (fun r hp => ?_)
    subst hp
    refine lv_icmp_le (tgt := 23) hx hb dX5_find_12 (by decide) (fun h => absurd h (xf_1 hb9 h1)) (fun _ => ?_)
    exact th_0 (E := xIOO) (names := xUp) (ik := 98) (ic := 100) F hst (by decide +kernel) (by decide +kernel) (hts _ w_743) (hts _ w_744) (hts _ w_19) (at_IOO hts hT) hex hl.1 dX5_find_15 dX5_find_18 dX5_find_19 dX5_find_22 (by decide) (by decide) (by decide) (by decide) rfl

theorem xf_2 {i k : Int32} (h : i < 0 ∨ k ≤ i) (h0 : ¬ i < 0) : ¬ i < k := fun z => h.elim h0 (fun y => pk_nle z y)
theorem dX5_replaced_0 : decode cX5_replaced 0 = .ok (.iload_n 1, 1) := by decide +kernel
theorem dX5_replaced_1 : decode cX5_replaced 1 = .ok (.ifCond .lt 14, 3) := by decide +kernel
theorem dX5_replaced_4 : decode cX5_replaced 4 = .ok (.iload_n 1, 1) := by decide +kernel
theorem dX5_replaced_5 : decode cX5_replaced 5 = .ok (.aload_n 0, 1) := by decide +kernel
theorem dX5_replaced_6 : decode cX5_replaced 6 = .ok (.getfield 37, 3) := by decide +kernel
theorem dX5_replaced_9 : decode cX5_replaced 9 = .ok (.invokevirtual 90, 3) := by decide +kernel
theorem dX5_replaced_12 : decode cX5_replaced 12 = .ok (.if_icmp .lt 11, 3) := by decide +kernel
theorem dX5_replaced_15 : decode cX5_replaced 15 = .ok (.new 98, 3) := by decide +kernel
theorem dX5_replaced_18 : decode cX5_replaced 18 = .ok (.dup, 1) := by decide +kernel
theorem dX5_replaced_19 : decode cX5_replaced 19 = .ok (.invokespecial 100, 3) := by decide +kernel
theorem dX5_replaced_22 : decode cX5_replaced 22 = .ok (.athrow, 1) := by decide +kernel
set_option maxHeartbeats 4000000 in
set_option maxRecDepth 100000 in
theorem x_replaced (l : Launch) (G : PG) (hst : l.stackTraces = false) (h se tx rs sp md pf pt : Nat) (cp mt mf mo pcs : Int32) (msp : Int64) (mc j9 : Nat) (g9 : Nat → Int32) (i : Int32) (hb9 : i < 0 ∨ nI j9 ≤ i) : Xt l yX5_replaced (Cond.code yX5_replaced cX5_replaced 2 (some .char) :: aW) { frames := 6, cells := 1, slots := 6, locals := 100 } G [(h, .inr (5, [.ref se, .ref tx, .ref rs, .ref sp, .int cp, .int mt, .int mf, .int mo, .long msp, .ref md, .ref pf, .ref pt, .int pcs])), (md, .inr (3, [.ref mc, .int (nI j9)])), (mc, .inl (G.2 2, 296, .inl g9))] [.ref h, .int i] (fun E => E = xIOO) := by
  refine ofX (y := yX5_replaced) (G := G) (cc := cX5_replaced) (maxL := 2) (ret := (some .char)) (by decide) rfl ?_
  intro p e s m below meth c F hK hT hex hP hD
  have hx := F.1.1; have hb := F.1.2.1; have hml := F.1.2.2.1; have hts := F.1.2.2.2.2
  have hown : s.vm.findClass RX5 = some m.cls := F.1.2.2.2.1
  have hl := lv_entry ([.ref h, .int i]) (n := 2) (Nat.le_of_ble_eq_true rfl)
  rw [lg_entry_eq]
  generalize (lg_sl ([.ref h, .int i]) ++ List.replicate (2 - (lg_sl ([.ref h, .int i])).length) Slot.unset).toArray = ls at hl ⊢
  have hl : lv_has ls 2 [(0, .ref h), (1, .int i)] := hl
  refine lv_iload_n hx hb dX5_replaced_0 rfl (lv_at hl 1 rfl) ?_
  refine lv_if_lt (tgt := 15) hx hb dX5_replaced_1 (by decide) (fun h1 => ?_) (fun h1 => ?_)
  ·
    exact th_0 (E := xIOO) (names := xUp) (ik := 98) (ic := 100) F hst (by decide +kernel) (by decide +kernel) (hts _ w_743) (hts _ w_744) (hts _ w_19) (at_IOO hts hT) hex hl.1 dX5_replaced_15 dX5_replaced_18 dX5_replaced_19 dX5_replaced_22 (by decide) (by decide) (by decide) (by decide) rfl
  ·
    refine lv_iload_n hx hb dX5_replaced_4 rfl (lv_at hl 1 rfl) ?_
    refine lv_aload_n hx hb dX5_replaced_5 rfl (lv_at hl 0 rfl) ?_
    refine va_get (D := G.1) (ci := 5) (v := .ref md) (C := RX5) (T := TX5) (N := 13) hx hb hts inX5 hown hK.1 hP 0 rfl rfl 9 (by decide) (hts _ w_199) (fun _ h9 => h9) rfl dX5_replaced_6 ?_
    have hPc := hP.sub (ws' := [(md, .inr (3, [.ref mc, .int (nI j9)])), (mc, .inl (G.2 2, 296, .inl g9))]) [1, 2] rfl
    have hDc := hD.sub (ws' := [(md, .inr (3, [.ref mc, .int (nI j9)])), (mc, .inl (G.2 2, 296, .inl g9))]) [1, 2] (by decide) rfl
    have hqc : 0 + 0 ≤ 1 ∧ 0 + 0 ≤ 6 := ⟨by omega, by omega⟩
    refine kp_i (va_runV (As := []) (rest := [.int i]) F.1 (p_row_size l G _ _ _ _ _ _) (cwV 0 hts (aw_V w_257 w_258 w_259 w_3 w_260) rfl rfl rfl (by decide +kernel) ⟨by decide, by decide⟩) ⟨cS_blind, va_recv (q := (RX3, TX3, 2)) (ci := 3) (q0 := 0) hK.1 hPc rfl rfl, cS_pre hPc hDc hK⟩ rfl rfl hl.1 rfl (lv_room (Nat.le_of_ble_eq_true rfl)) dX5_replaced_9 hqc) (fun r hp => ?_)
    subst hp
    refine lv_icmp_lt (tgt := 23) hx hb dX5_replaced_12 (by decide) (fun h => absurd h (xf_2 hb9 h1)) (fun _ => ?_)
    exact th_0 (E := xIOO) (names := xUp) (ik := 98) (ic := 100) F hst (by decide +kernel) (by decide +kernel) (hts _ w_743) (hts _ w_744) (hts _ w_19) (at_IOO hts hT) hex hl.1 dX5_replaced_15 dX5_replaced_18 dX5_replaced_19 dX5_replaced_22 (by decide) (by decide) (by decide) (by decide) rfl

theorem dX5_piece_0 : decode cX5_piece 0 = .ok (.iload_n 1, 1) := by decide +kernel
theorem dX5_piece_1 : decode cX5_piece 1 = .ok (.ifCond .lt 11, 3) := by decide +kernel
theorem dX5_piece_4 : decode cX5_piece 4 = .ok (.iload_n 1, 1) := by decide +kernel
theorem dX5_piece_5 : decode cX5_piece 5 = .ok (.aload_n 0, 1) := by decide +kernel
theorem dX5_piece_6 : decode cX5_piece 6 = .ok (.getfield 134, 3) := by decide +kernel
theorem dX5_piece_9 : decode cX5_piece 9 = .ok (.if_icmp .lt 11, 3) := by decide +kernel
theorem dX5_piece_12 : decode cX5_piece 12 = .ok (.new 98, 3) := by decide +kernel
theorem dX5_piece_15 : decode cX5_piece 15 = .ok (.dup, 1) := by decide +kernel
theorem dX5_piece_16 : decode cX5_piece 16 = .ok (.invokespecial 100, 3) := by decide +kernel
theorem dX5_piece_19 : decode cX5_piece 19 = .ok (.athrow, 1) := by decide +kernel
set_option maxHeartbeats 4000000 in
set_option maxRecDepth 100000 in
theorem x_piece (l : Launch) (G : PG) (hst : l.stackTraces = false) (h se tx rs sp md pf pt : Nat) (cp mt mf mo pcs : Int32) (msp : Int64) (i w : Int32) (hb9 : i < 0 ∨ pcs ≤ i) : Xt l yX5_piece (Cond.code yX5_piece cX5_piece 3 (some .int) :: aW) { frames := 6, cells := 1, slots := 6, locals := 100 } G [(h, .inr (5, [.ref se, .ref tx, .ref rs, .ref sp, .int cp, .int mt, .int mf, .int mo, .long msp, .ref md, .ref pf, .ref pt, .int pcs]))] [.ref h, .int i, .int w] (fun E => E = xIOO) := by
  refine ofX (y := yX5_piece) (G := G) (cc := cX5_piece) (maxL := 3) (ret := (some .int)) (by decide) rfl ?_
  intro p e s m below meth c F hK hT hex hP hD
  have hx := F.1.1; have hb := F.1.2.1; have hml := F.1.2.2.1; have hts := F.1.2.2.2.2
  have hown : s.vm.findClass RX5 = some m.cls := F.1.2.2.2.1
  have hl := lv_entry ([.ref h, .int i, .int w]) (n := 3) (Nat.le_of_ble_eq_true rfl)
  rw [lg_entry_eq]
  generalize (lg_sl ([.ref h, .int i, .int w]) ++ List.replicate (3 - (lg_sl ([.ref h, .int i, .int w])).length) Slot.unset).toArray = ls at hl ⊢
  have hl : lv_has ls 3 [(0, .ref h), (1, .int i), (2, .int w)] := hl
  refine lv_iload_n hx hb dX5_piece_0 rfl (lv_at hl 1 rfl) ?_
  refine lv_if_lt (tgt := 12) hx hb dX5_piece_1 (by decide) (fun h1 => ?_) (fun h1 => ?_)
  ·
    exact th_0 (E := xIOO) (names := xUp) (ik := 98) (ic := 100) F hst (by decide +kernel) (by decide +kernel) (hts _ w_743) (hts _ w_744) (hts _ w_19) (at_IOO hts hT) hex hl.1 dX5_piece_12 dX5_piece_15 dX5_piece_16 dX5_piece_19 (by decide) (by decide) (by decide) (by decide) rfl
  ·
    refine lv_iload_n hx hb dX5_piece_4 rfl (lv_at hl 1 rfl) ?_
    refine lv_aload_n hx hb dX5_piece_5 rfl (lv_at hl 0 rfl) ?_
    refine va_get (D := G.1) (ci := 5) (v := .int pcs) (C := RX5) (T := TX5) (N := 13) hx hb hts inX5 hown hK.1 hP 0 rfl rfl 12 (by decide) (hts _ w_202) (fun _ h9 => h9) rfl dX5_piece_6 ?_
    refine lv_icmp_lt (tgt := 20) hx hb dX5_piece_9 (by decide) (fun h => absurd h (xf_2 hb9 h1)) (fun _ => ?_)
    exact th_0 (E := xIOO) (names := xUp) (ik := 98) (ic := 100) F hst (by decide +kernel) (by decide +kernel) (hts _ w_743) (hts _ w_744) (hts _ w_19) (at_IOO hts hT) hex hl.1 dX5_piece_12 dX5_piece_15 dX5_piece_16 dX5_piece_19 (by decide) (by decide) (by decide) (by decide) rfl

