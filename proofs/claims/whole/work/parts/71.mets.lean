/-! every method keeps its contract: by program (wip/tools/mk71.py) -/
section METS
variable {l : Launch} {D : va_G} {cI cZ cR : ClassId} {ad : Nat → Nat}
set_option maxRecDepth 100000 in
theorem m_raiseOnce : dk_Met l D cI cZ cR ad yX4_raiseOnce cX4_raiseOnce 5 (some .boolean) { frames := 0, locals := 0 } sp_raiseOnce :=
  dk_met (G := (kX4_raiseOnce, fX4, [], [], [], 5, true)) false (by decide) rfl hX4_raiseOnce (fX4_ok) (fun _ h => absurd h List.not_mem_nil) (dk_fm_all (fun _ h => absurd h List.not_mem_nil))
    (dk_fm_all (fun _ h => absurd h List.not_mem_nil))
    (Or.inl ⟨rfl, rfl, Or.inr ⟨rfl, rfl⟩⟩) (by decide) q_raiseOnce
set_option maxRecDepth 100000 in
theorem m_raiseAll : dk_Met l D cI cZ cR ad yX4_raiseAll cX4_raiseAll 3 (some .boolean) { frames := 1, locals := 24 } sp_raiseAll :=
  dk_met (G := (kX4_raiseAll, fX4, [(46, sp_raiseOnce)], [], [], 3, true)) false (by decide) rfl hX4_raiseAll (fX4_ok) (fun _ h => absurd h List.not_mem_nil) (dk_fm_all (List.forall_mem_cons.mpr ⟨dk_calleeV (n := 1) (C := RX4) m_raiseOnce (List.forall_mem_cons.mpr ⟨wsL_i11 (List.mem_of_getElem? (i := 5) rfl), List.forall_mem_cons.mpr ⟨wsL_i11 (List.mem_of_getElem? (i := 6) rfl), List.forall_mem_cons.mpr ⟨wsL_i11 (List.mem_of_getElem? (i := 7) rfl), List.forall_mem_cons.mpr ⟨wsL_i1 (List.mem_of_getElem? (i := 14) rfl), List.forall_mem_cons.mpr ⟨wsL_i11 (List.mem_of_getElem? (i := 8) rfl), fun _ h => absurd h List.not_mem_nil⟩⟩⟩⟩⟩) ⟨rfl, by decide, by decide, by decide +kernel⟩ ⟨⟨rfl, rfl⟩, by decide, by decide⟩ (fun as σ h => by
      obtain ⟨x, rfl, -⟩ := h
      exact ⟨_, _, _, _, _, _, rfl, rfl, rfl, rfl⟩), fun _ h => absurd h List.not_mem_nil⟩))
    (dk_fm_all (fun _ h => absurd h List.not_mem_nil))
    (Or.inl ⟨rfl, rfl, Or.inr ⟨rfl, rfl⟩⟩) (by decide) q_raiseAll
set_option maxRecDepth 100000 in
theorem m_lowerOnce : dk_Met l D cI cZ cR ad yX4_lowerOnce cX4_lowerOnce 5 (some .boolean) { frames := 0, locals := 0 } sp_lowerOnce :=
  dk_met (G := (kX4_lowerOnce, fX4, [], [], [], 5, true)) false (by decide) rfl hX4_lowerOnce (fX4_ok) (fun _ h => absurd h List.not_mem_nil) (dk_fm_all (fun _ h => absurd h List.not_mem_nil))
    (dk_fm_all (fun _ h => absurd h List.not_mem_nil))
    (Or.inl ⟨rfl, rfl, Or.inr ⟨rfl, rfl⟩⟩) (by decide) q_lowerOnce
set_option maxRecDepth 100000 in
theorem m_lowerAll : dk_Met l D cI cZ cR ad yX4_lowerAll cX4_lowerAll 4 none { frames := 1, locals := 24 } sp_lowerAll :=
  dk_met (G := (kX4_lowerAll, fX4, [(50, sp_lowerOnce)], [], [], 4, false)) true (by decide) rfl hX4_lowerAll (fX4_ok) (fun _ h => absurd h List.not_mem_nil) (dk_fm_all (List.forall_mem_cons.mpr ⟨dk_calleeV (n := 1) (C := RX4) m_lowerOnce (List.forall_mem_cons.mpr ⟨wsL_i11 (List.mem_of_getElem? (i := 13) rfl), List.forall_mem_cons.mpr ⟨wsL_i11 (List.mem_of_getElem? (i := 14) rfl), List.forall_mem_cons.mpr ⟨wsL_i11 (List.mem_of_getElem? (i := 15) rfl), List.forall_mem_cons.mpr ⟨wsL_i1 (List.mem_of_getElem? (i := 14) rfl), List.forall_mem_cons.mpr ⟨wsL_i11 (List.mem_of_getElem? (i := 16) rfl), fun _ h => absurd h List.not_mem_nil⟩⟩⟩⟩⟩) ⟨rfl, by decide, by decide, by decide +kernel⟩ ⟨⟨rfl, rfl⟩, by decide, by decide⟩ (fun as σ h => by
      obtain ⟨x, rfl, -⟩ := h
      exact ⟨_, _, _, _, _, _, rfl, rfl, rfl, rfl⟩), fun _ h => absurd h List.not_mem_nil⟩))
    (dk_fm_all (fun _ h => absurd h List.not_mem_nil))
    (Or.inr ⟨rfl, rfl, rfl⟩) (by decide) q_lowerAll
set_option maxRecDepth 100000 in
theorem m_fill : dk_Met l D cI cZ cR ad yJ7_fill_53178 cJ7_fill_53178 4 none { frames := 0, locals := 0 } sp_fill :=
  dk_met (G := (kJ7_fill_53178, [], [], [], [], 4, false)) true (by decide) rfl hJ7_fill_53178 (fun _ h => absurd h List.not_mem_nil) (fun _ h => absurd h List.not_mem_nil) (dk_fm_all (fun _ h => absurd h List.not_mem_nil))
    (dk_fm_all (fun _ h => absurd h List.not_mem_nil))
    (Or.inr ⟨rfl, rfl, rfl⟩) (by decide) q_fill
set_option maxRecDepth 100000 in
theorem m_ffe : dk_Met l D cI cZ cR ad yX5_findFromEarliest cX5_findFromEarliest 2 (some .boolean) { frames := 2, locals := 46 } sp_ffe :=
  dk_met (G := (kX5_findFromEarliest, fX5, [(55, sp_raiseAll)], [(59, sp_max)], [], 2, true)) false (by decide) rfl hX5_findFromEarliest (fX5_ok) (fun _ h => absurd h List.not_mem_nil) (dk_fm_all (List.forall_mem_cons.mpr ⟨dk_calleeV (n := 1) (C := RX4) m_raiseAll (List.forall_mem_cons.mpr ⟨wsL_i11 (List.mem_of_getElem? (i := 1) rfl), List.forall_mem_cons.mpr ⟨wsL_i11 (List.mem_of_getElem? (i := 2) rfl), List.forall_mem_cons.mpr ⟨wsL_i11 (List.mem_of_getElem? (i := 3) rfl), List.forall_mem_cons.mpr ⟨wsL_i1 (List.mem_of_getElem? (i := 14) rfl), List.forall_mem_cons.mpr ⟨wsL_i11 (List.mem_of_getElem? (i := 4) rfl), fun _ h => absurd h List.not_mem_nil⟩⟩⟩⟩⟩) ⟨rfl, by decide, by decide, by decide +kernel⟩ ⟨⟨rfl, rfl⟩, by decide, by decide⟩ (fun as σ h => by
      obtain ⟨x, rfl, -⟩ := h
      exact ⟨_, _, _, _, _, _, rfl, rfl, rfl, rfl⟩), fun _ h => absurd h List.not_mem_nil⟩))
    (dk_fm_all (List.forall_mem_cons.mpr ⟨dk_callee_max (List.forall_mem_cons.mpr ⟨wsL_i10 (List.mem_of_getElem? (i := 21) rfl), List.forall_mem_cons.mpr ⟨wsL_i10 (List.mem_of_getElem? (i := 22) rfl), List.forall_mem_cons.mpr ⟨wsL_i10 (List.mem_of_getElem? (i := 23) rfl), List.forall_mem_cons.mpr ⟨wsL_i11 (List.mem_of_getElem? (i := 0) rfl), fun _ h => absurd h List.not_mem_nil⟩⟩⟩⟩) ⟨by decide, by decide⟩, fun _ h => absurd h List.not_mem_nil⟩))
    (Or.inl ⟨rfl, rfl, Or.inr ⟨rfl, rfl⟩⟩) (by decide) q_ffe
set_option maxRecDepth 100000 in
theorem m_find : dk_Met l D cI cZ cR ad yX5_find cX5_find 2 (some .boolean) { frames := 3, locals := 67 } sp_find :=
  dk_met (G := (kX5_find, fX5, [(28, sp_ffe), (44, sp_lowerAll)], [(22, sp_fill)], [], 2, true)) false (by decide) rfl hX5_find (fX5_ok) (fun _ h => absurd h List.not_mem_nil) (dk_fm_all (List.forall_mem_cons.mpr ⟨dk_calleeV (n := 0) (C := RX5) m_ffe (List.forall_mem_cons.mpr ⟨wsL_i10 (List.mem_of_getElem? (i := 16) rfl), List.forall_mem_cons.mpr ⟨wsL_i10 (List.mem_of_getElem? (i := 17) rfl), List.forall_mem_cons.mpr ⟨wsL_i10 (List.mem_of_getElem? (i := 18) rfl), List.forall_mem_cons.mpr ⟨wsL_i1 (List.mem_of_getElem? (i := 22) rfl), List.forall_mem_cons.mpr ⟨wsL_i10 (List.mem_of_getElem? (i := 19) rfl), fun _ h => absurd h List.not_mem_nil⟩⟩⟩⟩⟩) ⟨rfl, by decide, by decide, by decide +kernel⟩ ⟨⟨rfl, rfl⟩, by decide, by decide⟩ (fun as σ h => by
      obtain ⟨x, rfl, h1, -⟩ := h
      skip
      rcases h1 with rfl | rfl <;> exact ⟨_, _, _, _, _, _, rfl, rfl, rfl, rfl⟩), List.forall_mem_cons.mpr ⟨dk_calleeV (n := 1) (C := RX4) m_lowerAll (List.forall_mem_cons.mpr ⟨wsL_i11 (List.mem_of_getElem? (i := 9) rfl), List.forall_mem_cons.mpr ⟨wsL_i11 (List.mem_of_getElem? (i := 10) rfl), List.forall_mem_cons.mpr ⟨wsL_i11 (List.mem_of_getElem? (i := 11) rfl), List.forall_mem_cons.mpr ⟨wsL_i1 (List.mem_of_getElem? (i := 14) rfl), List.forall_mem_cons.mpr ⟨wsL_i11 (List.mem_of_getElem? (i := 12) rfl), fun _ h => absurd h List.not_mem_nil⟩⟩⟩⟩⟩) ⟨rfl, by decide, by decide, by decide +kernel⟩ ⟨⟨rfl, rfl⟩, by decide, by decide⟩ (fun as σ h => by
      obtain ⟨x, rfl, -⟩ := h
      exact ⟨_, _, _, _, _, _, rfl, rfl, rfl, rfl⟩), fun _ h => absurd h List.not_mem_nil⟩⟩))
    (dk_fm_all (List.forall_mem_cons.mpr ⟨dk_calleeS (n := 2) m_fill (List.forall_mem_cons.mpr ⟨wsL_i10 (List.mem_of_getElem? (i := 12) rfl), List.forall_mem_cons.mpr ⟨wsL_i10 (List.mem_of_getElem? (i := 13) rfl), List.forall_mem_cons.mpr ⟨wsL_i10 (List.mem_of_getElem? (i := 14) rfl), List.forall_mem_cons.mpr ⟨wsL_i10 (List.mem_of_getElem? (i := 15) rfl), fun _ h => absurd h List.not_mem_nil⟩⟩⟩⟩) ⟨by decide, by decide, by decide +kernel⟩ ⟨⟨rfl, rfl⟩, by decide, by decide⟩ rfl, fun _ h => absurd h List.not_mem_nil⟩))
    (Or.inl ⟨rfl, rfl, Or.inr ⟨rfl, rfl⟩⟩) (by decide) q_find
set_option maxRecDepth 100000 in
theorem m_bitCount : dk_Met l D cI cZ cR ad yJ6_bitCount_0f7a4 cJ6_bitCount_0f7a4 1 (some .int) { frames := 0, locals := 0 } sp_bitCount :=
  dk_met (G := (kJ6_bitCount_0f7a4, [], [], [], nJ6, 1, false)) false (by decide) rfl hJ6_bitCount_0f7a4 (fun _ h => absurd h List.not_mem_nil) (nJ6_ok) (dk_fm_all (fun _ h => absurd h List.not_mem_nil))
    (dk_fm_all (fun _ h => absurd h List.not_mem_nil))
    (Or.inl ⟨rfl, rfl, Or.inl ⟨rfl, rfl⟩⟩) (by decide) q_bitCount
set_option maxRecDepth 100000 in
theorem m_runningAt : dk_Met l D cI cZ cR ad yX5_runningAt cX5_runningAt 4 (some .int) { frames := 0, locals := 0 } sp_runningAt :=
  dk_met (G := (kX5_runningAt, fX5, [], [], [], 4, false)) false (by decide) rfl hX5_runningAt (fX5_ok) (fun _ h => absurd h List.not_mem_nil) (dk_fm_all (fun _ h => absurd h List.not_mem_nil))
    (dk_fm_all (fun _ h => absurd h List.not_mem_nil))
    (Or.inl ⟨rfl, rfl, Or.inl ⟨rfl, rfl⟩⟩) (by decide) q_runningAt
set_option maxRecDepth 100000 in
theorem m_sameAs : dk_Met l D cI cZ cR ad yX5_sameAs cX5_sameAs 3 (some .boolean) { frames := 0, locals := 0 } sp_sameAs :=
  dk_met (G := (kX5_sameAs, fX5, [], [], [], 3, true)) false (by decide) rfl hX5_sameAs (fX5_ok) (fun _ h => absurd h List.not_mem_nil) (dk_fm_all (fun _ h => absurd h List.not_mem_nil))
    (dk_fm_all (fun _ h => absurd h List.not_mem_nil))
    (Or.inl ⟨rfl, rfl, Or.inr ⟨rfl, rfl⟩⟩) (by decide) q_sameAs
set_option maxRecDepth 100000 in
theorem m_freeOf : dk_Met l D cI cZ cR ad yX5_freeOf cX5_freeOf 5 (some .int) { frames := 1, locals := 21 } sp_freeOf :=
  dk_met (G := (kX5_freeOf, fX5, [], [(81, sp_min)], [], 5, false)) false (by decide) rfl hX5_freeOf (fX5_ok) (fun _ h => absurd h List.not_mem_nil) (dk_fm_all (fun _ h => absurd h List.not_mem_nil))
    (dk_fm_all (List.forall_mem_cons.mpr ⟨dk_callee_min (List.forall_mem_cons.mpr ⟨wsL_i18 (List.mem_of_getElem? (i := 11) rfl), List.forall_mem_cons.mpr ⟨wsL_i13 (List.mem_of_getElem? (i := 9) rfl), List.forall_mem_cons.mpr ⟨wsL_i10 (List.mem_of_getElem? (i := 23) rfl), List.forall_mem_cons.mpr ⟨wsL_i13 (List.mem_of_getElem? (i := 10) rfl), fun _ h => absurd h List.not_mem_nil⟩⟩⟩⟩) ⟨by decide, by decide⟩, fun _ h => absurd h List.not_mem_nil⟩))
    (Or.inl ⟨rfl, rfl, Or.inl ⟨rfl, rfl⟩⟩) (by decide) q_freeOf
set_option maxRecDepth 100000 in
theorem m_findDelayed : dk_Met l D cI cZ cR ad yX5_findDelayed cX5_findDelayed 4 (some .boolean) { frames := 3, locals := 67 } sp_findDelayed :=
  dk_met (G := (kX5_findDelayed, fX5, [(28, sp_ffe)], [(48, sp_copy)], [], 4, true)) false (by decide) rfl hX5_findDelayed (fX5_ok) (fun _ h => absurd h List.not_mem_nil) (dk_fm_all (List.forall_mem_cons.mpr ⟨dk_calleeV (n := 0) (C := RX5) m_ffe (List.forall_mem_cons.mpr ⟨wsL_i10 (List.mem_of_getElem? (i := 16) rfl), List.forall_mem_cons.mpr ⟨wsL_i10 (List.mem_of_getElem? (i := 17) rfl), List.forall_mem_cons.mpr ⟨wsL_i10 (List.mem_of_getElem? (i := 18) rfl), List.forall_mem_cons.mpr ⟨wsL_i1 (List.mem_of_getElem? (i := 22) rfl), List.forall_mem_cons.mpr ⟨wsL_i10 (List.mem_of_getElem? (i := 19) rfl), fun _ h => absurd h List.not_mem_nil⟩⟩⟩⟩⟩) ⟨rfl, by decide, by decide, by decide +kernel⟩ ⟨⟨rfl, rfl⟩, by decide, by decide⟩ (fun as σ h => by
      obtain ⟨x, rfl, h1, -⟩ := h
      skip
      rcases h1 with rfl | rfl <;> exact ⟨_, _, _, _, _, _, rfl, rfl, rfl, rfl⟩), fun _ h => absurd h List.not_mem_nil⟩))
    (dk_fm_all (List.forall_mem_cons.mpr ⟨dk_callee_copy (List.forall_mem_cons.mpr ⟨wsL_i20 (List.mem_of_getElem? (i := 9) rfl), List.forall_mem_cons.mpr ⟨wsL_i20 (List.mem_of_getElem? (i := 10) rfl), List.forall_mem_cons.mpr ⟨wsL_i20 (List.mem_of_getElem? (i := 11) rfl), List.forall_mem_cons.mpr ⟨wsL_i20 (List.mem_of_getElem? (i := 12) rfl), fun _ h => absurd h List.not_mem_nil⟩⟩⟩⟩) ⟨by decide, by decide⟩, fun _ h => absurd h List.not_mem_nil⟩))
    (Or.inl ⟨rfl, rfl, Or.inr ⟨rfl, rfl⟩⟩) (by decide) q_findDelayed
set_option maxRecDepth 100000 in
theorem m_hasTask : dk_Met l D cI cZ cR ad yX4_hasTask cX4_hasTask 2 (some .boolean) { frames := 0, locals := 0 } sp_hasTask :=
  dk_met (G := (kX4_hasTask, fX4, [], [], [], 2, true)) false (by decide) rfl hX4_hasTask (fX4_ok) (fun _ h => absurd h List.not_mem_nil) (dk_fm_all (fun _ h => absurd h List.not_mem_nil))
    (dk_fm_all (fun _ h => absurd h List.not_mem_nil))
    (Or.inl ⟨rfl, rfl, Or.inr ⟨rfl, rfl⟩⟩) (by decide) q_hasTask
set_option maxRecDepth 100000 in
theorem m_hasWorker : dk_Met l D cI cZ cR ad yX2_hasWorker cX2_hasWorker 2 (some .boolean) { frames := 0, locals := 0 } sp_hasWorker :=
  dk_met (G := (kX2_hasWorker, fX2, [], [], [], 2, true)) false (by decide) rfl hX2_hasWorker (fX2_ok) (fun _ h => absurd h List.not_mem_nil) (dk_fm_all (fun _ h => absurd h List.not_mem_nil))
    (dk_fm_all (fun _ h => absurd h List.not_mem_nil))
    (Or.inl ⟨rfl, rfl, Or.inr ⟨rfl, rfl⟩⟩) (by decide) q_hasWorker
set_option maxRecDepth 100000 in
theorem m_hasEnd : dk_Met l D cI cZ cR ad yX4_hasEnd cX4_hasEnd 2 (some .boolean) { frames := 1, locals := 21 } sp_hasEnd :=
  dk_met (G := (kX4_hasEnd, fX4, [(53, sp_hasTask)], [], [], 2, true)) false (by decide) rfl hX4_hasEnd (fX4_ok) (fun _ h => absurd h List.not_mem_nil) (dk_fm_all (List.forall_mem_cons.mpr ⟨dk_calleeV (n := 1) (C := RX4) m_hasTask (List.forall_mem_cons.mpr ⟨wsL_i7 (List.mem_of_getElem? (i := 10) rfl), List.forall_mem_cons.mpr ⟨wsL_i7 (List.mem_of_getElem? (i := 11) rfl), List.forall_mem_cons.mpr ⟨wsL_i7 (List.mem_of_getElem? (i := 12) rfl), List.forall_mem_cons.mpr ⟨wsL_i1 (List.mem_of_getElem? (i := 14) rfl), List.forall_mem_cons.mpr ⟨wsL_i7 (List.mem_of_getElem? (i := 13) rfl), fun _ h => absurd h List.not_mem_nil⟩⟩⟩⟩⟩) ⟨rfl, by decide, by decide, by decide +kernel⟩ ⟨⟨rfl, rfl⟩, by decide, by decide⟩ (fun as σ h => by
      obtain ⟨x, rfl, -⟩ := h
      exact ⟨_, _, _, _, _, _, rfl, rfl, rfl, rfl⟩), fun _ h => absurd h List.not_mem_nil⟩))
    (dk_fm_all (fun _ h => absurd h List.not_mem_nil))
    (Or.inl ⟨rfl, rfl, Or.inr ⟨rfl, rfl⟩⟩) (by decide) q_hasEnd
set_option maxRecDepth 100000 in
theorem m_placeOf : dk_Met l D cI cZ cR ad yX4_placeOf cX4_placeOf 1 (some .int) { frames := 0, locals := 0 } sp_placeOf :=
  dk_met (G := (kX4_placeOf, fX4, [], [], [], 1, false)) false (by decide) rfl hX4_placeOf (fX4_ok) (fun _ h => absurd h List.not_mem_nil) (dk_fm_all (fun _ h => absurd h List.not_mem_nil))
    (dk_fm_all (fun _ h => absurd h List.not_mem_nil))
    (Or.inl ⟨rfl, rfl, Or.inl ⟨rfl, rfl⟩⟩) (by decide) q_placeOf
set_option maxRecDepth 100000 in
theorem m_addTask : dk_Met l D cI cZ cR ad yX4_addTask cX4_addTask 2 (some .int) { frames := 0, locals := 0 } sp_addTask :=
  dk_met (G := (kX4_addTask, fX4, [], [], [], 2, false)) false (by decide) rfl hX4_addTask (fX4_ok) (fun _ h => absurd h List.not_mem_nil) (dk_fm_all (fun _ h => absurd h List.not_mem_nil))
    (dk_fm_all (fun _ h => absurd h List.not_mem_nil))
    (Or.inl ⟨rfl, rfl, Or.inl ⟨rfl, rfl⟩⟩) (by decide) q_addTask
set_option maxRecDepth 100000 in
theorem m_addConstraint : dk_Met l D cI cZ cR ad yX4_addConstraint cX4_addConstraint 5 (some .int) { frames := 2, locals := 42 } sp_addConstraint :=
  dk_met (G := (kX4_addConstraint, fX4, [(32, sp_hasEnd)], [(39, sp_placeOf)], [], 5, false)) false (by decide) rfl hX4_addConstraint (fX4_ok) (fun _ h => absurd h List.not_mem_nil) (dk_fm_all (List.forall_mem_cons.mpr ⟨dk_calleeV (n := 1) (C := RX4) m_hasEnd (List.forall_mem_cons.mpr ⟨wsL_i7 (List.mem_of_getElem? (i := 6) rfl), List.forall_mem_cons.mpr ⟨wsL_i7 (List.mem_of_getElem? (i := 7) rfl), List.forall_mem_cons.mpr ⟨wsL_i7 (List.mem_of_getElem? (i := 8) rfl), List.forall_mem_cons.mpr ⟨wsL_i1 (List.mem_of_getElem? (i := 14) rfl), List.forall_mem_cons.mpr ⟨wsL_i7 (List.mem_of_getElem? (i := 9) rfl), fun _ h => absurd h List.not_mem_nil⟩⟩⟩⟩⟩) ⟨rfl, by decide, by decide, by decide +kernel⟩ ⟨⟨rfl, rfl⟩, by decide, by decide⟩ (fun as σ h => by
      obtain ⟨x, rfl, -⟩ := h
      exact ⟨_, _, _, _, _, _, rfl, rfl, rfl, rfl⟩), fun _ h => absurd h List.not_mem_nil⟩))
    (dk_fm_all (List.forall_mem_cons.mpr ⟨dk_calleeS (n := 1) m_placeOf (List.forall_mem_cons.mpr ⟨wsL_i7 (List.mem_of_getElem? (i := 14) rfl), List.forall_mem_cons.mpr ⟨wsL_i7 (List.mem_of_getElem? (i := 15) rfl), List.forall_mem_cons.mpr ⟨wsL_i1 (List.mem_of_getElem? (i := 14) rfl), List.forall_mem_cons.mpr ⟨wsL_i7 (List.mem_of_getElem? (i := 16) rfl), fun _ h => absurd h List.not_mem_nil⟩⟩⟩⟩) ⟨by decide, by decide, by decide +kernel⟩ ⟨⟨rfl, rfl⟩, by decide, by decide⟩ rfl, fun _ h => absurd h List.not_mem_nil⟩))
    (Or.inl ⟨rfl, rfl, Or.inl ⟨rfl, rfl⟩⟩) (by decide) q_addConstraint
set_option maxRecDepth 100000 in
theorem m_dropConstraint : dk_Met l D cI cZ cR ad yX4_dropConstraint cX4_dropConstraint 2 (some .boolean) { frames := 0, locals := 0 } sp_dropConstraint :=
  dk_met (G := (kX4_dropConstraint, fX4, [], [], [], 2, true)) false (by decide) rfl hX4_dropConstraint (fX4_ok) (fun _ h => absurd h List.not_mem_nil) (dk_fm_all (fun _ h => absurd h List.not_mem_nil))
    (dk_fm_all (fun _ h => absurd h List.not_mem_nil))
    (Or.inl ⟨rfl, rfl, Or.inr ⟨rfl, rfl⟩⟩) (by decide) q_dropConstraint
set_option maxRecDepth 100000 in
theorem m_holdsBit : dk_Met l D cI cZ cR ad yX6_holdsBit cX6_holdsBit 2 (some .boolean) { frames := 0, locals := 0 } sp_holdsBit :=
  dk_met (G := (kX6_holdsBit, fX6, [], [], [], 2, true)) false (by decide) rfl hX6_holdsBit (fX6_ok) (fun _ h => absurd h List.not_mem_nil) (dk_fm_all (fun _ h => absurd h List.not_mem_nil))
    (dk_fm_all (fun _ h => absurd h List.not_mem_nil))
    (Or.inl ⟨rfl, rfl, Or.inr ⟨rfl, rfl⟩⟩) (by decide) q_holdsBit
set_option maxRecDepth 100000 in
theorem m_addWorker : dk_Met l D cI cZ cR ad yX2_addWorker cX2_addWorker 1 (some .int) { frames := 0, locals := 0 } sp_addWorker :=
  dk_met (G := (kX2_addWorker, fX2, [], [], [], 1, false)) false (by decide) rfl hX2_addWorker (fX2_ok) (fun _ h => absurd h List.not_mem_nil) (dk_fm_all (fun _ h => absurd h List.not_mem_nil))
    (dk_fm_all (fun _ h => absurd h List.not_mem_nil))
    (Or.inl ⟨rfl, rfl, Or.inl ⟨rfl, rfl⟩⟩) (by decide) q_addWorker
set_option maxRecDepth 100000 in
theorem m_addSkill : dk_Met l D cI cZ cR ad yX2_addSkill cX2_addSkill 3 (some .boolean) { frames := 1, locals := 21 } sp_addSkill :=
  dk_met (G := (kX2_addSkill, fX2, [(19, sp_hasWorker)], [(23, sp_holdsBit)], [], 3, true)) false (by decide) rfl hX2_addSkill (fX2_ok) (fun _ h => absurd h List.not_mem_nil) (dk_fm_all (List.forall_mem_cons.mpr ⟨dk_calleeV (n := 1) (C := RX2) m_hasWorker (List.forall_mem_cons.mpr ⟨wsL_i9 (List.mem_of_getElem? (i := 12) rfl), List.forall_mem_cons.mpr ⟨wsL_i9 (List.mem_of_getElem? (i := 13) rfl), List.forall_mem_cons.mpr ⟨wsL_i9 (List.mem_of_getElem? (i := 14) rfl), List.forall_mem_cons.mpr ⟨wsL_i1 (List.mem_of_getElem? (i := 18) rfl), List.forall_mem_cons.mpr ⟨wsL_i9 (List.mem_of_getElem? (i := 15) rfl), fun _ h => absurd h List.not_mem_nil⟩⟩⟩⟩⟩) ⟨rfl, by decide, by decide, by decide +kernel⟩ ⟨⟨rfl, rfl⟩, by decide, by decide⟩ (fun as σ h => by
      obtain ⟨x, rfl, -⟩ := h
      exact ⟨_, _, _, _, _, _, rfl, rfl, rfl, rfl⟩), fun _ h => absurd h List.not_mem_nil⟩))
    (dk_fm_all (List.forall_mem_cons.mpr ⟨dk_calleeSN (n := 2) m_holdsBit (List.forall_mem_cons.mpr ⟨wsL_i9 (List.mem_of_getElem? (i := 16) rfl), List.forall_mem_cons.mpr ⟨wsL_i1 (List.mem_of_getElem? (i := 2) rfl), List.forall_mem_cons.mpr ⟨wsL_i9 (List.mem_of_getElem? (i := 17) rfl), fun _ h => absurd h List.not_mem_nil⟩⟩⟩) (fun _ h => h.1) ⟨by decide, by decide, by decide +kernel⟩ ⟨⟨rfl, rfl⟩, by decide, by decide⟩ rfl, fun _ h => absurd h List.not_mem_nil⟩))
    (Or.inl ⟨rfl, rfl, Or.inr ⟨rfl, rfl⟩⟩) (by decide) q_addSkill
set_option maxRecDepth 100000 in
theorem m_spoilPlan : dk_Met l D cI cZ cR ad yX6_spoilPlan cX6_spoilPlan 1 none { frames := 0, locals := 0 } sp_spoilPlan :=
  dk_met (G := (kX6_spoilPlan, fX6, [], [], [], 1, false)) true (by decide) rfl hX6_spoilPlan (fX6_ok) (fun _ h => absurd h List.not_mem_nil) (dk_fm_all (fun _ h => absurd h List.not_mem_nil))
    (dk_fm_all (fun _ h => absurd h List.not_mem_nil))
    (Or.inr ⟨rfl, rfl, rfl⟩) (by decide) q_spoilPlan
set_option maxRecDepth 100000 in
theorem m_timesFresh : dk_Met l D cI cZ cR ad yX6_timesFresh cX6_timesFresh 1 (some .boolean) { frames := 0, locals := 0 } sp_timesFresh :=
  dk_met (G := (kX6_timesFresh, fX6, [], [], [], 1, true)) false (by decide) rfl hX6_timesFresh (fX6_ok) (fun _ h => absurd h List.not_mem_nil) (dk_fm_all (fun _ h => absurd h List.not_mem_nil))
    (dk_fm_all (fun _ h => absurd h List.not_mem_nil))
    (Or.inl ⟨rfl, rfl, Or.inr ⟨rfl, rfl⟩⟩) (by decide) q_timesFresh
set_option maxRecDepth 100000 in
theorem m_asNumber : dk_Met l D cI cZ cR ad yX6_asNumber cX6_asNumber 1 (some .int) { frames := 0, locals := 0 } sp_asNumber :=
  dk_met (G := (kX6_asNumber, fX6, [], [], [], 1, false)) false (by decide) rfl hX6_asNumber (fX6_ok) (fun _ h => absurd h List.not_mem_nil) (dk_fm_all (fun _ h => absurd h List.not_mem_nil))
    (dk_fm_all (fun _ h => absurd h List.not_mem_nil))
    (Or.inl ⟨rfl, rfl, Or.inl ⟨rfl, rfl⟩⟩) (by decide) q_asNumber
set_option maxRecDepth 100000 in
theorem m_chainAt : dk_Met l D cI cZ cR ad yX0_at cX0_at 2 (some .int) { frames := 0, locals := 0 } sp_chainAt :=
  dk_met (G := (kX0_at, fX0, [], [], [], 2, false)) false (by decide) rfl hX0_at (fX0_ok) (fun _ h => absurd h List.not_mem_nil) (dk_fm_all (fun _ h => absurd h List.not_mem_nil))
    (dk_fm_all (fun _ h => absurd h List.not_mem_nil))
    (Or.inl ⟨rfl, rfl, Or.inl ⟨rfl, rfl⟩⟩) (by decide) q_chainAt
set_option maxRecDepth 100000 in
theorem m_circleAt : dk_Met l D cI cZ cR ad yX1_at cX1_at 2 (some .int) { frames := 0, locals := 0 } sp_circleAt :=
  dk_met (G := (kX1_at, fX1, [], [], [], 2, false)) false (by decide) rfl hX1_at (fX1_ok) (fun _ h => absurd h List.not_mem_nil) (dk_fm_all (fun _ h => absurd h List.not_mem_nil))
    (dk_fm_all (fun _ h => absurd h List.not_mem_nil))
    (Or.inl ⟨rfl, rfl, Or.inl ⟨rfl, rfl⟩⟩) (by decide) q_circleAt
set_option maxRecDepth 100000 in
theorem m_isTight : dk_Met l D cI cZ cR ad yX0_isTight cX0_isTight 4 (some .boolean) { frames := 0, locals := 0 } sp_isTight :=
  dk_met (G := (kX0_isTight, fX0, [], [], [], 4, true)) false (by decide) rfl hX0_isTight (fX0_ok) (fun _ h => absurd h List.not_mem_nil) (dk_fm_all (fun _ h => absurd h List.not_mem_nil))
    (dk_fm_all (fun _ h => absurd h List.not_mem_nil))
    (Or.inl ⟨rfl, rfl, Or.inr ⟨rfl, rfl⟩⟩) (by decide) q_isTight
set_option maxRecDepth 100000 in
theorem m_shortenOnce : dk_Met l D cI cZ cR ad yX0_shortenOnce cX0_shortenOnce 3 (some .boolean) { frames := 1, locals := 23 } sp_shortenOnce :=
  dk_met (G := (kX0_shortenOnce, fX0, [(63, sp_isTight)], [], [], 3, true)) false (by decide) rfl hX0_shortenOnce (fX0_ok) (fun _ h => absurd h List.not_mem_nil) (dk_fm_all (List.forall_mem_cons.mpr ⟨dk_calleeV (n := 1) (C := RX0) m_isTight (List.forall_mem_cons.mpr ⟨wsL_i12 (List.mem_of_getElem? (i := 13) rfl), List.forall_mem_cons.mpr ⟨wsL_i12 (List.mem_of_getElem? (i := 14) rfl), List.forall_mem_cons.mpr ⟨wsL_i12 (List.mem_of_getElem? (i := 15) rfl), List.forall_mem_cons.mpr ⟨wsL_i2 (List.mem_of_getElem? (i := 3) rfl), List.forall_mem_cons.mpr ⟨wsL_i12 (List.mem_of_getElem? (i := 16) rfl), fun _ h => absurd h List.not_mem_nil⟩⟩⟩⟩⟩) ⟨rfl, by decide, by decide, by decide +kernel⟩ ⟨⟨rfl, rfl⟩, by decide, by decide⟩ (fun as σ h => by
      obtain ⟨x, rfl, -⟩ := h
      exact ⟨_, _, _, _, _, _, rfl, rfl, rfl, rfl⟩), fun _ h => absurd h List.not_mem_nil⟩))
    (dk_fm_all (fun _ h => absurd h List.not_mem_nil))
    (Or.inl ⟨rfl, rfl, Or.inr ⟨rfl, rfl⟩⟩) (by decide) q_shortenOnce
set_option maxRecDepth 100000 in
theorem m_chainMeasure : dk_Met l D cI cZ cR ad yX0_measure cX0_measure 3 none { frames := 2, locals := 45 } sp_chainMeasure :=
  dk_met (G := (kX0_measure, fX0, [(56, sp_shortenOnce)], [], [], 3, false)) true (by decide) rfl hX0_measure (fX0_ok) (fun _ h => absurd h List.not_mem_nil) (dk_fm_all (List.forall_mem_cons.mpr ⟨dk_calleeV (n := 0) (C := RX0) m_shortenOnce (List.forall_mem_cons.mpr ⟨wsL_i12 (List.mem_of_getElem? (i := 6) rfl), List.forall_mem_cons.mpr ⟨wsL_i12 (List.mem_of_getElem? (i := 7) rfl), List.forall_mem_cons.mpr ⟨wsL_i12 (List.mem_of_getElem? (i := 8) rfl), List.forall_mem_cons.mpr ⟨wsL_i2 (List.mem_of_getElem? (i := 3) rfl), List.forall_mem_cons.mpr ⟨wsL_i12 (List.mem_of_getElem? (i := 9) rfl), fun _ h => absurd h List.not_mem_nil⟩⟩⟩⟩⟩) ⟨rfl, by decide, by decide, by decide +kernel⟩ ⟨⟨rfl, rfl⟩, by decide, by decide⟩ (fun as σ h => by
      obtain ⟨x, rfl, -⟩ := h
      exact ⟨_, _, _, _, _, _, rfl, rfl, rfl, rfl⟩), fun _ h => absurd h List.not_mem_nil⟩))
    (dk_fm_all (fun _ h => absurd h List.not_mem_nil))
    (Or.inr ⟨rfl, rfl, rfl⟩) (by decide) q_chainMeasure
set_option maxRecDepth 100000 in
theorem m_firstTask : dk_Met l D cI cZ cR ad yX0_firstTask cX0_firstTask 4 (some .int) { frames := 0, locals := 0 } sp_firstTask :=
  dk_met (G := (kX0_firstTask, fX0, [], [], [], 4, false)) false (by decide) rfl hX0_firstTask (fX0_ok) (fun _ h => absurd h List.not_mem_nil) (dk_fm_all (fun _ h => absurd h List.not_mem_nil))
    (dk_fm_all (fun _ h => absurd h List.not_mem_nil))
    (Or.inl ⟨rfl, rfl, Or.inl ⟨rfl, rfl⟩⟩) (by decide) q_firstTask
set_option maxRecDepth 100000 in
theorem m_nextTask : dk_Met l D cI cZ cR ad yX0_nextTask cX0_nextTask 6 (some .int) { frames := 1, locals := 23 } sp_nextTask :=
  dk_met (G := (kX0_nextTask, fX0, [(63, sp_isTight)], [], [], 6, false)) false (by decide) rfl hX0_nextTask (fX0_ok) (fun _ h => absurd h List.not_mem_nil) (dk_fm_all (List.forall_mem_cons.mpr ⟨dk_calleeV (n := 1) (C := RX0) m_isTight (List.forall_mem_cons.mpr ⟨wsL_i12 (List.mem_of_getElem? (i := 13) rfl), List.forall_mem_cons.mpr ⟨wsL_i12 (List.mem_of_getElem? (i := 14) rfl), List.forall_mem_cons.mpr ⟨wsL_i12 (List.mem_of_getElem? (i := 15) rfl), List.forall_mem_cons.mpr ⟨wsL_i2 (List.mem_of_getElem? (i := 3) rfl), List.forall_mem_cons.mpr ⟨wsL_i12 (List.mem_of_getElem? (i := 16) rfl), fun _ h => absurd h List.not_mem_nil⟩⟩⟩⟩⟩) ⟨rfl, by decide, by decide, by decide +kernel⟩ ⟨⟨rfl, rfl⟩, by decide, by decide⟩ (fun as σ h => by
      obtain ⟨x, rfl, -⟩ := h
      exact ⟨_, _, _, _, _, _, rfl, rfl, rfl, rfl⟩), fun _ h => absurd h List.not_mem_nil⟩))
    (dk_fm_all (fun _ h => absurd h List.not_mem_nil))
    (Or.inl ⟨rfl, rfl, Or.inl ⟨rfl, rfl⟩⟩) (by decide) q_nextTask
set_option maxRecDepth 100000 in
theorem m_chainFind : dk_Met l D cI cZ cR ad yX0_find cX0_find 3 none { frames := 3, locals := 67 } sp_chainFind :=
  dk_met (G := (kX0_find, fX0, [(30, sp_chainMeasure), (33, sp_firstTask), (37, sp_nextTask)], [], [], 3, false)) true (by decide) rfl hX0_find (fX0_ok) (fun _ h => absurd h List.not_mem_nil) (dk_fm_all (List.forall_mem_cons.mpr ⟨dk_calleeV (n := 0) (C := RX0) m_chainMeasure (List.forall_mem_cons.mpr ⟨wsL_i11 (List.mem_of_getElem? (i := 22) rfl), List.forall_mem_cons.mpr ⟨wsL_i11 (List.mem_of_getElem? (i := 23) rfl), List.forall_mem_cons.mpr ⟨wsL_i12 (List.mem_of_getElem? (i := 0) rfl), List.forall_mem_cons.mpr ⟨wsL_i2 (List.mem_of_getElem? (i := 3) rfl), List.forall_mem_cons.mpr ⟨wsL_i12 (List.mem_of_getElem? (i := 1) rfl), fun _ h => absurd h List.not_mem_nil⟩⟩⟩⟩⟩) ⟨rfl, by decide, by decide, by decide +kernel⟩ ⟨⟨rfl, rfl⟩, by decide, by decide⟩ (fun as σ h => by
      obtain ⟨x, rfl, -⟩ := h
      exact ⟨_, _, _, _, _, _, rfl, rfl, rfl, rfl⟩), List.forall_mem_cons.mpr ⟨dk_calleeV (n := 0) (C := RX0) m_firstTask (List.forall_mem_cons.mpr ⟨wsL_i12 (List.mem_of_getElem? (i := 19) rfl), List.forall_mem_cons.mpr ⟨wsL_i12 (List.mem_of_getElem? (i := 20) rfl), List.forall_mem_cons.mpr ⟨wsL_i12 (List.mem_of_getElem? (i := 21) rfl), List.forall_mem_cons.mpr ⟨wsL_i2 (List.mem_of_getElem? (i := 3) rfl), List.forall_mem_cons.mpr ⟨wsL_i12 (List.mem_of_getElem? (i := 22) rfl), fun _ h => absurd h List.not_mem_nil⟩⟩⟩⟩⟩) ⟨rfl, by decide, by decide, by decide +kernel⟩ ⟨⟨rfl, rfl⟩, by decide, by decide⟩ (fun as σ h => by
      obtain ⟨x, rfl, -⟩ := h
      exact ⟨_, _, _, _, _, _, rfl, rfl, rfl, rfl⟩), List.forall_mem_cons.mpr ⟨dk_calleeV (n := 1) (C := RX0) m_nextTask (List.forall_mem_cons.mpr ⟨wsL_i12 (List.mem_of_getElem? (i := 23) rfl), List.forall_mem_cons.mpr ⟨wsL_i13 (List.mem_of_getElem? (i := 0) rfl), List.forall_mem_cons.mpr ⟨wsL_i13 (List.mem_of_getElem? (i := 1) rfl), List.forall_mem_cons.mpr ⟨wsL_i2 (List.mem_of_getElem? (i := 3) rfl), List.forall_mem_cons.mpr ⟨wsL_i13 (List.mem_of_getElem? (i := 2) rfl), fun _ h => absurd h List.not_mem_nil⟩⟩⟩⟩⟩) ⟨rfl, by decide, by decide, by decide +kernel⟩ ⟨⟨rfl, rfl⟩, by decide, by decide⟩ (fun as σ h => by
      obtain ⟨x, rfl, -⟩ := h
      exact ⟨_, _, _, _, _, _, rfl, rfl, rfl, rfl⟩), fun _ h => absurd h List.not_mem_nil⟩⟩⟩))
    (dk_fm_all (fun _ h => absurd h List.not_mem_nil))
    (Or.inr ⟨rfl, rfl, rfl⟩) (by decide) q_chainFind
set_option maxRecDepth 100000 in
theorem m_addEdge : dk_Met l D cI cZ cR ad yX1_addEdge cX1_addEdge 5 none { frames := 0, locals := 0 } sp_addEdge :=
  dk_met (G := (kX1_addEdge, fX1, [], [], [], 5, false)) true (by decide) rfl hX1_addEdge (fX1_ok) (fun _ h => absurd h List.not_mem_nil) (dk_fm_all (fun _ h => absurd h List.not_mem_nil))
    (dk_fm_all (fun _ h => absurd h List.not_mem_nil))
    (Or.inr ⟨rfl, rfl, rfl⟩) (by decide) q_addEdge
set_option maxRecDepth 100000 in
theorem m_gatherEdges : dk_Met l D cI cZ cR ad yX1_gatherEdges cX1_gatherEdges 2 none { frames := 1, locals := 24 } sp_gatherEdges :=
  dk_met (G := (kX1_gatherEdges, fX1, [(87, sp_addEdge)], [], [], 2, false)) true (by decide) rfl hX1_gatherEdges (fX1_ok) (fun _ h => absurd h List.not_mem_nil) (dk_fm_all (List.forall_mem_cons.mpr ⟨dk_calleeV (n := 4) (C := RX1) m_addEdge (List.forall_mem_cons.mpr ⟨wsL_i13 (List.mem_of_getElem? (i := 23) rfl), List.forall_mem_cons.mpr ⟨wsL_i14 (List.mem_of_getElem? (i := 0) rfl), List.forall_mem_cons.mpr ⟨wsL_i14 (List.mem_of_getElem? (i := 1) rfl), List.forall_mem_cons.mpr ⟨wsL_i2 (List.mem_of_getElem? (i := 7) rfl), List.forall_mem_cons.mpr ⟨wsL_i14 (List.mem_of_getElem? (i := 2) rfl), fun _ h => absurd h List.not_mem_nil⟩⟩⟩⟩⟩) ⟨rfl, by decide, by decide, by decide +kernel⟩ ⟨⟨rfl, rfl⟩, by decide, by decide⟩ (fun as σ h => by
      obtain ⟨x, rfl, -⟩ := h
      exact ⟨_, _, _, _, _, _, rfl, rfl, rfl, rfl⟩), fun _ h => absurd h List.not_mem_nil⟩))
    (dk_fm_all (fun _ h => absurd h List.not_mem_nil))
    (Or.inr ⟨rfl, rfl, rfl⟩) (by decide) q_gatherEdges
set_option maxRecDepth 100000 in
theorem m_addStep : dk_Met l D cI cZ cR ad yX1_addStep cX1_addStep 4 none { frames := 1, locals := 23 } sp_addStep :=
  dk_met (G := (kX1_addStep, fX1, [], [(92, sp_fill), (102, sp_max)], nX1, 4, false)) true (by decide) rfl hX1_addStep (fX1_ok) (nX1_ok) (dk_fm_all (fun _ h => absurd h List.not_mem_nil))
    (dk_fm_all (List.forall_mem_cons.mpr ⟨dk_calleeS (n := 2) m_fill (List.forall_mem_cons.mpr ⟨wsL_i14 (List.mem_of_getElem? (i := 12) rfl), List.forall_mem_cons.mpr ⟨wsL_i10 (List.mem_of_getElem? (i := 13) rfl), List.forall_mem_cons.mpr ⟨wsL_i10 (List.mem_of_getElem? (i := 14) rfl), List.forall_mem_cons.mpr ⟨wsL_i10 (List.mem_of_getElem? (i := 15) rfl), fun _ h => absurd h List.not_mem_nil⟩⟩⟩⟩) ⟨by decide, by decide, by decide +kernel⟩ ⟨⟨rfl, rfl⟩, by decide, by decide⟩ rfl, List.forall_mem_cons.mpr ⟨dk_callee_max (List.forall_mem_cons.mpr ⟨wsL_i14 (List.mem_of_getElem? (i := 17) rfl), List.forall_mem_cons.mpr ⟨wsL_i10 (List.mem_of_getElem? (i := 22) rfl), List.forall_mem_cons.mpr ⟨wsL_i10 (List.mem_of_getElem? (i := 23) rfl), List.forall_mem_cons.mpr ⟨wsL_i11 (List.mem_of_getElem? (i := 0) rfl), fun _ h => absurd h List.not_mem_nil⟩⟩⟩⟩) ⟨by decide, by decide⟩, fun _ h => absurd h List.not_mem_nil⟩⟩))
    (Or.inr ⟨rfl, rfl, rfl⟩) (by decide) q_addStep
set_option maxRecDepth 100000 in
theorem m_leastEdge : dk_Met l D cI cZ cR ad yX1_leastEdge cX1_leastEdge 5 (some .int) { frames := 0, locals := 0 } sp_leastEdge :=
  dk_met (G := (kX1_leastEdge, fX1, [], [], nX1, 5, false)) false (by decide) rfl hX1_leastEdge (fX1_ok) (nX1_ok) (dk_fm_all (fun _ h => absurd h List.not_mem_nil))
    (dk_fm_all (fun _ h => absurd h List.not_mem_nil))
    (Or.inl ⟨rfl, rfl, Or.inl ⟨rfl, rfl⟩⟩) (by decide) q_leastEdge
set_option maxRecDepth 100000 in
theorem m_circleMeasure : dk_Met l D cI cZ cR ad yX1_measure cX1_measure 4 (some .int) { frames := 2, locals := 46 } sp_circleMeasure :=
  dk_met (G := (kX1_measure, fX1, [(98, sp_addStep)], [(92, sp_fill)], nX1, 4, false)) false (by decide) rfl hX1_measure (fX1_ok) (nX1_ok) (dk_fm_all (List.forall_mem_cons.mpr ⟨dk_calleeV (n := 2) (C := RX1) m_addStep (List.forall_mem_cons.mpr ⟨wsL_i14 (List.mem_of_getElem? (i := 13) rfl), List.forall_mem_cons.mpr ⟨wsL_i14 (List.mem_of_getElem? (i := 14) rfl), List.forall_mem_cons.mpr ⟨wsL_i14 (List.mem_of_getElem? (i := 15) rfl), List.forall_mem_cons.mpr ⟨wsL_i2 (List.mem_of_getElem? (i := 7) rfl), List.forall_mem_cons.mpr ⟨wsL_i14 (List.mem_of_getElem? (i := 16) rfl), fun _ h => absurd h List.not_mem_nil⟩⟩⟩⟩⟩) ⟨rfl, by decide, by decide, by decide +kernel⟩ ⟨⟨rfl, rfl⟩, by decide, by decide⟩ (fun as σ h => by
      obtain ⟨x, rfl, -⟩ := h
      exact ⟨_, _, _, _, _, _, rfl, rfl, rfl, rfl⟩), fun _ h => absurd h List.not_mem_nil⟩))
    (dk_fm_all (List.forall_mem_cons.mpr ⟨dk_calleeS (n := 2) m_fill (List.forall_mem_cons.mpr ⟨wsL_i14 (List.mem_of_getElem? (i := 12) rfl), List.forall_mem_cons.mpr ⟨wsL_i10 (List.mem_of_getElem? (i := 13) rfl), List.forall_mem_cons.mpr ⟨wsL_i10 (List.mem_of_getElem? (i := 14) rfl), List.forall_mem_cons.mpr ⟨wsL_i10 (List.mem_of_getElem? (i := 15) rfl), fun _ h => absurd h List.not_mem_nil⟩⟩⟩⟩) ⟨by decide, by decide, by decide +kernel⟩ ⟨⟨rfl, rfl⟩, by decide, by decide⟩ rfl, fun _ h => absurd h List.not_mem_nil⟩))
    (Or.inl ⟨rfl, rfl, Or.inl ⟨rfl, rfl⟩⟩) (by decide) q_circleMeasure
set_option maxRecDepth 100000 in
theorem m_findGoal : dk_Met l D cI cZ cR ad yX1_findGoal cX1_findGoal 7 none { frames := 3, locals := 69 } sp_findGoal :=
  dk_met (G := (kX1_findGoal, fX1, [(65, sp_circleMeasure), (77, sp_leastEdge)], [], nX1, 7, false)) true (by decide) rfl hX1_findGoal (fX1_ok) (nX1_ok) (dk_fm_all (List.forall_mem_cons.mpr ⟨dk_calleeV (n := 2) (C := RX1) m_circleMeasure (List.forall_mem_cons.mpr ⟨wsL_i14 (List.mem_of_getElem? (i := 7) rfl), List.forall_mem_cons.mpr ⟨wsL_i14 (List.mem_of_getElem? (i := 8) rfl), List.forall_mem_cons.mpr ⟨wsL_i14 (List.mem_of_getElem? (i := 9) rfl), List.forall_mem_cons.mpr ⟨wsL_i2 (List.mem_of_getElem? (i := 7) rfl), List.forall_mem_cons.mpr ⟨wsL_i14 (List.mem_of_getElem? (i := 10) rfl), fun _ h => absurd h List.not_mem_nil⟩⟩⟩⟩⟩) ⟨rfl, by decide, by decide, by decide +kernel⟩ ⟨⟨rfl, rfl⟩, by decide, by decide⟩ (fun as σ h => by
      obtain ⟨x, rfl, -⟩ := h
      exact ⟨_, _, _, _, _, _, rfl, rfl, rfl, rfl⟩), List.forall_mem_cons.mpr ⟨dk_calleeV (n := 3) (C := RX1) m_leastEdge (List.forall_mem_cons.mpr ⟨wsL_i14 (List.mem_of_getElem? (i := 18) rfl), List.forall_mem_cons.mpr ⟨wsL_i14 (List.mem_of_getElem? (i := 19) rfl), List.forall_mem_cons.mpr ⟨wsL_i14 (List.mem_of_getElem? (i := 20) rfl), List.forall_mem_cons.mpr ⟨wsL_i2 (List.mem_of_getElem? (i := 7) rfl), List.forall_mem_cons.mpr ⟨wsL_i14 (List.mem_of_getElem? (i := 21) rfl), fun _ h => absurd h List.not_mem_nil⟩⟩⟩⟩⟩) ⟨rfl, by decide, by decide, by decide +kernel⟩ ⟨⟨rfl, rfl⟩, by decide, by decide⟩ (fun as σ h => by
      obtain ⟨x, rfl, -⟩ := h
      exact ⟨_, _, _, _, _, _, rfl, rfl, rfl, rfl⟩), fun _ h => absurd h List.not_mem_nil⟩⟩))
    (dk_fm_all (fun _ h => absurd h List.not_mem_nil))
    (Or.inr ⟨rfl, rfl, rfl⟩) (by decide) q_findGoal
set_option maxRecDepth 100000 in
theorem m_trace : dk_Met l D cI cZ cR ad yX1_trace cX1_trace 5 none { frames := 1, locals := 24 } sp_trace :=
  dk_met (G := (kX1_trace, fX1, [(77, sp_leastEdge)], [], nX1, 5, false)) true (by decide) rfl hX1_trace (fX1_ok) (nX1_ok) (dk_fm_all (List.forall_mem_cons.mpr ⟨dk_calleeV (n := 3) (C := RX1) m_leastEdge (List.forall_mem_cons.mpr ⟨wsL_i14 (List.mem_of_getElem? (i := 18) rfl), List.forall_mem_cons.mpr ⟨wsL_i14 (List.mem_of_getElem? (i := 19) rfl), List.forall_mem_cons.mpr ⟨wsL_i14 (List.mem_of_getElem? (i := 20) rfl), List.forall_mem_cons.mpr ⟨wsL_i2 (List.mem_of_getElem? (i := 7) rfl), List.forall_mem_cons.mpr ⟨wsL_i14 (List.mem_of_getElem? (i := 21) rfl), fun _ h => absurd h List.not_mem_nil⟩⟩⟩⟩⟩) ⟨rfl, by decide, by decide, by decide +kernel⟩ ⟨⟨rfl, rfl⟩, by decide, by decide⟩ (fun as σ h => by
      obtain ⟨x, rfl, -⟩ := h
      exact ⟨_, _, _, _, _, _, rfl, rfl, rfl, rfl⟩), fun _ h => absurd h List.not_mem_nil⟩))
    (dk_fm_all (fun _ h => absurd h List.not_mem_nil))
    (Or.inr ⟨rfl, rfl, rfl⟩) (by decide) q_trace
set_option maxRecDepth 100000 in
theorem m_circleFind : dk_Met l D cI cZ cR ad yX1_find cX1_find 2 none { frames := 4, locals := 95 } sp_circleFind :=
  dk_met (G := (kX1_find, fX1, [(46, sp_gatherEdges), (58, sp_findGoal), (65, sp_circleMeasure), (68, sp_trace)], [(52, sp_min)], nX1, 2, false)) true (by decide) rfl hX1_find (fX1_ok) (nX1_ok) (dk_fm_all (List.forall_mem_cons.mpr ⟨dk_calleeV (n := 0) (C := RX1) m_gatherEdges (List.forall_mem_cons.mpr ⟨wsL_i13 (List.mem_of_getElem? (i := 12) rfl), List.forall_mem_cons.mpr ⟨wsL_i13 (List.mem_of_getElem? (i := 13) rfl), List.forall_mem_cons.mpr ⟨wsL_i13 (List.mem_of_getElem? (i := 14) rfl), List.forall_mem_cons.mpr ⟨wsL_i2 (List.mem_of_getElem? (i := 7) rfl), List.forall_mem_cons.mpr ⟨wsL_i13 (List.mem_of_getElem? (i := 15) rfl), fun _ h => absurd h List.not_mem_nil⟩⟩⟩⟩⟩) ⟨rfl, by decide, by decide, by decide +kernel⟩ ⟨⟨rfl, rfl⟩, by decide, by decide⟩ (fun as σ h => by
      obtain ⟨x, rfl, -⟩ := h
      exact ⟨_, _, _, _, _, _, rfl, rfl, rfl, rfl⟩), List.forall_mem_cons.mpr ⟨dk_calleeV (n := 1) (C := RX1) m_findGoal (List.forall_mem_cons.mpr ⟨wsL_i14 (List.mem_of_getElem? (i := 3) rfl), List.forall_mem_cons.mpr ⟨wsL_i14 (List.mem_of_getElem? (i := 4) rfl), List.forall_mem_cons.mpr ⟨wsL_i14 (List.mem_of_getElem? (i := 5) rfl), List.forall_mem_cons.mpr ⟨wsL_i2 (List.mem_of_getElem? (i := 7) rfl), List.forall_mem_cons.mpr ⟨wsL_i14 (List.mem_of_getElem? (i := 6) rfl), fun _ h => absurd h List.not_mem_nil⟩⟩⟩⟩⟩) ⟨rfl, by decide, by decide, by decide +kernel⟩ ⟨⟨rfl, rfl⟩, by decide, by decide⟩ (fun as σ h => by
      obtain ⟨x, rfl, -⟩ := h
      exact ⟨_, _, _, _, _, _, rfl, rfl, rfl, rfl⟩), List.forall_mem_cons.mpr ⟨dk_calleeV (n := 2) (C := RX1) m_circleMeasure (List.forall_mem_cons.mpr ⟨wsL_i14 (List.mem_of_getElem? (i := 7) rfl), List.forall_mem_cons.mpr ⟨wsL_i14 (List.mem_of_getElem? (i := 8) rfl), List.forall_mem_cons.mpr ⟨wsL_i14 (List.mem_of_getElem? (i := 9) rfl), List.forall_mem_cons.mpr ⟨wsL_i2 (List.mem_of_getElem? (i := 7) rfl), List.forall_mem_cons.mpr ⟨wsL_i14 (List.mem_of_getElem? (i := 10) rfl), fun _ h => absurd h List.not_mem_nil⟩⟩⟩⟩⟩) ⟨rfl, by decide, by decide, by decide +kernel⟩ ⟨⟨rfl, rfl⟩, by decide, by decide⟩ (fun as σ h => by
      obtain ⟨x, rfl, -⟩ := h
      exact ⟨_, _, _, _, _, _, rfl, rfl, rfl, rfl⟩), List.forall_mem_cons.mpr ⟨dk_calleeV (n := 0) (C := RX1) m_trace (List.forall_mem_cons.mpr ⟨wsL_i14 (List.mem_of_getElem? (i := 22) rfl), List.forall_mem_cons.mpr ⟨wsL_i14 (List.mem_of_getElem? (i := 23) rfl), List.forall_mem_cons.mpr ⟨wsL_i15 (List.mem_of_getElem? (i := 0) rfl), List.forall_mem_cons.mpr ⟨wsL_i2 (List.mem_of_getElem? (i := 7) rfl), List.forall_mem_cons.mpr ⟨wsL_i15 (List.mem_of_getElem? (i := 1) rfl), fun _ h => absurd h List.not_mem_nil⟩⟩⟩⟩⟩) ⟨rfl, by decide, by decide, by decide +kernel⟩ ⟨⟨rfl, rfl⟩, by decide, by decide⟩ (fun as σ h => by
      obtain ⟨x, rfl, -⟩ := h
      exact ⟨_, _, _, _, _, _, rfl, rfl, rfl, rfl⟩), fun _ h => absurd h List.not_mem_nil⟩⟩⟩⟩))
    (dk_fm_all (List.forall_mem_cons.mpr ⟨dk_callee_min (List.forall_mem_cons.mpr ⟨wsL_i13 (List.mem_of_getElem? (i := 8) rfl), List.forall_mem_cons.mpr ⟨wsL_i13 (List.mem_of_getElem? (i := 9) rfl), List.forall_mem_cons.mpr ⟨wsL_i10 (List.mem_of_getElem? (i := 23) rfl), List.forall_mem_cons.mpr ⟨wsL_i13 (List.mem_of_getElem? (i := 10) rfl), fun _ h => absurd h List.not_mem_nil⟩⟩⟩⟩) ⟨by decide, by decide⟩, fun _ h => absurd h List.not_mem_nil⟩))
    (Or.inr ⟨rfl, rfl, rfl⟩) (by decide) q_circleFind
set_option maxRecDepth 100000 in
theorem m_stands : dk_Met l D cI cZ cR ad yX1_stands cX1_stands 2 (some .boolean) { frames := 0, locals := 0 } sp_stands :=
  dk_met (G := (kX1_stands, fX1, [], [], nX1, 2, true)) false (by decide) rfl hX1_stands (fX1_ok) (nX1_ok) (dk_fm_all (fun _ h => absurd h List.not_mem_nil))
    (dk_fm_all (fun _ h => absurd h List.not_mem_nil))
    (Or.inl ⟨rfl, rfl, Or.inr ⟨rfl, rfl⟩⟩) (by decide) q_stands
set_option maxRecDepth 100000 in
theorem m_enqueue : dk_Met l D cI cZ cR ad yX3_enqueue cX3_enqueue 2 none { frames := 0, locals := 0 } sp_enqueue :=
  dk_met (G := (kX3_enqueue, fX3, [], [], nX3, 2, false)) true (by decide) rfl hX3_enqueue (fX3_ok) (nX3_ok) (dk_fm_all (fun _ h => absurd h List.not_mem_nil))
    (dk_fm_all (fun _ h => absurd h List.not_mem_nil))
    (Or.inr ⟨rfl, rfl, rfl⟩) (by decide) q_enqueue
set_option maxRecDepth 100000 in
theorem m_pair : dk_Met l D cI cZ cR ad yX3_pair cX3_pair 3 none { frames := 0, locals := 0 } sp_pair :=
  dk_met (G := (kX3_pair, fX3, [], [], nX3, 3, false)) true (by decide) rfl hX3_pair (fX3_ok) (nX3_ok) (dk_fm_all (fun _ h => absurd h List.not_mem_nil))
    (dk_fm_all (fun _ h => absurd h List.not_mem_nil))
    (Or.inr ⟨rfl, rfl, rfl⟩) (by decide) q_pair
set_option maxRecDepth 100000 in
theorem m_see : dk_Met l D cI cZ cR ad yX3_seeWorkersOf cX3_seeWorkersOf 5 (some .int) { frames := 1, locals := 21 } sp_see :=
  dk_met (G := (kX3_seeWorkersOf, fX3, [(81, sp_enqueue)], [(55, sp_holdsBit)], nX3, 5, false)) false (by decide) rfl hX3_seeWorkersOf (fX3_ok) (nX3_ok) (dk_fm_all (List.forall_mem_cons.mpr ⟨dk_calleeV (n := 1) (C := RX3) m_enqueue (List.forall_mem_cons.mpr ⟨wsL_i23 (List.mem_of_getElem? (i := 6) rfl), List.forall_mem_cons.mpr ⟨wsL_i23 (List.mem_of_getElem? (i := 7) rfl), List.forall_mem_cons.mpr ⟨wsL_i23 (List.mem_of_getElem? (i := 8) rfl), List.forall_mem_cons.mpr ⟨wsL_i2 (List.mem_of_getElem? (i := 11) rfl), List.forall_mem_cons.mpr ⟨wsL_i23 (List.mem_of_getElem? (i := 9) rfl), fun _ h => absurd h List.not_mem_nil⟩⟩⟩⟩⟩) ⟨rfl, by decide, by decide, by decide +kernel⟩ ⟨⟨rfl, rfl⟩, by decide, by decide⟩ (fun as σ h => by
      obtain ⟨x, rfl, -⟩ := h
      exact ⟨_, _, _, _, _, _, rfl, rfl, rfl, rfl⟩), fun _ h => absurd h List.not_mem_nil⟩))
    (dk_fm_all (List.forall_mem_cons.mpr ⟨dk_calleeSN (n := 2) m_holdsBit (List.forall_mem_cons.mpr ⟨wsL_i9 (List.mem_of_getElem? (i := 16) rfl), List.forall_mem_cons.mpr ⟨wsL_i1 (List.mem_of_getElem? (i := 2) rfl), List.forall_mem_cons.mpr ⟨wsL_i9 (List.mem_of_getElem? (i := 17) rfl), fun _ h => absurd h List.not_mem_nil⟩⟩⟩) (fun _ h => h.2) ⟨by decide, by decide, by decide +kernel⟩ ⟨⟨rfl, rfl⟩, by decide, by decide⟩ rfl, fun _ h => absurd h List.not_mem_nil⟩))
    (Or.inl ⟨rfl, rfl, Or.inl ⟨rfl, rfl⟩⟩) (by decide) q_see
set_option maxRecDepth 100000 in
theorem m_passOn : dk_Met l D cI cZ cR ad yX3_passWorkersOn cX3_passWorkersOn 6 none { frames := 1, locals := 22 } sp_passOn :=
  dk_met (G := (kX3_passWorkersOn, fX3, [(91, sp_pair)], [], nX3, 6, false)) true (by decide) rfl hX3_passWorkersOn (fX3_ok) (nX3_ok) (dk_fm_all (List.forall_mem_cons.mpr ⟨dk_calleeV (n := 2) (C := RX3) m_pair (List.forall_mem_cons.mpr ⟨wsL_i23 (List.mem_of_getElem? (i := 18) rfl), List.forall_mem_cons.mpr ⟨wsL_i23 (List.mem_of_getElem? (i := 19) rfl), List.forall_mem_cons.mpr ⟨wsL_i23 (List.mem_of_getElem? (i := 20) rfl), List.forall_mem_cons.mpr ⟨wsL_i2 (List.mem_of_getElem? (i := 11) rfl), List.forall_mem_cons.mpr ⟨wsL_i23 (List.mem_of_getElem? (i := 21) rfl), fun _ h => absurd h List.not_mem_nil⟩⟩⟩⟩⟩) ⟨rfl, by decide, by decide, by decide +kernel⟩ ⟨⟨rfl, rfl⟩, by decide, by decide⟩ (fun as σ h => by
      obtain ⟨x, rfl, -⟩ := h
      exact ⟨_, _, _, _, _, _, rfl, rfl, rfl, rfl⟩), fun _ h => absurd h List.not_mem_nil⟩))
    (dk_fm_all (fun _ h => absurd h List.not_mem_nil))
    (Or.inr ⟨rfl, rfl, rfl⟩) (by decide) q_passOn
set_option maxRecDepth 100000 in
theorem m_widen : dk_Met l D cI cZ cR ad yX3_widen cX3_widen 4 (some .boolean) { frames := 2, locals := 47 } sp_widen :=
  dk_met (G := (kX3_widen, fX3, [(81, sp_enqueue), (85, sp_see), (88, sp_passOn)], [(55, sp_holdsBit)], nX3, 4, true)) false (by decide) rfl hX3_widen (fX3_ok) (nX3_ok) (dk_fm_all (List.forall_mem_cons.mpr ⟨dk_calleeV (n := 1) (C := RX3) m_enqueue (List.forall_mem_cons.mpr ⟨wsL_i23 (List.mem_of_getElem? (i := 6) rfl), List.forall_mem_cons.mpr ⟨wsL_i23 (List.mem_of_getElem? (i := 7) rfl), List.forall_mem_cons.mpr ⟨wsL_i23 (List.mem_of_getElem? (i := 8) rfl), List.forall_mem_cons.mpr ⟨wsL_i2 (List.mem_of_getElem? (i := 11) rfl), List.forall_mem_cons.mpr ⟨wsL_i23 (List.mem_of_getElem? (i := 9) rfl), fun _ h => absurd h List.not_mem_nil⟩⟩⟩⟩⟩) ⟨rfl, by decide, by decide, by decide +kernel⟩ ⟨⟨rfl, rfl⟩, by decide, by decide⟩ (fun as σ h => by
      obtain ⟨x, rfl, -⟩ := h
      exact ⟨_, _, _, _, _, _, rfl, rfl, rfl, rfl⟩), List.forall_mem_cons.mpr ⟨dk_calleeV (n := 2) (C := RX3) m_see (List.forall_mem_cons.mpr ⟨wsL_i23 (List.mem_of_getElem? (i := 10) rfl), List.forall_mem_cons.mpr ⟨wsL_i23 (List.mem_of_getElem? (i := 11) rfl), List.forall_mem_cons.mpr ⟨wsL_i23 (List.mem_of_getElem? (i := 12) rfl), List.forall_mem_cons.mpr ⟨wsL_i2 (List.mem_of_getElem? (i := 11) rfl), List.forall_mem_cons.mpr ⟨wsL_i23 (List.mem_of_getElem? (i := 13) rfl), fun _ h => absurd h List.not_mem_nil⟩⟩⟩⟩⟩) ⟨rfl, by decide, by decide, by decide +kernel⟩ ⟨⟨rfl, rfl⟩, by decide, by decide⟩ (fun as σ h => by
      obtain ⟨x, rfl, -⟩ := h
      exact ⟨_, _, _, _, _, _, rfl, rfl, rfl, rfl⟩), List.forall_mem_cons.mpr ⟨dk_calleeV (n := 1) (C := RX3) m_passOn (List.forall_mem_cons.mpr ⟨wsL_i23 (List.mem_of_getElem? (i := 14) rfl), List.forall_mem_cons.mpr ⟨wsL_i23 (List.mem_of_getElem? (i := 15) rfl), List.forall_mem_cons.mpr ⟨wsL_i23 (List.mem_of_getElem? (i := 16) rfl), List.forall_mem_cons.mpr ⟨wsL_i2 (List.mem_of_getElem? (i := 11) rfl), List.forall_mem_cons.mpr ⟨wsL_i23 (List.mem_of_getElem? (i := 17) rfl), fun _ h => absurd h List.not_mem_nil⟩⟩⟩⟩⟩) ⟨rfl, by decide, by decide, by decide +kernel⟩ ⟨⟨rfl, rfl⟩, by decide, by decide⟩ (fun as σ h => by
      obtain ⟨x, rfl, -⟩ := h
      exact ⟨_, _, _, _, _, _, rfl, rfl, rfl, rfl⟩), fun _ h => absurd h List.not_mem_nil⟩⟩⟩))
    (dk_fm_all (List.forall_mem_cons.mpr ⟨dk_calleeSN (n := 2) m_holdsBit (List.forall_mem_cons.mpr ⟨wsL_i9 (List.mem_of_getElem? (i := 16) rfl), List.forall_mem_cons.mpr ⟨wsL_i1 (List.mem_of_getElem? (i := 2) rfl), List.forall_mem_cons.mpr ⟨wsL_i9 (List.mem_of_getElem? (i := 17) rfl), fun _ h => absurd h List.not_mem_nil⟩⟩⟩) (fun _ h => h.2) ⟨by decide, by decide, by decide +kernel⟩ ⟨⟨rfl, rfl⟩, by decide, by decide⟩ rfl, fun _ h => absurd h List.not_mem_nil⟩))
    (Or.inl ⟨rfl, rfl, Or.inr ⟨rfl, rfl⟩⟩) (by decide) q_widen
set_option maxRecDepth 100000 in
theorem m_keepCover : dk_Met l D cI cZ cR ad yX3_keepCover cX3_keepCover 2 none { frames := 0, locals := 0 } sp_keepCover :=
  dk_met (G := (kX3_keepCover, fX3, [], [], nX3, 2, false)) true (by decide) rfl hX3_keepCover (fX3_ok) (nX3_ok) (dk_fm_all (fun _ h => absurd h List.not_mem_nil))
    (dk_fm_all (fun _ h => absurd h List.not_mem_nil))
    (Or.inr ⟨rfl, rfl, rfl⟩) (by decide) q_keepCover
set_option maxRecDepth 100000 in
theorem m_take : dk_Met l D cI cZ cR ad yX3_take cX3_take 6 (some .boolean) { frames := 3, locals := 70 } sp_take :=
  dk_met (G := (kX3_take, fX3, [(91, sp_pair), (48, sp_widen)], [], nX3, 6, true)) false (by decide) rfl hX3_take (fX3_ok) (nX3_ok) (dk_fm_all (List.forall_mem_cons.mpr ⟨dk_calleeV (n := 2) (C := RX3) m_pair (List.forall_mem_cons.mpr ⟨wsL_i23 (List.mem_of_getElem? (i := 18) rfl), List.forall_mem_cons.mpr ⟨wsL_i23 (List.mem_of_getElem? (i := 19) rfl), List.forall_mem_cons.mpr ⟨wsL_i23 (List.mem_of_getElem? (i := 20) rfl), List.forall_mem_cons.mpr ⟨wsL_i2 (List.mem_of_getElem? (i := 11) rfl), List.forall_mem_cons.mpr ⟨wsL_i23 (List.mem_of_getElem? (i := 21) rfl), fun _ h => absurd h List.not_mem_nil⟩⟩⟩⟩⟩) ⟨rfl, by decide, by decide, by decide +kernel⟩ ⟨⟨rfl, rfl⟩, by decide, by decide⟩ (fun as σ h => by
      obtain ⟨x, rfl, -⟩ := h
      exact ⟨_, _, _, _, _, _, rfl, rfl, rfl, rfl⟩), List.forall_mem_cons.mpr ⟨dk_calleeV (n := 1) (C := RX3) m_widen (List.forall_mem_cons.mpr ⟨wsL_i23 (List.mem_of_getElem? (i := 0) rfl), List.forall_mem_cons.mpr ⟨wsL_i23 (List.mem_of_getElem? (i := 1) rfl), List.forall_mem_cons.mpr ⟨wsL_i23 (List.mem_of_getElem? (i := 2) rfl), List.forall_mem_cons.mpr ⟨wsL_i2 (List.mem_of_getElem? (i := 11) rfl), List.forall_mem_cons.mpr ⟨wsL_i23 (List.mem_of_getElem? (i := 3) rfl), fun _ h => absurd h List.not_mem_nil⟩⟩⟩⟩⟩) ⟨rfl, by decide, by decide, by decide +kernel⟩ ⟨⟨rfl, rfl⟩, by decide, by decide⟩ (fun as σ h => by
      obtain ⟨x, rfl, -⟩ := h
      exact ⟨_, _, _, _, _, _, rfl, rfl, rfl, rfl⟩), fun _ h => absurd h List.not_mem_nil⟩⟩))
    (dk_fm_all (fun _ h => absurd h List.not_mem_nil))
    (Or.inl ⟨rfl, rfl, Or.inr ⟨rfl, rfl⟩⟩) (by decide) q_take
set_option maxRecDepth 100000 in
theorem m_takeLeast : dk_Met l D cI cZ cR ad yX3_takeLeast cX3_takeLeast 5 (some .int) { frames := 4, locals := 95 } sp_takeLeast :=
  dk_met (G := (kX3_takeLeast, fX3, [(95, sp_take)], [(55, sp_holdsBit)], nX3, 5, false)) false (by decide) rfl hX3_takeLeast (fX3_ok) (nX3_ok) (dk_fm_all (List.forall_mem_cons.mpr ⟨dk_calleeV (n := 3) (C := RX3) m_take (List.forall_mem_cons.mpr ⟨wsL_i24 (List.mem_of_getElem? (i := 8) rfl), List.forall_mem_cons.mpr ⟨wsL_i24 (List.mem_of_getElem? (i := 9) rfl), List.forall_mem_cons.mpr ⟨wsL_i24 (List.mem_of_getElem? (i := 10) rfl), List.forall_mem_cons.mpr ⟨wsL_i2 (List.mem_of_getElem? (i := 11) rfl), List.forall_mem_cons.mpr ⟨wsL_i24 (List.mem_of_getElem? (i := 11) rfl), fun _ h => absurd h List.not_mem_nil⟩⟩⟩⟩⟩) ⟨rfl, by decide, by decide, by decide +kernel⟩ ⟨⟨rfl, rfl⟩, by decide, by decide⟩ (fun as σ h => by
      obtain ⟨x, rfl, -⟩ := h
      exact ⟨_, _, _, _, _, _, rfl, rfl, rfl, rfl⟩), fun _ h => absurd h List.not_mem_nil⟩))
    (dk_fm_all (List.forall_mem_cons.mpr ⟨dk_calleeSN (n := 2) m_holdsBit (List.forall_mem_cons.mpr ⟨wsL_i9 (List.mem_of_getElem? (i := 16) rfl), List.forall_mem_cons.mpr ⟨wsL_i1 (List.mem_of_getElem? (i := 2) rfl), List.forall_mem_cons.mpr ⟨wsL_i9 (List.mem_of_getElem? (i := 17) rfl), fun _ h => absurd h List.not_mem_nil⟩⟩⟩) (fun _ h => h.2) ⟨by decide, by decide, by decide +kernel⟩ ⟨⟨rfl, rfl⟩, by decide, by decide⟩ rfl, fun _ h => absurd h List.not_mem_nil⟩))
    (Or.inl ⟨rfl, rfl, Or.inl ⟨rfl, rfl⟩⟩) (by decide) q_takeLeast
set_option maxRecDepth 100000 in
theorem m_mfind : dk_Met l D cI cZ cR ad yX3_find cX3_find 6 (some .int) { frames := 5, locals := 119 } sp_mfind :=
  dk_met (G := (kX3_find, fX3, [(48, sp_widen), (52, sp_keepCover), (59, sp_takeLeast)], [(41, sp_fill), (55, sp_holdsBit)], nX3, 6, false)) false (by decide) rfl hX3_find (fX3_ok) (nX3_ok) (dk_fm_all (List.forall_mem_cons.mpr ⟨dk_calleeV (n := 1) (C := RX3) m_widen (List.forall_mem_cons.mpr ⟨wsL_i23 (List.mem_of_getElem? (i := 0) rfl), List.forall_mem_cons.mpr ⟨wsL_i23 (List.mem_of_getElem? (i := 1) rfl), List.forall_mem_cons.mpr ⟨wsL_i23 (List.mem_of_getElem? (i := 2) rfl), List.forall_mem_cons.mpr ⟨wsL_i2 (List.mem_of_getElem? (i := 11) rfl), List.forall_mem_cons.mpr ⟨wsL_i23 (List.mem_of_getElem? (i := 3) rfl), fun _ h => absurd h List.not_mem_nil⟩⟩⟩⟩⟩) ⟨rfl, by decide, by decide, by decide +kernel⟩ ⟨⟨rfl, rfl⟩, by decide, by decide⟩ (fun as σ h => by
      obtain ⟨x, rfl, -⟩ := h
      exact ⟨_, _, _, _, _, _, rfl, rfl, rfl, rfl⟩), List.forall_mem_cons.mpr ⟨dk_calleeV (n := 0) (C := RX3) m_keepCover (List.forall_mem_cons.mpr ⟨wsL_i23 (List.mem_of_getElem? (i := 22) rfl), List.forall_mem_cons.mpr ⟨wsL_i23 (List.mem_of_getElem? (i := 23) rfl), List.forall_mem_cons.mpr ⟨wsL_i24 (List.mem_of_getElem? (i := 0) rfl), List.forall_mem_cons.mpr ⟨wsL_i2 (List.mem_of_getElem? (i := 11) rfl), List.forall_mem_cons.mpr ⟨wsL_i24 (List.mem_of_getElem? (i := 1) rfl), fun _ h => absurd h List.not_mem_nil⟩⟩⟩⟩⟩) ⟨rfl, by decide, by decide, by decide +kernel⟩ ⟨⟨rfl, rfl⟩, by decide, by decide⟩ (fun as σ h => by
      obtain ⟨x, rfl, -⟩ := h
      exact ⟨_, _, _, _, _, _, rfl, rfl, rfl, rfl⟩), List.forall_mem_cons.mpr ⟨dk_calleeV (n := 2) (C := RX3) m_takeLeast (List.forall_mem_cons.mpr ⟨wsL_i24 (List.mem_of_getElem? (i := 4) rfl), List.forall_mem_cons.mpr ⟨wsL_i24 (List.mem_of_getElem? (i := 5) rfl), List.forall_mem_cons.mpr ⟨wsL_i24 (List.mem_of_getElem? (i := 6) rfl), List.forall_mem_cons.mpr ⟨wsL_i2 (List.mem_of_getElem? (i := 11) rfl), List.forall_mem_cons.mpr ⟨wsL_i24 (List.mem_of_getElem? (i := 7) rfl), fun _ h => absurd h List.not_mem_nil⟩⟩⟩⟩⟩) ⟨rfl, by decide, by decide, by decide +kernel⟩ ⟨⟨rfl, rfl⟩, by decide, by decide⟩ (fun as σ h => by
      obtain ⟨x, rfl, -⟩ := h
      exact ⟨_, _, _, _, _, _, rfl, rfl, rfl, rfl⟩), fun _ h => absurd h List.not_mem_nil⟩⟩⟩))
    (dk_fm_all (List.forall_mem_cons.mpr ⟨dk_calleeS (n := 2) m_fill (List.forall_mem_cons.mpr ⟨wsL_i22 (List.mem_of_getElem? (i := 23) rfl), List.forall_mem_cons.mpr ⟨wsL_i10 (List.mem_of_getElem? (i := 13) rfl), List.forall_mem_cons.mpr ⟨wsL_i10 (List.mem_of_getElem? (i := 14) rfl), List.forall_mem_cons.mpr ⟨wsL_i10 (List.mem_of_getElem? (i := 15) rfl), fun _ h => absurd h List.not_mem_nil⟩⟩⟩⟩) ⟨by decide, by decide, by decide +kernel⟩ ⟨⟨rfl, rfl⟩, by decide, by decide⟩ rfl, List.forall_mem_cons.mpr ⟨dk_calleeSN (n := 2) m_holdsBit (List.forall_mem_cons.mpr ⟨wsL_i9 (List.mem_of_getElem? (i := 16) rfl), List.forall_mem_cons.mpr ⟨wsL_i1 (List.mem_of_getElem? (i := 2) rfl), List.forall_mem_cons.mpr ⟨wsL_i9 (List.mem_of_getElem? (i := 17) rfl), fun _ h => absurd h List.not_mem_nil⟩⟩⟩) (fun _ h => h.2) ⟨by decide, by decide, by decide +kernel⟩ ⟨⟨rfl, rfl⟩, by decide, by decide⟩ rfl, fun _ h => absurd h List.not_mem_nil⟩⟩))
    (Or.inl ⟨rfl, rfl, Or.inl ⟨rfl, rfl⟩⟩) (by decide) q_mfind
set_option maxRecDepth 100000 in
theorem m_holds : dk_Met l D cI cZ cR ad yX3_holds cX3_holds 6 (some .boolean) { frames := 1, locals := 21 } sp_holds :=
  dk_met (G := (kX3_holds, fX3, [], [(55, sp_holdsBit)], nX3, 6, true)) false (by decide) rfl hX3_holds (fX3_ok) (nX3_ok) (dk_fm_all (fun _ h => absurd h List.not_mem_nil))
    (dk_fm_all (List.forall_mem_cons.mpr ⟨dk_calleeSN (n := 2) m_holdsBit (List.forall_mem_cons.mpr ⟨wsL_i9 (List.mem_of_getElem? (i := 16) rfl), List.forall_mem_cons.mpr ⟨wsL_i1 (List.mem_of_getElem? (i := 2) rfl), List.forall_mem_cons.mpr ⟨wsL_i9 (List.mem_of_getElem? (i := 17) rfl), fun _ h => absurd h List.not_mem_nil⟩⟩⟩) (fun _ h => h.2) ⟨by decide, by decide, by decide +kernel⟩ ⟨⟨rfl, rfl⟩, by decide, by decide⟩ rfl, fun _ h => absurd h List.not_mem_nil⟩))
    (Or.inl ⟨rfl, rfl, Or.inr ⟨rfl, rfl⟩⟩) (by decide) q_holds
set_option maxRecDepth 100000 in
theorem m_coverSize : dk_Met l D cI cZ cR ad yX3_coverSize cX3_coverSize 1 (some .int) { frames := 1, locals := 20 } sp_coverSize :=
  dk_met (G := (kX3_coverSize, fX3, [], [(69, sp_bitCount)], nX3, 1, false)) false (by decide) rfl hX3_coverSize (fX3_ok) (nX3_ok) (dk_fm_all (fun _ h => absurd h List.not_mem_nil))
    (dk_fm_all (List.forall_mem_cons.mpr ⟨dk_calleeS (n := 1) m_bitCount (List.forall_mem_cons.mpr ⟨wsL_i28 (List.mem_of_getElem? (i := 8) rfl), List.forall_mem_cons.mpr ⟨wsL_i21 (List.mem_of_getElem? (i := 2) rfl), List.forall_mem_cons.mpr ⟨wsL_i21 (List.mem_of_getElem? (i := 3) rfl), List.forall_mem_cons.mpr ⟨wsL_i21 (List.mem_of_getElem? (i := 4) rfl), fun _ h => absurd h List.not_mem_nil⟩⟩⟩⟩) ⟨by decide, by decide, by decide +kernel⟩ ⟨⟨rfl, rfl⟩, by decide, by decide⟩ rfl, fun _ h => absurd h List.not_mem_nil⟩))
    (Or.inl ⟨rfl, rfl, Or.inl ⟨rfl, rfl⟩⟩) (by decide) q_coverSize
set_option maxRecDepth 100000 in
theorem m_peakTime : dk_Met l D cI cZ cR ad yX5_peakTime cX5_peakTime 5 (some .int) { frames := 1, locals := 23 } sp_peakTime :=
  dk_met (G := (kX5_peakTime, fX5, [(84, sp_runningAt)], [(88, sp_bitCount)], [], 5, false)) false (by decide) rfl hX5_peakTime (fX5_ok) (fun _ h => absurd h List.not_mem_nil) (dk_fm_all (List.forall_mem_cons.mpr ⟨dk_calleeV (n := 1) (C := RX5) m_runningAt (List.forall_mem_cons.mpr ⟨wsL_i22 (List.mem_of_getElem? (i := 4) rfl), List.forall_mem_cons.mpr ⟨wsL_i20 (List.mem_of_getElem? (i := 22) rfl), List.forall_mem_cons.mpr ⟨wsL_i20 (List.mem_of_getElem? (i := 23) rfl), List.forall_mem_cons.mpr ⟨wsL_i1 (List.mem_of_getElem? (i := 22) rfl), List.forall_mem_cons.mpr ⟨wsL_i21 (List.mem_of_getElem? (i := 0) rfl), fun _ h => absurd h List.not_mem_nil⟩⟩⟩⟩⟩) ⟨rfl, by decide, by decide, by decide +kernel⟩ ⟨⟨rfl, rfl⟩, by decide, by decide⟩ (fun as σ h => by
      obtain ⟨x, rfl, h1, -⟩ := h
      obtain ⟨x, w⟩ := x
      dsimp only at h1
      rcases h1 with rfl | rfl <;> exact ⟨_, _, _, _, _, _, rfl, rfl, rfl, rfl⟩), fun _ h => absurd h List.not_mem_nil⟩))
    (dk_fm_all (List.forall_mem_cons.mpr ⟨dk_calleeS (n := 1) m_bitCount (List.forall_mem_cons.mpr ⟨wsL_i22 (List.mem_of_getElem? (i := 5) rfl), List.forall_mem_cons.mpr ⟨wsL_i21 (List.mem_of_getElem? (i := 2) rfl), List.forall_mem_cons.mpr ⟨wsL_i21 (List.mem_of_getElem? (i := 3) rfl), List.forall_mem_cons.mpr ⟨wsL_i21 (List.mem_of_getElem? (i := 4) rfl), fun _ h => absurd h List.not_mem_nil⟩⟩⟩⟩) ⟨by decide, by decide, by decide +kernel⟩ ⟨⟨rfl, rfl⟩, by decide, by decide⟩ rfl, fun _ h => absurd h List.not_mem_nil⟩))
    (Or.inl ⟨rfl, rfl, Or.inl ⟨rfl, rfl⟩⟩) (by decide) q_peakTime
set_option maxRecDepth 100000 in
theorem m_xtask : dk_Met l D cI cZ cR ad yX6_task cX6_task 3 (some .int) { frames := 1, locals := 21 } sp_xtask :=
  dk_met (G := (kX6_task, fX6, [(72, sp_addTask), (76, sp_spoilPlan)], [], [], 3, false)) false (by decide) rfl hX6_task (fX6_ok) (fun _ h => absurd h List.not_mem_nil) (dk_fm_all (List.forall_mem_cons.mpr ⟨dk_calleeV (n := 1) (C := RX4) m_addTask (List.forall_mem_cons.mpr ⟨wsL_i5 (List.mem_of_getElem? (i := 23) rfl), List.forall_mem_cons.mpr ⟨wsL_i6 (List.mem_of_getElem? (i := 0) rfl), List.forall_mem_cons.mpr ⟨wsL_i6 (List.mem_of_getElem? (i := 1) rfl), List.forall_mem_cons.mpr ⟨wsL_i1 (List.mem_of_getElem? (i := 14) rfl), List.forall_mem_cons.mpr ⟨wsL_i6 (List.mem_of_getElem? (i := 2) rfl), fun _ h => absurd h List.not_mem_nil⟩⟩⟩⟩⟩) ⟨rfl, by decide, by decide, by decide +kernel⟩ ⟨⟨rfl, rfl⟩, by decide, by decide⟩ (fun as σ h => by
      obtain ⟨x, rfl, -⟩ := h
      exact ⟨_, _, _, _, _, _, rfl, rfl, rfl, rfl⟩), List.forall_mem_cons.mpr ⟨dk_calleeV (n := 0) (C := RX6) m_spoilPlan (List.forall_mem_cons.mpr ⟨wsL_i6 (List.mem_of_getElem? (i := 4) rfl), List.forall_mem_cons.mpr ⟨wsL_i6 (List.mem_of_getElem? (i := 5) rfl), List.forall_mem_cons.mpr ⟨wsL_i6 (List.mem_of_getElem? (i := 6) rfl), List.forall_mem_cons.mpr ⟨wsL_i1 (List.mem_of_getElem? (i := 2) rfl), List.forall_mem_cons.mpr ⟨wsL_i6 (List.mem_of_getElem? (i := 7) rfl), fun _ h => absurd h List.not_mem_nil⟩⟩⟩⟩⟩) ⟨rfl, by decide, by decide, by decide +kernel⟩ ⟨⟨rfl, rfl⟩, by decide, by decide⟩ (fun as σ h => by
      obtain ⟨x, rfl, -⟩ := h
      exact ⟨_, _, _, _, _, _, rfl, rfl, rfl, rfl⟩), fun _ h => absurd h List.not_mem_nil⟩⟩))
    (dk_fm_all (fun _ h => absurd h List.not_mem_nil))
    (Or.inl ⟨rfl, rfl, Or.inl ⟨rfl, rfl⟩⟩) (by decide) q_xtask
set_option maxRecDepth 100000 in
theorem m_xconstrain : dk_Met l D cI cZ cR ad yX6_constrain cX6_constrain 5 (some .int) { frames := 3, locals := 66 } sp_xconstrain :=
  dk_met (G := (kX6_constrain, fX6, [(79, sp_addConstraint), (76, sp_spoilPlan)], [], [], 5, false)) false (by decide) rfl hX6_constrain (fX6_ok) (fun _ h => absurd h List.not_mem_nil) (dk_fm_all (List.forall_mem_cons.mpr ⟨dk_calleeV (n := 3) (C := RX4) m_addConstraint (List.forall_mem_cons.mpr ⟨wsL_i7 (List.mem_of_getElem? (i := 1) rfl), List.forall_mem_cons.mpr ⟨wsL_i7 (List.mem_of_getElem? (i := 2) rfl), List.forall_mem_cons.mpr ⟨wsL_i7 (List.mem_of_getElem? (i := 3) rfl), List.forall_mem_cons.mpr ⟨wsL_i1 (List.mem_of_getElem? (i := 14) rfl), List.forall_mem_cons.mpr ⟨wsL_i7 (List.mem_of_getElem? (i := 4) rfl), fun _ h => absurd h List.not_mem_nil⟩⟩⟩⟩⟩) ⟨rfl, by decide, by decide, by decide +kernel⟩ ⟨⟨rfl, rfl⟩, by decide, by decide⟩ (fun as σ h => by
      obtain ⟨x, rfl, -⟩ := h
      exact ⟨_, _, _, _, _, _, rfl, rfl, rfl, rfl⟩), List.forall_mem_cons.mpr ⟨dk_calleeV (n := 0) (C := RX6) m_spoilPlan (List.forall_mem_cons.mpr ⟨wsL_i6 (List.mem_of_getElem? (i := 4) rfl), List.forall_mem_cons.mpr ⟨wsL_i6 (List.mem_of_getElem? (i := 5) rfl), List.forall_mem_cons.mpr ⟨wsL_i6 (List.mem_of_getElem? (i := 6) rfl), List.forall_mem_cons.mpr ⟨wsL_i1 (List.mem_of_getElem? (i := 2) rfl), List.forall_mem_cons.mpr ⟨wsL_i6 (List.mem_of_getElem? (i := 7) rfl), fun _ h => absurd h List.not_mem_nil⟩⟩⟩⟩⟩) ⟨rfl, by decide, by decide, by decide +kernel⟩ ⟨⟨rfl, rfl⟩, by decide, by decide⟩ (fun as σ h => by
      obtain ⟨x, rfl, -⟩ := h
      exact ⟨_, _, _, _, _, _, rfl, rfl, rfl, rfl⟩), fun _ h => absurd h List.not_mem_nil⟩⟩))
    (dk_fm_all (fun _ h => absurd h List.not_mem_nil))
    (Or.inl ⟨rfl, rfl, Or.inl ⟨rfl, rfl⟩⟩) (by decide) q_xconstrain
set_option maxRecDepth 100000 in
theorem m_xdrop : dk_Met l D cI cZ cR ad yX6_drop cX6_drop 3 (some .boolean) { frames := 1, locals := 21 } sp_xdrop :=
  dk_met (G := (kX6_drop, fX6, [(83, sp_dropConstraint), (76, sp_spoilPlan)], [], [], 3, true)) false (by decide) rfl hX6_drop (fX6_ok) (fun _ h => absurd h List.not_mem_nil) (dk_fm_all (List.forall_mem_cons.mpr ⟨dk_calleeV (n := 1) (C := RX4) m_dropConstraint (List.forall_mem_cons.mpr ⟨wsL_i8 (List.mem_of_getElem? (i := 2) rfl), List.forall_mem_cons.mpr ⟨wsL_i8 (List.mem_of_getElem? (i := 3) rfl), List.forall_mem_cons.mpr ⟨wsL_i8 (List.mem_of_getElem? (i := 4) rfl), List.forall_mem_cons.mpr ⟨wsL_i1 (List.mem_of_getElem? (i := 14) rfl), List.forall_mem_cons.mpr ⟨wsL_i8 (List.mem_of_getElem? (i := 5) rfl), fun _ h => absurd h List.not_mem_nil⟩⟩⟩⟩⟩) ⟨rfl, by decide, by decide, by decide +kernel⟩ ⟨⟨rfl, rfl⟩, by decide, by decide⟩ (fun as σ h => by
      obtain ⟨x, rfl, -⟩ := h
      exact ⟨_, _, _, _, _, _, rfl, rfl, rfl, rfl⟩), List.forall_mem_cons.mpr ⟨dk_calleeV (n := 0) (C := RX6) m_spoilPlan (List.forall_mem_cons.mpr ⟨wsL_i6 (List.mem_of_getElem? (i := 4) rfl), List.forall_mem_cons.mpr ⟨wsL_i6 (List.mem_of_getElem? (i := 5) rfl), List.forall_mem_cons.mpr ⟨wsL_i6 (List.mem_of_getElem? (i := 6) rfl), List.forall_mem_cons.mpr ⟨wsL_i1 (List.mem_of_getElem? (i := 2) rfl), List.forall_mem_cons.mpr ⟨wsL_i6 (List.mem_of_getElem? (i := 7) rfl), fun _ h => absurd h List.not_mem_nil⟩⟩⟩⟩⟩) ⟨rfl, by decide, by decide, by decide +kernel⟩ ⟨⟨rfl, rfl⟩, by decide, by decide⟩ (fun as σ h => by
      obtain ⟨x, rfl, -⟩ := h
      exact ⟨_, _, _, _, _, _, rfl, rfl, rfl, rfl⟩), fun _ h => absurd h List.not_mem_nil⟩⟩))
    (dk_fm_all (fun _ h => absurd h List.not_mem_nil))
    (Or.inl ⟨rfl, rfl, Or.inr ⟨rfl, rfl⟩⟩) (by decide) q_xdrop
set_option maxRecDepth 100000 in
theorem m_xworker : dk_Met l D cI cZ cR ad yX6_worker cX6_worker 2 (some .int) { frames := 1, locals := 20 } sp_xworker :=
  dk_met (G := (kX6_worker, fX6, [(87, sp_addWorker)], [], [], 2, false)) false (by decide) rfl hX6_worker (fX6_ok) (fun _ h => absurd h List.not_mem_nil) (dk_fm_all (List.forall_mem_cons.mpr ⟨dk_calleeV (n := 0) (C := RX2) m_addWorker (List.forall_mem_cons.mpr ⟨wsL_i8 (List.mem_of_getElem? (i := 16) rfl), List.forall_mem_cons.mpr ⟨wsL_i8 (List.mem_of_getElem? (i := 17) rfl), List.forall_mem_cons.mpr ⟨wsL_i8 (List.mem_of_getElem? (i := 18) rfl), List.forall_mem_cons.mpr ⟨wsL_i1 (List.mem_of_getElem? (i := 18) rfl), List.forall_mem_cons.mpr ⟨wsL_i8 (List.mem_of_getElem? (i := 19) rfl), fun _ h => absurd h List.not_mem_nil⟩⟩⟩⟩⟩) ⟨rfl, by decide, by decide, by decide +kernel⟩ ⟨⟨rfl, rfl⟩, by decide, by decide⟩ (fun as σ h => by
      obtain ⟨x, rfl, -⟩ := h
      exact ⟨_, _, _, _, _, _, rfl, rfl, rfl, rfl⟩), fun _ h => absurd h List.not_mem_nil⟩))
    (dk_fm_all (fun _ h => absurd h List.not_mem_nil))
    (Or.inl ⟨rfl, rfl, Or.inl ⟨rfl, rfl⟩⟩) (by decide) q_xworker
set_option maxRecDepth 100000 in
theorem m_xskill : dk_Met l D cI cZ cR ad yX6_skill cX6_skill 4 (some .boolean) { frames := 2, locals := 43 } sp_xskill :=
  dk_met (G := (kX6_skill, fX6, [(94, sp_hasTask), (97, sp_addSkill)], [], [], 4, true)) false (by decide) rfl hX6_skill (fX6_ok) (fun _ h => absurd h List.not_mem_nil) (dk_fm_all (List.forall_mem_cons.mpr ⟨dk_calleeV (n := 1) (C := RX4) m_hasTask (List.forall_mem_cons.mpr ⟨wsL_i9 (List.mem_of_getElem? (i := 6) rfl), List.forall_mem_cons.mpr ⟨wsL_i7 (List.mem_of_getElem? (i := 11) rfl), List.forall_mem_cons.mpr ⟨wsL_i7 (List.mem_of_getElem? (i := 12) rfl), List.forall_mem_cons.mpr ⟨wsL_i1 (List.mem_of_getElem? (i := 14) rfl), List.forall_mem_cons.mpr ⟨wsL_i7 (List.mem_of_getElem? (i := 13) rfl), fun _ h => absurd h List.not_mem_nil⟩⟩⟩⟩⟩) ⟨rfl, by decide, by decide, by decide +kernel⟩ ⟨⟨rfl, rfl⟩, by decide, by decide⟩ (fun as σ h => by
      obtain ⟨x, rfl, -⟩ := h
      exact ⟨_, _, _, _, _, _, rfl, rfl, rfl, rfl⟩), List.forall_mem_cons.mpr ⟨dk_calleeV (n := 2) (C := RX2) m_addSkill (List.forall_mem_cons.mpr ⟨wsL_i9 (List.mem_of_getElem? (i := 7) rfl), List.forall_mem_cons.mpr ⟨wsL_i9 (List.mem_of_getElem? (i := 8) rfl), List.forall_mem_cons.mpr ⟨wsL_i9 (List.mem_of_getElem? (i := 9) rfl), List.forall_mem_cons.mpr ⟨wsL_i1 (List.mem_of_getElem? (i := 18) rfl), List.forall_mem_cons.mpr ⟨wsL_i9 (List.mem_of_getElem? (i := 10) rfl), fun _ h => absurd h List.not_mem_nil⟩⟩⟩⟩⟩) ⟨rfl, by decide, by decide, by decide +kernel⟩ ⟨⟨rfl, rfl⟩, by decide, by decide⟩ (fun as σ h => by
      obtain ⟨x, rfl, -⟩ := h
      exact ⟨_, _, _, _, _, _, rfl, rfl, rfl, rfl⟩), fun _ h => absurd h List.not_mem_nil⟩⟩))
    (dk_fm_all (fun _ h => absurd h List.not_mem_nil))
    (Or.inl ⟨rfl, rfl, Or.inr ⟨rfl, rfl⟩⟩) (by decide) q_xskill
set_option maxRecDepth 100000 in
theorem m_xstart : dk_Met l D cI cZ cR ad yX6_start cX6_start 3 (some .int) { frames := 2, locals := 45 } sp_xstart :=
  dk_met (G := (kX6_start, fX6, [(94, sp_hasTask), (112, sp_timesFresh), (121, sp_freeOf)], [], [], 3, false)) false (by decide) rfl hX6_start (fX6_ok) (fun _ h => absurd h List.not_mem_nil) (dk_fm_all (List.forall_mem_cons.mpr ⟨dk_calleeV (n := 1) (C := RX4) m_hasTask (List.forall_mem_cons.mpr ⟨wsL_i9 (List.mem_of_getElem? (i := 6) rfl), List.forall_mem_cons.mpr ⟨wsL_i7 (List.mem_of_getElem? (i := 11) rfl), List.forall_mem_cons.mpr ⟨wsL_i7 (List.mem_of_getElem? (i := 12) rfl), List.forall_mem_cons.mpr ⟨wsL_i1 (List.mem_of_getElem? (i := 14) rfl), List.forall_mem_cons.mpr ⟨wsL_i7 (List.mem_of_getElem? (i := 13) rfl), fun _ h => absurd h List.not_mem_nil⟩⟩⟩⟩⟩) ⟨rfl, by decide, by decide, by decide +kernel⟩ ⟨⟨rfl, rfl⟩, by decide, by decide⟩ (fun as σ h => by
      obtain ⟨x, rfl, -⟩ := h
      exact ⟨_, _, _, _, _, _, rfl, rfl, rfl, rfl⟩), List.forall_mem_cons.mpr ⟨dk_calleeV (n := 0) (C := RX6) m_timesFresh (List.forall_mem_cons.mpr ⟨wsL_i17 (List.mem_of_getElem? (i := 22) rfl), List.forall_mem_cons.mpr ⟨wsL_i17 (List.mem_of_getElem? (i := 23) rfl), List.forall_mem_cons.mpr ⟨wsL_i18 (List.mem_of_getElem? (i := 0) rfl), List.forall_mem_cons.mpr ⟨wsL_i1 (List.mem_of_getElem? (i := 2) rfl), List.forall_mem_cons.mpr ⟨wsL_i18 (List.mem_of_getElem? (i := 1) rfl), fun _ h => absurd h List.not_mem_nil⟩⟩⟩⟩⟩) ⟨rfl, by decide, by decide, by decide +kernel⟩ ⟨⟨rfl, rfl⟩, by decide, by decide⟩ (fun as σ h => by
      obtain ⟨x, rfl, -⟩ := h
      exact ⟨_, _, _, _, _, _, rfl, rfl, rfl, rfl⟩), List.forall_mem_cons.mpr ⟨dk_calleeV (n := 1) (C := RX5) m_freeOf (List.forall_mem_cons.mpr ⟨wsL_i18 (List.mem_of_getElem? (i := 2) rfl), List.forall_mem_cons.mpr ⟨wsL_i18 (List.mem_of_getElem? (i := 3) rfl), List.forall_mem_cons.mpr ⟨wsL_i18 (List.mem_of_getElem? (i := 4) rfl), List.forall_mem_cons.mpr ⟨wsL_i1 (List.mem_of_getElem? (i := 22) rfl), List.forall_mem_cons.mpr ⟨wsL_i18 (List.mem_of_getElem? (i := 5) rfl), fun _ h => absurd h List.not_mem_nil⟩⟩⟩⟩⟩) ⟨rfl, by decide, by decide, by decide +kernel⟩ ⟨⟨rfl, rfl⟩, by decide, by decide⟩ (fun as σ h => by
      obtain ⟨x, rfl, -⟩ := h
      exact ⟨_, _, _, _, _, _, rfl, rfl, rfl, rfl⟩), fun _ h => absurd h List.not_mem_nil⟩⟩⟩))
    (dk_fm_all (fun _ h => absurd h List.not_mem_nil))
    (Or.inl ⟨rfl, rfl, Or.inl ⟨rfl, rfl⟩⟩) (by decide) q_xstart
set_option maxRecDepth 100000 in
theorem m_xlength : dk_Met l D cI cZ cR ad yX6_length cX6_length 1 (some .int) { frames := 1, locals := 20 } sp_xlength :=
  dk_met (G := (kX6_length, fX6, [(112, sp_timesFresh)], [], [], 1, false)) false (by decide) rfl hX6_length (fX6_ok) (fun _ h => absurd h List.not_mem_nil) (dk_fm_all (List.forall_mem_cons.mpr ⟨dk_calleeV (n := 0) (C := RX6) m_timesFresh (List.forall_mem_cons.mpr ⟨wsL_i17 (List.mem_of_getElem? (i := 22) rfl), List.forall_mem_cons.mpr ⟨wsL_i17 (List.mem_of_getElem? (i := 23) rfl), List.forall_mem_cons.mpr ⟨wsL_i18 (List.mem_of_getElem? (i := 0) rfl), List.forall_mem_cons.mpr ⟨wsL_i1 (List.mem_of_getElem? (i := 2) rfl), List.forall_mem_cons.mpr ⟨wsL_i18 (List.mem_of_getElem? (i := 1) rfl), fun _ h => absurd h List.not_mem_nil⟩⟩⟩⟩⟩) ⟨rfl, by decide, by decide, by decide +kernel⟩ ⟨⟨rfl, rfl⟩, by decide, by decide⟩ (fun as σ h => by
      obtain ⟨x, rfl, -⟩ := h
      exact ⟨_, _, _, _, _, _, rfl, rfl, rfl, rfl⟩), fun _ h => absurd h List.not_mem_nil⟩))
    (dk_fm_all (fun _ h => absurd h List.not_mem_nil))
    (Or.inl ⟨rfl, rfl, Or.inl ⟨rfl, rfl⟩⟩) (by decide) q_xlength
set_option maxRecDepth 100000 in
theorem m_xrow : dk_Met l D cI cZ cR ad yX6_row cX6_row 3 (some .int) { frames := 1, locals := 21 } sp_xrow :=
  dk_met (G := (kX6_row, fX6, [(127, sp_chainAt), (130, sp_circleAt)], [], [], 3, false)) false (by decide) rfl hX6_row (fX6_ok) (fun _ h => absurd h List.not_mem_nil) (dk_fm_all (List.forall_mem_cons.mpr ⟨dk_calleeV (n := 1) (C := RX0) m_chainAt (List.forall_mem_cons.mpr ⟨wsL_i19 (List.mem_of_getElem? (i := 13) rfl), List.forall_mem_cons.mpr ⟨wsL_i19 (List.mem_of_getElem? (i := 14) rfl), List.forall_mem_cons.mpr ⟨wsL_i19 (List.mem_of_getElem? (i := 15) rfl), List.forall_mem_cons.mpr ⟨wsL_i2 (List.mem_of_getElem? (i := 3) rfl), List.forall_mem_cons.mpr ⟨wsL_i19 (List.mem_of_getElem? (i := 16) rfl), fun _ h => absurd h List.not_mem_nil⟩⟩⟩⟩⟩) ⟨rfl, by decide, by decide, by decide +kernel⟩ ⟨⟨rfl, rfl⟩, by decide, by decide⟩ (fun as σ h => by
      obtain ⟨x, rfl, -⟩ := h
      exact ⟨_, _, _, _, _, _, rfl, rfl, rfl, rfl⟩), List.forall_mem_cons.mpr ⟨dk_calleeV (n := 1) (C := RX1) m_circleAt (List.forall_mem_cons.mpr ⟨wsL_i19 (List.mem_of_getElem? (i := 17) rfl), List.forall_mem_cons.mpr ⟨wsL_i19 (List.mem_of_getElem? (i := 18) rfl), List.forall_mem_cons.mpr ⟨wsL_i19 (List.mem_of_getElem? (i := 19) rfl), List.forall_mem_cons.mpr ⟨wsL_i2 (List.mem_of_getElem? (i := 7) rfl), List.forall_mem_cons.mpr ⟨wsL_i19 (List.mem_of_getElem? (i := 20) rfl), fun _ h => absurd h List.not_mem_nil⟩⟩⟩⟩⟩) ⟨rfl, by decide, by decide, by decide +kernel⟩ ⟨⟨rfl, rfl⟩, by decide, by decide⟩ (fun as σ h => by
      obtain ⟨x, rfl, -⟩ := h
      exact ⟨_, _, _, _, _, _, rfl, rfl, rfl, rfl⟩), fun _ h => absurd h List.not_mem_nil⟩⟩))
    (dk_fm_all (fun _ h => absurd h List.not_mem_nil))
    (Or.inl ⟨rfl, rfl, Or.inl ⟨rfl, rfl⟩⟩) (by decide) q_xrow
set_option maxRecDepth 100000 in
theorem m_xbusy : dk_Met l D cI cZ cR ad yX6_busy cX6_busy 2 (some .int) { frames := 1, locals := 23 } sp_xbusy :=
  dk_met (G := (kX6_busy, fX6, [(112, sp_timesFresh), (135, sp_runningAt)], [(138, sp_bitCount)], [], 2, false)) false (by decide) rfl hX6_busy (fX6_ok) (fun _ h => absurd h List.not_mem_nil) (dk_fm_all (List.forall_mem_cons.mpr ⟨dk_calleeV (n := 0) (C := RX6) m_timesFresh (List.forall_mem_cons.mpr ⟨wsL_i17 (List.mem_of_getElem? (i := 22) rfl), List.forall_mem_cons.mpr ⟨wsL_i17 (List.mem_of_getElem? (i := 23) rfl), List.forall_mem_cons.mpr ⟨wsL_i18 (List.mem_of_getElem? (i := 0) rfl), List.forall_mem_cons.mpr ⟨wsL_i1 (List.mem_of_getElem? (i := 2) rfl), List.forall_mem_cons.mpr ⟨wsL_i18 (List.mem_of_getElem? (i := 1) rfl), fun _ h => absurd h List.not_mem_nil⟩⟩⟩⟩⟩) ⟨rfl, by decide, by decide, by decide +kernel⟩ ⟨⟨rfl, rfl⟩, by decide, by decide⟩ (fun as σ h => by
      obtain ⟨x, rfl, -⟩ := h
      exact ⟨_, _, _, _, _, _, rfl, rfl, rfl, rfl⟩), List.forall_mem_cons.mpr ⟨dk_calleeV (n := 1) (C := RX5) m_runningAt (List.forall_mem_cons.mpr ⟨wsL_i20 (List.mem_of_getElem? (i := 21) rfl), List.forall_mem_cons.mpr ⟨wsL_i20 (List.mem_of_getElem? (i := 22) rfl), List.forall_mem_cons.mpr ⟨wsL_i20 (List.mem_of_getElem? (i := 23) rfl), List.forall_mem_cons.mpr ⟨wsL_i1 (List.mem_of_getElem? (i := 22) rfl), List.forall_mem_cons.mpr ⟨wsL_i21 (List.mem_of_getElem? (i := 0) rfl), fun _ h => absurd h List.not_mem_nil⟩⟩⟩⟩⟩) ⟨rfl, by decide, by decide, by decide +kernel⟩ ⟨⟨rfl, rfl⟩, by decide, by decide⟩ (fun as σ h => by
      obtain ⟨x, rfl, h1, -⟩ := h
      obtain ⟨x, w⟩ := x
      dsimp only at h1
      rcases h1 with rfl | rfl <;> exact ⟨_, _, _, _, _, _, rfl, rfl, rfl, rfl⟩), fun _ h => absurd h List.not_mem_nil⟩⟩))
    (dk_fm_all (List.forall_mem_cons.mpr ⟨dk_calleeS (n := 1) m_bitCount (List.forall_mem_cons.mpr ⟨wsL_i21 (List.mem_of_getElem? (i := 1) rfl), List.forall_mem_cons.mpr ⟨wsL_i21 (List.mem_of_getElem? (i := 2) rfl), List.forall_mem_cons.mpr ⟨wsL_i21 (List.mem_of_getElem? (i := 3) rfl), List.forall_mem_cons.mpr ⟨wsL_i21 (List.mem_of_getElem? (i := 4) rfl), fun _ h => absurd h List.not_mem_nil⟩⟩⟩⟩) ⟨by decide, by decide, by decide +kernel⟩ ⟨⟨rfl, rfl⟩, by decide, by decide⟩ rfl, fun _ h => absurd h List.not_mem_nil⟩))
    (Or.inl ⟨rfl, rfl, Or.inl ⟨rfl, rfl⟩⟩) (by decide) q_xbusy
set_option maxRecDepth 100000 in
theorem m_xpeak : dk_Met l D cI cZ cR ad yX6_peak cX6_peak 3 (some .int) { frames := 2, locals := 47 } sp_xpeak :=
  dk_met (G := (kX6_peak, fX6, [(112, sp_timesFresh), (143, sp_peakTime), (135, sp_runningAt)], [(138, sp_bitCount)], [], 3, false)) false (by decide) rfl hX6_peak (fX6_ok) (fun _ h => absurd h List.not_mem_nil) (dk_fm_all (List.forall_mem_cons.mpr ⟨dk_calleeV (n := 0) (C := RX6) m_timesFresh (List.forall_mem_cons.mpr ⟨wsL_i17 (List.mem_of_getElem? (i := 22) rfl), List.forall_mem_cons.mpr ⟨wsL_i17 (List.mem_of_getElem? (i := 23) rfl), List.forall_mem_cons.mpr ⟨wsL_i18 (List.mem_of_getElem? (i := 0) rfl), List.forall_mem_cons.mpr ⟨wsL_i1 (List.mem_of_getElem? (i := 2) rfl), List.forall_mem_cons.mpr ⟨wsL_i18 (List.mem_of_getElem? (i := 1) rfl), fun _ h => absurd h List.not_mem_nil⟩⟩⟩⟩⟩) ⟨rfl, by decide, by decide, by decide +kernel⟩ ⟨⟨rfl, rfl⟩, by decide, by decide⟩ (fun as σ h => by
      obtain ⟨x, rfl, -⟩ := h
      exact ⟨_, _, _, _, _, _, rfl, rfl, rfl, rfl⟩), List.forall_mem_cons.mpr ⟨dk_calleeV (n := 0) (C := RX5) m_peakTime (List.forall_mem_cons.mpr ⟨wsL_i22 (List.mem_of_getElem? (i := 0) rfl), List.forall_mem_cons.mpr ⟨wsL_i22 (List.mem_of_getElem? (i := 1) rfl), List.forall_mem_cons.mpr ⟨wsL_i22 (List.mem_of_getElem? (i := 2) rfl), List.forall_mem_cons.mpr ⟨wsL_i1 (List.mem_of_getElem? (i := 22) rfl), List.forall_mem_cons.mpr ⟨wsL_i22 (List.mem_of_getElem? (i := 3) rfl), fun _ h => absurd h List.not_mem_nil⟩⟩⟩⟩⟩) ⟨rfl, by decide, by decide, by decide +kernel⟩ ⟨⟨rfl, rfl⟩, by decide, by decide⟩ (fun as σ h => by
      obtain ⟨x, rfl, -⟩ := h
      exact ⟨_, _, _, _, _, _, rfl, rfl, rfl, rfl⟩), List.forall_mem_cons.mpr ⟨dk_calleeV (n := 1) (C := RX5) m_runningAt (List.forall_mem_cons.mpr ⟨wsL_i20 (List.mem_of_getElem? (i := 21) rfl), List.forall_mem_cons.mpr ⟨wsL_i20 (List.mem_of_getElem? (i := 22) rfl), List.forall_mem_cons.mpr ⟨wsL_i20 (List.mem_of_getElem? (i := 23) rfl), List.forall_mem_cons.mpr ⟨wsL_i1 (List.mem_of_getElem? (i := 22) rfl), List.forall_mem_cons.mpr ⟨wsL_i21 (List.mem_of_getElem? (i := 0) rfl), fun _ h => absurd h List.not_mem_nil⟩⟩⟩⟩⟩) ⟨rfl, by decide, by decide, by decide +kernel⟩ ⟨⟨rfl, rfl⟩, by decide, by decide⟩ (fun as σ h => by
      obtain ⟨x, rfl, h1, -⟩ := h
      obtain ⟨x, w⟩ := x
      dsimp only at h1
      rcases h1 with rfl | rfl <;> exact ⟨_, _, _, _, _, _, rfl, rfl, rfl, rfl⟩), fun _ h => absurd h List.not_mem_nil⟩⟩⟩))
    (dk_fm_all (List.forall_mem_cons.mpr ⟨dk_calleeS (n := 1) m_bitCount (List.forall_mem_cons.mpr ⟨wsL_i21 (List.mem_of_getElem? (i := 1) rfl), List.forall_mem_cons.mpr ⟨wsL_i21 (List.mem_of_getElem? (i := 2) rfl), List.forall_mem_cons.mpr ⟨wsL_i21 (List.mem_of_getElem? (i := 3) rfl), List.forall_mem_cons.mpr ⟨wsL_i21 (List.mem_of_getElem? (i := 4) rfl), fun _ h => absurd h List.not_mem_nil⟩⟩⟩⟩) ⟨by decide, by decide, by decide +kernel⟩ ⟨⟨rfl, rfl⟩, by decide, by decide⟩ rfl, fun _ h => absurd h List.not_mem_nil⟩))
    (Or.inl ⟨rfl, rfl, Or.inl ⟨rfl, rfl⟩⟩) (by decide) q_xpeak
set_option maxRecDepth 100000 in
theorem m_xworkerOf : dk_Met l D cI cZ cR ad yX6_workerOf cX6_workerOf 2 (some .int) { frames := 1, locals := 21 } sp_xworkerOf :=
  dk_met (G := (kX6_workerOf, fX6, [(94, sp_hasTask)], [], [], 2, false)) false (by decide) rfl hX6_workerOf (fX6_ok) (fun _ h => absurd h List.not_mem_nil) (dk_fm_all (List.forall_mem_cons.mpr ⟨dk_calleeV (n := 1) (C := RX4) m_hasTask (List.forall_mem_cons.mpr ⟨wsL_i9 (List.mem_of_getElem? (i := 6) rfl), List.forall_mem_cons.mpr ⟨wsL_i7 (List.mem_of_getElem? (i := 11) rfl), List.forall_mem_cons.mpr ⟨wsL_i7 (List.mem_of_getElem? (i := 12) rfl), List.forall_mem_cons.mpr ⟨wsL_i1 (List.mem_of_getElem? (i := 14) rfl), List.forall_mem_cons.mpr ⟨wsL_i7 (List.mem_of_getElem? (i := 13) rfl), fun _ h => absurd h List.not_mem_nil⟩⟩⟩⟩⟩) ⟨rfl, by decide, by decide, by decide +kernel⟩ ⟨⟨rfl, rfl⟩, by decide, by decide⟩ (fun as σ h => by
      obtain ⟨x, rfl, -⟩ := h
      exact ⟨_, _, _, _, _, _, rfl, rfl, rfl, rfl⟩), fun _ h => absurd h List.not_mem_nil⟩))
    (dk_fm_all (fun _ h => absurd h List.not_mem_nil))
    (Or.inl ⟨rfl, rfl, Or.inl ⟨rfl, rfl⟩⟩) (by decide) q_xworkerOf
set_option maxRecDepth 100000 in
theorem m_xcover : dk_Met l D cI cZ cR ad yX6_cover cX6_cover 3 (some .int) { frames := 1, locals := 21 } sp_xcover :=
  dk_met (G := (kX6_cover, fX6, [(94, sp_hasTask), (155, sp_hasWorker)], [], [], 3, false)) false (by decide) rfl hX6_cover (fX6_ok) (fun _ h => absurd h List.not_mem_nil) (dk_fm_all (List.forall_mem_cons.mpr ⟨dk_calleeV (n := 1) (C := RX4) m_hasTask (List.forall_mem_cons.mpr ⟨wsL_i9 (List.mem_of_getElem? (i := 6) rfl), List.forall_mem_cons.mpr ⟨wsL_i7 (List.mem_of_getElem? (i := 11) rfl), List.forall_mem_cons.mpr ⟨wsL_i7 (List.mem_of_getElem? (i := 12) rfl), List.forall_mem_cons.mpr ⟨wsL_i1 (List.mem_of_getElem? (i := 14) rfl), List.forall_mem_cons.mpr ⟨wsL_i7 (List.mem_of_getElem? (i := 13) rfl), fun _ h => absurd h List.not_mem_nil⟩⟩⟩⟩⟩) ⟨rfl, by decide, by decide, by decide +kernel⟩ ⟨⟨rfl, rfl⟩, by decide, by decide⟩ (fun as σ h => by
      obtain ⟨x, rfl, -⟩ := h
      exact ⟨_, _, _, _, _, _, rfl, rfl, rfl, rfl⟩), List.forall_mem_cons.mpr ⟨dk_calleeV (n := 1) (C := RX2) m_hasWorker (List.forall_mem_cons.mpr ⟨wsL_i26 (List.mem_of_getElem? (i := 1) rfl), List.forall_mem_cons.mpr ⟨wsL_i9 (List.mem_of_getElem? (i := 13) rfl), List.forall_mem_cons.mpr ⟨wsL_i9 (List.mem_of_getElem? (i := 14) rfl), List.forall_mem_cons.mpr ⟨wsL_i1 (List.mem_of_getElem? (i := 18) rfl), List.forall_mem_cons.mpr ⟨wsL_i9 (List.mem_of_getElem? (i := 15) rfl), fun _ h => absurd h List.not_mem_nil⟩⟩⟩⟩⟩) ⟨rfl, by decide, by decide, by decide +kernel⟩ ⟨⟨rfl, rfl⟩, by decide, by decide⟩ (fun as σ h => by
      obtain ⟨x, rfl, -⟩ := h
      exact ⟨_, _, _, _, _, _, rfl, rfl, rfl, rfl⟩), fun _ h => absurd h List.not_mem_nil⟩⟩))
    (dk_fm_all (fun _ h => absurd h List.not_mem_nil))
    (Or.inl ⟨rfl, rfl, Or.inl ⟨rfl, rfl⟩⟩) (by decide) q_xcover
set_option maxRecDepth 100000 in
theorem m_xcount : dk_Met l D cI cZ cR ad yX6_count cX6_count 2 (some .int) { frames := 2, locals := 40 } sp_xcount :=
  dk_met (G := (kX6_count, fX6, [(196, sp_coverSize)], [(165, sp_asNumber)], [], 2, false)) false (by decide) rfl hX6_count (fX6_ok) (fun _ h => absurd h List.not_mem_nil) (dk_fm_all (List.forall_mem_cons.mpr ⟨dk_calleeV (n := 0) (C := RX3) m_coverSize (List.forall_mem_cons.mpr ⟨wsL_i28 (List.mem_of_getElem? (i := 4) rfl), List.forall_mem_cons.mpr ⟨wsL_i28 (List.mem_of_getElem? (i := 5) rfl), List.forall_mem_cons.mpr ⟨wsL_i28 (List.mem_of_getElem? (i := 6) rfl), List.forall_mem_cons.mpr ⟨wsL_i2 (List.mem_of_getElem? (i := 11) rfl), List.forall_mem_cons.mpr ⟨wsL_i28 (List.mem_of_getElem? (i := 7) rfl), fun _ h => absurd h List.not_mem_nil⟩⟩⟩⟩⟩) ⟨rfl, by decide, by decide, by decide +kernel⟩ ⟨⟨rfl, rfl⟩, by decide, by decide⟩ (fun as σ h => by
      obtain ⟨x, rfl, -⟩ := h
      exact ⟨_, _, _, _, _, _, rfl, rfl, rfl, rfl⟩), fun _ h => absurd h List.not_mem_nil⟩))
    (dk_fm_all (List.forall_mem_cons.mpr ⟨dk_calleeS (n := 1) m_asNumber (List.forall_mem_cons.mpr ⟨wsL_i26 (List.mem_of_getElem? (i := 16) rfl), List.forall_mem_cons.mpr ⟨wsL_i26 (List.mem_of_getElem? (i := 17) rfl), List.forall_mem_cons.mpr ⟨wsL_i1 (List.mem_of_getElem? (i := 2) rfl), List.forall_mem_cons.mpr ⟨wsL_i26 (List.mem_of_getElem? (i := 18) rfl), fun _ h => absurd h List.not_mem_nil⟩⟩⟩⟩) ⟨by decide, by decide, by decide +kernel⟩ ⟨⟨rfl, rfl⟩, by decide, by decide⟩ rfl, fun _ h => absurd h List.not_mem_nil⟩))
    (Or.inl ⟨rfl, rfl, Or.inl ⟨rfl, rfl⟩⟩) (by decide) q_xcount
set_option maxRecDepth 100000 in
theorem m_xdelay : dk_Met l D cI cZ cR ad yX6_delay cX6_delay 3 (some .int) { frames := 4, locals := 90 } sp_xdelay :=
  dk_met (G := (kX6_delay, fX6, [(94, sp_hasTask), (112, sp_timesFresh), (131, sp_findDelayed)], [], [], 3, false)) false (by decide) rfl hX6_delay (fX6_ok) (fun _ h => absurd h List.not_mem_nil) (dk_fm_all (List.forall_mem_cons.mpr ⟨dk_calleeV (n := 1) (C := RX4) m_hasTask (List.forall_mem_cons.mpr ⟨wsL_i9 (List.mem_of_getElem? (i := 6) rfl), List.forall_mem_cons.mpr ⟨wsL_i7 (List.mem_of_getElem? (i := 11) rfl), List.forall_mem_cons.mpr ⟨wsL_i7 (List.mem_of_getElem? (i := 12) rfl), List.forall_mem_cons.mpr ⟨wsL_i1 (List.mem_of_getElem? (i := 14) rfl), List.forall_mem_cons.mpr ⟨wsL_i7 (List.mem_of_getElem? (i := 13) rfl), fun _ h => absurd h List.not_mem_nil⟩⟩⟩⟩⟩) ⟨rfl, by decide, by decide, by decide +kernel⟩ ⟨⟨rfl, rfl⟩, by decide, by decide⟩ (fun as σ h => by
      obtain ⟨x, rfl, -⟩ := h
      exact ⟨_, _, _, _, _, _, rfl, rfl, rfl, rfl⟩), List.forall_mem_cons.mpr ⟨dk_calleeV (n := 0) (C := RX6) m_timesFresh (List.forall_mem_cons.mpr ⟨wsL_i17 (List.mem_of_getElem? (i := 22) rfl), List.forall_mem_cons.mpr ⟨wsL_i17 (List.mem_of_getElem? (i := 23) rfl), List.forall_mem_cons.mpr ⟨wsL_i18 (List.mem_of_getElem? (i := 0) rfl), List.forall_mem_cons.mpr ⟨wsL_i1 (List.mem_of_getElem? (i := 2) rfl), List.forall_mem_cons.mpr ⟨wsL_i18 (List.mem_of_getElem? (i := 1) rfl), fun _ h => absurd h List.not_mem_nil⟩⟩⟩⟩⟩) ⟨rfl, by decide, by decide, by decide +kernel⟩ ⟨⟨rfl, rfl⟩, by decide, by decide⟩ (fun as σ h => by
      obtain ⟨x, rfl, -⟩ := h
      exact ⟨_, _, _, _, _, _, rfl, rfl, rfl, rfl⟩), List.forall_mem_cons.mpr ⟨dk_calleeV (n := 3) (C := RX5) m_findDelayed (List.forall_mem_cons.mpr ⟨wsL_i20 (List.mem_of_getElem? (i := 5) rfl), List.forall_mem_cons.mpr ⟨wsL_i20 (List.mem_of_getElem? (i := 6) rfl), List.forall_mem_cons.mpr ⟨wsL_i20 (List.mem_of_getElem? (i := 7) rfl), List.forall_mem_cons.mpr ⟨wsL_i1 (List.mem_of_getElem? (i := 22) rfl), List.forall_mem_cons.mpr ⟨wsL_i20 (List.mem_of_getElem? (i := 8) rfl), fun _ h => absurd h List.not_mem_nil⟩⟩⟩⟩⟩) ⟨rfl, by decide, by decide, by decide +kernel⟩ ⟨⟨rfl, rfl⟩, by decide, by decide⟩ (fun as σ h => by
      obtain ⟨x, rfl, -⟩ := h
      exact ⟨_, _, _, _, _, _, rfl, rfl, rfl, rfl⟩), fun _ h => absurd h List.not_mem_nil⟩⟩⟩))
    (dk_fm_all (fun _ h => absurd h List.not_mem_nil))
    (Or.inl ⟨rfl, rfl, Or.inl ⟨rfl, rfl⟩⟩) (by decide) q_xdelay
set_option maxRecDepth 100000 in
theorem m_xassign : dk_Met l D cI cZ cR ad yX6_assign cX6_assign 2 (some .int) { frames := 6, locals := 144 } sp_xassign :=
  dk_met (G := (kX6_assign, fX6, [(112, sp_timesFresh), (135, sp_runningAt), (146, sp_mfind)], [], [], 2, false)) false (by decide) rfl hX6_assign (fX6_ok) (fun _ h => absurd h List.not_mem_nil) (dk_fm_all (List.forall_mem_cons.mpr ⟨dk_calleeV (n := 0) (C := RX6) m_timesFresh (List.forall_mem_cons.mpr ⟨wsL_i17 (List.mem_of_getElem? (i := 22) rfl), List.forall_mem_cons.mpr ⟨wsL_i17 (List.mem_of_getElem? (i := 23) rfl), List.forall_mem_cons.mpr ⟨wsL_i18 (List.mem_of_getElem? (i := 0) rfl), List.forall_mem_cons.mpr ⟨wsL_i1 (List.mem_of_getElem? (i := 2) rfl), List.forall_mem_cons.mpr ⟨wsL_i18 (List.mem_of_getElem? (i := 1) rfl), fun _ h => absurd h List.not_mem_nil⟩⟩⟩⟩⟩) ⟨rfl, by decide, by decide, by decide +kernel⟩ ⟨⟨rfl, rfl⟩, by decide, by decide⟩ (fun as σ h => by
      obtain ⟨x, rfl, -⟩ := h
      exact ⟨_, _, _, _, _, _, rfl, rfl, rfl, rfl⟩), List.forall_mem_cons.mpr ⟨dk_calleeV (n := 1) (C := RX5) m_runningAt (List.forall_mem_cons.mpr ⟨wsL_i20 (List.mem_of_getElem? (i := 21) rfl), List.forall_mem_cons.mpr ⟨wsL_i20 (List.mem_of_getElem? (i := 22) rfl), List.forall_mem_cons.mpr ⟨wsL_i20 (List.mem_of_getElem? (i := 23) rfl), List.forall_mem_cons.mpr ⟨wsL_i1 (List.mem_of_getElem? (i := 22) rfl), List.forall_mem_cons.mpr ⟨wsL_i21 (List.mem_of_getElem? (i := 0) rfl), fun _ h => absurd h List.not_mem_nil⟩⟩⟩⟩⟩) ⟨rfl, by decide, by decide, by decide +kernel⟩ ⟨⟨rfl, rfl⟩, by decide, by decide⟩ (fun as σ h => by
      obtain ⟨x, rfl, h1, -⟩ := h
      obtain ⟨x, w⟩ := x
      dsimp only at h1
      rcases h1 with rfl | rfl <;> exact ⟨_, _, _, _, _, _, rfl, rfl, rfl, rfl⟩), List.forall_mem_cons.mpr ⟨dk_calleeV (n := 2) (C := RX3) m_mfind (List.forall_mem_cons.mpr ⟨wsL_i22 (List.mem_of_getElem? (i := 14) rfl), List.forall_mem_cons.mpr ⟨wsL_i22 (List.mem_of_getElem? (i := 15) rfl), List.forall_mem_cons.mpr ⟨wsL_i22 (List.mem_of_getElem? (i := 16) rfl), List.forall_mem_cons.mpr ⟨wsL_i2 (List.mem_of_getElem? (i := 11) rfl), List.forall_mem_cons.mpr ⟨wsL_i22 (List.mem_of_getElem? (i := 17) rfl), fun _ h => absurd h List.not_mem_nil⟩⟩⟩⟩⟩) ⟨rfl, by decide, by decide, by decide +kernel⟩ ⟨⟨rfl, rfl⟩, by decide, by decide⟩ (fun as σ h => by
      obtain ⟨x, rfl, -⟩ := h
      exact ⟨_, _, _, _, _, _, rfl, rfl, rfl, rfl⟩), fun _ h => absurd h List.not_mem_nil⟩⟩⟩))
    (dk_fm_all (fun _ h => absurd h List.not_mem_nil))
    (Or.inl ⟨rfl, rfl, Or.inl ⟨rfl, rfl⟩⟩) (by decide) q_xassign
set_option maxRecDepth 100000 in
theorem m_xcheck : dk_Met l D cI cZ cR ad yX6_check cX6_check 2 (some .int) { frames := 4, locals := 88 } sp_xcheck :=
  dk_met (G := (kX6_check, fX6, [(105, sp_find), (161, sp_sameAs), (169, sp_stands), (135, sp_runningAt), (178, sp_holds)], [(165, sp_asNumber)], [], 2, false)) false (by decide) rfl hX6_check (fX6_ok) (fun _ h => absurd h List.not_mem_nil) (dk_fm_all (List.forall_mem_cons.mpr ⟨dk_calleeV (n := 0) (C := RX5) m_find (List.forall_mem_cons.mpr ⟨wsL_i10 (List.mem_of_getElem? (i := 5) rfl), List.forall_mem_cons.mpr ⟨wsL_i10 (List.mem_of_getElem? (i := 6) rfl), List.forall_mem_cons.mpr ⟨wsL_i10 (List.mem_of_getElem? (i := 7) rfl), List.forall_mem_cons.mpr ⟨wsL_i1 (List.mem_of_getElem? (i := 22) rfl), List.forall_mem_cons.mpr ⟨wsL_i10 (List.mem_of_getElem? (i := 8) rfl), fun _ h => absurd h List.not_mem_nil⟩⟩⟩⟩⟩) ⟨rfl, by decide, by decide, by decide +kernel⟩ ⟨⟨rfl, rfl⟩, by decide, by decide⟩ (fun as σ h => by
      obtain ⟨x, rfl, h1, -⟩ := h
      skip
      rcases h1 with rfl | rfl <;> exact ⟨_, _, _, _, _, _, rfl, rfl, rfl, rfl⟩), List.forall_mem_cons.mpr ⟨dk_calleeV (n := 1) (C := RX5) m_sameAs (List.forall_mem_cons.mpr ⟨wsL_i26 (List.mem_of_getElem? (i := 12) rfl), List.forall_mem_cons.mpr ⟨wsL_i26 (List.mem_of_getElem? (i := 13) rfl), List.forall_mem_cons.mpr ⟨wsL_i26 (List.mem_of_getElem? (i := 14) rfl), List.forall_mem_cons.mpr ⟨wsL_i1 (List.mem_of_getElem? (i := 22) rfl), List.forall_mem_cons.mpr ⟨wsL_i26 (List.mem_of_getElem? (i := 15) rfl), fun _ h => absurd h List.not_mem_nil⟩⟩⟩⟩⟩) ⟨rfl, by decide, by decide, by decide +kernel⟩ ⟨⟨rfl, rfl⟩, by decide, by decide⟩ (fun as σ h => by
      obtain ⟨x, rfl, -⟩ := h
      exact ⟨_, _, _, _, _, _, rfl, rfl, rfl, rfl⟩), List.forall_mem_cons.mpr ⟨dk_calleeV (n := 0) (C := RX1) m_stands (List.forall_mem_cons.mpr ⟨wsL_i26 (List.mem_of_getElem? (i := 19) rfl), List.forall_mem_cons.mpr ⟨wsL_i26 (List.mem_of_getElem? (i := 20) rfl), List.forall_mem_cons.mpr ⟨wsL_i26 (List.mem_of_getElem? (i := 21) rfl), List.forall_mem_cons.mpr ⟨wsL_i2 (List.mem_of_getElem? (i := 7) rfl), List.forall_mem_cons.mpr ⟨wsL_i26 (List.mem_of_getElem? (i := 22) rfl), fun _ h => absurd h List.not_mem_nil⟩⟩⟩⟩⟩) ⟨rfl, by decide, by decide, by decide +kernel⟩ ⟨⟨rfl, rfl⟩, by decide, by decide⟩ (fun as σ h => by
      obtain ⟨x, rfl, -⟩ := h
      exact ⟨_, _, _, _, _, _, rfl, rfl, rfl, rfl⟩), List.forall_mem_cons.mpr ⟨dk_calleeV (n := 1) (C := RX5) m_runningAt (List.forall_mem_cons.mpr ⟨wsL_i20 (List.mem_of_getElem? (i := 21) rfl), List.forall_mem_cons.mpr ⟨wsL_i20 (List.mem_of_getElem? (i := 22) rfl), List.forall_mem_cons.mpr ⟨wsL_i20 (List.mem_of_getElem? (i := 23) rfl), List.forall_mem_cons.mpr ⟨wsL_i1 (List.mem_of_getElem? (i := 22) rfl), List.forall_mem_cons.mpr ⟨wsL_i21 (List.mem_of_getElem? (i := 0) rfl), fun _ h => absurd h List.not_mem_nil⟩⟩⟩⟩⟩) ⟨rfl, by decide, by decide, by decide +kernel⟩ ⟨⟨rfl, rfl⟩, by decide, by decide⟩ (fun as σ h => by
      obtain ⟨x, rfl, h1, -⟩ := h
      obtain ⟨x, w⟩ := x
      dsimp only at h1
      rcases h1 with rfl | rfl <;> exact ⟨_, _, _, _, _, _, rfl, rfl, rfl, rfl⟩), List.forall_mem_cons.mpr ⟨dk_calleeV (n := 1) (C := RX3) m_holds (List.forall_mem_cons.mpr ⟨wsL_i26 (List.mem_of_getElem? (i := 23) rfl), List.forall_mem_cons.mpr ⟨wsL_i27 (List.mem_of_getElem? (i := 0) rfl), List.forall_mem_cons.mpr ⟨wsL_i27 (List.mem_of_getElem? (i := 1) rfl), List.forall_mem_cons.mpr ⟨wsL_i2 (List.mem_of_getElem? (i := 11) rfl), List.forall_mem_cons.mpr ⟨wsL_i27 (List.mem_of_getElem? (i := 2) rfl), fun _ h => absurd h List.not_mem_nil⟩⟩⟩⟩⟩) ⟨rfl, by decide, by decide, by decide +kernel⟩ ⟨⟨rfl, rfl⟩, by decide, by decide⟩ (fun as σ h => by
      obtain ⟨x, rfl, -⟩ := h
      exact ⟨_, _, _, _, _, _, rfl, rfl, rfl, rfl⟩), fun _ h => absurd h List.not_mem_nil⟩⟩⟩⟩⟩))
    (dk_fm_all (List.forall_mem_cons.mpr ⟨dk_calleeS (n := 1) m_asNumber (List.forall_mem_cons.mpr ⟨wsL_i26 (List.mem_of_getElem? (i := 16) rfl), List.forall_mem_cons.mpr ⟨wsL_i26 (List.mem_of_getElem? (i := 17) rfl), List.forall_mem_cons.mpr ⟨wsL_i1 (List.mem_of_getElem? (i := 2) rfl), List.forall_mem_cons.mpr ⟨wsL_i26 (List.mem_of_getElem? (i := 18) rfl), fun _ h => absurd h List.not_mem_nil⟩⟩⟩⟩) ⟨by decide, by decide, by decide +kernel⟩ ⟨⟨rfl, rfl⟩, by decide, by decide⟩ rfl, fun _ h => absurd h List.not_mem_nil⟩))
    (Or.inl ⟨rfl, rfl, Or.inl ⟨rfl, rfl⟩⟩) (by decide) q_xcheck
set_option maxRecDepth 100000 in
theorem m_xsolve : dk_Met l D cI cZ cR ad yX6_solve cX6_solve 1 (some .int) { frames := 5, locals := 116 } sp_xsolve :=
  dk_met (G := (kX6_solve, fX6, [(105, sp_find), (109, sp_chainFind), (111, sp_circleFind)], [], [], 1, false)) false (by decide) rfl hX6_solve (fX6_ok) (fun _ h => absurd h List.not_mem_nil) (dk_fm_all (List.forall_mem_cons.mpr ⟨dk_calleeV (n := 0) (C := RX5) m_find (List.forall_mem_cons.mpr ⟨wsL_i10 (List.mem_of_getElem? (i := 5) rfl), List.forall_mem_cons.mpr ⟨wsL_i10 (List.mem_of_getElem? (i := 6) rfl), List.forall_mem_cons.mpr ⟨wsL_i10 (List.mem_of_getElem? (i := 7) rfl), List.forall_mem_cons.mpr ⟨wsL_i1 (List.mem_of_getElem? (i := 22) rfl), List.forall_mem_cons.mpr ⟨wsL_i10 (List.mem_of_getElem? (i := 8) rfl), fun _ h => absurd h List.not_mem_nil⟩⟩⟩⟩⟩) ⟨rfl, by decide, by decide, by decide +kernel⟩ ⟨⟨rfl, rfl⟩, by decide, by decide⟩ (fun as σ h => by
      obtain ⟨x, rfl, h1, -⟩ := h
      skip
      rcases h1 with rfl | rfl <;> exact ⟨_, _, _, _, _, _, rfl, rfl, rfl, rfl⟩), List.forall_mem_cons.mpr ⟨dk_calleeV (n := 0) (C := RX0) m_chainFind (List.forall_mem_cons.mpr ⟨wsL_i11 (List.mem_of_getElem? (i := 17) rfl), List.forall_mem_cons.mpr ⟨wsL_i11 (List.mem_of_getElem? (i := 18) rfl), List.forall_mem_cons.mpr ⟨wsL_i11 (List.mem_of_getElem? (i := 19) rfl), List.forall_mem_cons.mpr ⟨wsL_i2 (List.mem_of_getElem? (i := 3) rfl), List.forall_mem_cons.mpr ⟨wsL_i11 (List.mem_of_getElem? (i := 20) rfl), fun _ h => absurd h List.not_mem_nil⟩⟩⟩⟩⟩) ⟨rfl, by decide, by decide, by decide +kernel⟩ ⟨⟨rfl, rfl⟩, by decide, by decide⟩ (fun as σ h => by
      obtain ⟨x, rfl, -⟩ := h
      exact ⟨_, _, _, _, _, _, rfl, rfl, rfl, rfl⟩), List.forall_mem_cons.mpr ⟨dk_calleeV (n := 0) (C := RX1) m_circleFind (List.forall_mem_cons.mpr ⟨wsL_i13 (List.mem_of_getElem? (i := 3) rfl), List.forall_mem_cons.mpr ⟨wsL_i13 (List.mem_of_getElem? (i := 4) rfl), List.forall_mem_cons.mpr ⟨wsL_i13 (List.mem_of_getElem? (i := 5) rfl), List.forall_mem_cons.mpr ⟨wsL_i2 (List.mem_of_getElem? (i := 7) rfl), List.forall_mem_cons.mpr ⟨wsL_i13 (List.mem_of_getElem? (i := 6) rfl), fun _ h => absurd h List.not_mem_nil⟩⟩⟩⟩⟩) ⟨rfl, by decide, by decide, by decide +kernel⟩ ⟨⟨rfl, rfl⟩, by decide, by decide⟩ (fun as σ h => by
      obtain ⟨x, rfl, -⟩ := h
      exact ⟨_, _, _, _, _, _, rfl, rfl, rfl, rfl⟩), fun _ h => absurd h List.not_mem_nil⟩⟩⟩))
    (dk_fm_all (fun _ h => absurd h List.not_mem_nil))
    (Or.inl ⟨rfl, rfl, Or.inl ⟨rfl, rfl⟩⟩) (by decide) q_xsolve
set_option maxRecDepth 100000 in
theorem m_in : dk_Met l D cI cZ cR ad yX7_in cX7_in 3 (some .boolean) { frames := 0, locals := 0 } sp_in :=
  dk_met (G := (kX7_in, fX7, [], [], nX7, 3, true)) false (by decide) rfl hX7_in (fX7_ok) (nX7_ok) (dk_fm_all (fun _ h => absurd h List.not_mem_nil))
    (dk_fm_all (fun _ h => absurd h List.not_mem_nil))
    (Or.inl ⟨rfl, rfl, Or.inr ⟨rfl, rfl⟩⟩) (by decide) q_in
set_option maxRecDepth 100000 in
theorem m_stales : dk_Met l D cI cZ cR ad yX7_stales cX7_stales 1 none { frames := 0, locals := 0 } sp_stales :=
  dk_met (G := (kX7_stales, fX7, [], [], nX7, 1, false)) true (by decide) rfl hX7_stales (fX7_ok) (nX7_ok) (dk_fm_all (fun _ h => absurd h List.not_mem_nil))
    (dk_fm_all (fun _ h => absurd h List.not_mem_nil))
    (Or.inr ⟨rfl, rfl, rfl⟩) (by decide) q_stales
set_option maxRecDepth 100000 in
theorem m_mtask : dk_Met l D cI cZ cR ad yX7_task cX7_task 2 (some .int) { frames := 1, locals := 22 } sp_mtask :=
  dk_met (G := (kX7_task, fX7, [(83, sp_stales)], [(79, sp_in)], nX7, 2, false)) false (by decide) rfl hX7_task (fX7_ok) (nX7_ok) (dk_fm_all (List.forall_mem_cons.mpr ⟨dk_calleeV (n := 0) (C := RX7) m_stales (List.forall_mem_cons.mpr ⟨wsL_i6 (List.mem_of_getElem? (i := 17) rfl), List.forall_mem_cons.mpr ⟨wsL_i6 (List.mem_of_getElem? (i := 18) rfl), List.forall_mem_cons.mpr ⟨wsL_i6 (List.mem_of_getElem? (i := 19) rfl), List.forall_mem_cons.mpr ⟨wsL_i1 (List.mem_of_getElem? (i := 5) rfl), List.forall_mem_cons.mpr ⟨wsL_i6 (List.mem_of_getElem? (i := 20) rfl), fun _ h => absurd h List.not_mem_nil⟩⟩⟩⟩⟩) ⟨rfl, by decide, by decide, by decide +kernel⟩ ⟨⟨rfl, rfl⟩, by decide, by decide⟩ (fun as σ h => by
      obtain ⟨x, rfl, -⟩ := h
      exact ⟨_, _, _, _, _, _, rfl, rfl, rfl, rfl⟩), fun _ h => absurd h List.not_mem_nil⟩))
    (dk_fm_all (List.forall_mem_cons.mpr ⟨dk_calleeS (n := 3) m_in (List.forall_mem_cons.mpr ⟨wsL_i6 (List.mem_of_getElem? (i := 14) rfl), List.forall_mem_cons.mpr ⟨wsL_i6 (List.mem_of_getElem? (i := 15) rfl), List.forall_mem_cons.mpr ⟨wsL_i1 (List.mem_of_getElem? (i := 5) rfl), List.forall_mem_cons.mpr ⟨wsL_i6 (List.mem_of_getElem? (i := 16) rfl), fun _ h => absurd h List.not_mem_nil⟩⟩⟩⟩) ⟨by decide, by decide, by decide +kernel⟩ ⟨⟨rfl, rfl⟩, by decide, by decide⟩ rfl, fun _ h => absurd h List.not_mem_nil⟩))
    (Or.inl ⟨rfl, rfl, Or.inl ⟨rfl, rfl⟩⟩) (by decide) q_mtask
set_option maxRecDepth 100000 in
theorem m_mconstrain : dk_Met l D cI cZ cR ad yX7_constrain cX7_constrain 4 (some .int) { frames := 1, locals := 22 } sp_mconstrain :=
  dk_met (G := (kX7_constrain, fX7, [(83, sp_stales)], [(79, sp_in)], nX7, 4, false)) false (by decide) rfl hX7_constrain (fX7_ok) (nX7_ok) (dk_fm_all (List.forall_mem_cons.mpr ⟨dk_calleeV (n := 0) (C := RX7) m_stales (List.forall_mem_cons.mpr ⟨wsL_i6 (List.mem_of_getElem? (i := 17) rfl), List.forall_mem_cons.mpr ⟨wsL_i6 (List.mem_of_getElem? (i := 18) rfl), List.forall_mem_cons.mpr ⟨wsL_i6 (List.mem_of_getElem? (i := 19) rfl), List.forall_mem_cons.mpr ⟨wsL_i1 (List.mem_of_getElem? (i := 5) rfl), List.forall_mem_cons.mpr ⟨wsL_i6 (List.mem_of_getElem? (i := 20) rfl), fun _ h => absurd h List.not_mem_nil⟩⟩⟩⟩⟩) ⟨rfl, by decide, by decide, by decide +kernel⟩ ⟨⟨rfl, rfl⟩, by decide, by decide⟩ (fun as σ h => by
      obtain ⟨x, rfl, -⟩ := h
      exact ⟨_, _, _, _, _, _, rfl, rfl, rfl, rfl⟩), fun _ h => absurd h List.not_mem_nil⟩))
    (dk_fm_all (List.forall_mem_cons.mpr ⟨dk_calleeS (n := 3) m_in (List.forall_mem_cons.mpr ⟨wsL_i6 (List.mem_of_getElem? (i := 14) rfl), List.forall_mem_cons.mpr ⟨wsL_i6 (List.mem_of_getElem? (i := 15) rfl), List.forall_mem_cons.mpr ⟨wsL_i1 (List.mem_of_getElem? (i := 5) rfl), List.forall_mem_cons.mpr ⟨wsL_i6 (List.mem_of_getElem? (i := 16) rfl), fun _ h => absurd h List.not_mem_nil⟩⟩⟩⟩) ⟨by decide, by decide, by decide +kernel⟩ ⟨⟨rfl, rfl⟩, by decide, by decide⟩ rfl, fun _ h => absurd h List.not_mem_nil⟩))
    (Or.inl ⟨rfl, rfl, Or.inl ⟨rfl, rfl⟩⟩) (by decide) q_mconstrain
set_option maxRecDepth 100000 in
theorem m_mdrop : dk_Met l D cI cZ cR ad yX7_drop cX7_drop 2 (some .boolean) { frames := 1, locals := 22 } sp_mdrop :=
  dk_met (G := (kX7_drop, fX7, [(83, sp_stales)], [(79, sp_in)], nX7, 2, true)) false (by decide) rfl hX7_drop (fX7_ok) (nX7_ok) (dk_fm_all (List.forall_mem_cons.mpr ⟨dk_calleeV (n := 0) (C := RX7) m_stales (List.forall_mem_cons.mpr ⟨wsL_i6 (List.mem_of_getElem? (i := 17) rfl), List.forall_mem_cons.mpr ⟨wsL_i6 (List.mem_of_getElem? (i := 18) rfl), List.forall_mem_cons.mpr ⟨wsL_i6 (List.mem_of_getElem? (i := 19) rfl), List.forall_mem_cons.mpr ⟨wsL_i1 (List.mem_of_getElem? (i := 5) rfl), List.forall_mem_cons.mpr ⟨wsL_i6 (List.mem_of_getElem? (i := 20) rfl), fun _ h => absurd h List.not_mem_nil⟩⟩⟩⟩⟩) ⟨rfl, by decide, by decide, by decide +kernel⟩ ⟨⟨rfl, rfl⟩, by decide, by decide⟩ (fun as σ h => by
      obtain ⟨x, rfl, -⟩ := h
      exact ⟨_, _, _, _, _, _, rfl, rfl, rfl, rfl⟩), fun _ h => absurd h List.not_mem_nil⟩))
    (dk_fm_all (List.forall_mem_cons.mpr ⟨dk_calleeS (n := 3) m_in (List.forall_mem_cons.mpr ⟨wsL_i6 (List.mem_of_getElem? (i := 14) rfl), List.forall_mem_cons.mpr ⟨wsL_i6 (List.mem_of_getElem? (i := 15) rfl), List.forall_mem_cons.mpr ⟨wsL_i1 (List.mem_of_getElem? (i := 5) rfl), List.forall_mem_cons.mpr ⟨wsL_i6 (List.mem_of_getElem? (i := 16) rfl), fun _ h => absurd h List.not_mem_nil⟩⟩⟩⟩) ⟨by decide, by decide, by decide +kernel⟩ ⟨⟨rfl, rfl⟩, by decide, by decide⟩ rfl, fun _ h => absurd h List.not_mem_nil⟩))
    (Or.inl ⟨rfl, rfl, Or.inr ⟨rfl, rfl⟩⟩) (by decide) q_mdrop
set_option maxRecDepth 100000 in
theorem m_mworker : dk_Met l D cI cZ cR ad yX7_worker cX7_worker 1 (some .int) { frames := 0, locals := 0 } sp_mworker :=
  dk_met (G := (kX7_worker, fX7, [], [], nX7, 1, false)) false (by decide) rfl hX7_worker (fX7_ok) (nX7_ok) (dk_fm_all (fun _ h => absurd h List.not_mem_nil))
    (dk_fm_all (fun _ h => absurd h List.not_mem_nil))
    (Or.inl ⟨rfl, rfl, Or.inl ⟨rfl, rfl⟩⟩) (by decide) q_mworker
set_option maxRecDepth 100000 in
theorem m_mskill : dk_Met l D cI cZ cR ad yX7_skill cX7_skill 3 (some .boolean) { frames := 1, locals := 22 } sp_mskill :=
  dk_met (G := (kX7_skill, fX7, [], [(79, sp_in)], nX7, 3, true)) false (by decide) rfl hX7_skill (fX7_ok) (nX7_ok) (dk_fm_all (fun _ h => absurd h List.not_mem_nil))
    (dk_fm_all (List.forall_mem_cons.mpr ⟨dk_calleeS (n := 3) m_in (List.forall_mem_cons.mpr ⟨wsL_i6 (List.mem_of_getElem? (i := 14) rfl), List.forall_mem_cons.mpr ⟨wsL_i6 (List.mem_of_getElem? (i := 15) rfl), List.forall_mem_cons.mpr ⟨wsL_i1 (List.mem_of_getElem? (i := 5) rfl), List.forall_mem_cons.mpr ⟨wsL_i6 (List.mem_of_getElem? (i := 16) rfl), fun _ h => absurd h List.not_mem_nil⟩⟩⟩⟩) ⟨by decide, by decide, by decide +kernel⟩ ⟨⟨rfl, rfl⟩, by decide, by decide⟩ rfl, fun _ h => absurd h List.not_mem_nil⟩))
    (Or.inl ⟨rfl, rfl, Or.inr ⟨rfl, rfl⟩⟩) (by decide) q_mskill
set_option maxRecDepth 100000 in
theorem m_soonest : dk_Met l D cI cZ cR ad yX7_soonest cX7_soonest 7 (some .boolean) { frames := 0, locals := 0 } sp_soonest :=
  dk_met (G := (kX7_soonest, fX7, [], [], nX7, 7, true)) false (by decide) rfl hX7_soonest (fX7_ok) (nX7_ok) (dk_fm_all (fun _ h => absurd h List.not_mem_nil))
    (dk_fm_all (fun _ h => absurd h List.not_mem_nil))
    (Or.inl ⟨rfl, rfl, Or.inr ⟨rfl, rfl⟩⟩) (by decide) q_soonest
set_option maxRecDepth 100000 in
theorem m_longest : dk_Met l D cI cZ cR ad yX7_longest cX7_longest 3 (some .int) { frames := 0, locals := 0 } sp_longest :=
  dk_met (G := (kX7_longest, fX7, [], [], nX7, 3, false)) false (by decide) rfl hX7_longest (fX7_ok) (nX7_ok) (dk_fm_all (fun _ h => absurd h List.not_mem_nil))
    (dk_fm_all (fun _ h => absurd h List.not_mem_nil))
    (Or.inl ⟨rfl, rfl, Or.inl ⟨rfl, rfl⟩⟩) (by decide) q_longest
set_option maxRecDepth 100000 in
theorem m_latest : dk_Met l D cI cZ cR ad yX7_latest cX7_latest 6 none { frames := 0, locals := 0 } sp_latest :=
  dk_met (G := (kX7_latest, fX7, [], [], nX7, 6, false)) true (by decide) rfl hX7_latest (fX7_ok) (nX7_ok) (dk_fm_all (fun _ h => absurd h List.not_mem_nil))
    (dk_fm_all (fun _ h => absurd h List.not_mem_nil))
    (Or.inr ⟨rfl, rfl, rfl⟩) (by decide) q_latest
set_option maxRecDepth 100000 in
theorem m_edges : dk_Met l D cI cZ cR ad yX7_edges cX7_edges 1 (some .int) { frames := 0, locals := 0 } sp_edges :=
  dk_met (G := (kX7_edges, fX7, [], [], nX7, 1, false)) false (by decide) rfl hX7_edges (fX7_ok) (nX7_ok) (dk_fm_all (fun _ h => absurd h List.not_mem_nil))
    (dk_fm_all (fun _ h => absurd h List.not_mem_nil))
    (Or.inl ⟨rfl, rfl, Or.inl ⟨rfl, rfl⟩⟩) (by decide) q_edges
set_option maxRecDepth 100000 in
theorem m_edgeFrom : dk_Met l D cI cZ cR ad yX7_edgeFrom cX7_edgeFrom 2 (some .int) { frames := 0, locals := 0 } sp_edgeFrom :=
  dk_met (G := (kX7_edgeFrom, fX7, [], [], nX7, 2, false)) false (by decide) rfl hX7_edgeFrom (fX7_ok) (nX7_ok) (dk_fm_all (fun _ h => absurd h List.not_mem_nil))
    (dk_fm_all (fun _ h => absurd h List.not_mem_nil))
    (Or.inl ⟨rfl, rfl, Or.inl ⟨rfl, rfl⟩⟩) (by decide) q_edgeFrom
set_option maxRecDepth 100000 in
theorem m_edgeTo : dk_Met l D cI cZ cR ad yX7_edgeTo cX7_edgeTo 2 (some .int) { frames := 0, locals := 0 } sp_edgeTo :=
  dk_met (G := (kX7_edgeTo, fX7, [], [], nX7, 2, false)) false (by decide) rfl hX7_edgeTo (fX7_ok) (nX7_ok) (dk_fm_all (fun _ h => absurd h List.not_mem_nil))
    (dk_fm_all (fun _ h => absurd h List.not_mem_nil))
    (Or.inl ⟨rfl, rfl, Or.inl ⟨rfl, rfl⟩⟩) (by decide) q_edgeTo
set_option maxRecDepth 100000 in
theorem m_edgeGap : dk_Met l D cI cZ cR ad yX7_edgeGap cX7_edgeGap 2 (some .int) { frames := 0, locals := 0 } sp_edgeGap :=
  dk_met (G := (kX7_edgeGap, fX7, [], [], nX7, 2, false)) false (by decide) rfl hX7_edgeGap (fX7_ok) (nX7_ok) (dk_fm_all (fun _ h => absurd h List.not_mem_nil))
    (dk_fm_all (fun _ h => absurd h List.not_mem_nil))
    (Or.inl ⟨rfl, rfl, Or.inl ⟨rfl, rfl⟩⟩) (by decide) q_edgeGap
set_option maxRecDepth 100000 in
theorem m_isEdge : dk_Met l D cI cZ cR ad yX7_isEdge cX7_isEdge 2 (some .boolean) { frames := 0, locals := 0 } sp_isEdge :=
  dk_met (G := (kX7_isEdge, fX7, [], [], nX7, 2, true)) false (by decide) rfl hX7_isEdge (fX7_ok) (nX7_ok) (dk_fm_all (fun _ h => absurd h List.not_mem_nil))
    (dk_fm_all (fun _ h => absurd h List.not_mem_nil))
    (Or.inl ⟨rfl, rfl, Or.inr ⟨rfl, rfl⟩⟩) (by decide) q_isEdge
set_option maxRecDepth 100000 in
theorem m_nextSums : dk_Met l D cI cZ cR ad yX7_nextSums cX7_nextSums 8 none { frames := 1, locals := 21 } sp_nextSums :=
  dk_met (G := (kX7_nextSums, fX7, [(99, sp_edges), (103, sp_isEdge), (107, sp_edgeFrom), (111, sp_edgeTo), (114, sp_edgeGap)], [], nX7, 8, false)) true (by decide) rfl hX7_nextSums (fX7_ok) (nX7_ok) (dk_fm_all (List.forall_mem_cons.mpr ⟨dk_calleeV (n := 0) (C := RX7) m_edges (List.forall_mem_cons.mpr ⟨wsL_i16 (List.mem_of_getElem? (i := 0) rfl), List.forall_mem_cons.mpr ⟨wsL_i16 (List.mem_of_getElem? (i := 1) rfl), List.forall_mem_cons.mpr ⟨wsL_i16 (List.mem_of_getElem? (i := 2) rfl), List.forall_mem_cons.mpr ⟨wsL_i1 (List.mem_of_getElem? (i := 5) rfl), List.forall_mem_cons.mpr ⟨wsL_i16 (List.mem_of_getElem? (i := 3) rfl), fun _ h => absurd h List.not_mem_nil⟩⟩⟩⟩⟩) ⟨rfl, by decide, by decide, by decide +kernel⟩ ⟨⟨rfl, rfl⟩, by decide, by decide⟩ (fun as σ h => by
      obtain ⟨x, rfl, -⟩ := h
      exact ⟨_, _, _, _, _, _, rfl, rfl, rfl, rfl⟩), List.forall_mem_cons.mpr ⟨dk_calleeV (n := 1) (C := RX7) m_isEdge (List.forall_mem_cons.mpr ⟨wsL_i16 (List.mem_of_getElem? (i := 4) rfl), List.forall_mem_cons.mpr ⟨wsL_i16 (List.mem_of_getElem? (i := 5) rfl), List.forall_mem_cons.mpr ⟨wsL_i16 (List.mem_of_getElem? (i := 6) rfl), List.forall_mem_cons.mpr ⟨wsL_i1 (List.mem_of_getElem? (i := 5) rfl), List.forall_mem_cons.mpr ⟨wsL_i16 (List.mem_of_getElem? (i := 7) rfl), fun _ h => absurd h List.not_mem_nil⟩⟩⟩⟩⟩) ⟨rfl, by decide, by decide, by decide +kernel⟩ ⟨⟨rfl, rfl⟩, by decide, by decide⟩ (fun as σ h => by
      obtain ⟨x, rfl, -⟩ := h
      exact ⟨_, _, _, _, _, _, rfl, rfl, rfl, rfl⟩), List.forall_mem_cons.mpr ⟨dk_calleeV (n := 1) (C := RX7) m_edgeFrom (List.forall_mem_cons.mpr ⟨wsL_i16 (List.mem_of_getElem? (i := 8) rfl), List.forall_mem_cons.mpr ⟨wsL_i16 (List.mem_of_getElem? (i := 9) rfl), List.forall_mem_cons.mpr ⟨wsL_i16 (List.mem_of_getElem? (i := 10) rfl), List.forall_mem_cons.mpr ⟨wsL_i1 (List.mem_of_getElem? (i := 5) rfl), List.forall_mem_cons.mpr ⟨wsL_i16 (List.mem_of_getElem? (i := 11) rfl), fun _ h => absurd h List.not_mem_nil⟩⟩⟩⟩⟩) ⟨rfl, by decide, by decide, by decide +kernel⟩ ⟨⟨rfl, rfl⟩, by decide, by decide⟩ (fun as σ h => by
      obtain ⟨x, rfl, -⟩ := h
      exact ⟨_, _, _, _, _, _, rfl, rfl, rfl, rfl⟩), List.forall_mem_cons.mpr ⟨dk_calleeV (n := 1) (C := RX7) m_edgeTo (List.forall_mem_cons.mpr ⟨wsL_i16 (List.mem_of_getElem? (i := 12) rfl), List.forall_mem_cons.mpr ⟨wsL_i16 (List.mem_of_getElem? (i := 13) rfl), List.forall_mem_cons.mpr ⟨wsL_i16 (List.mem_of_getElem? (i := 14) rfl), List.forall_mem_cons.mpr ⟨wsL_i1 (List.mem_of_getElem? (i := 5) rfl), List.forall_mem_cons.mpr ⟨wsL_i16 (List.mem_of_getElem? (i := 15) rfl), fun _ h => absurd h List.not_mem_nil⟩⟩⟩⟩⟩) ⟨rfl, by decide, by decide, by decide +kernel⟩ ⟨⟨rfl, rfl⟩, by decide, by decide⟩ (fun as σ h => by
      obtain ⟨x, rfl, -⟩ := h
      exact ⟨_, _, _, _, _, _, rfl, rfl, rfl, rfl⟩), List.forall_mem_cons.mpr ⟨dk_calleeV (n := 1) (C := RX7) m_edgeGap (List.forall_mem_cons.mpr ⟨wsL_i16 (List.mem_of_getElem? (i := 16) rfl), List.forall_mem_cons.mpr ⟨wsL_i16 (List.mem_of_getElem? (i := 17) rfl), List.forall_mem_cons.mpr ⟨wsL_i16 (List.mem_of_getElem? (i := 18) rfl), List.forall_mem_cons.mpr ⟨wsL_i1 (List.mem_of_getElem? (i := 5) rfl), List.forall_mem_cons.mpr ⟨wsL_i16 (List.mem_of_getElem? (i := 19) rfl), fun _ h => absurd h List.not_mem_nil⟩⟩⟩⟩⟩) ⟨rfl, by decide, by decide, by decide +kernel⟩ ⟨⟨rfl, rfl⟩, by decide, by decide⟩ (fun as σ h => by
      obtain ⟨x, rfl, -⟩ := h
      exact ⟨_, _, _, _, _, _, rfl, rfl, rfl, rfl⟩), fun _ h => absurd h List.not_mem_nil⟩⟩⟩⟩⟩))
    (dk_fm_all (fun _ h => absurd h List.not_mem_nil))
    (Or.inr ⟨rfl, rfl, rfl⟩) (by decide) q_nextSums
set_option maxRecDepth 100000 in
theorem m_goes : dk_Met l D cI cZ cR ad yX7_goes cX7_goes 9 (some .boolean) { frames := 1, locals := 21 } sp_goes :=
  dk_met (G := (kX7_goes, fX7, [(103, sp_isEdge), (107, sp_edgeFrom), (111, sp_edgeTo), (114, sp_edgeGap)], [], nX7, 9, true)) false (by decide) rfl hX7_goes (fX7_ok) (nX7_ok) (dk_fm_all (List.forall_mem_cons.mpr ⟨dk_calleeV (n := 1) (C := RX7) m_isEdge (List.forall_mem_cons.mpr ⟨wsL_i16 (List.mem_of_getElem? (i := 4) rfl), List.forall_mem_cons.mpr ⟨wsL_i16 (List.mem_of_getElem? (i := 5) rfl), List.forall_mem_cons.mpr ⟨wsL_i16 (List.mem_of_getElem? (i := 6) rfl), List.forall_mem_cons.mpr ⟨wsL_i1 (List.mem_of_getElem? (i := 5) rfl), List.forall_mem_cons.mpr ⟨wsL_i16 (List.mem_of_getElem? (i := 7) rfl), fun _ h => absurd h List.not_mem_nil⟩⟩⟩⟩⟩) ⟨rfl, by decide, by decide, by decide +kernel⟩ ⟨⟨rfl, rfl⟩, by decide, by decide⟩ (fun as σ h => by
      obtain ⟨x, rfl, -⟩ := h
      exact ⟨_, _, _, _, _, _, rfl, rfl, rfl, rfl⟩), List.forall_mem_cons.mpr ⟨dk_calleeV (n := 1) (C := RX7) m_edgeFrom (List.forall_mem_cons.mpr ⟨wsL_i16 (List.mem_of_getElem? (i := 8) rfl), List.forall_mem_cons.mpr ⟨wsL_i16 (List.mem_of_getElem? (i := 9) rfl), List.forall_mem_cons.mpr ⟨wsL_i16 (List.mem_of_getElem? (i := 10) rfl), List.forall_mem_cons.mpr ⟨wsL_i1 (List.mem_of_getElem? (i := 5) rfl), List.forall_mem_cons.mpr ⟨wsL_i16 (List.mem_of_getElem? (i := 11) rfl), fun _ h => absurd h List.not_mem_nil⟩⟩⟩⟩⟩) ⟨rfl, by decide, by decide, by decide +kernel⟩ ⟨⟨rfl, rfl⟩, by decide, by decide⟩ (fun as σ h => by
      obtain ⟨x, rfl, -⟩ := h
      exact ⟨_, _, _, _, _, _, rfl, rfl, rfl, rfl⟩), List.forall_mem_cons.mpr ⟨dk_calleeV (n := 1) (C := RX7) m_edgeTo (List.forall_mem_cons.mpr ⟨wsL_i16 (List.mem_of_getElem? (i := 12) rfl), List.forall_mem_cons.mpr ⟨wsL_i16 (List.mem_of_getElem? (i := 13) rfl), List.forall_mem_cons.mpr ⟨wsL_i16 (List.mem_of_getElem? (i := 14) rfl), List.forall_mem_cons.mpr ⟨wsL_i1 (List.mem_of_getElem? (i := 5) rfl), List.forall_mem_cons.mpr ⟨wsL_i16 (List.mem_of_getElem? (i := 15) rfl), fun _ h => absurd h List.not_mem_nil⟩⟩⟩⟩⟩) ⟨rfl, by decide, by decide, by decide +kernel⟩ ⟨⟨rfl, rfl⟩, by decide, by decide⟩ (fun as σ h => by
      obtain ⟨x, rfl, -⟩ := h
      exact ⟨_, _, _, _, _, _, rfl, rfl, rfl, rfl⟩), List.forall_mem_cons.mpr ⟨dk_calleeV (n := 1) (C := RX7) m_edgeGap (List.forall_mem_cons.mpr ⟨wsL_i16 (List.mem_of_getElem? (i := 16) rfl), List.forall_mem_cons.mpr ⟨wsL_i16 (List.mem_of_getElem? (i := 17) rfl), List.forall_mem_cons.mpr ⟨wsL_i16 (List.mem_of_getElem? (i := 18) rfl), List.forall_mem_cons.mpr ⟨wsL_i1 (List.mem_of_getElem? (i := 5) rfl), List.forall_mem_cons.mpr ⟨wsL_i16 (List.mem_of_getElem? (i := 19) rfl), fun _ h => absurd h List.not_mem_nil⟩⟩⟩⟩⟩) ⟨rfl, by decide, by decide, by decide +kernel⟩ ⟨⟨rfl, rfl⟩, by decide, by decide⟩ (fun as σ h => by
      obtain ⟨x, rfl, -⟩ := h
      exact ⟨_, _, _, _, _, _, rfl, rfl, rfl, rfl⟩), fun _ h => absurd h List.not_mem_nil⟩⟩⟩⟩))
    (dk_fm_all (fun _ h => absurd h List.not_mem_nil))
    (Or.inl ⟨rfl, rfl, Or.inr ⟨rfl, rfl⟩⟩) (by decide) q_goes
set_option maxRecDepth 100000 in
theorem m_findCircle : dk_Met l D cI cZ cR ad yX7_findCircle cX7_findCircle 8 none { frames := 2, locals := 49 } sp_findCircle :=
  dk_met (G := (kX7_findCircle, fX7, [(117, sp_nextSums), (124, sp_goes), (107, sp_edgeFrom), (111, sp_edgeTo), (114, sp_edgeGap)], [], nX7, 8, false)) true (by decide) rfl hX7_findCircle (fX7_ok) (nX7_ok) (dk_fm_all (List.forall_mem_cons.mpr ⟨dk_calleeV (n := 1) (C := RX7) m_nextSums (List.forall_mem_cons.mpr ⟨wsL_i15 (List.mem_of_getElem? (i := 20) rfl), List.forall_mem_cons.mpr ⟨wsL_i15 (List.mem_of_getElem? (i := 21) rfl), List.forall_mem_cons.mpr ⟨wsL_i15 (List.mem_of_getElem? (i := 22) rfl), List.forall_mem_cons.mpr ⟨wsL_i1 (List.mem_of_getElem? (i := 5) rfl), List.forall_mem_cons.mpr ⟨wsL_i15 (List.mem_of_getElem? (i := 23) rfl), fun _ h => absurd h List.not_mem_nil⟩⟩⟩⟩⟩) ⟨rfl, by decide, by decide, by decide +kernel⟩ ⟨⟨rfl, rfl⟩, by decide, by decide⟩ (fun as σ h => by
      obtain ⟨x, rfl, -⟩ := h
      exact ⟨_, _, _, _, _, _, rfl, rfl, rfl, rfl⟩), List.forall_mem_cons.mpr ⟨dk_calleeV (n := 6) (C := RX7) m_goes (List.forall_mem_cons.mpr ⟨wsL_i16 (List.mem_of_getElem? (i := 20) rfl), List.forall_mem_cons.mpr ⟨wsL_i16 (List.mem_of_getElem? (i := 21) rfl), List.forall_mem_cons.mpr ⟨wsL_i16 (List.mem_of_getElem? (i := 22) rfl), List.forall_mem_cons.mpr ⟨wsL_i1 (List.mem_of_getElem? (i := 5) rfl), List.forall_mem_cons.mpr ⟨wsL_i16 (List.mem_of_getElem? (i := 23) rfl), fun _ h => absurd h List.not_mem_nil⟩⟩⟩⟩⟩) ⟨rfl, by decide, by decide, by decide +kernel⟩ ⟨⟨rfl, rfl⟩, by decide, by decide⟩ (fun as σ h => by
      obtain ⟨x, rfl, -⟩ := h
      exact ⟨_, _, _, _, _, _, rfl, rfl, rfl, rfl⟩), List.forall_mem_cons.mpr ⟨dk_calleeV (n := 1) (C := RX7) m_edgeFrom (List.forall_mem_cons.mpr ⟨wsL_i16 (List.mem_of_getElem? (i := 8) rfl), List.forall_mem_cons.mpr ⟨wsL_i16 (List.mem_of_getElem? (i := 9) rfl), List.forall_mem_cons.mpr ⟨wsL_i16 (List.mem_of_getElem? (i := 10) rfl), List.forall_mem_cons.mpr ⟨wsL_i1 (List.mem_of_getElem? (i := 5) rfl), List.forall_mem_cons.mpr ⟨wsL_i16 (List.mem_of_getElem? (i := 11) rfl), fun _ h => absurd h List.not_mem_nil⟩⟩⟩⟩⟩) ⟨rfl, by decide, by decide, by decide +kernel⟩ ⟨⟨rfl, rfl⟩, by decide, by decide⟩ (fun as σ h => by
      obtain ⟨x, rfl, -⟩ := h
      exact ⟨_, _, _, _, _, _, rfl, rfl, rfl, rfl⟩), List.forall_mem_cons.mpr ⟨dk_calleeV (n := 1) (C := RX7) m_edgeTo (List.forall_mem_cons.mpr ⟨wsL_i16 (List.mem_of_getElem? (i := 12) rfl), List.forall_mem_cons.mpr ⟨wsL_i16 (List.mem_of_getElem? (i := 13) rfl), List.forall_mem_cons.mpr ⟨wsL_i16 (List.mem_of_getElem? (i := 14) rfl), List.forall_mem_cons.mpr ⟨wsL_i1 (List.mem_of_getElem? (i := 5) rfl), List.forall_mem_cons.mpr ⟨wsL_i16 (List.mem_of_getElem? (i := 15) rfl), fun _ h => absurd h List.not_mem_nil⟩⟩⟩⟩⟩) ⟨rfl, by decide, by decide, by decide +kernel⟩ ⟨⟨rfl, rfl⟩, by decide, by decide⟩ (fun as σ h => by
      obtain ⟨x, rfl, -⟩ := h
      exact ⟨_, _, _, _, _, _, rfl, rfl, rfl, rfl⟩), List.forall_mem_cons.mpr ⟨dk_calleeV (n := 1) (C := RX7) m_edgeGap (List.forall_mem_cons.mpr ⟨wsL_i16 (List.mem_of_getElem? (i := 16) rfl), List.forall_mem_cons.mpr ⟨wsL_i16 (List.mem_of_getElem? (i := 17) rfl), List.forall_mem_cons.mpr ⟨wsL_i16 (List.mem_of_getElem? (i := 18) rfl), List.forall_mem_cons.mpr ⟨wsL_i1 (List.mem_of_getElem? (i := 5) rfl), List.forall_mem_cons.mpr ⟨wsL_i16 (List.mem_of_getElem? (i := 19) rfl), fun _ h => absurd h List.not_mem_nil⟩⟩⟩⟩⟩) ⟨rfl, by decide, by decide, by decide +kernel⟩ ⟨⟨rfl, rfl⟩, by decide, by decide⟩ (fun as σ h => by
      obtain ⟨x, rfl, -⟩ := h
      exact ⟨_, _, _, _, _, _, rfl, rfl, rfl, rfl⟩), fun _ h => absurd h List.not_mem_nil⟩⟩⟩⟩⟩))
    (dk_fm_all (fun _ h => absurd h List.not_mem_nil))
    (Or.inr ⟨rfl, rfl, rfl⟩) (by decide) q_findCircle
set_option maxRecDepth 100000 in
theorem m_mtight : dk_Met l D cI cZ cR ad yX7_isTight cX7_isTight 5 (some .boolean) { frames := 0, locals := 0 } sp_mtight :=
  dk_met (G := (kX7_isTight, fX7, [], [], nX7, 5, true)) false (by decide) rfl hX7_isTight (fX7_ok) (nX7_ok) (dk_fm_all (fun _ h => absurd h List.not_mem_nil))
    (dk_fm_all (fun _ h => absurd h List.not_mem_nil))
    (Or.inl ⟨rfl, rfl, Or.inr ⟨rfl, rfl⟩⟩) (by decide) q_mtight
set_option maxRecDepth 100000 in
theorem m_findChain : dk_Met l D cI cZ cR ad yX7_findChain cX7_findChain 6 none { frames := 1, locals := 24 } sp_findChain :=
  dk_met (G := (kX7_findChain, fX7, [(131, sp_mtight)], [], nX7, 6, false)) true (by decide) rfl hX7_findChain (fX7_ok) (nX7_ok) (dk_fm_all (List.forall_mem_cons.mpr ⟨dk_calleeV (n := 2) (C := RX7) m_mtight (List.forall_mem_cons.mpr ⟨wsL_i17 (List.mem_of_getElem? (i := 12) rfl), List.forall_mem_cons.mpr ⟨wsL_i17 (List.mem_of_getElem? (i := 13) rfl), List.forall_mem_cons.mpr ⟨wsL_i17 (List.mem_of_getElem? (i := 14) rfl), List.forall_mem_cons.mpr ⟨wsL_i1 (List.mem_of_getElem? (i := 5) rfl), List.forall_mem_cons.mpr ⟨wsL_i17 (List.mem_of_getElem? (i := 15) rfl), fun _ h => absurd h List.not_mem_nil⟩⟩⟩⟩⟩) ⟨rfl, by decide, by decide, by decide +kernel⟩ ⟨⟨rfl, rfl⟩, by decide, by decide⟩ (fun as σ h => by
      obtain ⟨x, rfl, -⟩ := h
      exact ⟨_, _, _, _, _, _, rfl, rfl, rfl, rfl⟩), fun _ h => absurd h List.not_mem_nil⟩))
    (dk_fm_all (fun _ h => absurd h List.not_mem_nil))
    (Or.inr ⟨rfl, rfl, rfl⟩) (by decide) q_findChain
set_option maxRecDepth 100000 in
theorem m_has : dk_Met l D cI cZ cR ad yX7_has cX7_has 1 (some .boolean) { frames := 0, locals := 0 } sp_has :=
  dk_met (G := (kX7_has, fX7, [], [], nX7, 1, true)) false (by decide) rfl hX7_has (fX7_ok) (nX7_ok) (dk_fm_all (fun _ h => absurd h List.not_mem_nil))
    (dk_fm_all (fun _ h => absurd h List.not_mem_nil))
    (Or.inl ⟨rfl, rfl, Or.inr ⟨rfl, rfl⟩⟩) (by decide) q_has
set_option maxRecDepth 100000 in
theorem m_msolve : dk_Met l D cI cZ cR ad yX7_solve cX7_solve 2 (some .int) { frames := 3, locals := 76 } sp_msolve :=
  dk_met (G := (kX7_solve, fX7, [(135, sp_soonest), (138, sp_findCircle), (141, sp_longest), (150, sp_latest), (153, sp_findChain)], [], nX7, 2, false)) false (by decide) rfl hX7_solve (fX7_ok) (nX7_ok) (dk_fm_all (List.forall_mem_cons.mpr ⟨dk_calleeV (n := 2) (C := RX7) m_soonest (List.forall_mem_cons.mpr ⟨wsL_i15 (List.mem_of_getElem? (i := 11) rfl), List.forall_mem_cons.mpr ⟨wsL_i15 (List.mem_of_getElem? (i := 12) rfl), List.forall_mem_cons.mpr ⟨wsL_i15 (List.mem_of_getElem? (i := 13) rfl), List.forall_mem_cons.mpr ⟨wsL_i1 (List.mem_of_getElem? (i := 5) rfl), List.forall_mem_cons.mpr ⟨wsL_i15 (List.mem_of_getElem? (i := 14) rfl), fun _ h => absurd h List.not_mem_nil⟩⟩⟩⟩⟩) ⟨rfl, by decide, by decide, by decide +kernel⟩ ⟨⟨rfl, rfl⟩, by decide, by decide⟩ (fun as σ h => by
      obtain ⟨x, rfl, -⟩ := h
      exact ⟨_, _, _, _, _, _, rfl, rfl, rfl, rfl⟩), List.forall_mem_cons.mpr ⟨dk_calleeV (n := 0) (C := RX7) m_findCircle (List.forall_mem_cons.mpr ⟨wsL_i15 (List.mem_of_getElem? (i := 15) rfl), List.forall_mem_cons.mpr ⟨wsL_i15 (List.mem_of_getElem? (i := 16) rfl), List.forall_mem_cons.mpr ⟨wsL_i15 (List.mem_of_getElem? (i := 17) rfl), List.forall_mem_cons.mpr ⟨wsL_i1 (List.mem_of_getElem? (i := 5) rfl), List.forall_mem_cons.mpr ⟨wsL_i15 (List.mem_of_getElem? (i := 18) rfl), fun _ h => absurd h List.not_mem_nil⟩⟩⟩⟩⟩) ⟨rfl, by decide, by decide, by decide +kernel⟩ ⟨⟨rfl, rfl⟩, by decide, by decide⟩ (fun as σ h => by
      obtain ⟨x, rfl, -⟩ := h
      exact ⟨_, _, _, _, _, _, rfl, rfl, rfl, rfl⟩), List.forall_mem_cons.mpr ⟨dk_calleeV (n := 0) (C := RX7) m_longest (List.forall_mem_cons.mpr ⟨wsL_i17 (List.mem_of_getElem? (i := 0) rfl), List.forall_mem_cons.mpr ⟨wsL_i17 (List.mem_of_getElem? (i := 1) rfl), List.forall_mem_cons.mpr ⟨wsL_i17 (List.mem_of_getElem? (i := 2) rfl), List.forall_mem_cons.mpr ⟨wsL_i1 (List.mem_of_getElem? (i := 5) rfl), List.forall_mem_cons.mpr ⟨wsL_i17 (List.mem_of_getElem? (i := 3) rfl), fun _ h => absurd h List.not_mem_nil⟩⟩⟩⟩⟩) ⟨rfl, by decide, by decide, by decide +kernel⟩ ⟨⟨rfl, rfl⟩, by decide, by decide⟩ (fun as σ h => by
      obtain ⟨x, rfl, -⟩ := h
      exact ⟨_, _, _, _, _, _, rfl, rfl, rfl, rfl⟩), List.forall_mem_cons.mpr ⟨dk_calleeV (n := 1) (C := RX7) m_latest (List.forall_mem_cons.mpr ⟨wsL_i17 (List.mem_of_getElem? (i := 4) rfl), List.forall_mem_cons.mpr ⟨wsL_i17 (List.mem_of_getElem? (i := 5) rfl), List.forall_mem_cons.mpr ⟨wsL_i17 (List.mem_of_getElem? (i := 6) rfl), List.forall_mem_cons.mpr ⟨wsL_i1 (List.mem_of_getElem? (i := 5) rfl), List.forall_mem_cons.mpr ⟨wsL_i17 (List.mem_of_getElem? (i := 7) rfl), fun _ h => absurd h List.not_mem_nil⟩⟩⟩⟩⟩) ⟨rfl, by decide, by decide, by decide +kernel⟩ ⟨⟨rfl, rfl⟩, by decide, by decide⟩ (fun as σ h => by
      obtain ⟨x, rfl, -⟩ := h
      exact ⟨_, _, _, _, _, _, rfl, rfl, rfl, rfl⟩), List.forall_mem_cons.mpr ⟨dk_calleeV (n := 1) (C := RX7) m_findChain (List.forall_mem_cons.mpr ⟨wsL_i17 (List.mem_of_getElem? (i := 8) rfl), List.forall_mem_cons.mpr ⟨wsL_i17 (List.mem_of_getElem? (i := 9) rfl), List.forall_mem_cons.mpr ⟨wsL_i17 (List.mem_of_getElem? (i := 10) rfl), List.forall_mem_cons.mpr ⟨wsL_i1 (List.mem_of_getElem? (i := 5) rfl), List.forall_mem_cons.mpr ⟨wsL_i17 (List.mem_of_getElem? (i := 11) rfl), fun _ h => absurd h List.not_mem_nil⟩⟩⟩⟩⟩) ⟨rfl, by decide, by decide, by decide +kernel⟩ ⟨⟨rfl, rfl⟩, by decide, by decide⟩ (fun as σ h => by
      obtain ⟨x, rfl, -⟩ := h
      exact ⟨_, _, _, _, _, _, rfl, rfl, rfl, rfl⟩), fun _ h => absurd h List.not_mem_nil⟩⟩⟩⟩⟩))
    (dk_fm_all (fun _ h => absurd h List.not_mem_nil))
    (Or.inl ⟨rfl, rfl, Or.inl ⟨rfl, rfl⟩⟩) (by decide) q_msolve
set_option maxRecDepth 100000 in
theorem m_mfree : dk_Met l D cI cZ cR ad yX7_free cX7_free 5 (some .int) { frames := 0, locals := 0 } sp_mfree :=
  dk_met (G := (kX7_free, fX7, [], [], nX7, 5, false)) false (by decide) rfl hX7_free (fX7_ok) (nX7_ok) (dk_fm_all (fun _ h => absurd h List.not_mem_nil))
    (dk_fm_all (fun _ h => absurd h List.not_mem_nil))
    (Or.inl ⟨rfl, rfl, Or.inl ⟨rfl, rfl⟩⟩) (by decide) q_mfree
set_option maxRecDepth 100000 in
theorem m_mstart : dk_Met l D cI cZ cR ad yX7_start cX7_start 3 (some .int) { frames := 1, locals := 24 } sp_mstart :=
  dk_met (G := (kX7_start, fX7, [(156, sp_has), (160, sp_mfree)], [(79, sp_in)], nX7, 3, false)) false (by decide) rfl hX7_start (fX7_ok) (nX7_ok) (dk_fm_all (List.forall_mem_cons.mpr ⟨dk_calleeV (n := 0) (C := RX7) m_has (List.forall_mem_cons.mpr ⟨wsL_i18 (List.mem_of_getElem? (i := 16) rfl), List.forall_mem_cons.mpr ⟨wsL_i18 (List.mem_of_getElem? (i := 17) rfl), List.forall_mem_cons.mpr ⟨wsL_i18 (List.mem_of_getElem? (i := 18) rfl), List.forall_mem_cons.mpr ⟨wsL_i1 (List.mem_of_getElem? (i := 5) rfl), List.forall_mem_cons.mpr ⟨wsL_i18 (List.mem_of_getElem? (i := 19) rfl), fun _ h => absurd h List.not_mem_nil⟩⟩⟩⟩⟩) ⟨rfl, by decide, by decide, by decide +kernel⟩ ⟨⟨rfl, rfl⟩, by decide, by decide⟩ (fun as σ h => by
      obtain ⟨x, rfl, -⟩ := h
      exact ⟨_, _, _, _, _, _, rfl, rfl, rfl, rfl⟩), List.forall_mem_cons.mpr ⟨dk_calleeV (n := 1) (C := RX7) m_mfree (List.forall_mem_cons.mpr ⟨wsL_i18 (List.mem_of_getElem? (i := 20) rfl), List.forall_mem_cons.mpr ⟨wsL_i18 (List.mem_of_getElem? (i := 21) rfl), List.forall_mem_cons.mpr ⟨wsL_i18 (List.mem_of_getElem? (i := 22) rfl), List.forall_mem_cons.mpr ⟨wsL_i1 (List.mem_of_getElem? (i := 5) rfl), List.forall_mem_cons.mpr ⟨wsL_i18 (List.mem_of_getElem? (i := 23) rfl), fun _ h => absurd h List.not_mem_nil⟩⟩⟩⟩⟩) ⟨rfl, by decide, by decide, by decide +kernel⟩ ⟨⟨rfl, rfl⟩, by decide, by decide⟩ (fun as σ h => by
      obtain ⟨x, rfl, -⟩ := h
      exact ⟨_, _, _, _, _, _, rfl, rfl, rfl, rfl⟩), fun _ h => absurd h List.not_mem_nil⟩⟩))
    (dk_fm_all (List.forall_mem_cons.mpr ⟨dk_calleeS (n := 3) m_in (List.forall_mem_cons.mpr ⟨wsL_i6 (List.mem_of_getElem? (i := 14) rfl), List.forall_mem_cons.mpr ⟨wsL_i6 (List.mem_of_getElem? (i := 15) rfl), List.forall_mem_cons.mpr ⟨wsL_i1 (List.mem_of_getElem? (i := 5) rfl), List.forall_mem_cons.mpr ⟨wsL_i6 (List.mem_of_getElem? (i := 16) rfl), fun _ h => absurd h List.not_mem_nil⟩⟩⟩⟩) ⟨by decide, by decide, by decide +kernel⟩ ⟨⟨rfl, rfl⟩, by decide, by decide⟩ rfl, fun _ h => absurd h List.not_mem_nil⟩))
    (Or.inl ⟨rfl, rfl, Or.inl ⟨rfl, rfl⟩⟩) (by decide) q_mstart
set_option maxRecDepth 100000 in
theorem m_mlength : dk_Met l D cI cZ cR ad yX7_length cX7_length 1 (some .int) { frames := 1, locals := 20 } sp_mlength :=
  dk_met (G := (kX7_length, fX7, [(156, sp_has)], [], nX7, 1, false)) false (by decide) rfl hX7_length (fX7_ok) (nX7_ok) (dk_fm_all (List.forall_mem_cons.mpr ⟨dk_calleeV (n := 0) (C := RX7) m_has (List.forall_mem_cons.mpr ⟨wsL_i18 (List.mem_of_getElem? (i := 16) rfl), List.forall_mem_cons.mpr ⟨wsL_i18 (List.mem_of_getElem? (i := 17) rfl), List.forall_mem_cons.mpr ⟨wsL_i18 (List.mem_of_getElem? (i := 18) rfl), List.forall_mem_cons.mpr ⟨wsL_i1 (List.mem_of_getElem? (i := 5) rfl), List.forall_mem_cons.mpr ⟨wsL_i18 (List.mem_of_getElem? (i := 19) rfl), fun _ h => absurd h List.not_mem_nil⟩⟩⟩⟩⟩) ⟨rfl, by decide, by decide, by decide +kernel⟩ ⟨⟨rfl, rfl⟩, by decide, by decide⟩ (fun as σ h => by
      obtain ⟨x, rfl, -⟩ := h
      exact ⟨_, _, _, _, _, _, rfl, rfl, rfl, rfl⟩), fun _ h => absurd h List.not_mem_nil⟩))
    (dk_fm_all (fun _ h => absurd h List.not_mem_nil))
    (Or.inl ⟨rfl, rfl, Or.inl ⟨rfl, rfl⟩⟩) (by decide) q_mlength
set_option maxRecDepth 100000 in
theorem m_mrow : dk_Met l D cI cZ cR ad yX7_row cX7_row 3 (some .int) { frames := 0, locals := 0 } sp_mrow :=
  dk_met (G := (kX7_row, fX7, [], [], nX7, 3, false)) false (by decide) rfl hX7_row (fX7_ok) (nX7_ok) (dk_fm_all (fun _ h => absurd h List.not_mem_nil))
    (dk_fm_all (fun _ h => absurd h List.not_mem_nil))
    (Or.inl ⟨rfl, rfl, Or.inl ⟨rfl, rfl⟩⟩) (by decide) q_mrow
set_option maxRecDepth 100000 in
theorem m_mdelay : dk_Met l D cI cZ cR ad yX7_delay cX7_delay 3 (some .int) { frames := 1, locals := 26 } sp_mdelay :=
  dk_met (G := (kX7_delay, fX7, [(156, sp_has), (135, sp_soonest), (141, sp_longest)], [(79, sp_in)], nX7, 3, false)) false (by decide) rfl hX7_delay (fX7_ok) (nX7_ok) (dk_fm_all (List.forall_mem_cons.mpr ⟨dk_calleeV (n := 0) (C := RX7) m_has (List.forall_mem_cons.mpr ⟨wsL_i18 (List.mem_of_getElem? (i := 16) rfl), List.forall_mem_cons.mpr ⟨wsL_i18 (List.mem_of_getElem? (i := 17) rfl), List.forall_mem_cons.mpr ⟨wsL_i18 (List.mem_of_getElem? (i := 18) rfl), List.forall_mem_cons.mpr ⟨wsL_i1 (List.mem_of_getElem? (i := 5) rfl), List.forall_mem_cons.mpr ⟨wsL_i18 (List.mem_of_getElem? (i := 19) rfl), fun _ h => absurd h List.not_mem_nil⟩⟩⟩⟩⟩) ⟨rfl, by decide, by decide, by decide +kernel⟩ ⟨⟨rfl, rfl⟩, by decide, by decide⟩ (fun as σ h => by
      obtain ⟨x, rfl, -⟩ := h
      exact ⟨_, _, _, _, _, _, rfl, rfl, rfl, rfl⟩), List.forall_mem_cons.mpr ⟨dk_calleeV (n := 2) (C := RX7) m_soonest (List.forall_mem_cons.mpr ⟨wsL_i15 (List.mem_of_getElem? (i := 11) rfl), List.forall_mem_cons.mpr ⟨wsL_i15 (List.mem_of_getElem? (i := 12) rfl), List.forall_mem_cons.mpr ⟨wsL_i15 (List.mem_of_getElem? (i := 13) rfl), List.forall_mem_cons.mpr ⟨wsL_i1 (List.mem_of_getElem? (i := 5) rfl), List.forall_mem_cons.mpr ⟨wsL_i15 (List.mem_of_getElem? (i := 14) rfl), fun _ h => absurd h List.not_mem_nil⟩⟩⟩⟩⟩) ⟨rfl, by decide, by decide, by decide +kernel⟩ ⟨⟨rfl, rfl⟩, by decide, by decide⟩ (fun as σ h => by
      obtain ⟨x, rfl, -⟩ := h
      exact ⟨_, _, _, _, _, _, rfl, rfl, rfl, rfl⟩), List.forall_mem_cons.mpr ⟨dk_calleeV (n := 0) (C := RX7) m_longest (List.forall_mem_cons.mpr ⟨wsL_i17 (List.mem_of_getElem? (i := 0) rfl), List.forall_mem_cons.mpr ⟨wsL_i17 (List.mem_of_getElem? (i := 1) rfl), List.forall_mem_cons.mpr ⟨wsL_i17 (List.mem_of_getElem? (i := 2) rfl), List.forall_mem_cons.mpr ⟨wsL_i1 (List.mem_of_getElem? (i := 5) rfl), List.forall_mem_cons.mpr ⟨wsL_i17 (List.mem_of_getElem? (i := 3) rfl), fun _ h => absurd h List.not_mem_nil⟩⟩⟩⟩⟩) ⟨rfl, by decide, by decide, by decide +kernel⟩ ⟨⟨rfl, rfl⟩, by decide, by decide⟩ (fun as σ h => by
      obtain ⟨x, rfl, -⟩ := h
      exact ⟨_, _, _, _, _, _, rfl, rfl, rfl, rfl⟩), fun _ h => absurd h List.not_mem_nil⟩⟩⟩))
    (dk_fm_all (List.forall_mem_cons.mpr ⟨dk_calleeS (n := 3) m_in (List.forall_mem_cons.mpr ⟨wsL_i6 (List.mem_of_getElem? (i := 14) rfl), List.forall_mem_cons.mpr ⟨wsL_i6 (List.mem_of_getElem? (i := 15) rfl), List.forall_mem_cons.mpr ⟨wsL_i1 (List.mem_of_getElem? (i := 5) rfl), List.forall_mem_cons.mpr ⟨wsL_i6 (List.mem_of_getElem? (i := 16) rfl), fun _ h => absurd h List.not_mem_nil⟩⟩⟩⟩) ⟨by decide, by decide, by decide +kernel⟩ ⟨⟨rfl, rfl⟩, by decide, by decide⟩ rfl, fun _ h => absurd h List.not_mem_nil⟩))
    (Or.inl ⟨rfl, rfl, Or.inl ⟨rfl, rfl⟩⟩) (by decide) q_mdelay
set_option maxRecDepth 100000 in
theorem m_runs : dk_Met l D cI cZ cR ad yX7_runs cX7_runs 3 (some .boolean) { frames := 0, locals := 0 } sp_runs :=
  dk_met (G := (kX7_runs, fX7, [], [], nX7, 3, true)) false (by decide) rfl hX7_runs (fX7_ok) (nX7_ok) (dk_fm_all (fun _ h => absurd h List.not_mem_nil))
    (dk_fm_all (fun _ h => absurd h List.not_mem_nil))
    (Or.inl ⟨rfl, rfl, Or.inr ⟨rfl, rfl⟩⟩) (by decide) q_runs
set_option maxRecDepth 100000 in
theorem m_running : dk_Met l D cI cZ cR ad yX7_running cX7_running 4 (some .int) { frames := 1, locals := 22 } sp_running :=
  dk_met (G := (kX7_running, fX7, [(163, sp_runs)], [], nX7, 4, false)) false (by decide) rfl hX7_running (fX7_ok) (nX7_ok) (dk_fm_all (List.forall_mem_cons.mpr ⟨dk_calleeV (n := 2) (C := RX7) m_runs (List.forall_mem_cons.mpr ⟨wsL_i21 (List.mem_of_getElem? (i := 16) rfl), List.forall_mem_cons.mpr ⟨wsL_i21 (List.mem_of_getElem? (i := 17) rfl), List.forall_mem_cons.mpr ⟨wsL_i21 (List.mem_of_getElem? (i := 18) rfl), List.forall_mem_cons.mpr ⟨wsL_i1 (List.mem_of_getElem? (i := 5) rfl), List.forall_mem_cons.mpr ⟨wsL_i21 (List.mem_of_getElem? (i := 19) rfl), fun _ h => absurd h List.not_mem_nil⟩⟩⟩⟩⟩) ⟨rfl, by decide, by decide, by decide +kernel⟩ ⟨⟨rfl, rfl⟩, by decide, by decide⟩ (fun as σ h => by
      obtain ⟨x, rfl, -⟩ := h
      exact ⟨_, _, _, _, _, _, rfl, rfl, rfl, rfl⟩), fun _ h => absurd h List.not_mem_nil⟩))
    (dk_fm_all (fun _ h => absurd h List.not_mem_nil))
    (Or.inl ⟨rfl, rfl, Or.inl ⟨rfl, rfl⟩⟩) (by decide) q_running
set_option maxRecDepth 100000 in
theorem m_mbusy : dk_Met l D cI cZ cR ad yX7_busy cX7_busy 2 (some .int) { frames := 2, locals := 45 } sp_mbusy :=
  dk_met (G := (kX7_busy, fX7, [(156, sp_has), (166, sp_running)], [], nX7, 2, false)) false (by decide) rfl hX7_busy (fX7_ok) (nX7_ok) (dk_fm_all (List.forall_mem_cons.mpr ⟨dk_calleeV (n := 0) (C := RX7) m_has (List.forall_mem_cons.mpr ⟨wsL_i18 (List.mem_of_getElem? (i := 16) rfl), List.forall_mem_cons.mpr ⟨wsL_i18 (List.mem_of_getElem? (i := 17) rfl), List.forall_mem_cons.mpr ⟨wsL_i18 (List.mem_of_getElem? (i := 18) rfl), List.forall_mem_cons.mpr ⟨wsL_i1 (List.mem_of_getElem? (i := 5) rfl), List.forall_mem_cons.mpr ⟨wsL_i18 (List.mem_of_getElem? (i := 19) rfl), fun _ h => absurd h List.not_mem_nil⟩⟩⟩⟩⟩) ⟨rfl, by decide, by decide, by decide +kernel⟩ ⟨⟨rfl, rfl⟩, by decide, by decide⟩ (fun as σ h => by
      obtain ⟨x, rfl, -⟩ := h
      exact ⟨_, _, _, _, _, _, rfl, rfl, rfl, rfl⟩), List.forall_mem_cons.mpr ⟨dk_calleeV (n := 1) (C := RX7) m_running (List.forall_mem_cons.mpr ⟨wsL_i21 (List.mem_of_getElem? (i := 12) rfl), List.forall_mem_cons.mpr ⟨wsL_i21 (List.mem_of_getElem? (i := 13) rfl), List.forall_mem_cons.mpr ⟨wsL_i21 (List.mem_of_getElem? (i := 14) rfl), List.forall_mem_cons.mpr ⟨wsL_i1 (List.mem_of_getElem? (i := 5) rfl), List.forall_mem_cons.mpr ⟨wsL_i21 (List.mem_of_getElem? (i := 15) rfl), fun _ h => absurd h List.not_mem_nil⟩⟩⟩⟩⟩) ⟨rfl, by decide, by decide, by decide +kernel⟩ ⟨⟨rfl, rfl⟩, by decide, by decide⟩ (fun as σ h => by
      obtain ⟨x, rfl, -⟩ := h
      exact ⟨_, _, _, _, _, _, rfl, rfl, rfl, rfl⟩), fun _ h => absurd h List.not_mem_nil⟩⟩))
    (dk_fm_all (fun _ h => absurd h List.not_mem_nil))
    (Or.inl ⟨rfl, rfl, Or.inl ⟨rfl, rfl⟩⟩) (by decide) q_mbusy
set_option maxRecDepth 100000 in
theorem m_mpeak : dk_Met l D cI cZ cR ad yX7_peak cX7_peak 6 (some .int) { frames := 2, locals := 45 } sp_mpeak :=
  dk_met (G := (kX7_peak, fX7, [(156, sp_has), (166, sp_running)], [(79, sp_in)], nX7, 6, false)) false (by decide) rfl hX7_peak (fX7_ok) (nX7_ok) (dk_fm_all (List.forall_mem_cons.mpr ⟨dk_calleeV (n := 0) (C := RX7) m_has (List.forall_mem_cons.mpr ⟨wsL_i18 (List.mem_of_getElem? (i := 16) rfl), List.forall_mem_cons.mpr ⟨wsL_i18 (List.mem_of_getElem? (i := 17) rfl), List.forall_mem_cons.mpr ⟨wsL_i18 (List.mem_of_getElem? (i := 18) rfl), List.forall_mem_cons.mpr ⟨wsL_i1 (List.mem_of_getElem? (i := 5) rfl), List.forall_mem_cons.mpr ⟨wsL_i18 (List.mem_of_getElem? (i := 19) rfl), fun _ h => absurd h List.not_mem_nil⟩⟩⟩⟩⟩) ⟨rfl, by decide, by decide, by decide +kernel⟩ ⟨⟨rfl, rfl⟩, by decide, by decide⟩ (fun as σ h => by
      obtain ⟨x, rfl, -⟩ := h
      exact ⟨_, _, _, _, _, _, rfl, rfl, rfl, rfl⟩), List.forall_mem_cons.mpr ⟨dk_calleeV (n := 1) (C := RX7) m_running (List.forall_mem_cons.mpr ⟨wsL_i21 (List.mem_of_getElem? (i := 12) rfl), List.forall_mem_cons.mpr ⟨wsL_i21 (List.mem_of_getElem? (i := 13) rfl), List.forall_mem_cons.mpr ⟨wsL_i21 (List.mem_of_getElem? (i := 14) rfl), List.forall_mem_cons.mpr ⟨wsL_i1 (List.mem_of_getElem? (i := 5) rfl), List.forall_mem_cons.mpr ⟨wsL_i21 (List.mem_of_getElem? (i := 15) rfl), fun _ h => absurd h List.not_mem_nil⟩⟩⟩⟩⟩) ⟨rfl, by decide, by decide, by decide +kernel⟩ ⟨⟨rfl, rfl⟩, by decide, by decide⟩ (fun as σ h => by
      obtain ⟨x, rfl, -⟩ := h
      exact ⟨_, _, _, _, _, _, rfl, rfl, rfl, rfl⟩), fun _ h => absurd h List.not_mem_nil⟩⟩))
    (dk_fm_all (List.forall_mem_cons.mpr ⟨dk_calleeS (n := 3) m_in (List.forall_mem_cons.mpr ⟨wsL_i6 (List.mem_of_getElem? (i := 14) rfl), List.forall_mem_cons.mpr ⟨wsL_i6 (List.mem_of_getElem? (i := 15) rfl), List.forall_mem_cons.mpr ⟨wsL_i1 (List.mem_of_getElem? (i := 5) rfl), List.forall_mem_cons.mpr ⟨wsL_i6 (List.mem_of_getElem? (i := 16) rfl), fun _ h => absurd h List.not_mem_nil⟩⟩⟩⟩) ⟨by decide, by decide, by decide +kernel⟩ ⟨⟨rfl, rfl⟩, by decide, by decide⟩ rfl, fun _ h => absurd h List.not_mem_nil⟩))
    (Or.inl ⟨rfl, rfl, Or.inl ⟨rfl, rfl⟩⟩) (by decide) q_mpeak
set_option maxRecDepth 100000 in
theorem m_changes : dk_Met l D cI cZ cR ad yX7_changes cX7_changes 8 none { frames := 0, locals := 0 } sp_changes :=
  dk_met (G := (kX7_changes, fX7, [], [], nX7, 8, false)) true (by decide) rfl hX7_changes (fX7_ok) (nX7_ok) (dk_fm_all (fun _ h => absurd h List.not_mem_nil))
    (dk_fm_all (fun _ h => absurd h List.not_mem_nil))
    (Or.inr ⟨rfl, rfl, rfl⟩) (by decide) q_changes
set_option maxRecDepth 100000 in
theorem m_grows : dk_Met l D cI cZ cR ad yX7_grows cX7_grows 9 (some .boolean) { frames := 1, locals := 27 } sp_grows :=
  dk_met (G := (kX7_grows, fX7, [(172, sp_changes)], [], nX7, 9, true)) false (by decide) rfl hX7_grows (fX7_ok) (nX7_ok) (dk_fm_all (List.forall_mem_cons.mpr ⟨dk_calleeV (n := 2) (C := RX7) m_changes (List.forall_mem_cons.mpr ⟨wsL_i25 (List.mem_of_getElem? (i := 6) rfl), List.forall_mem_cons.mpr ⟨wsL_i25 (List.mem_of_getElem? (i := 7) rfl), List.forall_mem_cons.mpr ⟨wsL_i25 (List.mem_of_getElem? (i := 8) rfl), List.forall_mem_cons.mpr ⟨wsL_i1 (List.mem_of_getElem? (i := 5) rfl), List.forall_mem_cons.mpr ⟨wsL_i25 (List.mem_of_getElem? (i := 9) rfl), fun _ h => absurd h List.not_mem_nil⟩⟩⟩⟩⟩) ⟨rfl, by decide, by decide, by decide +kernel⟩ ⟨⟨rfl, rfl⟩, by decide, by decide⟩ (fun as σ h => by
      obtain ⟨x, rfl, -⟩ := h
      exact ⟨_, _, _, _, _, _, rfl, rfl, rfl, rfl⟩), fun _ h => absurd h List.not_mem_nil⟩))
    (dk_fm_all (fun _ h => absurd h List.not_mem_nil))
    (Or.inl ⟨rfl, rfl, Or.inr ⟨rfl, rfl⟩⟩) (by decide) q_grows
set_option maxRecDepth 100000 in
theorem m_most : dk_Met l D cI cZ cR ad yX7_most cX7_most 5 (some .int) { frames := 2, locals := 55 } sp_most :=
  dk_met (G := (kX7_most, fX7, [(169, sp_grows)], [], nX7, 5, false)) false (by decide) rfl hX7_most (fX7_ok) (nX7_ok) (dk_fm_all (List.forall_mem_cons.mpr ⟨dk_calleeV (n := 2) (C := RX7) m_grows (List.forall_mem_cons.mpr ⟨wsL_i25 (List.mem_of_getElem? (i := 2) rfl), List.forall_mem_cons.mpr ⟨wsL_i25 (List.mem_of_getElem? (i := 3) rfl), List.forall_mem_cons.mpr ⟨wsL_i25 (List.mem_of_getElem? (i := 4) rfl), List.forall_mem_cons.mpr ⟨wsL_i1 (List.mem_of_getElem? (i := 5) rfl), List.forall_mem_cons.mpr ⟨wsL_i25 (List.mem_of_getElem? (i := 5) rfl), fun _ h => absurd h List.not_mem_nil⟩⟩⟩⟩⟩) ⟨rfl, by decide, by decide, by decide +kernel⟩ ⟨⟨rfl, rfl⟩, by decide, by decide⟩ (fun as σ h => by
      obtain ⟨x, rfl, -⟩ := h
      exact ⟨_, _, _, _, _, _, rfl, rfl, rfl, rfl⟩), fun _ h => absurd h List.not_mem_nil⟩))
    (dk_fm_all (fun _ h => absurd h List.not_mem_nil))
    (Or.inl ⟨rfl, rfl, Or.inl ⟨rfl, rfl⟩⟩) (by decide) q_most
set_option maxRecDepth 100000 in
theorem m_massign : dk_Met l D cI cZ cR ad yX7_assign cX7_assign 9 (some .int) { frames := 3, locals := 79 } sp_massign :=
  dk_met (G := (kX7_assign, fX7, [(156, sp_has), (163, sp_runs), (177, sp_most)], [], nX7, 9, false)) false (by decide) rfl hX7_assign (fX7_ok) (nX7_ok) (dk_fm_all (List.forall_mem_cons.mpr ⟨dk_calleeV (n := 0) (C := RX7) m_has (List.forall_mem_cons.mpr ⟨wsL_i18 (List.mem_of_getElem? (i := 16) rfl), List.forall_mem_cons.mpr ⟨wsL_i18 (List.mem_of_getElem? (i := 17) rfl), List.forall_mem_cons.mpr ⟨wsL_i18 (List.mem_of_getElem? (i := 18) rfl), List.forall_mem_cons.mpr ⟨wsL_i1 (List.mem_of_getElem? (i := 5) rfl), List.forall_mem_cons.mpr ⟨wsL_i18 (List.mem_of_getElem? (i := 19) rfl), fun _ h => absurd h List.not_mem_nil⟩⟩⟩⟩⟩) ⟨rfl, by decide, by decide, by decide +kernel⟩ ⟨⟨rfl, rfl⟩, by decide, by decide⟩ (fun as σ h => by
      obtain ⟨x, rfl, -⟩ := h
      exact ⟨_, _, _, _, _, _, rfl, rfl, rfl, rfl⟩), List.forall_mem_cons.mpr ⟨dk_calleeV (n := 2) (C := RX7) m_runs (List.forall_mem_cons.mpr ⟨wsL_i21 (List.mem_of_getElem? (i := 16) rfl), List.forall_mem_cons.mpr ⟨wsL_i21 (List.mem_of_getElem? (i := 17) rfl), List.forall_mem_cons.mpr ⟨wsL_i21 (List.mem_of_getElem? (i := 18) rfl), List.forall_mem_cons.mpr ⟨wsL_i1 (List.mem_of_getElem? (i := 5) rfl), List.forall_mem_cons.mpr ⟨wsL_i21 (List.mem_of_getElem? (i := 19) rfl), fun _ h => absurd h List.not_mem_nil⟩⟩⟩⟩⟩) ⟨rfl, by decide, by decide, by decide +kernel⟩ ⟨⟨rfl, rfl⟩, by decide, by decide⟩ (fun as σ h => by
      obtain ⟨x, rfl, -⟩ := h
      exact ⟨_, _, _, _, _, _, rfl, rfl, rfl, rfl⟩), List.forall_mem_cons.mpr ⟨dk_calleeV (n := 2) (C := RX7) m_most (List.forall_mem_cons.mpr ⟨wsL_i24 (List.mem_of_getElem? (i := 22) rfl), List.forall_mem_cons.mpr ⟨wsL_i24 (List.mem_of_getElem? (i := 23) rfl), List.forall_mem_cons.mpr ⟨wsL_i25 (List.mem_of_getElem? (i := 0) rfl), List.forall_mem_cons.mpr ⟨wsL_i1 (List.mem_of_getElem? (i := 5) rfl), List.forall_mem_cons.mpr ⟨wsL_i25 (List.mem_of_getElem? (i := 1) rfl), fun _ h => absurd h List.not_mem_nil⟩⟩⟩⟩⟩) ⟨rfl, by decide, by decide, by decide +kernel⟩ ⟨⟨rfl, rfl⟩, by decide, by decide⟩ (fun as σ h => by
      obtain ⟨x, rfl, -⟩ := h
      exact ⟨_, _, _, _, _, _, rfl, rfl, rfl, rfl⟩), fun _ h => absurd h List.not_mem_nil⟩⟩⟩))
    (dk_fm_all (fun _ h => absurd h List.not_mem_nil))
    (Or.inl ⟨rfl, rfl, Or.inl ⟨rfl, rfl⟩⟩) (by decide) q_massign
set_option maxRecDepth 100000 in
theorem m_mworkerOf : dk_Met l D cI cZ cR ad yX7_workerOf cX7_workerOf 2 (some .int) { frames := 1, locals := 22 } sp_mworkerOf :=
  dk_met (G := (kX7_workerOf, fX7, [], [(79, sp_in)], nX7, 2, false)) false (by decide) rfl hX7_workerOf (fX7_ok) (nX7_ok) (dk_fm_all (fun _ h => absurd h List.not_mem_nil))
    (dk_fm_all (List.forall_mem_cons.mpr ⟨dk_calleeS (n := 3) m_in (List.forall_mem_cons.mpr ⟨wsL_i6 (List.mem_of_getElem? (i := 14) rfl), List.forall_mem_cons.mpr ⟨wsL_i6 (List.mem_of_getElem? (i := 15) rfl), List.forall_mem_cons.mpr ⟨wsL_i1 (List.mem_of_getElem? (i := 5) rfl), List.forall_mem_cons.mpr ⟨wsL_i6 (List.mem_of_getElem? (i := 16) rfl), fun _ h => absurd h List.not_mem_nil⟩⟩⟩⟩) ⟨by decide, by decide, by decide +kernel⟩ ⟨⟨rfl, rfl⟩, by decide, by decide⟩ rfl, fun _ h => absurd h List.not_mem_nil⟩))
    (Or.inl ⟨rfl, rfl, Or.inl ⟨rfl, rfl⟩⟩) (by decide) q_mworkerOf
set_option maxRecDepth 100000 in
theorem m_mcover : dk_Met l D cI cZ cR ad yX7_cover cX7_cover 3 (some .int) { frames := 1, locals := 22 } sp_mcover :=
  dk_met (G := (kX7_cover, fX7, [], [(79, sp_in)], nX7, 3, false)) false (by decide) rfl hX7_cover (fX7_ok) (nX7_ok) (dk_fm_all (fun _ h => absurd h List.not_mem_nil))
    (dk_fm_all (List.forall_mem_cons.mpr ⟨dk_calleeS (n := 3) m_in (List.forall_mem_cons.mpr ⟨wsL_i6 (List.mem_of_getElem? (i := 14) rfl), List.forall_mem_cons.mpr ⟨wsL_i6 (List.mem_of_getElem? (i := 15) rfl), List.forall_mem_cons.mpr ⟨wsL_i1 (List.mem_of_getElem? (i := 5) rfl), List.forall_mem_cons.mpr ⟨wsL_i6 (List.mem_of_getElem? (i := 16) rfl), fun _ h => absurd h List.not_mem_nil⟩⟩⟩⟩) ⟨by decide, by decide, by decide +kernel⟩ ⟨⟨rfl, rfl⟩, by decide, by decide⟩ rfl, fun _ h => absurd h List.not_mem_nil⟩))
    (Or.inl ⟨rfl, rfl, Or.inl ⟨rfl, rfl⟩⟩) (by decide) q_mcover
set_option maxRecDepth 100000 in
theorem m_checkStarts : dk_Met l D cI cZ cR ad yX7_checkStarts cX7_checkStarts 4 (some .int) { frames := 1, locals := 26 } sp_checkStarts :=
  dk_met (G := (kX7_checkStarts, fX7, [(135, sp_soonest), (141, sp_longest), (150, sp_latest)], [], nX7, 4, false)) false (by decide) rfl hX7_checkStarts (fX7_ok) (nX7_ok) (dk_fm_all (List.forall_mem_cons.mpr ⟨dk_calleeV (n := 2) (C := RX7) m_soonest (List.forall_mem_cons.mpr ⟨wsL_i15 (List.mem_of_getElem? (i := 11) rfl), List.forall_mem_cons.mpr ⟨wsL_i15 (List.mem_of_getElem? (i := 12) rfl), List.forall_mem_cons.mpr ⟨wsL_i15 (List.mem_of_getElem? (i := 13) rfl), List.forall_mem_cons.mpr ⟨wsL_i1 (List.mem_of_getElem? (i := 5) rfl), List.forall_mem_cons.mpr ⟨wsL_i15 (List.mem_of_getElem? (i := 14) rfl), fun _ h => absurd h List.not_mem_nil⟩⟩⟩⟩⟩) ⟨rfl, by decide, by decide, by decide +kernel⟩ ⟨⟨rfl, rfl⟩, by decide, by decide⟩ (fun as σ h => by
      obtain ⟨x, rfl, -⟩ := h
      exact ⟨_, _, _, _, _, _, rfl, rfl, rfl, rfl⟩), List.forall_mem_cons.mpr ⟨dk_calleeV (n := 0) (C := RX7) m_longest (List.forall_mem_cons.mpr ⟨wsL_i17 (List.mem_of_getElem? (i := 0) rfl), List.forall_mem_cons.mpr ⟨wsL_i17 (List.mem_of_getElem? (i := 1) rfl), List.forall_mem_cons.mpr ⟨wsL_i17 (List.mem_of_getElem? (i := 2) rfl), List.forall_mem_cons.mpr ⟨wsL_i1 (List.mem_of_getElem? (i := 5) rfl), List.forall_mem_cons.mpr ⟨wsL_i17 (List.mem_of_getElem? (i := 3) rfl), fun _ h => absurd h List.not_mem_nil⟩⟩⟩⟩⟩) ⟨rfl, by decide, by decide, by decide +kernel⟩ ⟨⟨rfl, rfl⟩, by decide, by decide⟩ (fun as σ h => by
      obtain ⟨x, rfl, -⟩ := h
      exact ⟨_, _, _, _, _, _, rfl, rfl, rfl, rfl⟩), List.forall_mem_cons.mpr ⟨dk_calleeV (n := 1) (C := RX7) m_latest (List.forall_mem_cons.mpr ⟨wsL_i17 (List.mem_of_getElem? (i := 4) rfl), List.forall_mem_cons.mpr ⟨wsL_i17 (List.mem_of_getElem? (i := 5) rfl), List.forall_mem_cons.mpr ⟨wsL_i17 (List.mem_of_getElem? (i := 6) rfl), List.forall_mem_cons.mpr ⟨wsL_i1 (List.mem_of_getElem? (i := 5) rfl), List.forall_mem_cons.mpr ⟨wsL_i17 (List.mem_of_getElem? (i := 7) rfl), fun _ h => absurd h List.not_mem_nil⟩⟩⟩⟩⟩) ⟨rfl, by decide, by decide, by decide +kernel⟩ ⟨⟨rfl, rfl⟩, by decide, by decide⟩ (fun as σ h => by
      obtain ⟨x, rfl, -⟩ := h
      exact ⟨_, _, _, _, _, _, rfl, rfl, rfl, rfl⟩), fun _ h => absurd h List.not_mem_nil⟩⟩⟩))
    (dk_fm_all (fun _ h => absurd h List.not_mem_nil))
    (Or.inl ⟨rfl, rfl, Or.inl ⟨rfl, rfl⟩⟩) (by decide) q_checkStarts
set_option maxRecDepth 100000 in
theorem m_checkCircle : dk_Met l D cI cZ cR ad yX7_checkCircle cX7_checkCircle 3 (some .int) { frames := 0, locals := 0 } sp_checkCircle :=
  dk_met (G := (kX7_checkCircle, fX7, [], [], nX7, 3, false)) false (by decide) rfl hX7_checkCircle (fX7_ok) (nX7_ok) (dk_fm_all (fun _ h => absurd h List.not_mem_nil))
    (dk_fm_all (fun _ h => absurd h List.not_mem_nil))
    (Or.inl ⟨rfl, rfl, Or.inl ⟨rfl, rfl⟩⟩) (by decide) q_checkCircle
set_option maxRecDepth 100000 in
theorem m_checkMatch : dk_Met l D cI cZ cR ad yX7_checkMatch cX7_checkMatch 4 (some .int) { frames := 1, locals := 26 } sp_checkMatch :=
  dk_met (G := (kX7_checkMatch, fX7, [(135, sp_soonest)], [], nX7, 4, false)) false (by decide) rfl hX7_checkMatch (fX7_ok) (nX7_ok) (dk_fm_all (List.forall_mem_cons.mpr ⟨dk_calleeV (n := 2) (C := RX7) m_soonest (List.forall_mem_cons.mpr ⟨wsL_i15 (List.mem_of_getElem? (i := 11) rfl), List.forall_mem_cons.mpr ⟨wsL_i15 (List.mem_of_getElem? (i := 12) rfl), List.forall_mem_cons.mpr ⟨wsL_i15 (List.mem_of_getElem? (i := 13) rfl), List.forall_mem_cons.mpr ⟨wsL_i1 (List.mem_of_getElem? (i := 5) rfl), List.forall_mem_cons.mpr ⟨wsL_i15 (List.mem_of_getElem? (i := 14) rfl), fun _ h => absurd h List.not_mem_nil⟩⟩⟩⟩⟩) ⟨rfl, by decide, by decide, by decide +kernel⟩ ⟨⟨rfl, rfl⟩, by decide, by decide⟩ (fun as σ h => by
      obtain ⟨x, rfl, -⟩ := h
      exact ⟨_, _, _, _, _, _, rfl, rfl, rfl, rfl⟩), fun _ h => absurd h List.not_mem_nil⟩))
    (dk_fm_all (fun _ h => absurd h List.not_mem_nil))
    (Or.inl ⟨rfl, rfl, Or.inl ⟨rfl, rfl⟩⟩) (by decide) q_checkMatch
set_option maxRecDepth 100000 in
theorem m_mcheck : dk_Met l D cI cZ cR ad yX7_check cX7_check 2 (some .int) { frames := 2, locals := 49 } sp_mcheck :=
  dk_met (G := (kX7_check, fX7, [(196, sp_checkStarts), (199, sp_checkCircle), (202, sp_checkMatch)], [], nX7, 2, false)) false (by decide) rfl hX7_check (fX7_ok) (nX7_ok) (dk_fm_all (List.forall_mem_cons.mpr ⟨dk_calleeV (n := 0) (C := RX7) m_checkStarts (List.forall_mem_cons.mpr ⟨wsL_i27 (List.mem_of_getElem? (i := 7) rfl), List.forall_mem_cons.mpr ⟨wsL_i27 (List.mem_of_getElem? (i := 8) rfl), List.forall_mem_cons.mpr ⟨wsL_i27 (List.mem_of_getElem? (i := 9) rfl), List.forall_mem_cons.mpr ⟨wsL_i1 (List.mem_of_getElem? (i := 5) rfl), List.forall_mem_cons.mpr ⟨wsL_i27 (List.mem_of_getElem? (i := 10) rfl), fun _ h => absurd h List.not_mem_nil⟩⟩⟩⟩⟩) ⟨rfl, by decide, by decide, by decide +kernel⟩ ⟨⟨rfl, rfl⟩, by decide, by decide⟩ (fun as σ h => by
      obtain ⟨x, rfl, -⟩ := h
      exact ⟨_, _, _, _, _, _, rfl, rfl, rfl, rfl⟩), List.forall_mem_cons.mpr ⟨dk_calleeV (n := 0) (C := RX7) m_checkCircle (List.forall_mem_cons.mpr ⟨wsL_i27 (List.mem_of_getElem? (i := 11) rfl), List.forall_mem_cons.mpr ⟨wsL_i27 (List.mem_of_getElem? (i := 12) rfl), List.forall_mem_cons.mpr ⟨wsL_i27 (List.mem_of_getElem? (i := 13) rfl), List.forall_mem_cons.mpr ⟨wsL_i1 (List.mem_of_getElem? (i := 5) rfl), List.forall_mem_cons.mpr ⟨wsL_i27 (List.mem_of_getElem? (i := 14) rfl), fun _ h => absurd h List.not_mem_nil⟩⟩⟩⟩⟩) ⟨rfl, by decide, by decide, by decide +kernel⟩ ⟨⟨rfl, rfl⟩, by decide, by decide⟩ (fun as σ h => by
      obtain ⟨x, rfl, -⟩ := h
      exact ⟨_, _, _, _, _, _, rfl, rfl, rfl, rfl⟩), List.forall_mem_cons.mpr ⟨dk_calleeV (n := 0) (C := RX7) m_checkMatch (List.forall_mem_cons.mpr ⟨wsL_i27 (List.mem_of_getElem? (i := 15) rfl), List.forall_mem_cons.mpr ⟨wsL_i27 (List.mem_of_getElem? (i := 16) rfl), List.forall_mem_cons.mpr ⟨wsL_i27 (List.mem_of_getElem? (i := 17) rfl), List.forall_mem_cons.mpr ⟨wsL_i1 (List.mem_of_getElem? (i := 5) rfl), List.forall_mem_cons.mpr ⟨wsL_i27 (List.mem_of_getElem? (i := 18) rfl), fun _ h => absurd h List.not_mem_nil⟩⟩⟩⟩⟩) ⟨rfl, by decide, by decide, by decide +kernel⟩ ⟨⟨rfl, rfl⟩, by decide, by decide⟩ (fun as σ h => by
      obtain ⟨x, rfl, -⟩ := h
      exact ⟨_, _, _, _, _, _, rfl, rfl, rfl, rfl⟩), fun _ h => absurd h List.not_mem_nil⟩⟩⟩))
    (dk_fm_all (fun _ h => absurd h List.not_mem_nil))
    (Or.inl ⟨rfl, rfl, Or.inl ⟨rfl, rfl⟩⟩) (by decide) q_mcheck
set_option maxRecDepth 100000 in
theorem m_bits : dk_Met l D cI cZ cR ad yX7_bits cX7_bits 3 (some .int) { frames := 0, locals := 0 } sp_bits :=
  dk_met (G := (kX7_bits, fX7, [], [], nX7, 3, false)) false (by decide) rfl hX7_bits (fX7_ok) (nX7_ok) (dk_fm_all (fun _ h => absurd h List.not_mem_nil))
    (dk_fm_all (fun _ h => absurd h List.not_mem_nil))
    (Or.inl ⟨rfl, rfl, Or.inl ⟨rfl, rfl⟩⟩) (by decide) q_bits
set_option maxRecDepth 100000 in
theorem m_mcount : dk_Met l D cI cZ cR ad yX7_count cX7_count 2 (some .int) { frames := 1, locals := 22 } sp_mcount :=
  dk_met (G := (kX7_count, fX7, [], [(205, sp_bits)], nX7, 2, false)) false (by decide) rfl hX7_count (fX7_ok) (nX7_ok) (dk_fm_all (fun _ h => absurd h List.not_mem_nil))
    (dk_fm_all (List.forall_mem_cons.mpr ⟨dk_calleeS (n := 1) m_bits (List.forall_mem_cons.mpr ⟨wsL_i28 (List.mem_of_getElem? (i := 13) rfl), List.forall_mem_cons.mpr ⟨wsL_i28 (List.mem_of_getElem? (i := 14) rfl), List.forall_mem_cons.mpr ⟨wsL_i1 (List.mem_of_getElem? (i := 5) rfl), List.forall_mem_cons.mpr ⟨wsL_i28 (List.mem_of_getElem? (i := 15) rfl), fun _ h => absurd h List.not_mem_nil⟩⟩⟩⟩) ⟨by decide, by decide, by decide +kernel⟩ ⟨⟨rfl, rfl⟩, by decide, by decide⟩ rfl, fun _ h => absurd h List.not_mem_nil⟩))
    (Or.inl ⟨rfl, rfl, Or.inl ⟨rfl, rfl⟩⟩) (by decide) q_mcount
end METS
