set_option maxHeartbeats 4000000 in
set_option maxRecDepth 100000 in
theorem c_X0_empty (l : Launch) (dC : Nat → ClassId) (dI : Nat → Nat → Nat) (h_F h_F_firstOf h_F_lastOf h_F_jobOf h_F_machineOf h_F_duration h_F_nextOf h_F_arcs h_F_head h_F_tail h_F_kept : Nat) (sz : Nat) (cI : ClassId) (F_jobs : Int32) (F_size : Int32) (F_firstOf : Nat → Int32) (F_lastOf : Nat → Int32) (F_jobOf : Nat → Int32) (F_machineOf : Nat → Int32) (F_duration : Nat → Int32) (F_nextOf : Nat → Int32) (F_arcs : Nat → Int32) (F_head : Nat → Int32) (F_tail : Nat → Int32) (F_kept : Nat → Int32) (post : Int32 → Int32 → Prop) (hw : wp_X0_empty F_jobs F_size post) : Met l yX0_empty wsX0_empty ({ frames := 0, cells := 0, slots := 0, locals := 0 }) (va_Pc [.ref h_F] (fun U => U.heap.size = sz ∧ va_P (dC, dI) vwCl (wF h_F h_F_firstOf h_F_lastOf h_F_jobOf h_F_machineOf h_F_duration h_F_nextOf h_F_arcs h_F_head h_F_tail h_F_kept cI F_jobs F_size F_firstOf F_lastOf F_jobOf F_machineOf F_duration F_nextOf F_arcs F_head F_tail F_kept) U.heap ∧ va_K (dC, dI) vwCl [(cI, .int)] U ∧ va_D (fun _ => True) (wF h_F h_F_firstOf h_F_lastOf h_F_jobOf h_F_machineOf h_F_duration h_F_nextOf h_F_arcs h_F_head h_F_tail h_F_kept cI F_jobs F_size F_firstOf F_lastOf F_jobOf F_machineOf F_duration F_nextOf F_arcs F_head F_tail F_kept) ∧ nw U)) (va_Qv (fun (u : Int32 × Int32) => post u.1 u.2) (fun u t => va_P (dC, dI) vwCl (wF h_F h_F_firstOf h_F_lastOf h_F_jobOf h_F_machineOf h_F_duration h_F_nextOf h_F_arcs h_F_head h_F_tail h_F_kept cI u.1 u.2 F_firstOf F_lastOf F_jobOf F_machineOf F_duration F_nextOf F_arcs F_head F_tail F_kept) t.heap ∧ va_K (dC, dI) vwCl [(cI, .int)] t ∧ va_D (va_A (wF h_F h_F_firstOf h_F_lastOf h_F_jobOf h_F_machineOf h_F_duration h_F_nextOf h_F_arcs h_F_head h_F_tail h_F_kept cI F_jobs F_size F_firstOf F_lastOf F_jobOf F_machineOf F_duration F_nextOf F_arcs F_head F_tail F_kept) sz) (wF h_F h_F_firstOf h_F_lastOf h_F_jobOf h_F_machineOf h_F_duration h_F_nextOf h_F_arcs h_F_head h_F_tail h_F_kept cI u.1 u.2 F_firstOf F_lastOf F_jobOf F_machineOf F_duration F_nextOf F_arcs F_head F_tail F_kept)) (va_A (wF h_F h_F_firstOf h_F_lastOf h_F_jobOf h_F_machineOf h_F_duration h_F_nextOf h_F_arcs h_F_head h_F_tail h_F_kept cI F_jobs F_size F_firstOf F_lastOf F_jobOf F_machineOf F_duration F_nextOf F_arcs F_head F_tail F_kept) sz)) 0 0 (va_A (wF h_F h_F_firstOf h_F_lastOf h_F_jobOf h_F_machineOf h_F_duration h_F_nextOf h_F_arcs h_F_head h_F_tail h_F_kept cI F_jobs F_size F_firstOf F_lastOf F_jobOf F_machineOf F_duration F_nextOf F_arcs F_head F_tail F_kept) sz) := by
  refine Met.ofW (cc := cX0_empty) (maxL := 1) (ret := none) (by decide) rfl ?_
  intro p e s m args below meth c s₁ B hml hv
  obtain ⟨rfl, hsz, hP, hK, hD0, hN⟩ := hv
  have hx := B.exec
  have hb := B.bytes
  have hr := B.returns
  have hts := atoms_spec (ws := wsX0_empty) B.pre
  have hown : s.vm.findClass RX0 = some m.cls := findClass_of_methodNamed B.named
  have hlocks := B.notSynchronized
  subst hsz
  have hD := hD0.self (sz := s.heap.size)
  generalize hAe : va_A (wF h_F h_F_firstOf h_F_lastOf h_F_jobOf h_F_machineOf h_F_duration h_F_nextOf h_F_arcs h_F_head h_F_tail h_F_kept cI F_jobs F_size F_firstOf F_lastOf F_jobOf F_machineOf F_duration F_nextOf F_arcs F_head F_tail F_kept) s.heap.size = A at hD ⊢
  have hA : ∀ q : Nat, s.heap.size ≤ q → A q := fun q h => by rw [← hAe]; exact Or.inr h
  have hS : va_S A s.heap s.heap [] := va_S.rf
  have hP : va_P (dC, dI) vwCl (wF h_F h_F_firstOf h_F_lastOf h_F_jobOf h_F_machineOf h_F_duration h_F_nextOf h_F_arcs h_F_head h_F_tail h_F_kept cI F_jobs F_size F_firstOf F_lastOf F_jobOf F_machineOf F_duration F_nextOf F_arcs F_head F_tail F_kept) s.heap := hP
  have hl := lv_entry ([.ref h_F]) (n := 1) (Nat.le_of_ble_eq_true rfl)
  rw [lg_entry_eq]
  generalize (lg_sl ([.ref h_F]) ++ List.replicate (1 - (lg_sl ([.ref h_F])).length) Slot.unset).toArray = ls at hl ⊢
  have hl : lv_has ls 1 [(0, .ref h_F)] := hl
  obtain ⟨H, hH⟩ : ∃ H, H = s.heap := ⟨_, rfl⟩
  rw [← hH] at hP
  have hS : va_S A s.heap H [] := by rw [hH]; exact hS
  refine W_heap hH ?_
  unfold wp_X0_empty at hw
  have hin_X0 : ∀ w ∈ u_ws RX0 TX0 12, w ∈ wsX0_empty := by decide +kernel
  refine lv_aload_n (pc := 0) hx hb dX0_empty_0 rfl (lv_at hl 0 rfl) ?_
  refine lv_iconst (v := 0) (pc := 1) hx hb dX0_empty_1 (by decide) ?_
  refine va_put (D := (dC, dI)) (ci := 0) (v := .int 0) (ty := .int) (C := RX0) (T := TX0) (N := 12) (pc := 2) hx hb hts hin_X0 tyX0 tyX0_ok nmX0 hown hK hP hD hS 0 rfl rfl 0 (by decide) (hts (.fieldLink RX0 42 "JobShop$Floor" "jobs" "I") (by decide +kernel)) (fun _ h9 => h9) rfl (by decide +kernel) rfl rfl (Nat.le_of_ble_eq_true rfl) dX0_empty_2 (fun H locs hP hD hS => ?_)
  have hP : va_P (dC, dI) vwCl (wF h_F h_F_firstOf h_F_lastOf h_F_jobOf h_F_machineOf h_F_duration h_F_nextOf h_F_arcs h_F_head h_F_tail h_F_kept cI 0 F_size F_firstOf F_lastOf F_jobOf F_machineOf F_duration F_nextOf F_arcs F_head F_tail F_kept) H := hP
  have hD : va_D A (wF h_F h_F_firstOf h_F_lastOf h_F_jobOf h_F_machineOf h_F_duration h_F_nextOf h_F_arcs h_F_head h_F_tail h_F_kept cI 0 F_size F_firstOf F_lastOf F_jobOf F_machineOf F_duration F_nextOf F_arcs F_head F_tail F_kept) := hD
  refine lv_aload_n (pc := 5) hx hb dX0_empty_5 rfl (lv_at hl 0 rfl) ?_
  refine lv_iconst (v := 0) (pc := 6) hx hb dX0_empty_6 (by decide) ?_
  refine va_put (D := (dC, dI)) (ci := 0) (v := .int 0) (ty := .int) (C := RX0) (T := TX0) (N := 12) (pc := 7) hx hb hts hin_X0 tyX0 tyX0_ok nmX0 hown hK hP hD hS 0 rfl rfl 1 (by decide) (hts (.fieldLink RX0 46 "JobShop$Floor" "size" "I") (by decide +kernel)) (fun _ h9 => h9) rfl (by decide +kernel) rfl rfl (Nat.le_of_ble_eq_true rfl) dX0_empty_7 (fun H locs hP hD hS => ?_)
  have hP : va_P (dC, dI) vwCl (wF h_F h_F_firstOf h_F_lastOf h_F_jobOf h_F_machineOf h_F_duration h_F_nextOf h_F_arcs h_F_head h_F_tail h_F_kept cI 0 0 F_firstOf F_lastOf F_jobOf F_machineOf F_duration F_nextOf F_arcs F_head F_tail F_kept) H := hP
  have hD : va_D A (wF h_F h_F_firstOf h_F_lastOf h_F_jobOf h_F_machineOf h_F_duration h_F_nextOf h_F_arcs h_F_head h_F_tail h_F_kept cI 0 0 F_firstOf F_lastOf F_jobOf F_machineOf F_duration F_nextOf F_arcs F_head F_tail F_kept) := hD
  exact W.vret hx hb hr (fun t ht hW => ⟨⟨(0, 0), rfl, hw, by rw [ht]; exact hP, va_K.moved hW.alike hK, hD⟩, hS.F ht⟩) hS.2.2 dX0_empty_10
set_option maxHeartbeats 4000000 in
set_option maxRecDepth 100000 in
theorem c_X0_isJob (l : Launch) (dC : Nat → ClassId) (dI : Nat → Nat → Nat) (h_F h_F_firstOf h_F_lastOf h_F_jobOf h_F_machineOf h_F_duration h_F_nextOf h_F_arcs h_F_head h_F_tail h_F_kept : Nat) (sz : Nat) (cI : ClassId) (F_jobs : Int32) (F_size : Int32) (F_firstOf : Nat → Int32) (F_lastOf : Nat → Int32) (F_jobOf : Nat → Int32) (F_machineOf : Nat → Int32) (F_duration : Nat → Int32) (F_nextOf : Nat → Int32) (F_arcs : Nat → Int32) (F_head : Nat → Int32) (F_tail : Nat → Int32) (F_kept : Nat → Int32) (a0 : Int32) (post : Int32 → Prop) (hw : wp_X0_isJob F_jobs a0 post) : Met l yX0_isJob wsX0_isJob ({ frames := 0, cells := 0, slots := 0, locals := 0 }) (va_Pc [.ref h_F, .int a0] (fun U => U.heap.size = sz ∧ va_P (dC, dI) vwCl (wF h_F h_F_firstOf h_F_lastOf h_F_jobOf h_F_machineOf h_F_duration h_F_nextOf h_F_arcs h_F_head h_F_tail h_F_kept cI F_jobs F_size F_firstOf F_lastOf F_jobOf F_machineOf F_duration F_nextOf F_arcs F_head F_tail F_kept) U.heap ∧ va_K (dC, dI) vwCl [(cI, .int)] U ∧ va_D (fun _ => True) (wF h_F h_F_firstOf h_F_lastOf h_F_jobOf h_F_machineOf h_F_duration h_F_nextOf h_F_arcs h_F_head h_F_tail h_F_kept cI F_jobs F_size F_firstOf F_lastOf F_jobOf F_machineOf F_duration F_nextOf F_arcs F_head F_tail F_kept) ∧ nw U)) (va_Qi (fun (r : Int32) (u : Unit) => post r ) (fun u t => va_P (dC, dI) vwCl (wF h_F h_F_firstOf h_F_lastOf h_F_jobOf h_F_machineOf h_F_duration h_F_nextOf h_F_arcs h_F_head h_F_tail h_F_kept cI F_jobs F_size F_firstOf F_lastOf F_jobOf F_machineOf F_duration F_nextOf F_arcs F_head F_tail F_kept) t.heap ∧ va_K (dC, dI) vwCl [(cI, .int)] t ∧ va_D (va_A (wF h_F h_F_firstOf h_F_lastOf h_F_jobOf h_F_machineOf h_F_duration h_F_nextOf h_F_arcs h_F_head h_F_tail h_F_kept cI F_jobs F_size F_firstOf F_lastOf F_jobOf F_machineOf F_duration F_nextOf F_arcs F_head F_tail F_kept) sz) (wF h_F h_F_firstOf h_F_lastOf h_F_jobOf h_F_machineOf h_F_duration h_F_nextOf h_F_arcs h_F_head h_F_tail h_F_kept cI F_jobs F_size F_firstOf F_lastOf F_jobOf F_machineOf F_duration F_nextOf F_arcs F_head F_tail F_kept)) (va_A (wF h_F h_F_firstOf h_F_lastOf h_F_jobOf h_F_machineOf h_F_duration h_F_nextOf h_F_arcs h_F_head h_F_tail h_F_kept cI F_jobs F_size F_firstOf F_lastOf F_jobOf F_machineOf F_duration F_nextOf F_arcs F_head F_tail F_kept) sz)) 0 0 (va_A (wF h_F h_F_firstOf h_F_lastOf h_F_jobOf h_F_machineOf h_F_duration h_F_nextOf h_F_arcs h_F_head h_F_tail h_F_kept cI F_jobs F_size F_firstOf F_lastOf F_jobOf F_machineOf F_duration F_nextOf F_arcs F_head F_tail F_kept) sz) := by
  refine Met.ofW (cc := cX0_isJob) (maxL := 2) (ret := (some .boolean)) (by decide) rfl ?_
  intro p e s m args below meth c s₁ B hml hv
  obtain ⟨rfl, hsz, hP, hK, hD0, hN⟩ := hv
  have hx := B.exec
  have hb := B.bytes
  have hr := B.returns
  have hts := atoms_spec (ws := wsX0_isJob) B.pre
  have hown : s.vm.findClass RX0 = some m.cls := findClass_of_methodNamed B.named
  have hlocks := B.notSynchronized
  subst hsz
  have hD := hD0.self (sz := s.heap.size)
  generalize hAe : va_A (wF h_F h_F_firstOf h_F_lastOf h_F_jobOf h_F_machineOf h_F_duration h_F_nextOf h_F_arcs h_F_head h_F_tail h_F_kept cI F_jobs F_size F_firstOf F_lastOf F_jobOf F_machineOf F_duration F_nextOf F_arcs F_head F_tail F_kept) s.heap.size = A at hD ⊢
  have hA : ∀ q : Nat, s.heap.size ≤ q → A q := fun q h => by rw [← hAe]; exact Or.inr h
  have hS : va_S A s.heap s.heap [] := va_S.rf
  have hP : va_P (dC, dI) vwCl (wF h_F h_F_firstOf h_F_lastOf h_F_jobOf h_F_machineOf h_F_duration h_F_nextOf h_F_arcs h_F_head h_F_tail h_F_kept cI F_jobs F_size F_firstOf F_lastOf F_jobOf F_machineOf F_duration F_nextOf F_arcs F_head F_tail F_kept) s.heap := hP
  have hl := lv_entry ([.ref h_F, .int a0]) (n := 2) (Nat.le_of_ble_eq_true rfl)
  rw [lg_entry_eq]
  generalize (lg_sl ([.ref h_F, .int a0]) ++ List.replicate (2 - (lg_sl ([.ref h_F, .int a0])).length) Slot.unset).toArray = ls at hl ⊢
  have hl : lv_has ls 2 [(0, .ref h_F), (1, .int a0)] := hl
  obtain ⟨H, hH⟩ : ∃ H, H = s.heap := ⟨_, rfl⟩
  rw [← hH] at hP
  have hS : va_S A s.heap H [] := by rw [hH]; exact hS
  refine W_heap hH ?_
  unfold wp_X0_isJob at hw
  have hin_X0 : ∀ w ∈ u_ws RX0 TX0 12, w ∈ wsX0_isJob := by decide +kernel
  refine lv_iload_n (pc := 0) hx hb dX0_isJob_0 rfl (lv_at hl 1 rfl) ?_
  refine lv_if_lt (tgt := 16) (pc := 1) hx hb dX0_isJob_1 (by decide) (fun c_1 => ?_) (fun c_1 => ?_)
  · have hw := hw.1 c_1
    refine lv_iconst (v := 0) (pc := 16) hx hb dX0_isJob_16 (by decide) ?_
    exact W.zret (v := 0) hx hb hr rfl (fun t ht hW => ⟨⟨0, (), rfl, hw, by rw [ht]; exact hP, va_K.moved hW.alike hK, hD⟩, hS.F ht⟩) hS.2.2 dX0_isJob_17
  · have hw := hw.2 c_1
    refine lv_iload_n (pc := 4) hx hb dX0_isJob_4 rfl (lv_at hl 1 rfl) ?_
    refine lv_aload_n (pc := 5) hx hb dX0_isJob_5 rfl (lv_at hl 0 rfl) ?_
    refine va_get (D := (dC, dI)) (ci := 0) (v := .int F_jobs) (C := RX0) (T := TX0) (N := 12) (pc := 6) hx hb hts hin_X0 hown hK hP 0 rfl rfl 0 (by decide) (hts (.fieldLink RX0 42 "JobShop$Floor" "jobs" "I") (by decide +kernel)) (fun _ h9 => h9) rfl dX0_isJob_6 ?_
    refine lv_icmp_ge (tgt := 16) (pc := 9) hx hb dX0_isJob_9 (by decide) (fun c_2 => ?_) (fun c_2 => ?_)
    · have hw := hw.1 c_2
      refine lv_iconst (v := 0) (pc := 16) hx hb dX0_isJob_16 (by decide) ?_
      exact W.zret (v := 0) hx hb hr rfl (fun t ht hW => ⟨⟨0, (), rfl, hw, by rw [ht]; exact hP, va_K.moved hW.alike hK, hD⟩, hS.F ht⟩) hS.2.2 dX0_isJob_17
    · have hw := hw.2 c_2
      refine lv_iconst (v := 1) (pc := 12) hx hb dX0_isJob_12 (by decide) ?_
      refine lv_goto (tgt := 17) (pc := 13) hx hb dX0_isJob_13 (by decide) ?_
      exact W.zret (v := 1) hx hb hr rfl (fun t ht hW => ⟨⟨1, (), rfl, hw, by rw [ht]; exact hP, va_K.moved hW.alike hK, hD⟩, hS.F ht⟩) hS.2.2 dX0_isJob_17
set_option maxHeartbeats 4000000 in
set_option maxRecDepth 100000 in
theorem c_X0_isOperation (l : Launch) (dC : Nat → ClassId) (dI : Nat → Nat → Nat) (h_F h_F_firstOf h_F_lastOf h_F_jobOf h_F_machineOf h_F_duration h_F_nextOf h_F_arcs h_F_head h_F_tail h_F_kept : Nat) (sz : Nat) (cI : ClassId) (F_jobs : Int32) (F_size : Int32) (F_firstOf : Nat → Int32) (F_lastOf : Nat → Int32) (F_jobOf : Nat → Int32) (F_machineOf : Nat → Int32) (F_duration : Nat → Int32) (F_nextOf : Nat → Int32) (F_arcs : Nat → Int32) (F_head : Nat → Int32) (F_tail : Nat → Int32) (F_kept : Nat → Int32) (a0 : Int32) (post : Int32 → Prop) (hw : wp_X0_isOperation F_size a0 post) : Met l yX0_isOperation wsX0_isOperation ({ frames := 0, cells := 0, slots := 0, locals := 0 }) (va_Pc [.ref h_F, .int a0] (fun U => U.heap.size = sz ∧ va_P (dC, dI) vwCl (wF h_F h_F_firstOf h_F_lastOf h_F_jobOf h_F_machineOf h_F_duration h_F_nextOf h_F_arcs h_F_head h_F_tail h_F_kept cI F_jobs F_size F_firstOf F_lastOf F_jobOf F_machineOf F_duration F_nextOf F_arcs F_head F_tail F_kept) U.heap ∧ va_K (dC, dI) vwCl [(cI, .int)] U ∧ va_D (fun _ => True) (wF h_F h_F_firstOf h_F_lastOf h_F_jobOf h_F_machineOf h_F_duration h_F_nextOf h_F_arcs h_F_head h_F_tail h_F_kept cI F_jobs F_size F_firstOf F_lastOf F_jobOf F_machineOf F_duration F_nextOf F_arcs F_head F_tail F_kept) ∧ nw U)) (va_Qi (fun (r : Int32) (u : Unit) => post r ) (fun u t => va_P (dC, dI) vwCl (wF h_F h_F_firstOf h_F_lastOf h_F_jobOf h_F_machineOf h_F_duration h_F_nextOf h_F_arcs h_F_head h_F_tail h_F_kept cI F_jobs F_size F_firstOf F_lastOf F_jobOf F_machineOf F_duration F_nextOf F_arcs F_head F_tail F_kept) t.heap ∧ va_K (dC, dI) vwCl [(cI, .int)] t ∧ va_D (va_A (wF h_F h_F_firstOf h_F_lastOf h_F_jobOf h_F_machineOf h_F_duration h_F_nextOf h_F_arcs h_F_head h_F_tail h_F_kept cI F_jobs F_size F_firstOf F_lastOf F_jobOf F_machineOf F_duration F_nextOf F_arcs F_head F_tail F_kept) sz) (wF h_F h_F_firstOf h_F_lastOf h_F_jobOf h_F_machineOf h_F_duration h_F_nextOf h_F_arcs h_F_head h_F_tail h_F_kept cI F_jobs F_size F_firstOf F_lastOf F_jobOf F_machineOf F_duration F_nextOf F_arcs F_head F_tail F_kept)) (va_A (wF h_F h_F_firstOf h_F_lastOf h_F_jobOf h_F_machineOf h_F_duration h_F_nextOf h_F_arcs h_F_head h_F_tail h_F_kept cI F_jobs F_size F_firstOf F_lastOf F_jobOf F_machineOf F_duration F_nextOf F_arcs F_head F_tail F_kept) sz)) 0 0 (va_A (wF h_F h_F_firstOf h_F_lastOf h_F_jobOf h_F_machineOf h_F_duration h_F_nextOf h_F_arcs h_F_head h_F_tail h_F_kept cI F_jobs F_size F_firstOf F_lastOf F_jobOf F_machineOf F_duration F_nextOf F_arcs F_head F_tail F_kept) sz) := by
  refine Met.ofW (cc := cX0_isOperation) (maxL := 2) (ret := (some .boolean)) (by decide) rfl ?_
  intro p e s m args below meth c s₁ B hml hv
  obtain ⟨rfl, hsz, hP, hK, hD0, hN⟩ := hv
  have hx := B.exec
  have hb := B.bytes
  have hr := B.returns
  have hts := atoms_spec (ws := wsX0_isOperation) B.pre
  have hown : s.vm.findClass RX0 = some m.cls := findClass_of_methodNamed B.named
  have hlocks := B.notSynchronized
  subst hsz
  have hD := hD0.self (sz := s.heap.size)
  generalize hAe : va_A (wF h_F h_F_firstOf h_F_lastOf h_F_jobOf h_F_machineOf h_F_duration h_F_nextOf h_F_arcs h_F_head h_F_tail h_F_kept cI F_jobs F_size F_firstOf F_lastOf F_jobOf F_machineOf F_duration F_nextOf F_arcs F_head F_tail F_kept) s.heap.size = A at hD ⊢
  have hA : ∀ q : Nat, s.heap.size ≤ q → A q := fun q h => by rw [← hAe]; exact Or.inr h
  have hS : va_S A s.heap s.heap [] := va_S.rf
  have hP : va_P (dC, dI) vwCl (wF h_F h_F_firstOf h_F_lastOf h_F_jobOf h_F_machineOf h_F_duration h_F_nextOf h_F_arcs h_F_head h_F_tail h_F_kept cI F_jobs F_size F_firstOf F_lastOf F_jobOf F_machineOf F_duration F_nextOf F_arcs F_head F_tail F_kept) s.heap := hP
  have hl := lv_entry ([.ref h_F, .int a0]) (n := 2) (Nat.le_of_ble_eq_true rfl)
  rw [lg_entry_eq]
  generalize (lg_sl ([.ref h_F, .int a0]) ++ List.replicate (2 - (lg_sl ([.ref h_F, .int a0])).length) Slot.unset).toArray = ls at hl ⊢
  have hl : lv_has ls 2 [(0, .ref h_F), (1, .int a0)] := hl
  obtain ⟨H, hH⟩ : ∃ H, H = s.heap := ⟨_, rfl⟩
  rw [← hH] at hP
  have hS : va_S A s.heap H [] := by rw [hH]; exact hS
  refine W_heap hH ?_
  unfold wp_X0_isOperation at hw
  have hin_X0 : ∀ w ∈ u_ws RX0 TX0 12, w ∈ wsX0_isOperation := by decide +kernel
  refine lv_iload_n (pc := 0) hx hb dX0_isOperation_0 rfl (lv_at hl 1 rfl) ?_
  refine lv_if_lt (tgt := 16) (pc := 1) hx hb dX0_isOperation_1 (by decide) (fun c_1 => ?_) (fun c_1 => ?_)
  · have hw := hw.1 c_1
    refine lv_iconst (v := 0) (pc := 16) hx hb dX0_isOperation_16 (by decide) ?_
    exact W.zret (v := 0) hx hb hr rfl (fun t ht hW => ⟨⟨0, (), rfl, hw, by rw [ht]; exact hP, va_K.moved hW.alike hK, hD⟩, hS.F ht⟩) hS.2.2 dX0_isOperation_17
  · have hw := hw.2 c_1
    refine lv_iload_n (pc := 4) hx hb dX0_isOperation_4 rfl (lv_at hl 1 rfl) ?_
    refine lv_aload_n (pc := 5) hx hb dX0_isOperation_5 rfl (lv_at hl 0 rfl) ?_
    refine va_get (D := (dC, dI)) (ci := 0) (v := .int F_size) (C := RX0) (T := TX0) (N := 12) (pc := 6) hx hb hts hin_X0 hown hK hP 0 rfl rfl 1 (by decide) (hts (.fieldLink RX0 46 "JobShop$Floor" "size" "I") (by decide +kernel)) (fun _ h9 => h9) rfl dX0_isOperation_6 ?_
    refine lv_icmp_ge (tgt := 16) (pc := 9) hx hb dX0_isOperation_9 (by decide) (fun c_2 => ?_) (fun c_2 => ?_)
    · have hw := hw.1 c_2
      refine lv_iconst (v := 0) (pc := 16) hx hb dX0_isOperation_16 (by decide) ?_
      exact W.zret (v := 0) hx hb hr rfl (fun t ht hW => ⟨⟨0, (), rfl, hw, by rw [ht]; exact hP, va_K.moved hW.alike hK, hD⟩, hS.F ht⟩) hS.2.2 dX0_isOperation_17
    · have hw := hw.2 c_2
      refine lv_iconst (v := 1) (pc := 12) hx hb dX0_isOperation_12 (by decide) ?_
      refine lv_goto (tgt := 17) (pc := 13) hx hb dX0_isOperation_13 (by decide) ?_
      exact W.zret (v := 1) hx hb hr rfl (fun t ht hW => ⟨⟨1, (), rfl, hw, by rw [ht]; exact hP, va_K.moved hW.alike hK, hD⟩, hS.F ht⟩) hS.2.2 dX0_isOperation_17
set_option maxHeartbeats 4000000 in
set_option maxRecDepth 100000 in
theorem c_X0_isPair (l : Launch) (dC : Nat → ClassId) (dI : Nat → Nat → Nat) (h_F h_F_firstOf h_F_lastOf h_F_jobOf h_F_machineOf h_F_duration h_F_nextOf h_F_arcs h_F_head h_F_tail h_F_kept : Nat) (sz : Nat) (cI : ClassId) (F_jobs : Int32) (F_size : Int32) (F_firstOf : Nat → Int32) (F_lastOf : Nat → Int32) (F_jobOf : Nat → Int32) (F_machineOf : Nat → Int32) (F_duration : Nat → Int32) (F_nextOf : Nat → Int32) (F_arcs : Nat → Int32) (F_head : Nat → Int32) (F_tail : Nat → Int32) (F_kept : Nat → Int32) (a0 a1 : Int32) (post : Int32 → Prop) (hw : wp_X0_isPair F_size F_machineOf a0 a1 post) : Met l yX0_isPair wsX0_isPair ({ frames := 1, cells := 0, slots := 0, locals := 21 }) (va_Pc [.ref h_F, .int a0, .int a1] (fun U => U.heap.size = sz ∧ va_P (dC, dI) vwCl (wF h_F h_F_firstOf h_F_lastOf h_F_jobOf h_F_machineOf h_F_duration h_F_nextOf h_F_arcs h_F_head h_F_tail h_F_kept cI F_jobs F_size F_firstOf F_lastOf F_jobOf F_machineOf F_duration F_nextOf F_arcs F_head F_tail F_kept) U.heap ∧ va_K (dC, dI) vwCl [(cI, .int)] U ∧ va_D (fun _ => True) (wF h_F h_F_firstOf h_F_lastOf h_F_jobOf h_F_machineOf h_F_duration h_F_nextOf h_F_arcs h_F_head h_F_tail h_F_kept cI F_jobs F_size F_firstOf F_lastOf F_jobOf F_machineOf F_duration F_nextOf F_arcs F_head F_tail F_kept) ∧ nw U)) (va_Qi (fun (r : Int32) (u : Unit) => post r ) (fun u t => va_P (dC, dI) vwCl (wF h_F h_F_firstOf h_F_lastOf h_F_jobOf h_F_machineOf h_F_duration h_F_nextOf h_F_arcs h_F_head h_F_tail h_F_kept cI F_jobs F_size F_firstOf F_lastOf F_jobOf F_machineOf F_duration F_nextOf F_arcs F_head F_tail F_kept) t.heap ∧ va_K (dC, dI) vwCl [(cI, .int)] t ∧ va_D (va_A (wF h_F h_F_firstOf h_F_lastOf h_F_jobOf h_F_machineOf h_F_duration h_F_nextOf h_F_arcs h_F_head h_F_tail h_F_kept cI F_jobs F_size F_firstOf F_lastOf F_jobOf F_machineOf F_duration F_nextOf F_arcs F_head F_tail F_kept) sz) (wF h_F h_F_firstOf h_F_lastOf h_F_jobOf h_F_machineOf h_F_duration h_F_nextOf h_F_arcs h_F_head h_F_tail h_F_kept cI F_jobs F_size F_firstOf F_lastOf F_jobOf F_machineOf F_duration F_nextOf F_arcs F_head F_tail F_kept)) (va_A (wF h_F h_F_firstOf h_F_lastOf h_F_jobOf h_F_machineOf h_F_duration h_F_nextOf h_F_arcs h_F_head h_F_tail h_F_kept cI F_jobs F_size F_firstOf F_lastOf F_jobOf F_machineOf F_duration F_nextOf F_arcs F_head F_tail F_kept) sz)) 0 0 (va_A (wF h_F h_F_firstOf h_F_lastOf h_F_jobOf h_F_machineOf h_F_duration h_F_nextOf h_F_arcs h_F_head h_F_tail h_F_kept cI F_jobs F_size F_firstOf F_lastOf F_jobOf F_machineOf F_duration F_nextOf F_arcs F_head F_tail F_kept) sz) := by
  refine Met.ofW (cc := cX0_isPair) (maxL := 3) (ret := (some .boolean)) (by decide) rfl ?_
  intro p e s m args below meth c s₁ B hml hv
  obtain ⟨rfl, hsz, hP, hK, hD0, hN⟩ := hv
  have hx := B.exec
  have hb := B.bytes
  have hr := B.returns
  have hts := atoms_spec (ws := wsX0_isPair) B.pre
  have hown : s.vm.findClass RX0 = some m.cls := findClass_of_methodNamed B.named
  have hlocks := B.notSynchronized
  subst hsz
  have hD := hD0.self (sz := s.heap.size)
  generalize hAe : va_A (wF h_F h_F_firstOf h_F_lastOf h_F_jobOf h_F_machineOf h_F_duration h_F_nextOf h_F_arcs h_F_head h_F_tail h_F_kept cI F_jobs F_size F_firstOf F_lastOf F_jobOf F_machineOf F_duration F_nextOf F_arcs F_head F_tail F_kept) s.heap.size = A at hD ⊢
  have hA : ∀ q : Nat, s.heap.size ≤ q → A q := fun q h => by rw [← hAe]; exact Or.inr h
  have hS : va_S A s.heap s.heap [] := va_S.rf
  have hP : va_P (dC, dI) vwCl (wF h_F h_F_firstOf h_F_lastOf h_F_jobOf h_F_machineOf h_F_duration h_F_nextOf h_F_arcs h_F_head h_F_tail h_F_kept cI F_jobs F_size F_firstOf F_lastOf F_jobOf F_machineOf F_duration F_nextOf F_arcs F_head F_tail F_kept) s.heap := hP
  have hl := lv_entry ([.ref h_F, .int a0, .int a1]) (n := 3) (Nat.le_of_ble_eq_true rfl)
  rw [lg_entry_eq]
  generalize (lg_sl ([.ref h_F, .int a0, .int a1]) ++ List.replicate (3 - (lg_sl ([.ref h_F, .int a0, .int a1])).length) Slot.unset).toArray = ls at hl ⊢
  have hl : lv_has ls 3 [(0, .ref h_F), (1, .int a0), (2, .int a1)] := hl
  obtain ⟨H, hH⟩ : ∃ H, H = s.heap := ⟨_, rfl⟩
  rw [← hH] at hP
  have hS : va_S A s.heap H [] := by rw [hH]; exact hS
  refine W_heap hH ?_
  unfold wp_X0_isPair at hw
  have hin_X0 : ∀ w ∈ u_ws RX0 TX0 12, w ∈ wsX0_isPair := by decide +kernel
  refine lv_aload_n (pc := 0) hx hb dX0_isPair_0 rfl (lv_at hl 0 rfl) ?_
  refine lv_iload_n (pc := 1) hx hb dX0_isPair_1 rfl (lv_at hl 1 rfl) ?_
  have hPx : va_P (dC, dI) vwCl ([] ++ (wF h_F h_F_firstOf h_F_lastOf h_F_jobOf h_F_machineOf h_F_duration h_F_nextOf h_F_arcs h_F_head h_F_tail h_F_kept cI F_jobs F_size F_firstOf F_lastOf F_jobOf F_machineOf F_duration F_nextOf F_arcs F_head F_tail F_kept)) H := hP
  have hDx : va_D A ([] ++ (wF h_F h_F_firstOf h_F_lastOf h_F_jobOf h_F_machineOf h_F_duration h_F_nextOf h_F_arcs h_F_head h_F_tail h_F_kept cI F_jobs F_size F_firstOf F_lastOf F_jobOf F_machineOf F_duration F_nextOf F_arcs F_head F_tail F_kept)) := hD
  refine kc_i (pc := 2) (w1 := (fun u : Unit => (wF h_F h_F_firstOf h_F_lastOf h_F_jobOf h_F_machineOf h_F_duration h_F_nextOf h_F_arcs h_F_head h_F_tail h_F_kept cI F_jobs F_size F_firstOf F_lastOf F_jobOf F_machineOf F_duration F_nextOf F_arcs F_head F_tail F_kept))) (va_runV (As := [.int a0]) (rest := []) ⟨hx, hb, hml, hown, hts⟩ (c_X0_isOperation l dC dI h_F h_F_firstOf h_F_lastOf h_F_jobOf h_F_machineOf h_F_duration h_F_nextOf h_F_arcs h_F_head h_F_tail h_F_kept H.size cI F_jobs F_size F_firstOf F_lastOf F_jobOf F_machineOf F_duration F_nextOf F_arcs F_head F_tail F_kept a0 _ hw) (cwV 1 hts gX0_isPair_X0_isOperation rfl rfl rfl (by decide +kernel) ⟨Nat.le_of_ble_eq_true rfl, Nat.le_of_ble_eq_true rfl⟩) (kc_preV (q0 := 0) (ci := 0) hK hPx hDx [0] rfl rfl rfl hN) rfl rfl hl.1 rfl (lv_room (Nat.le_of_ble_eq_true rfl)) dX0_isPair_2 ⟨Nat.zero_le _, Nat.zero_le _⟩) hPx hDx hS hA (fun r_2 u H locs hw hP hD hS => ?_)
  have hP : va_P (dC, dI) vwCl (wF h_F h_F_firstOf h_F_lastOf h_F_jobOf h_F_machineOf h_F_duration h_F_nextOf h_F_arcs h_F_head h_F_tail h_F_kept cI F_jobs F_size F_firstOf F_lastOf F_jobOf F_machineOf F_duration F_nextOf F_arcs F_head F_tail F_kept) H := hP
  have hD : va_D A (wF h_F h_F_firstOf h_F_lastOf h_F_jobOf h_F_machineOf h_F_duration h_F_nextOf h_F_arcs h_F_head h_F_tail h_F_kept cI F_jobs F_size F_firstOf F_lastOf F_jobOf F_machineOf F_duration F_nextOf F_arcs F_head F_tail F_kept) := hD
  refine lv_if_eq (tgt := 40) (pc := 5) hx hb dX0_isPair_5 (by decide) (fun c_1 => ?_) (fun c_1 => ?_)
  · have hw := hw.1 c_1
    refine lv_iconst (v := 0) (pc := 40) hx hb dX0_isPair_40 (by decide) ?_
    exact W.zret (v := 0) hx hb hr rfl (fun t ht hW => ⟨⟨0, (), rfl, hw, by rw [ht]; exact hP, va_K.moved hW.alike hK, hD⟩, hS.F ht⟩) hS.2.2 dX0_isPair_41
  · have hw := hw.2 c_1
    refine lv_aload_n (pc := 8) hx hb dX0_isPair_8 rfl (lv_at hl 0 rfl) ?_
    refine lv_iload_n (pc := 9) hx hb dX0_isPair_9 rfl (lv_at hl 2 rfl) ?_
    have hPx : va_P (dC, dI) vwCl ([] ++ (wF h_F h_F_firstOf h_F_lastOf h_F_jobOf h_F_machineOf h_F_duration h_F_nextOf h_F_arcs h_F_head h_F_tail h_F_kept cI F_jobs F_size F_firstOf F_lastOf F_jobOf F_machineOf F_duration F_nextOf F_arcs F_head F_tail F_kept)) H := hP
    have hDx : va_D A ([] ++ (wF h_F h_F_firstOf h_F_lastOf h_F_jobOf h_F_machineOf h_F_duration h_F_nextOf h_F_arcs h_F_head h_F_tail h_F_kept cI F_jobs F_size F_firstOf F_lastOf F_jobOf F_machineOf F_duration F_nextOf F_arcs F_head F_tail F_kept)) := hD
    refine kc_i (pc := 10) (w1 := (fun u : Unit => (wF h_F h_F_firstOf h_F_lastOf h_F_jobOf h_F_machineOf h_F_duration h_F_nextOf h_F_arcs h_F_head h_F_tail h_F_kept cI F_jobs F_size F_firstOf F_lastOf F_jobOf F_machineOf F_duration F_nextOf F_arcs F_head F_tail F_kept))) (va_runV (As := [.int a1]) (rest := []) ⟨hx, hb, hml, hown, hts⟩ (c_X0_isOperation l dC dI h_F h_F_firstOf h_F_lastOf h_F_jobOf h_F_machineOf h_F_duration h_F_nextOf h_F_arcs h_F_head h_F_tail h_F_kept H.size cI F_jobs F_size F_firstOf F_lastOf F_jobOf F_machineOf F_duration F_nextOf F_arcs F_head F_tail F_kept a1 _ hw) (cwV 1 hts gX0_isPair_X0_isOperation rfl rfl rfl (by decide +kernel) ⟨Nat.le_of_ble_eq_true rfl, Nat.le_of_ble_eq_true rfl⟩) (kc_preV (q0 := 0) (ci := 0) hK hPx hDx [0] rfl rfl rfl hN) rfl rfl hl.1 rfl (lv_room (Nat.le_of_ble_eq_true rfl)) dX0_isPair_10 ⟨Nat.zero_le _, Nat.zero_le _⟩) hPx hDx hS hA (fun r_10 u H locs hw hP hD hS => ?_)
    have hP : va_P (dC, dI) vwCl (wF h_F h_F_firstOf h_F_lastOf h_F_jobOf h_F_machineOf h_F_duration h_F_nextOf h_F_arcs h_F_head h_F_tail h_F_kept cI F_jobs F_size F_firstOf F_lastOf F_jobOf F_machineOf F_duration F_nextOf F_arcs F_head F_tail F_kept) H := hP
    have hD : va_D A (wF h_F h_F_firstOf h_F_lastOf h_F_jobOf h_F_machineOf h_F_duration h_F_nextOf h_F_arcs h_F_head h_F_tail h_F_kept cI F_jobs F_size F_firstOf F_lastOf F_jobOf F_machineOf F_duration F_nextOf F_arcs F_head F_tail F_kept) := hD
    refine lv_if_eq (tgt := 40) (pc := 13) hx hb dX0_isPair_13 (by decide) (fun c_2 => ?_) (fun c_2 => ?_)
    · have hw := hw.1 c_2
      refine lv_iconst (v := 0) (pc := 40) hx hb dX0_isPair_40 (by decide) ?_
      exact W.zret (v := 0) hx hb hr rfl (fun t ht hW => ⟨⟨0, (), rfl, hw, by rw [ht]; exact hP, va_K.moved hW.alike hK, hD⟩, hS.F ht⟩) hS.2.2 dX0_isPair_41
    · have hw := hw.2 c_2
      refine lv_iload_n (pc := 16) hx hb dX0_isPair_16 rfl (lv_at hl 1 rfl) ?_
      refine lv_iload_n (pc := 17) hx hb dX0_isPair_17 rfl (lv_at hl 2 rfl) ?_
      refine lv_icmp_eq (tgt := 40) (pc := 18) hx hb dX0_isPair_18 (by decide) (fun c_3 => ?_) (fun c_3 => ?_)
      · have hw := hw.1 c_3
        refine lv_iconst (v := 0) (pc := 40) hx hb dX0_isPair_40 (by decide) ?_
        exact W.zret (v := 0) hx hb hr rfl (fun t ht hW => ⟨⟨0, (), rfl, hw, by rw [ht]; exact hP, va_K.moved hW.alike hK, hD⟩, hS.F ht⟩) hS.2.2 dX0_isPair_41
      · have hw := hw.2 c_3
        refine lv_aload_n (pc := 21) hx hb dX0_isPair_21 rfl (lv_at hl 0 rfl) ?_
        refine va_get (D := (dC, dI)) (ci := 0) (v := .ref h_F_machineOf) (C := RX0) (T := TX0) (N := 12) (pc := 22) hx hb hts hin_X0 hown hK hP 0 rfl rfl 5 (by decide) (hts (.fieldLink RX0 21 "JobShop$Floor" "machineOf" "[I") (by decide +kernel)) (fun _ h9 => h9) rfl dX0_isPair_22 ?_
        refine lv_iload_n (pc := 25) hx hb dX0_isPair_25 rfl (lv_at hl 1 rfl) ?_
        obtain ⟨b_4, hw⟩ := hw
        refine va_iald (pc := 26) hx hb hK hP 4 0 rfl rfl b_4 dX0_isPair_26 ?_
        refine lv_aload_n (pc := 27) hx hb dX0_isPair_27 rfl (lv_at hl 0 rfl) ?_
        refine va_get (D := (dC, dI)) (ci := 0) (v := .ref h_F_machineOf) (C := RX0) (T := TX0) (N := 12) (pc := 28) hx hb hts hin_X0 hown hK hP 0 rfl rfl 5 (by decide) (hts (.fieldLink RX0 21 "JobShop$Floor" "machineOf" "[I") (by decide +kernel)) (fun _ h9 => h9) rfl dX0_isPair_28 ?_
        refine lv_iload_n (pc := 31) hx hb dX0_isPair_31 rfl (lv_at hl 2 rfl) ?_
        obtain ⟨b_5, hw⟩ := hw
        refine va_iald (pc := 32) hx hb hK hP 4 0 rfl rfl b_5 dX0_isPair_32 ?_
        refine lv_icmp_ne (tgt := 40) (pc := 33) hx hb dX0_isPair_33 (by decide) (fun c_6 => ?_) (fun c_6 => ?_)
        · have hw := hw.1 c_6
          refine lv_iconst (v := 0) (pc := 40) hx hb dX0_isPair_40 (by decide) ?_
          exact W.zret (v := 0) hx hb hr rfl (fun t ht hW => ⟨⟨0, (), rfl, hw, by rw [ht]; exact hP, va_K.moved hW.alike hK, hD⟩, hS.F ht⟩) hS.2.2 dX0_isPair_41
        · have hw := hw.2 c_6
          refine lv_iconst (v := 1) (pc := 36) hx hb dX0_isPair_36 (by decide) ?_
          refine lv_goto (tgt := 41) (pc := 37) hx hb dX0_isPair_37 (by decide) ?_
          exact W.zret (v := 1) hx hb hr rfl (fun t ht hW => ⟨⟨1, (), rfl, hw, by rw [ht]; exact hP, va_K.moved hW.alike hK, hD⟩, hS.F ht⟩) hS.2.2 dX0_isPair_41
set_option maxHeartbeats 4000000 in
set_option maxRecDepth 100000 in
theorem c_X0_addJob (l : Launch) (dC : Nat → ClassId) (dI : Nat → Nat → Nat) (h_F h_F_firstOf h_F_lastOf h_F_jobOf h_F_machineOf h_F_duration h_F_nextOf h_F_arcs h_F_head h_F_tail h_F_kept : Nat) (sz : Nat) (cI : ClassId) (F_jobs : Int32) (F_size : Int32) (F_firstOf : Nat → Int32) (F_lastOf : Nat → Int32) (F_jobOf : Nat → Int32) (F_machineOf : Nat → Int32) (F_duration : Nat → Int32) (F_nextOf : Nat → Int32) (F_arcs : Nat → Int32) (F_head : Nat → Int32) (F_tail : Nat → Int32) (F_kept : Nat → Int32) (post : Int32 → Int32 → (Nat → Int32) → (Nat → Int32) → Prop) (hw : wp_X0_addJob F_jobs F_firstOf F_lastOf post) : Met l yX0_addJob wsX0_addJob ({ frames := 0, cells := 0, slots := 0, locals := 0 }) (va_Pc [.ref h_F] (fun U => U.heap.size = sz ∧ va_P (dC, dI) vwCl (wF h_F h_F_firstOf h_F_lastOf h_F_jobOf h_F_machineOf h_F_duration h_F_nextOf h_F_arcs h_F_head h_F_tail h_F_kept cI F_jobs F_size F_firstOf F_lastOf F_jobOf F_machineOf F_duration F_nextOf F_arcs F_head F_tail F_kept) U.heap ∧ va_K (dC, dI) vwCl [(cI, .int)] U ∧ va_D (fun _ => True) (wF h_F h_F_firstOf h_F_lastOf h_F_jobOf h_F_machineOf h_F_duration h_F_nextOf h_F_arcs h_F_head h_F_tail h_F_kept cI F_jobs F_size F_firstOf F_lastOf F_jobOf F_machineOf F_duration F_nextOf F_arcs F_head F_tail F_kept) ∧ nw U)) (va_Qi (fun (r : Int32) (u : Int32 × (Nat → Int32) × (Nat → Int32)) => post r u.1 u.2.1 u.2.2) (fun u t => va_P (dC, dI) vwCl (wF h_F h_F_firstOf h_F_lastOf h_F_jobOf h_F_machineOf h_F_duration h_F_nextOf h_F_arcs h_F_head h_F_tail h_F_kept cI u.1 F_size u.2.1 u.2.2 F_jobOf F_machineOf F_duration F_nextOf F_arcs F_head F_tail F_kept) t.heap ∧ va_K (dC, dI) vwCl [(cI, .int)] t ∧ va_D (va_A (wF h_F h_F_firstOf h_F_lastOf h_F_jobOf h_F_machineOf h_F_duration h_F_nextOf h_F_arcs h_F_head h_F_tail h_F_kept cI F_jobs F_size F_firstOf F_lastOf F_jobOf F_machineOf F_duration F_nextOf F_arcs F_head F_tail F_kept) sz) (wF h_F h_F_firstOf h_F_lastOf h_F_jobOf h_F_machineOf h_F_duration h_F_nextOf h_F_arcs h_F_head h_F_tail h_F_kept cI u.1 F_size u.2.1 u.2.2 F_jobOf F_machineOf F_duration F_nextOf F_arcs F_head F_tail F_kept)) (va_A (wF h_F h_F_firstOf h_F_lastOf h_F_jobOf h_F_machineOf h_F_duration h_F_nextOf h_F_arcs h_F_head h_F_tail h_F_kept cI F_jobs F_size F_firstOf F_lastOf F_jobOf F_machineOf F_duration F_nextOf F_arcs F_head F_tail F_kept) sz)) 0 0 (va_A (wF h_F h_F_firstOf h_F_lastOf h_F_jobOf h_F_machineOf h_F_duration h_F_nextOf h_F_arcs h_F_head h_F_tail h_F_kept cI F_jobs F_size F_firstOf F_lastOf F_jobOf F_machineOf F_duration F_nextOf F_arcs F_head F_tail F_kept) sz) := by
  refine Met.ofW (cc := cX0_addJob) (maxL := 2) (ret := (some .int)) (by decide) rfl ?_
  intro p e s m args below meth c s₁ B hml hv
  obtain ⟨rfl, hsz, hP, hK, hD0, hN⟩ := hv
  have hx := B.exec
  have hb := B.bytes
  have hr := B.returns
  have hts := atoms_spec (ws := wsX0_addJob) B.pre
  have hown : s.vm.findClass RX0 = some m.cls := findClass_of_methodNamed B.named
  have hlocks := B.notSynchronized
  subst hsz
  have hD := hD0.self (sz := s.heap.size)
  generalize hAe : va_A (wF h_F h_F_firstOf h_F_lastOf h_F_jobOf h_F_machineOf h_F_duration h_F_nextOf h_F_arcs h_F_head h_F_tail h_F_kept cI F_jobs F_size F_firstOf F_lastOf F_jobOf F_machineOf F_duration F_nextOf F_arcs F_head F_tail F_kept) s.heap.size = A at hD ⊢
  have hA : ∀ q : Nat, s.heap.size ≤ q → A q := fun q h => by rw [← hAe]; exact Or.inr h
  have hS : va_S A s.heap s.heap [] := va_S.rf
  have hP : va_P (dC, dI) vwCl (wF h_F h_F_firstOf h_F_lastOf h_F_jobOf h_F_machineOf h_F_duration h_F_nextOf h_F_arcs h_F_head h_F_tail h_F_kept cI F_jobs F_size F_firstOf F_lastOf F_jobOf F_machineOf F_duration F_nextOf F_arcs F_head F_tail F_kept) s.heap := hP
  have hl := lv_entry ([.ref h_F]) (n := 2) (Nat.le_of_ble_eq_true rfl)
  rw [lg_entry_eq]
  generalize (lg_sl ([.ref h_F]) ++ List.replicate (2 - (lg_sl ([.ref h_F])).length) Slot.unset).toArray = ls at hl ⊢
  have hl : lv_has ls 2 [(0, .ref h_F)] := hl
  obtain ⟨H, hH⟩ : ∃ H, H = s.heap := ⟨_, rfl⟩
  rw [← hH] at hP
  have hS : va_S A s.heap H [] := by rw [hH]; exact hS
  refine W_heap hH ?_
  unfold wp_X0_addJob at hw
  have hin_X0 : ∀ w ∈ u_ws RX0 TX0 12, w ∈ wsX0_addJob := by decide +kernel
  refine lv_aload_n (pc := 0) hx hb dX0_addJob_0 rfl (lv_at hl 0 rfl) ?_
  refine va_get (D := (dC, dI)) (ci := 0) (v := .int F_jobs) (C := RX0) (T := TX0) (N := 12) (pc := 1) hx hb hts hin_X0 hown hK hP 0 rfl rfl 0 (by decide) (hts (.fieldLink RX0 42 "JobShop$Floor" "jobs" "I") (by decide +kernel)) (fun _ h9 => h9) rfl dX0_addJob_1 ?_
  refine lv_istore_n (lv' := [(1, .int F_jobs), (0, .ref h_F)]) (pc := 4) hx hb dX0_addJob_4 rfl hl (by decide) rfl (fun ls hl => ?_)
  refine lv_aload_n (pc := 5) hx hb dX0_addJob_5 rfl (lv_at hl 1 rfl) ?_
  refine va_get (D := (dC, dI)) (ci := 0) (v := .ref h_F_firstOf) (C := RX0) (T := TX0) (N := 12) (pc := 6) hx hb hts hin_X0 hown hK hP 0 rfl rfl 2 (by decide) (hts (.fieldLink RX0 9 "JobShop$Floor" "firstOf" "[I") (by decide +kernel)) (fun _ h9 => h9) rfl dX0_addJob_6 ?_
  refine lv_iload_n (pc := 9) hx hb dX0_addJob_9 rfl (lv_at hl 0 rfl) ?_
  refine lv_iconst (v := (-1)) (pc := 10) hx hb dX0_addJob_10 (by decide) ?_
  obtain ⟨b_1, hw⟩ := hw
  refine va_iast (pc := 11) hx hb hK hP hD hS 1 0 rfl rfl b_1 dX0_addJob_11 (fun H locs hP hD hS => ?_)
  have hP : va_P (dC, dI) vwCl (wF h_F h_F_firstOf h_F_lastOf h_F_jobOf h_F_machineOf h_F_duration h_F_nextOf h_F_arcs h_F_head h_F_tail h_F_kept cI F_jobs F_size (upd F_firstOf F_jobs.toNatClampNeg (-1)) F_lastOf F_jobOf F_machineOf F_duration F_nextOf F_arcs F_head F_tail F_kept) H := hP
  have hD : va_D A (wF h_F h_F_firstOf h_F_lastOf h_F_jobOf h_F_machineOf h_F_duration h_F_nextOf h_F_arcs h_F_head h_F_tail h_F_kept cI F_jobs F_size (upd F_firstOf F_jobs.toNatClampNeg (-1)) F_lastOf F_jobOf F_machineOf F_duration F_nextOf F_arcs F_head F_tail F_kept) := hD
  refine lv_aload_n (pc := 12) hx hb dX0_addJob_12 rfl (lv_at hl 1 rfl) ?_
  refine va_get (D := (dC, dI)) (ci := 0) (v := .ref h_F_lastOf) (C := RX0) (T := TX0) (N := 12) (pc := 13) hx hb hts hin_X0 hown hK hP 0 rfl rfl 3 (by decide) (hts (.fieldLink RX0 15 "JobShop$Floor" "lastOf" "[I") (by decide +kernel)) (fun _ h9 => h9) rfl dX0_addJob_13 ?_
  refine lv_iload_n (pc := 16) hx hb dX0_addJob_16 rfl (lv_at hl 0 rfl) ?_
  refine lv_iconst (v := (-1)) (pc := 17) hx hb dX0_addJob_17 (by decide) ?_
  obtain ⟨b_2, hw⟩ := hw
  refine va_iast (pc := 18) hx hb hK hP hD hS 2 0 rfl rfl b_2 dX0_addJob_18 (fun H locs hP hD hS => ?_)
  have hP : va_P (dC, dI) vwCl (wF h_F h_F_firstOf h_F_lastOf h_F_jobOf h_F_machineOf h_F_duration h_F_nextOf h_F_arcs h_F_head h_F_tail h_F_kept cI F_jobs F_size (upd F_firstOf F_jobs.toNatClampNeg (-1)) (upd F_lastOf F_jobs.toNatClampNeg (-1)) F_jobOf F_machineOf F_duration F_nextOf F_arcs F_head F_tail F_kept) H := hP
  have hD : va_D A (wF h_F h_F_firstOf h_F_lastOf h_F_jobOf h_F_machineOf h_F_duration h_F_nextOf h_F_arcs h_F_head h_F_tail h_F_kept cI F_jobs F_size (upd F_firstOf F_jobs.toNatClampNeg (-1)) (upd F_lastOf F_jobs.toNatClampNeg (-1)) F_jobOf F_machineOf F_duration F_nextOf F_arcs F_head F_tail F_kept) := hD
  refine lv_aload_n (pc := 19) hx hb dX0_addJob_19 rfl (lv_at hl 1 rfl) ?_
  refine lv_dup (pc := 20) hx hb dX0_addJob_20 rfl ?_
  refine va_get (D := (dC, dI)) (ci := 0) (v := .int F_jobs) (C := RX0) (T := TX0) (N := 12) (pc := 21) hx hb hts hin_X0 hown hK hP 0 rfl rfl 0 (by decide) (hts (.fieldLink RX0 42 "JobShop$Floor" "jobs" "I") (by decide +kernel)) (fun _ h9 => h9) rfl dX0_addJob_21 ?_
  refine lv_iconst (v := 1) (pc := 24) hx hb dX0_addJob_24 (by decide) ?_
  refine lv_iadd (pc := 25) hx hb dX0_addJob_25 ?_
  refine va_put (D := (dC, dI)) (ci := 0) (v := .int (F_jobs + 1)) (ty := .int) (C := RX0) (T := TX0) (N := 12) (pc := 26) hx hb hts hin_X0 tyX0 tyX0_ok nmX0 hown hK hP hD hS 0 rfl rfl 0 (by decide) (hts (.fieldLink RX0 42 "JobShop$Floor" "jobs" "I") (by decide +kernel)) (fun _ h9 => h9) rfl (by decide +kernel) rfl rfl (Nat.le_of_ble_eq_true rfl) dX0_addJob_26 (fun H locs hP hD hS => ?_)
  have hP : va_P (dC, dI) vwCl (wF h_F h_F_firstOf h_F_lastOf h_F_jobOf h_F_machineOf h_F_duration h_F_nextOf h_F_arcs h_F_head h_F_tail h_F_kept cI (F_jobs + 1) F_size (upd F_firstOf F_jobs.toNatClampNeg (-1)) (upd F_lastOf F_jobs.toNatClampNeg (-1)) F_jobOf F_machineOf F_duration F_nextOf F_arcs F_head F_tail F_kept) H := hP
  have hD : va_D A (wF h_F h_F_firstOf h_F_lastOf h_F_jobOf h_F_machineOf h_F_duration h_F_nextOf h_F_arcs h_F_head h_F_tail h_F_kept cI (F_jobs + 1) F_size (upd F_firstOf F_jobs.toNatClampNeg (-1)) (upd F_lastOf F_jobs.toNatClampNeg (-1)) F_jobOf F_machineOf F_duration F_nextOf F_arcs F_head F_tail F_kept) := hD
  refine lv_iload_n (pc := 29) hx hb dX0_addJob_29 rfl (lv_at hl 0 rfl) ?_
  exact W.iret (v := F_jobs) hx hb hr (fun t ht hW => ⟨⟨F_jobs, ((F_jobs + 1), (upd F_firstOf F_jobs.toNatClampNeg (-1)), (upd F_lastOf F_jobs.toNatClampNeg (-1))), rfl, hw, by rw [ht]; exact hP, va_K.moved hW.alike hK, hD⟩, hS.F ht⟩) hS.2.2 dX0_addJob_30
set_option maxHeartbeats 4000000 in
set_option maxRecDepth 100000 in
theorem c_X0_visits (l : Launch) (dC : Nat → ClassId) (dI : Nat → Nat → Nat) (h_F h_F_firstOf h_F_lastOf h_F_jobOf h_F_machineOf h_F_duration h_F_nextOf h_F_arcs h_F_head h_F_tail h_F_kept : Nat) (sz : Nat) (cI : ClassId) (F_jobs : Int32) (F_size : Int32) (F_firstOf : Nat → Int32) (F_lastOf : Nat → Int32) (F_jobOf : Nat → Int32) (F_machineOf : Nat → Int32) (F_duration : Nat → Int32) (F_nextOf : Nat → Int32) (F_arcs : Nat → Int32) (F_head : Nat → Int32) (F_tail : Nat → Int32) (F_kept : Nat → Int32) (a0 a1 : Int32) (post : Int32 → Prop) (hw : wp_X0_visits F_size F_jobOf F_machineOf a0 a1 post) : Met l yX0_visits wsX0_visits ({ frames := 0, cells := 0, slots := 0, locals := 0 }) (va_Pc [.ref h_F, .int a0, .int a1] (fun U => U.heap.size = sz ∧ va_P (dC, dI) vwCl (wF h_F h_F_firstOf h_F_lastOf h_F_jobOf h_F_machineOf h_F_duration h_F_nextOf h_F_arcs h_F_head h_F_tail h_F_kept cI F_jobs F_size F_firstOf F_lastOf F_jobOf F_machineOf F_duration F_nextOf F_arcs F_head F_tail F_kept) U.heap ∧ va_K (dC, dI) vwCl [(cI, .int)] U ∧ va_D (fun _ => True) (wF h_F h_F_firstOf h_F_lastOf h_F_jobOf h_F_machineOf h_F_duration h_F_nextOf h_F_arcs h_F_head h_F_tail h_F_kept cI F_jobs F_size F_firstOf F_lastOf F_jobOf F_machineOf F_duration F_nextOf F_arcs F_head F_tail F_kept) ∧ nw U)) (va_Qi (fun (r : Int32) (u : Unit) => post r ) (fun u t => va_P (dC, dI) vwCl (wF h_F h_F_firstOf h_F_lastOf h_F_jobOf h_F_machineOf h_F_duration h_F_nextOf h_F_arcs h_F_head h_F_tail h_F_kept cI F_jobs F_size F_firstOf F_lastOf F_jobOf F_machineOf F_duration F_nextOf F_arcs F_head F_tail F_kept) t.heap ∧ va_K (dC, dI) vwCl [(cI, .int)] t ∧ va_D (va_A (wF h_F h_F_firstOf h_F_lastOf h_F_jobOf h_F_machineOf h_F_duration h_F_nextOf h_F_arcs h_F_head h_F_tail h_F_kept cI F_jobs F_size F_firstOf F_lastOf F_jobOf F_machineOf F_duration F_nextOf F_arcs F_head F_tail F_kept) sz) (wF h_F h_F_firstOf h_F_lastOf h_F_jobOf h_F_machineOf h_F_duration h_F_nextOf h_F_arcs h_F_head h_F_tail h_F_kept cI F_jobs F_size F_firstOf F_lastOf F_jobOf F_machineOf F_duration F_nextOf F_arcs F_head F_tail F_kept)) (va_A (wF h_F h_F_firstOf h_F_lastOf h_F_jobOf h_F_machineOf h_F_duration h_F_nextOf h_F_arcs h_F_head h_F_tail h_F_kept cI F_jobs F_size F_firstOf F_lastOf F_jobOf F_machineOf F_duration F_nextOf F_arcs F_head F_tail F_kept) sz)) 0 0 (va_A (wF h_F h_F_firstOf h_F_lastOf h_F_jobOf h_F_machineOf h_F_duration h_F_nextOf h_F_arcs h_F_head h_F_tail h_F_kept cI F_jobs F_size F_firstOf F_lastOf F_jobOf F_machineOf F_duration F_nextOf F_arcs F_head F_tail F_kept) sz) := by
  refine Met.ofW (cc := cX0_visits) (maxL := 4) (ret := (some .boolean)) (by decide) rfl ?_
  intro p e s m args below meth c s₁ B hml hv
  obtain ⟨rfl, hsz, hP, hK, hD0, hN⟩ := hv
  have hx := B.exec
  have hb := B.bytes
  have hr := B.returns
  have hts := atoms_spec (ws := wsX0_visits) B.pre
  have hown : s.vm.findClass RX0 = some m.cls := findClass_of_methodNamed B.named
  have hlocks := B.notSynchronized
  subst hsz
  have hD := hD0.self (sz := s.heap.size)
  generalize hAe : va_A (wF h_F h_F_firstOf h_F_lastOf h_F_jobOf h_F_machineOf h_F_duration h_F_nextOf h_F_arcs h_F_head h_F_tail h_F_kept cI F_jobs F_size F_firstOf F_lastOf F_jobOf F_machineOf F_duration F_nextOf F_arcs F_head F_tail F_kept) s.heap.size = A at hD ⊢
  have hA : ∀ q : Nat, s.heap.size ≤ q → A q := fun q h => by rw [← hAe]; exact Or.inr h
  have hS : va_S A s.heap s.heap [] := va_S.rf
  have hP : va_P (dC, dI) vwCl (wF h_F h_F_firstOf h_F_lastOf h_F_jobOf h_F_machineOf h_F_duration h_F_nextOf h_F_arcs h_F_head h_F_tail h_F_kept cI F_jobs F_size F_firstOf F_lastOf F_jobOf F_machineOf F_duration F_nextOf F_arcs F_head F_tail F_kept) s.heap := hP
  have hl := lv_entry ([.ref h_F, .int a0, .int a1]) (n := 4) (Nat.le_of_ble_eq_true rfl)
  rw [lg_entry_eq]
  generalize (lg_sl ([.ref h_F, .int a0, .int a1]) ++ List.replicate (4 - (lg_sl ([.ref h_F, .int a0, .int a1])).length) Slot.unset).toArray = ls at hl ⊢
  have hl : lv_has ls 4 [(0, .ref h_F), (1, .int a0), (2, .int a1)] := hl
  obtain ⟨H, hH⟩ : ∃ H, H = s.heap := ⟨_, rfl⟩
  rw [← hH] at hP
  have hS : va_S A s.heap H [] := by rw [hH]; exact hS
  refine W_heap hH ?_
  unfold wp_X0_visits at hw
  have hin_X0 : ∀ w ∈ u_ws RX0 TX0 12, w ∈ wsX0_visits := by decide +kernel
  refine lv_iconst (v := 0) (pc := 0) hx hb dX0_visits_0 (by decide) ?_
  refine lv_istore_n (lv' := [(3, .int 0), (0, .ref h_F), (1, .int a0), (2, .int a1)]) (pc := 1) hx hb dX0_visits_1 rfl hl (by decide) rfl (fun ls hl => ?_)
  obtain ⟨I_2, μ_2, hI_2, hs_2⟩ := hw
  refine lp_W (I := fun z : Int32 => I_2 z) (fun z => μ_2 z) (fun (z : Int32) H locs ls => va_P (dC, dI) vwCl (wF h_F h_F_firstOf h_F_lastOf h_F_jobOf h_F_machineOf h_F_duration h_F_nextOf h_F_arcs h_F_head h_F_tail h_F_kept cI F_jobs F_size F_firstOf F_lastOf F_jobOf F_machineOf F_duration F_nextOf F_arcs F_head F_tail F_kept) H ∧ va_D A (wF h_F h_F_firstOf h_F_lastOf h_F_jobOf h_F_machineOf h_F_duration h_F_nextOf h_F_arcs h_F_head h_F_tail h_F_kept cI F_jobs F_size F_firstOf F_lastOf F_jobOf F_machineOf F_duration F_nextOf F_arcs F_head F_tail F_kept) ∧ va_S A s.heap H locs ∧ lv_has ls 4 [(0, .ref h_F), (1, .int a0), (2, .int a1), (3, .int z)]) ?_ 0 _ _ _ hI_2 ⟨hP, hD, hS, (lv_sub hl [1, 2, 3, 0] rfl)⟩
  rintro x3_2 H locs ls hI ⟨hP, hD, hS, hl⟩ ih_2
  have hw := hs_2 x3_2 hI
  have hP : va_P (dC, dI) vwCl (wF h_F h_F_firstOf h_F_lastOf h_F_jobOf h_F_machineOf h_F_duration h_F_nextOf h_F_arcs h_F_head h_F_tail h_F_kept cI F_jobs F_size F_firstOf F_lastOf F_jobOf F_machineOf F_duration F_nextOf F_arcs F_head F_tail F_kept) H := hP
  have hD : va_D A (wF h_F h_F_firstOf h_F_lastOf h_F_jobOf h_F_machineOf h_F_duration h_F_nextOf h_F_arcs h_F_head h_F_tail h_F_kept cI F_jobs F_size F_firstOf F_lastOf F_jobOf F_machineOf F_duration F_nextOf F_arcs F_head F_tail F_kept) := hD
  have hl : lv_has ls 4 [(0, .ref h_F), (1, .int a0), (2, .int a1), (3, .int x3_2)] := hl
  refine lv_iload_n (pc := 2) hx hb dX0_visits_2 rfl (lv_at hl 3 rfl) ?_
  refine lv_aload_n (pc := 3) hx hb dX0_visits_3 rfl (lv_at hl 0 rfl) ?_
  refine va_get (D := (dC, dI)) (ci := 0) (v := .int F_size) (C := RX0) (T := TX0) (N := 12) (pc := 4) hx hb hts hin_X0 hown hK hP 0 rfl rfl 1 (by decide) (hts (.fieldLink RX0 46 "JobShop$Floor" "size" "I") (by decide +kernel)) (fun _ h9 => h9) rfl dX0_visits_4 ?_
  refine lv_icmp_ge (tgt := 38) (pc := 7) hx hb dX0_visits_7 (by decide) (fun c_1 => ?_) (fun c_1 => ?_)
  · have hw := hw.1 c_1
    refine lv_iconst (v := 0) (pc := 38) hx hb dX0_visits_38 (by decide) ?_
    exact W.zret (v := 0) hx hb hr rfl (fun t ht hW => ⟨⟨0, (), rfl, hw, by rw [ht]; exact hP, va_K.moved hW.alike hK, hD⟩, hS.F ht⟩) hS.2.2 dX0_visits_39
  · have hw := hw.2 c_1
    refine lv_aload_n (pc := 10) hx hb dX0_visits_10 rfl (lv_at hl 0 rfl) ?_
    refine va_get (D := (dC, dI)) (ci := 0) (v := .ref h_F_jobOf) (C := RX0) (T := TX0) (N := 12) (pc := 11) hx hb hts hin_X0 hown hK hP 0 rfl rfl 4 (by decide) (hts (.fieldLink RX0 18 "JobShop$Floor" "jobOf" "[I") (by decide +kernel)) (fun _ h9 => h9) rfl dX0_visits_11 ?_
    refine lv_iload_n (pc := 14) hx hb dX0_visits_14 rfl (lv_at hl 3 rfl) ?_
    obtain ⟨b_2, hw⟩ := hw
    refine va_iald (pc := 15) hx hb hK hP 3 0 rfl rfl b_2 dX0_visits_15 ?_
    refine lv_iload_n (pc := 16) hx hb dX0_visits_16 rfl (lv_at hl 1 rfl) ?_
    refine lv_icmp_ne (tgt := 32) (pc := 17) hx hb dX0_visits_17 (by decide) (fun c_3 => ?_) (fun c_3 => ?_)
    · have hw := hw.1 c_3
      refine lv_iinc (v := x3_2 + 1) (lv' := [(3, .int (x3_2 + 1)), (0, .ref h_F), (1, .int a0), (2, .int a1)]) (pc := 32) hx hb dX0_visits_32 hl (k := 3) rfl rfl (by decide) rfl (fun ls hl => ?_)
      refine lv_goto (tgt := 2) (pc := 35) hx hb dX0_visits_35 (by decide) ?_
      exact ih_2 (x3_2 + 1) _ _ _ hw.1 hw.2 ⟨hP, hD, hS, (lv_sub hl [1, 2, 3, 0] rfl)⟩
    · have hw := hw.2 c_3
      refine lv_aload_n (pc := 20) hx hb dX0_visits_20 rfl (lv_at hl 0 rfl) ?_
      refine va_get (D := (dC, dI)) (ci := 0) (v := .ref h_F_machineOf) (C := RX0) (T := TX0) (N := 12) (pc := 21) hx hb hts hin_X0 hown hK hP 0 rfl rfl 5 (by decide) (hts (.fieldLink RX0 21 "JobShop$Floor" "machineOf" "[I") (by decide +kernel)) (fun _ h9 => h9) rfl dX0_visits_21 ?_
      refine lv_iload_n (pc := 24) hx hb dX0_visits_24 rfl (lv_at hl 3 rfl) ?_
      obtain ⟨b_4, hw⟩ := hw
      refine va_iald (pc := 25) hx hb hK hP 4 0 rfl rfl b_4 dX0_visits_25 ?_
      refine lv_iload_n (pc := 26) hx hb dX0_visits_26 rfl (lv_at hl 2 rfl) ?_
      refine lv_icmp_ne (tgt := 32) (pc := 27) hx hb dX0_visits_27 (by decide) (fun c_5 => ?_) (fun c_5 => ?_)
      · have hw := hw.1 c_5
        refine lv_iinc (v := x3_2 + 1) (lv' := [(3, .int (x3_2 + 1)), (0, .ref h_F), (1, .int a0), (2, .int a1)]) (pc := 32) hx hb dX0_visits_32 hl (k := 3) rfl rfl (by decide) rfl (fun ls hl => ?_)
        refine lv_goto (tgt := 2) (pc := 35) hx hb dX0_visits_35 (by decide) ?_
        exact ih_2 (x3_2 + 1) _ _ _ hw.1 hw.2 ⟨hP, hD, hS, (lv_sub hl [1, 2, 3, 0] rfl)⟩
      · have hw := hw.2 c_5
        refine lv_iconst (v := 1) (pc := 30) hx hb dX0_visits_30 (by decide) ?_
        exact W.zret (v := 1) hx hb hr rfl (fun t ht hW => ⟨⟨1, (), rfl, hw, by rw [ht]; exact hP, va_K.moved hW.alike hK, hD⟩, hS.F ht⟩) hS.2.2 dX0_visits_31
set_option maxHeartbeats 4000000 in
set_option maxRecDepth 100000 in
theorem c_X0_followers (l : Launch) (dC : Nat → ClassId) (dI : Nat → Nat → Nat) (h_F h_F_firstOf h_F_lastOf h_F_jobOf h_F_machineOf h_F_duration h_F_nextOf h_F_arcs h_F_head h_F_tail h_F_kept : Nat) (sz : Nat) (cI : ClassId) (F_jobs : Int32) (F_size : Int32) (F_firstOf : Nat → Int32) (F_lastOf : Nat → Int32) (F_jobOf : Nat → Int32) (F_machineOf : Nat → Int32) (F_duration : Nat → Int32) (F_nextOf : Nat → Int32) (F_arcs : Nat → Int32) (F_head : Nat → Int32) (F_tail : Nat → Int32) (F_kept : Nat → Int32) (a0 : Int32) (post : Int32 → Prop) (hw : wp_X0_followers F_nextOf F_arcs a0 post) : Met l yX0_followers wsX0_followers ({ frames := 0, cells := 0, slots := 0, locals := 0 }) (va_Pc [.ref h_F, .int a0] (fun U => U.heap.size = sz ∧ va_P (dC, dI) vwCl (wF h_F h_F_firstOf h_F_lastOf h_F_jobOf h_F_machineOf h_F_duration h_F_nextOf h_F_arcs h_F_head h_F_tail h_F_kept cI F_jobs F_size F_firstOf F_lastOf F_jobOf F_machineOf F_duration F_nextOf F_arcs F_head F_tail F_kept) U.heap ∧ va_K (dC, dI) vwCl [(cI, .int)] U ∧ va_D (fun _ => True) (wF h_F h_F_firstOf h_F_lastOf h_F_jobOf h_F_machineOf h_F_duration h_F_nextOf h_F_arcs h_F_head h_F_tail h_F_kept cI F_jobs F_size F_firstOf F_lastOf F_jobOf F_machineOf F_duration F_nextOf F_arcs F_head F_tail F_kept) ∧ nw U)) (va_Qi (fun (r : Int32) (u : Unit) => post r ) (fun u t => va_P (dC, dI) vwCl (wF h_F h_F_firstOf h_F_lastOf h_F_jobOf h_F_machineOf h_F_duration h_F_nextOf h_F_arcs h_F_head h_F_tail h_F_kept cI F_jobs F_size F_firstOf F_lastOf F_jobOf F_machineOf F_duration F_nextOf F_arcs F_head F_tail F_kept) t.heap ∧ va_K (dC, dI) vwCl [(cI, .int)] t ∧ va_D (va_A (wF h_F h_F_firstOf h_F_lastOf h_F_jobOf h_F_machineOf h_F_duration h_F_nextOf h_F_arcs h_F_head h_F_tail h_F_kept cI F_jobs F_size F_firstOf F_lastOf F_jobOf F_machineOf F_duration F_nextOf F_arcs F_head F_tail F_kept) sz) (wF h_F h_F_firstOf h_F_lastOf h_F_jobOf h_F_machineOf h_F_duration h_F_nextOf h_F_arcs h_F_head h_F_tail h_F_kept cI F_jobs F_size F_firstOf F_lastOf F_jobOf F_machineOf F_duration F_nextOf F_arcs F_head F_tail F_kept)) (va_A (wF h_F h_F_firstOf h_F_lastOf h_F_jobOf h_F_machineOf h_F_duration h_F_nextOf h_F_arcs h_F_head h_F_tail h_F_kept cI F_jobs F_size F_firstOf F_lastOf F_jobOf F_machineOf F_duration F_nextOf F_arcs F_head F_tail F_kept) sz)) 0 0 (va_A (wF h_F h_F_firstOf h_F_lastOf h_F_jobOf h_F_machineOf h_F_duration h_F_nextOf h_F_arcs h_F_head h_F_tail h_F_kept cI F_jobs F_size F_firstOf F_lastOf F_jobOf F_machineOf F_duration F_nextOf F_arcs F_head F_tail F_kept) sz) := by
  refine Met.ofW (cc := cX0_followers) (maxL := 2) (ret := (some .int)) (by decide) rfl ?_
  intro p e s m args below meth c s₁ B hml hv
  obtain ⟨rfl, hsz, hP, hK, hD0, hN⟩ := hv
  have hx := B.exec
  have hb := B.bytes
  have hr := B.returns
  have hts := atoms_spec (ws := wsX0_followers) B.pre
  have hown : s.vm.findClass RX0 = some m.cls := findClass_of_methodNamed B.named
  have hlocks := B.notSynchronized
  subst hsz
  have hD := hD0.self (sz := s.heap.size)
  generalize hAe : va_A (wF h_F h_F_firstOf h_F_lastOf h_F_jobOf h_F_machineOf h_F_duration h_F_nextOf h_F_arcs h_F_head h_F_tail h_F_kept cI F_jobs F_size F_firstOf F_lastOf F_jobOf F_machineOf F_duration F_nextOf F_arcs F_head F_tail F_kept) s.heap.size = A at hD ⊢
  have hA : ∀ q : Nat, s.heap.size ≤ q → A q := fun q h => by rw [← hAe]; exact Or.inr h
  have hS : va_S A s.heap s.heap [] := va_S.rf
  have hP : va_P (dC, dI) vwCl (wF h_F h_F_firstOf h_F_lastOf h_F_jobOf h_F_machineOf h_F_duration h_F_nextOf h_F_arcs h_F_head h_F_tail h_F_kept cI F_jobs F_size F_firstOf F_lastOf F_jobOf F_machineOf F_duration F_nextOf F_arcs F_head F_tail F_kept) s.heap := hP
  have hl := lv_entry ([.ref h_F, .int a0]) (n := 2) (Nat.le_of_ble_eq_true rfl)
  rw [lg_entry_eq]
  generalize (lg_sl ([.ref h_F, .int a0]) ++ List.replicate (2 - (lg_sl ([.ref h_F, .int a0])).length) Slot.unset).toArray = ls at hl ⊢
  have hl : lv_has ls 2 [(0, .ref h_F), (1, .int a0)] := hl
  obtain ⟨H, hH⟩ : ∃ H, H = s.heap := ⟨_, rfl⟩
  rw [← hH] at hP
  have hS : va_S A s.heap H [] := by rw [hH]; exact hS
  refine W_heap hH ?_
  unfold wp_X0_followers at hw
  have hin_X0 : ∀ w ∈ u_ws RX0 TX0 12, w ∈ wsX0_followers := by decide +kernel
  refine lv_aload_n (pc := 0) hx hb dX0_followers_0 rfl (lv_at hl 0 rfl) ?_
  refine va_get (D := (dC, dI)) (ci := 0) (v := .ref h_F_nextOf) (C := RX0) (T := TX0) (N := 12) (pc := 1) hx hb hts hin_X0 hown hK hP 0 rfl rfl 7 (by decide) (hts (.fieldLink RX0 27 "JobShop$Floor" "nextOf" "[I") (by decide +kernel)) (fun _ h9 => h9) rfl dX0_followers_1 ?_
  refine lv_iload_n (pc := 4) hx hb dX0_followers_4 rfl (lv_at hl 1 rfl) ?_
  obtain ⟨b_1, hw⟩ := hw
  refine va_iald (pc := 5) hx hb hK hP 6 0 rfl rfl b_1 dX0_followers_5 ?_
  refine lv_iconst (v := (-1)) (pc := 6) hx hb dX0_followers_6 (by decide) ?_
  refine lv_icmp_ne (tgt := 19) (pc := 7) hx hb dX0_followers_7 (by decide) (fun c_2 => ?_) (fun c_2 => ?_)
  · have hw := hw.1 c_2
    refine lv_aload_n (pc := 19) hx hb dX0_followers_19 rfl (lv_at hl 0 rfl) ?_
    refine va_get (D := (dC, dI)) (ci := 0) (v := .ref h_F_arcs) (C := RX0) (T := TX0) (N := 12) (pc := 20) hx hb hts hin_X0 hown hK hP 0 rfl rfl 8 (by decide) (hts (.fieldLink RX0 30 "JobShop$Floor" "arcs" "[I") (by decide +kernel)) (fun _ h9 => h9) rfl dX0_followers_20 ?_
    refine lv_iload_n (pc := 23) hx hb dX0_followers_23 rfl (lv_at hl 1 rfl) ?_
    obtain ⟨b_3, hw⟩ := hw
    refine va_iald (pc := 24) hx hb hK hP 7 0 rfl rfl b_3 dX0_followers_24 ?_
    refine lv_iconst (v := 1) (pc := 25) hx hb dX0_followers_25 (by decide) ?_
    refine lv_aload_n (pc := 26) hx hb dX0_followers_26 rfl (lv_at hl 0 rfl) ?_
    refine va_get (D := (dC, dI)) (ci := 0) (v := .ref h_F_nextOf) (C := RX0) (T := TX0) (N := 12) (pc := 27) hx hb hts hin_X0 hown hK hP 0 rfl rfl 7 (by decide) (hts (.fieldLink RX0 27 "JobShop$Floor" "nextOf" "[I") (by decide +kernel)) (fun _ h9 => h9) rfl dX0_followers_27 ?_
    refine lv_iload_n (pc := 30) hx hb dX0_followers_30 rfl (lv_at hl 1 rfl) ?_
    obtain ⟨b_4, hw⟩ := hw
    refine va_iald (pc := 31) hx hb hK hP 6 0 rfl rfl b_4 dX0_followers_31 ?_
    refine lv_ishl (pc := 32) hx hb dX0_followers_32 ?_
    refine lv_ior (pc := 33) hx hb dX0_followers_33 ?_
    exact W.iret (v := ((F_arcs a0.toNatClampNeg) ||| ((1 : Int32) <<< ((F_nextOf a0.toNatClampNeg) &&& 31)))) hx hb hr (fun t ht hW => ⟨⟨((F_arcs a0.toNatClampNeg) ||| ((1 : Int32) <<< ((F_nextOf a0.toNatClampNeg) &&& 31))), (), rfl, hw, by rw [ht]; exact hP, va_K.moved hW.alike hK, hD⟩, hS.F ht⟩) hS.2.2 dX0_followers_34
  · have hw := hw.2 c_2
    refine lv_aload_n (pc := 10) hx hb dX0_followers_10 rfl (lv_at hl 0 rfl) ?_
    refine va_get (D := (dC, dI)) (ci := 0) (v := .ref h_F_arcs) (C := RX0) (T := TX0) (N := 12) (pc := 11) hx hb hts hin_X0 hown hK hP 0 rfl rfl 8 (by decide) (hts (.fieldLink RX0 30 "JobShop$Floor" "arcs" "[I") (by decide +kernel)) (fun _ h9 => h9) rfl dX0_followers_11 ?_
    refine lv_iload_n (pc := 14) hx hb dX0_followers_14 rfl (lv_at hl 1 rfl) ?_
    obtain ⟨b_5, hw⟩ := hw
    refine va_iald (pc := 15) hx hb hK hP 7 0 rfl rfl b_5 dX0_followers_15 ?_
    refine lv_goto (tgt := 34) (pc := 16) hx hb dX0_followers_16 (by decide) ?_
    exact W.iret (v := (F_arcs a0.toNatClampNeg)) hx hb hr (fun t ht hW => ⟨⟨(F_arcs a0.toNatClampNeg), (), rfl, hw, by rw [ht]; exact hP, va_K.moved hW.alike hK, hD⟩, hS.F ht⟩) hS.2.2 dX0_followers_34
set_option maxHeartbeats 4000000 in
set_option maxRecDepth 100000 in
theorem c_X2_isIn (l : Launch) (dC : Nat → ClassId) (dI : Nat → Nat → Nat) (sz : Nat)  (a0 a1 : Int32) (post : Int32 → Prop) (hw : wp_X2_isIn a0 a1 post) : Met l yX2_isIn wsX2_isIn ({ frames := 0, cells := 0, slots := 0, locals := 0 }) (va_Pc [.int a0, .int a1] (fun U => U.heap.size = sz ∧ va_P (dC, dI) vwCl ([] : va_W) U.heap ∧ va_K (dC, dI) vwCl [] U ∧ va_D (fun _ => True) ([] : va_W))) (va_Qi (fun (r : Int32) (u : Unit) => post r ) (fun u t => va_P (dC, dI) vwCl ([] : va_W) t.heap ∧ va_K (dC, dI) vwCl [] t ∧ va_D (va_A ([] : va_W) sz) ([] : va_W)) (va_A ([] : va_W) sz)) 0 0 (va_A ([] : va_W) sz) := by
  refine Met.ofW (cc := cX2_isIn) (maxL := 2) (ret := (some .boolean)) (by decide) rfl ?_
  intro p e s m args below meth c s₁ B hml hv
  obtain ⟨rfl, hsz, hP, hK, hD0⟩ := hv
  have hx := B.exec
  have hb := B.bytes
  have hr := B.returns
  have hts := atoms_spec (ws := wsX2_isIn) B.pre
  have hown : s.vm.findClass RX2 = some m.cls := findClass_of_methodNamed B.named
  have hlocks := B.notSynchronized
  subst hsz
  have hD := hD0.self (sz := s.heap.size)
  generalize hAe : va_A ([] : va_W) s.heap.size = A at hD ⊢
  have hA : ∀ q : Nat, s.heap.size ≤ q → A q := fun q h => by rw [← hAe]; exact Or.inr h
  have hS : va_S A s.heap s.heap [] := va_S.rf
  have hP : va_P (dC, dI) vwCl ([] : va_W) s.heap := hP
  have hl := lv_entry ([.int a0, .int a1]) (n := 2) (Nat.le_of_ble_eq_true rfl)
  rw [lg_entry_eq]
  generalize (lg_sl ([.int a0, .int a1]) ++ List.replicate (2 - (lg_sl ([.int a0, .int a1])).length) Slot.unset).toArray = ls at hl ⊢
  have hl : lv_has ls 2 [(0, .int a0), (1, .int a1)] := hl
  obtain ⟨H, hH⟩ : ∃ H, H = s.heap := ⟨_, rfl⟩
  rw [← hH] at hP
  have hS : va_S A s.heap H [] := by rw [hH]; exact hS
  refine W_heap hH ?_
  unfold wp_X2_isIn at hw
  refine lv_iload_n (pc := 0) hx hb dX2_isIn_0 rfl (lv_at hl 0 rfl) ?_
  refine lv_iload_n (pc := 1) hx hb dX2_isIn_1 rfl (lv_at hl 1 rfl) ?_
  refine lv_ishr (pc := 2) hx hb dX2_isIn_2 ?_
  refine lv_iconst (v := 1) (pc := 3) hx hb dX2_isIn_3 (by decide) ?_
  refine lv_iand (pc := 4) hx hb dX2_isIn_4 ?_
  refine lv_if_eq (tgt := 12) (pc := 5) hx hb dX2_isIn_5 (by decide) (fun c_1 => ?_) (fun c_1 => ?_)
  · have hw := hw.1 c_1
    refine lv_iconst (v := 0) (pc := 12) hx hb dX2_isIn_12 (by decide) ?_
    exact W.zret (v := 0) hx hb hr rfl (fun t ht hW => ⟨⟨0, (), rfl, hw, by rw [ht]; exact hP, va_K.moved hW.alike hK, hD⟩, hS.F ht⟩) hS.2.2 dX2_isIn_13
  · have hw := hw.2 c_1
    refine lv_iconst (v := 1) (pc := 8) hx hb dX2_isIn_8 (by decide) ?_
    refine lv_goto (tgt := 13) (pc := 9) hx hb dX2_isIn_9 (by decide) ?_
    exact W.zret (v := 1) hx hb hr rfl (fun t ht hW => ⟨⟨1, (), rfl, hw, by rw [ht]; exact hP, va_K.moved hW.alike hK, hD⟩, hS.F ht⟩) hS.2.2 dX2_isIn_13
set_option maxHeartbeats 4000000 in
set_option maxRecDepth 100000 in
theorem c_X0_stretch (l : Launch) (dC : Nat → ClassId) (dI : Nat → Nat → Nat) (h_F h_F_firstOf h_F_lastOf h_F_jobOf h_F_machineOf h_F_duration h_F_nextOf h_F_arcs h_F_head h_F_tail h_F_kept : Nat) (sz : Nat) (cI : ClassId) (F_jobs : Int32) (F_size : Int32) (F_firstOf : Nat → Int32) (F_lastOf : Nat → Int32) (F_jobOf : Nat → Int32) (F_machineOf : Nat → Int32) (F_duration : Nat → Int32) (F_nextOf : Nat → Int32) (F_arcs : Nat → Int32) (F_head : Nat → Int32) (F_tail : Nat → Int32) (F_kept : Nat → Int32) (a0 : Int32) (post : Int32 → (Nat → Int32) → (Nat → Int32) → Prop) (hw : wp_X0_stretch F_size F_duration F_nextOf F_arcs F_head F_tail a0 post) : Met l yX0_stretch wsX0_stretch ({ frames := 1, cells := 0, slots := 0, locals := 21 }) (va_Pc [.ref h_F, .int a0] (fun U => U.heap.size = sz ∧ va_P (dC, dI) vwCl (wF h_F h_F_firstOf h_F_lastOf h_F_jobOf h_F_machineOf h_F_duration h_F_nextOf h_F_arcs h_F_head h_F_tail h_F_kept cI F_jobs F_size F_firstOf F_lastOf F_jobOf F_machineOf F_duration F_nextOf F_arcs F_head F_tail F_kept) U.heap ∧ va_K (dC, dI) vwCl [(cI, .int)] U ∧ va_D (fun _ => True) (wF h_F h_F_firstOf h_F_lastOf h_F_jobOf h_F_machineOf h_F_duration h_F_nextOf h_F_arcs h_F_head h_F_tail h_F_kept cI F_jobs F_size F_firstOf F_lastOf F_jobOf F_machineOf F_duration F_nextOf F_arcs F_head F_tail F_kept) ∧ nw U)) (va_Qi (fun (r : Int32) (u : (Nat → Int32) × (Nat → Int32)) => post r u.1 u.2) (fun u t => va_P (dC, dI) vwCl (wF h_F h_F_firstOf h_F_lastOf h_F_jobOf h_F_machineOf h_F_duration h_F_nextOf h_F_arcs h_F_head h_F_tail h_F_kept cI F_jobs F_size F_firstOf F_lastOf F_jobOf F_machineOf F_duration F_nextOf F_arcs u.1 u.2 F_kept) t.heap ∧ va_K (dC, dI) vwCl [(cI, .int)] t ∧ va_D (va_A (wF h_F h_F_firstOf h_F_lastOf h_F_jobOf h_F_machineOf h_F_duration h_F_nextOf h_F_arcs h_F_head h_F_tail h_F_kept cI F_jobs F_size F_firstOf F_lastOf F_jobOf F_machineOf F_duration F_nextOf F_arcs F_head F_tail F_kept) sz) (wF h_F h_F_firstOf h_F_lastOf h_F_jobOf h_F_machineOf h_F_duration h_F_nextOf h_F_arcs h_F_head h_F_tail h_F_kept cI F_jobs F_size F_firstOf F_lastOf F_jobOf F_machineOf F_duration F_nextOf F_arcs u.1 u.2 F_kept)) (va_A (wF h_F h_F_firstOf h_F_lastOf h_F_jobOf h_F_machineOf h_F_duration h_F_nextOf h_F_arcs h_F_head h_F_tail h_F_kept cI F_jobs F_size F_firstOf F_lastOf F_jobOf F_machineOf F_duration F_nextOf F_arcs F_head F_tail F_kept) sz)) 0 0 (va_A (wF h_F h_F_firstOf h_F_lastOf h_F_jobOf h_F_machineOf h_F_duration h_F_nextOf h_F_arcs h_F_head h_F_tail h_F_kept cI F_jobs F_size F_firstOf F_lastOf F_jobOf F_machineOf F_duration F_nextOf F_arcs F_head F_tail F_kept) sz) := by
  refine Met.ofW (cc := cX0_stretch) (maxL := 5) (ret := (some .boolean)) (by decide) rfl ?_
  intro p e s m args below meth c s₁ B hml hv
  obtain ⟨rfl, hsz, hP, hK, hD0, hN⟩ := hv
  have hx := B.exec
  have hb := B.bytes
  have hr := B.returns
  have hts := atoms_spec (ws := wsX0_stretch) B.pre
  have hown : s.vm.findClass RX0 = some m.cls := findClass_of_methodNamed B.named
  have hlocks := B.notSynchronized
  subst hsz
  have hD := hD0.self (sz := s.heap.size)
  generalize hAe : va_A (wF h_F h_F_firstOf h_F_lastOf h_F_jobOf h_F_machineOf h_F_duration h_F_nextOf h_F_arcs h_F_head h_F_tail h_F_kept cI F_jobs F_size F_firstOf F_lastOf F_jobOf F_machineOf F_duration F_nextOf F_arcs F_head F_tail F_kept) s.heap.size = A at hD ⊢
  have hA : ∀ q : Nat, s.heap.size ≤ q → A q := fun q h => by rw [← hAe]; exact Or.inr h
  have hS : va_S A s.heap s.heap [] := va_S.rf
  have hP : va_P (dC, dI) vwCl (wF h_F h_F_firstOf h_F_lastOf h_F_jobOf h_F_machineOf h_F_duration h_F_nextOf h_F_arcs h_F_head h_F_tail h_F_kept cI F_jobs F_size F_firstOf F_lastOf F_jobOf F_machineOf F_duration F_nextOf F_arcs F_head F_tail F_kept) s.heap := hP
  have hl := lv_entry ([.ref h_F, .int a0]) (n := 5) (Nat.le_of_ble_eq_true rfl)
  rw [lg_entry_eq]
  generalize (lg_sl ([.ref h_F, .int a0]) ++ List.replicate (5 - (lg_sl ([.ref h_F, .int a0])).length) Slot.unset).toArray = ls at hl ⊢
  have hl : lv_has ls 5 [(0, .ref h_F), (1, .int a0)] := hl
  obtain ⟨H, hH⟩ : ∃ H, H = s.heap := ⟨_, rfl⟩
  rw [← hH] at hP
  have hS : va_S A s.heap H [] := by rw [hH]; exact hS
  refine W_heap hH ?_
  unfold wp_X0_stretch at hw
  have hin_X0 : ∀ w ∈ u_ws RX0 TX0 12, w ∈ wsX0_stretch := by decide +kernel
  refine lv_iconst (v := 0) (pc := 0) hx hb dX0_stretch_0 (by decide) ?_
  refine lv_istore_n (lv' := [(2, .int 0), (0, .ref h_F), (1, .int a0)]) (pc := 1) hx hb dX0_stretch_1 rfl hl (by decide) rfl (fun ls hl => ?_)
  refine lv_aload_n (pc := 2) hx hb dX0_stretch_2 rfl (lv_at hl 1 rfl) ?_
  refine lv_iload_n (pc := 3) hx hb dX0_stretch_3 rfl (lv_at hl 2 rfl) ?_
  have hPx : va_P (dC, dI) vwCl ([] ++ (wF h_F h_F_firstOf h_F_lastOf h_F_jobOf h_F_machineOf h_F_duration h_F_nextOf h_F_arcs h_F_head h_F_tail h_F_kept cI F_jobs F_size F_firstOf F_lastOf F_jobOf F_machineOf F_duration F_nextOf F_arcs F_head F_tail F_kept)) H := hP
  have hDx : va_D A ([] ++ (wF h_F h_F_firstOf h_F_lastOf h_F_jobOf h_F_machineOf h_F_duration h_F_nextOf h_F_arcs h_F_head h_F_tail h_F_kept cI F_jobs F_size F_firstOf F_lastOf F_jobOf F_machineOf F_duration F_nextOf F_arcs F_head F_tail F_kept)) := hD
  refine kc_i (pc := 4) (w1 := (fun u : Unit => (wF h_F h_F_firstOf h_F_lastOf h_F_jobOf h_F_machineOf h_F_duration h_F_nextOf h_F_arcs h_F_head h_F_tail h_F_kept cI F_jobs F_size F_firstOf F_lastOf F_jobOf F_machineOf F_duration F_nextOf F_arcs F_head F_tail F_kept))) (va_runV (As := [.int a0]) (rest := []) ⟨hx, hb, hml, hown, hts⟩ (c_X0_followers l dC dI h_F h_F_firstOf h_F_lastOf h_F_jobOf h_F_machineOf h_F_duration h_F_nextOf h_F_arcs h_F_head h_F_tail h_F_kept H.size cI F_jobs F_size F_firstOf F_lastOf F_jobOf F_machineOf F_duration F_nextOf F_arcs F_head F_tail F_kept a0 _ hw) (cwV 1 hts gX0_stretch_X0_followers rfl rfl rfl (by decide +kernel) ⟨Nat.le_of_ble_eq_true rfl, Nat.le_of_ble_eq_true rfl⟩) (kc_preV (q0 := 0) (ci := 0) hK hPx hDx [0] rfl rfl rfl hN) rfl rfl hl.1 rfl (lv_room (Nat.le_of_ble_eq_true rfl)) dX0_stretch_4 ⟨Nat.zero_le _, Nat.zero_le _⟩) hPx hDx hS hA (fun r_4 u H locs hw hP hD hS => ?_)
  have hP : va_P (dC, dI) vwCl (wF h_F h_F_firstOf h_F_lastOf h_F_jobOf h_F_machineOf h_F_duration h_F_nextOf h_F_arcs h_F_head h_F_tail h_F_kept cI F_jobs F_size F_firstOf F_lastOf F_jobOf F_machineOf F_duration F_nextOf F_arcs F_head F_tail F_kept) H := hP
  have hD : va_D A (wF h_F h_F_firstOf h_F_lastOf h_F_jobOf h_F_machineOf h_F_duration h_F_nextOf h_F_arcs h_F_head h_F_tail h_F_kept cI F_jobs F_size F_firstOf F_lastOf F_jobOf F_machineOf F_duration F_nextOf F_arcs F_head F_tail F_kept) := hD
  refine lv_istore_n (lv' := [(3, .int r_4), (2, .int 0), (0, .ref h_F), (1, .int a0)]) (pc := 7) hx hb dX0_stretch_7 rfl hl (by decide) rfl (fun ls hl => ?_)
  refine lv_iconst (v := 0) (pc := 8) hx hb dX0_stretch_8 (by decide) ?_
  refine lv_istore (lv' := [(4, .int 0), (3, .int r_4), (2, .int 0), (0, .ref h_F), (1, .int a0)]) (pc := 9) hx hb dX0_stretch_9 hl (by decide) rfl (fun ls hl => ?_)
  obtain ⟨I_11, μ_11, hI_11, hs_11⟩ := hw
  refine lp_W (I := fun z : Int32 × Int32 × (Nat → Int32) × (Nat → Int32) => I_11 z.1 z.2.1 z.2.2.1 z.2.2.2) (fun z => μ_11 z.1 z.2.1 z.2.2.1 z.2.2.2) (fun (z : Int32 × Int32 × (Nat → Int32) × (Nat → Int32)) H locs ls => va_P (dC, dI) vwCl (wF h_F h_F_firstOf h_F_lastOf h_F_jobOf h_F_machineOf h_F_duration h_F_nextOf h_F_arcs h_F_head h_F_tail h_F_kept cI F_jobs F_size F_firstOf F_lastOf F_jobOf F_machineOf F_duration F_nextOf F_arcs z.2.2.1 z.2.2.2 F_kept) H ∧ va_D A (wF h_F h_F_firstOf h_F_lastOf h_F_jobOf h_F_machineOf h_F_duration h_F_nextOf h_F_arcs h_F_head h_F_tail h_F_kept cI F_jobs F_size F_firstOf F_lastOf F_jobOf F_machineOf F_duration F_nextOf F_arcs z.2.2.1 z.2.2.2 F_kept) ∧ va_S A s.heap H locs ∧ lv_has ls 5 [(0, .ref h_F), (1, .int a0), (2, .int z.1), (3, .int r_4), (4, .int z.2.1)]) ?_ (0, 0, F_head, F_tail) _ _ _ hI_11 ⟨hP, hD, hS, (lv_sub hl [3, 4, 2, 1, 0] rfl)⟩
  rintro ⟨x2_11, x4_11, F_head_11, F_tail_11⟩ H locs ls hI ⟨hP, hD, hS, hl⟩ ih_11
  have hw := hs_11 x2_11 x4_11 F_head_11 F_tail_11 hI
  have hP : va_P (dC, dI) vwCl (wF h_F h_F_firstOf h_F_lastOf h_F_jobOf h_F_machineOf h_F_duration h_F_nextOf h_F_arcs h_F_head h_F_tail h_F_kept cI F_jobs F_size F_firstOf F_lastOf F_jobOf F_machineOf F_duration F_nextOf F_arcs F_head_11 F_tail_11 F_kept) H := hP
  have hD : va_D A (wF h_F h_F_firstOf h_F_lastOf h_F_jobOf h_F_machineOf h_F_duration h_F_nextOf h_F_arcs h_F_head h_F_tail h_F_kept cI F_jobs F_size F_firstOf F_lastOf F_jobOf F_machineOf F_duration F_nextOf F_arcs F_head_11 F_tail_11 F_kept) := hD
  have hl : lv_has ls 5 [(0, .ref h_F), (1, .int a0), (2, .int x2_11), (3, .int r_4), (4, .int x4_11)] := hl
  refine lv_iload (pc := 11) hx hb dX0_stretch_11 (lv_at hl 4 rfl) ?_
  refine lv_aload_n (pc := 13) hx hb dX0_stretch_13 rfl (lv_at hl 0 rfl) ?_
  refine va_get (D := (dC, dI)) (ci := 0) (v := .int F_size) (C := RX0) (T := TX0) (N := 12) (pc := 14) hx hb hts hin_X0 hown hK hP 0 rfl rfl 1 (by decide) (hts (.fieldLink RX0 46 "JobShop$Floor" "size" "I") (by decide +kernel)) (fun _ h9 => h9) rfl dX0_stretch_14 ?_
  refine lv_icmp_ge (tgt := 127) (pc := 17) hx hb dX0_stretch_17 (by decide) (fun c_1 => ?_) (fun c_1 => ?_)
  · have hw := hw.1 c_1
    refine lv_iload_n (pc := 127) hx hb dX0_stretch_127 rfl (lv_at hl 2 rfl) ?_
    exact W.zret (v := x2_11) hx hb hr (nar_b hw.1) (fun t ht hW => ⟨⟨x2_11, (F_head_11, F_tail_11), rfl, hw.2, by rw [ht]; exact hP, va_K.moved hW.alike hK, hD⟩, hS.F ht⟩) hS.2.2 dX0_stretch_128
  · have hw := hw.2 c_1
    refine lv_iload_n (pc := 20) hx hb dX0_stretch_20 rfl (lv_at hl 3 rfl) ?_
    refine lv_iload (pc := 21) hx hb dX0_stretch_21 (lv_at hl 4 rfl) ?_
    have hPx : va_P (dC, dI) vwCl ([(h_F, .inr (0, [.int F_jobs, .int F_size, .ref h_F_firstOf, .ref h_F_lastOf, .ref h_F_jobOf, .ref h_F_machineOf, .ref h_F_duration, .ref h_F_nextOf, .ref h_F_arcs, .ref h_F_head, .ref h_F_tail, .ref h_F_kept])), (h_F_firstOf, .inl (cI, 4, .inl F_firstOf)), (h_F_lastOf, .inl (cI, 4, .inl F_lastOf)), (h_F_jobOf, .inl (cI, 12, .inl F_jobOf)), (h_F_machineOf, .inl (cI, 12, .inl F_machineOf)), (h_F_duration, .inl (cI, 12, .inl F_duration)), (h_F_nextOf, .inl (cI, 12, .inl F_nextOf)), (h_F_arcs, .inl (cI, 12, .inl F_arcs)), (h_F_head, .inl (cI, 12, .inl F_head_11)), (h_F_tail, .inl (cI, 12, .inl F_tail_11)), (h_F_kept, .inl (cI, 12, .inl F_kept))] ++ ([] : va_W)) H := hP
    have hDx : va_D A ([(h_F, .inr (0, [.int F_jobs, .int F_size, .ref h_F_firstOf, .ref h_F_lastOf, .ref h_F_jobOf, .ref h_F_machineOf, .ref h_F_duration, .ref h_F_nextOf, .ref h_F_arcs, .ref h_F_head, .ref h_F_tail, .ref h_F_kept])), (h_F_firstOf, .inl (cI, 4, .inl F_firstOf)), (h_F_lastOf, .inl (cI, 4, .inl F_lastOf)), (h_F_jobOf, .inl (cI, 12, .inl F_jobOf)), (h_F_machineOf, .inl (cI, 12, .inl F_machineOf)), (h_F_duration, .inl (cI, 12, .inl F_duration)), (h_F_nextOf, .inl (cI, 12, .inl F_nextOf)), (h_F_arcs, .inl (cI, 12, .inl F_arcs)), (h_F_head, .inl (cI, 12, .inl F_head_11)), (h_F_tail, .inl (cI, 12, .inl F_tail_11)), (h_F_kept, .inl (cI, 12, .inl F_kept))] ++ ([] : va_W)) := hD
    refine kc_i (pc := 23) (w1 := (fun u : Unit => ([] : va_W))) (va_runSN (As := [.int r_4, .int x4_11]) (rest := []) ⟨hx, hb, hml, hown, hts⟩ (c_X2_isIn l dC dI H.size  r_4 x4_11 _ hw) ⟨va_cnB 2 hts gX0_stretch_X2_isIn_n56 rfl rfl rfl hN (hts (.initialized RX2) (by decide +kernel)) (by decide +kernel) ⟨Nat.le_of_ble_eq_true rfl, Nat.le_of_ble_eq_true rfl⟩, hts (.static yX2_isIn) (by decide +kernel), trivial⟩ (kc_preS hK hPx hDx [] rfl) rfl rfl hl.1 rfl (lv_room (Nat.le_of_ble_eq_true rfl)) dX0_stretch_23 ⟨Nat.zero_le _, Nat.zero_le _⟩) hPx hDx hS hA (fun r_23 u H locs hw hP hD hS => ?_)
    have hP : va_P (dC, dI) vwCl (wF h_F h_F_firstOf h_F_lastOf h_F_jobOf h_F_machineOf h_F_duration h_F_nextOf h_F_arcs h_F_head h_F_tail h_F_kept cI F_jobs F_size F_firstOf F_lastOf F_jobOf F_machineOf F_duration F_nextOf F_arcs F_head_11 F_tail_11 F_kept) H := hP
    have hD : va_D A (wF h_F h_F_firstOf h_F_lastOf h_F_jobOf h_F_machineOf h_F_duration h_F_nextOf h_F_arcs h_F_head h_F_tail h_F_kept cI F_jobs F_size F_firstOf F_lastOf F_jobOf F_machineOf F_duration F_nextOf F_arcs F_head_11 F_tail_11 F_kept) := hD
    refine lv_if_eq (tgt := 121) (pc := 26) hx hb dX0_stretch_26 (by decide) (fun c_2 => ?_) (fun c_2 => ?_)
    · have hw := hw.1 c_2
      refine lv_iinc (v := x4_11 + 1) (lv' := [(4, .int (x4_11 + 1)), (0, .ref h_F), (1, .int a0), (2, .int x2_11), (3, .int r_4)]) (pc := 121) hx hb dX0_stretch_121 hl (k := 4) rfl rfl (by decide) rfl (fun ls hl => ?_)
      refine lv_goto (tgt := 11) (pc := 124) hx hb dX0_stretch_124 (by decide) ?_
      exact ih_11 (x2_11, (x4_11 + 1), F_head_11, F_tail_11) _ _ _ hw.1 hw.2 ⟨hP, hD, hS, (lv_sub hl [1, 2, 3, 4, 0] rfl)⟩
    · have hw := hw.2 c_2
      refine lv_aload_n (pc := 29) hx hb dX0_stretch_29 rfl (lv_at hl 0 rfl) ?_
      refine va_get (D := (dC, dI)) (ci := 0) (v := .ref h_F_head) (C := RX0) (T := TX0) (N := 12) (pc := 30) hx hb hts hin_X0 hown hK hP 0 rfl rfl 9 (by decide) (hts (.fieldLink RX0 33 "JobShop$Floor" "head" "[I") (by decide +kernel)) (fun _ h9 => h9) rfl dX0_stretch_30 ?_
      refine lv_iload (pc := 33) hx hb dX0_stretch_33 (lv_at hl 4 rfl) ?_
      obtain ⟨b_3, hw⟩ := hw
      refine va_iald (pc := 35) hx hb hK hP 8 0 rfl rfl b_3 dX0_stretch_35 ?_
      refine lv_aload_n (pc := 36) hx hb dX0_stretch_36 rfl (lv_at hl 0 rfl) ?_
      refine va_get (D := (dC, dI)) (ci := 0) (v := .ref h_F_head) (C := RX0) (T := TX0) (N := 12) (pc := 37) hx hb hts hin_X0 hown hK hP 0 rfl rfl 9 (by decide) (hts (.fieldLink RX0 33 "JobShop$Floor" "head" "[I") (by decide +kernel)) (fun _ h9 => h9) rfl dX0_stretch_37 ?_
      refine lv_iload_n (pc := 40) hx hb dX0_stretch_40 rfl (lv_at hl 1 rfl) ?_
      obtain ⟨b_4, hw⟩ := hw
      refine va_iald (pc := 41) hx hb hK hP 8 0 rfl rfl b_4 dX0_stretch_41 ?_
      refine lv_aload_n (pc := 42) hx hb dX0_stretch_42 rfl (lv_at hl 0 rfl) ?_
      refine va_get (D := (dC, dI)) (ci := 0) (v := .ref h_F_duration) (C := RX0) (T := TX0) (N := 12) (pc := 43) hx hb hts hin_X0 hown hK hP 0 rfl rfl 6 (by decide) (hts (.fieldLink RX0 24 "JobShop$Floor" "duration" "[I") (by decide +kernel)) (fun _ h9 => h9) rfl dX0_stretch_43 ?_
      refine lv_iload_n (pc := 46) hx hb dX0_stretch_46 rfl (lv_at hl 1 rfl) ?_
      obtain ⟨b_5, hw⟩ := hw
      refine va_iald (pc := 47) hx hb hK hP 5 0 rfl rfl b_5 dX0_stretch_47 ?_
      refine lv_iadd (pc := 48) hx hb dX0_stretch_48 ?_
      obtain ⟨J_74, hs_74, hw⟩ := hw
      refine jn_W (J := fun z : Int32 × (Nat → Int32) => J_74 z.1 z.2) 74 (fun z => []) (fun (z : Int32 × (Nat → Int32)) H locs ls => va_P (dC, dI) vwCl (wF h_F h_F_firstOf h_F_lastOf h_F_jobOf h_F_machineOf h_F_duration h_F_nextOf h_F_arcs h_F_head h_F_tail h_F_kept cI F_jobs F_size F_firstOf F_lastOf F_jobOf F_machineOf F_duration F_nextOf F_arcs z.2 F_tail_11 F_kept) H ∧ va_D A (wF h_F h_F_firstOf h_F_lastOf h_F_jobOf h_F_machineOf h_F_duration h_F_nextOf h_F_arcs h_F_head h_F_tail h_F_kept cI F_jobs F_size F_firstOf F_lastOf F_jobOf F_machineOf F_duration F_nextOf F_arcs z.2 F_tail_11 F_kept) ∧ va_S A s.heap H locs ∧ lv_has ls 5 [(0, .ref h_F), (1, .int a0), (2, .int z.1), (3, .int r_4), (4, .int x4_11)]) ?_ ?_
      · rintro ⟨x2_74, F_head_74⟩ H locs ls hI ⟨hP, hD, hS, hl⟩
        have hw := hs_74 x2_74 F_head_74 hI
        have hP : va_P (dC, dI) vwCl (wF h_F h_F_firstOf h_F_lastOf h_F_jobOf h_F_machineOf h_F_duration h_F_nextOf h_F_arcs h_F_head h_F_tail h_F_kept cI F_jobs F_size F_firstOf F_lastOf F_jobOf F_machineOf F_duration F_nextOf F_arcs F_head_74 F_tail_11 F_kept) H := hP
        have hD : va_D A (wF h_F h_F_firstOf h_F_lastOf h_F_jobOf h_F_machineOf h_F_duration h_F_nextOf h_F_arcs h_F_head h_F_tail h_F_kept cI F_jobs F_size F_firstOf F_lastOf F_jobOf F_machineOf F_duration F_nextOf F_arcs F_head_74 F_tail_11 F_kept) := hD
        have hl : lv_has ls 5 [(0, .ref h_F), (1, .int a0), (2, .int x2_74), (3, .int r_4), (4, .int x4_11)] := hl
        refine W.eq (g2 := F0 m 74 ls []) rfl ?_
        refine lv_aload_n (pc := 74) hx hb dX0_stretch_74 rfl (lv_at hl 0 rfl) ?_
        refine va_get (D := (dC, dI)) (ci := 0) (v := .ref h_F_tail) (C := RX0) (T := TX0) (N := 12) (pc := 75) hx hb hts hin_X0 hown hK hP 0 rfl rfl 10 (by decide) (hts (.fieldLink RX0 36 "JobShop$Floor" "tail" "[I") (by decide +kernel)) (fun _ h9 => h9) rfl dX0_stretch_75 ?_
        refine lv_iload_n (pc := 78) hx hb dX0_stretch_78 rfl (lv_at hl 1 rfl) ?_
        obtain ⟨b_6, hw⟩ := hw
        refine va_iald (pc := 79) hx hb hK hP 9 0 rfl rfl b_6 dX0_stretch_79 ?_
        refine lv_aload_n (pc := 80) hx hb dX0_stretch_80 rfl (lv_at hl 0 rfl) ?_
        refine va_get (D := (dC, dI)) (ci := 0) (v := .ref h_F_duration) (C := RX0) (T := TX0) (N := 12) (pc := 81) hx hb hts hin_X0 hown hK hP 0 rfl rfl 6 (by decide) (hts (.fieldLink RX0 24 "JobShop$Floor" "duration" "[I") (by decide +kernel)) (fun _ h9 => h9) rfl dX0_stretch_81 ?_
        refine lv_iload (pc := 84) hx hb dX0_stretch_84 (lv_at hl 4 rfl) ?_
        obtain ⟨b_7, hw⟩ := hw
        refine va_iald (pc := 86) hx hb hK hP 5 0 rfl rfl b_7 dX0_stretch_86 ?_
        refine lv_aload_n (pc := 87) hx hb dX0_stretch_87 rfl (lv_at hl 0 rfl) ?_
        refine va_get (D := (dC, dI)) (ci := 0) (v := .ref h_F_tail) (C := RX0) (T := TX0) (N := 12) (pc := 88) hx hb hts hin_X0 hown hK hP 0 rfl rfl 10 (by decide) (hts (.fieldLink RX0 36 "JobShop$Floor" "tail" "[I") (by decide +kernel)) (fun _ h9 => h9) rfl dX0_stretch_88 ?_
        refine lv_iload (pc := 91) hx hb dX0_stretch_91 (lv_at hl 4 rfl) ?_
        obtain ⟨b_8, hw⟩ := hw
        refine va_iald (pc := 93) hx hb hK hP 9 0 rfl rfl b_8 dX0_stretch_93 ?_
        refine lv_iadd (pc := 94) hx hb dX0_stretch_94 ?_
        refine lv_icmp_ge (tgt := 121) (pc := 95) hx hb dX0_stretch_95 (by decide) (fun c_9 => ?_) (fun c_9 => ?_)
        · have hw := hw.1 c_9
          refine lv_iinc (v := x4_11 + 1) (lv' := [(4, .int (x4_11 + 1)), (0, .ref h_F), (1, .int a0), (2, .int x2_74), (3, .int r_4)]) (pc := 121) hx hb dX0_stretch_121 hl (k := 4) rfl rfl (by decide) rfl (fun ls hl => ?_)
          refine lv_goto (tgt := 11) (pc := 124) hx hb dX0_stretch_124 (by decide) ?_
          exact ih_11 (x2_74, (x4_11 + 1), F_head_74, F_tail_11) _ _ _ hw.1 hw.2 ⟨hP, hD, hS, (lv_sub hl [1, 2, 3, 4, 0] rfl)⟩
        · have hw := hw.2 c_9
          refine lv_aload_n (pc := 98) hx hb dX0_stretch_98 rfl (lv_at hl 0 rfl) ?_
          refine va_get (D := (dC, dI)) (ci := 0) (v := .ref h_F_tail) (C := RX0) (T := TX0) (N := 12) (pc := 99) hx hb hts hin_X0 hown hK hP 0 rfl rfl 10 (by decide) (hts (.fieldLink RX0 36 "JobShop$Floor" "tail" "[I") (by decide +kernel)) (fun _ h9 => h9) rfl dX0_stretch_99 ?_
          refine lv_iload_n (pc := 102) hx hb dX0_stretch_102 rfl (lv_at hl 1 rfl) ?_
          refine lv_aload_n (pc := 103) hx hb dX0_stretch_103 rfl (lv_at hl 0 rfl) ?_
          refine va_get (D := (dC, dI)) (ci := 0) (v := .ref h_F_duration) (C := RX0) (T := TX0) (N := 12) (pc := 104) hx hb hts hin_X0 hown hK hP 0 rfl rfl 6 (by decide) (hts (.fieldLink RX0 24 "JobShop$Floor" "duration" "[I") (by decide +kernel)) (fun _ h9 => h9) rfl dX0_stretch_104 ?_
          refine lv_iload (pc := 107) hx hb dX0_stretch_107 (lv_at hl 4 rfl) ?_
          obtain ⟨b_10, hw⟩ := hw
          refine va_iald (pc := 109) hx hb hK hP 5 0 rfl rfl b_10 dX0_stretch_109 ?_
          refine lv_aload_n (pc := 110) hx hb dX0_stretch_110 rfl (lv_at hl 0 rfl) ?_
          refine va_get (D := (dC, dI)) (ci := 0) (v := .ref h_F_tail) (C := RX0) (T := TX0) (N := 12) (pc := 111) hx hb hts hin_X0 hown hK hP 0 rfl rfl 10 (by decide) (hts (.fieldLink RX0 36 "JobShop$Floor" "tail" "[I") (by decide +kernel)) (fun _ h9 => h9) rfl dX0_stretch_111 ?_
          refine lv_iload (pc := 114) hx hb dX0_stretch_114 (lv_at hl 4 rfl) ?_
          obtain ⟨b_11, hw⟩ := hw
          refine va_iald (pc := 116) hx hb hK hP 9 0 rfl rfl b_11 dX0_stretch_116 ?_
          refine lv_iadd (pc := 117) hx hb dX0_stretch_117 ?_
          obtain ⟨b_12, hw⟩ := hw
          refine va_iast (pc := 118) hx hb hK hP hD hS 9 0 rfl rfl b_12 dX0_stretch_118 (fun H locs hP hD hS => ?_)
          have hP : va_P (dC, dI) vwCl (wF h_F h_F_firstOf h_F_lastOf h_F_jobOf h_F_machineOf h_F_duration h_F_nextOf h_F_arcs h_F_head h_F_tail h_F_kept cI F_jobs F_size F_firstOf F_lastOf F_jobOf F_machineOf F_duration F_nextOf F_arcs F_head_74 (upd F_tail_11 a0.toNatClampNeg ((F_duration x4_11.toNatClampNeg) + (F_tail_11 x4_11.toNatClampNeg))) F_kept) H := hP
          have hD : va_D A (wF h_F h_F_firstOf h_F_lastOf h_F_jobOf h_F_machineOf h_F_duration h_F_nextOf h_F_arcs h_F_head h_F_tail h_F_kept cI F_jobs F_size F_firstOf F_lastOf F_jobOf F_machineOf F_duration F_nextOf F_arcs F_head_74 (upd F_tail_11 a0.toNatClampNeg ((F_duration x4_11.toNatClampNeg) + (F_tail_11 x4_11.toNatClampNeg))) F_kept) := hD
          refine lv_iconst (v := 1) (pc := 119) hx hb dX0_stretch_119 (by decide) ?_
          refine lv_istore_n (lv' := [(2, .int 1), (0, .ref h_F), (1, .int a0), (3, .int r_4), (4, .int x4_11)]) (pc := 120) hx hb dX0_stretch_120 rfl hl (by decide) rfl (fun ls hl => ?_)
          refine lv_iinc (v := x4_11 + 1) (lv' := [(4, .int (x4_11 + 1)), (2, .int 1), (0, .ref h_F), (1, .int a0), (3, .int r_4)]) (pc := 121) hx hb dX0_stretch_121 hl (k := 4) rfl rfl (by decide) rfl (fun ls hl => ?_)
          refine lv_goto (tgt := 11) (pc := 124) hx hb dX0_stretch_124 (by decide) ?_
          exact ih_11 (1, (x4_11 + 1), F_head_74, (upd F_tail_11 a0.toNatClampNeg ((F_duration x4_11.toNatClampNeg) + (F_tail_11 x4_11.toNatClampNeg)))) _ _ _ hw.1 hw.2 ⟨hP, hD, hS, (lv_sub hl [2, 3, 1, 4, 0] rfl)⟩
      · intro hj_74
        refine lv_icmp_ge (tgt := 74) (pc := 49) hx hb dX0_stretch_49 (by decide) (fun c_13 => ?_) (fun c_13 => ?_)
        · have hw := hw.1 c_13
          exact hj_74 (x2_11, F_head_11) _ _ _ hw ⟨hP, hD, hS, (lv_sub hl [0, 1, 2, 3, 4] rfl)⟩
        · have hw := hw.2 c_13
          refine lv_aload_n (pc := 52) hx hb dX0_stretch_52 rfl (lv_at hl 0 rfl) ?_
          refine va_get (D := (dC, dI)) (ci := 0) (v := .ref h_F_head) (C := RX0) (T := TX0) (N := 12) (pc := 53) hx hb hts hin_X0 hown hK hP 0 rfl rfl 9 (by decide) (hts (.fieldLink RX0 33 "JobShop$Floor" "head" "[I") (by decide +kernel)) (fun _ h9 => h9) rfl dX0_stretch_53 ?_
          refine lv_iload (pc := 56) hx hb dX0_stretch_56 (lv_at hl 4 rfl) ?_
          refine lv_aload_n (pc := 58) hx hb dX0_stretch_58 rfl (lv_at hl 0 rfl) ?_
          refine va_get (D := (dC, dI)) (ci := 0) (v := .ref h_F_head) (C := RX0) (T := TX0) (N := 12) (pc := 59) hx hb hts hin_X0 hown hK hP 0 rfl rfl 9 (by decide) (hts (.fieldLink RX0 33 "JobShop$Floor" "head" "[I") (by decide +kernel)) (fun _ h9 => h9) rfl dX0_stretch_59 ?_
          refine lv_iload_n (pc := 62) hx hb dX0_stretch_62 rfl (lv_at hl 1 rfl) ?_
          obtain ⟨b_14, hw⟩ := hw
          refine va_iald (pc := 63) hx hb hK hP 8 0 rfl rfl b_14 dX0_stretch_63 ?_
          refine lv_aload_n (pc := 64) hx hb dX0_stretch_64 rfl (lv_at hl 0 rfl) ?_
          refine va_get (D := (dC, dI)) (ci := 0) (v := .ref h_F_duration) (C := RX0) (T := TX0) (N := 12) (pc := 65) hx hb hts hin_X0 hown hK hP 0 rfl rfl 6 (by decide) (hts (.fieldLink RX0 24 "JobShop$Floor" "duration" "[I") (by decide +kernel)) (fun _ h9 => h9) rfl dX0_stretch_65 ?_
          refine lv_iload_n (pc := 68) hx hb dX0_stretch_68 rfl (lv_at hl 1 rfl) ?_
          obtain ⟨b_15, hw⟩ := hw
          refine va_iald (pc := 69) hx hb hK hP 5 0 rfl rfl b_15 dX0_stretch_69 ?_
          refine lv_iadd (pc := 70) hx hb dX0_stretch_70 ?_
          obtain ⟨b_16, hw⟩ := hw
          refine va_iast (pc := 71) hx hb hK hP hD hS 8 0 rfl rfl b_16 dX0_stretch_71 (fun H locs hP hD hS => ?_)
          have hP : va_P (dC, dI) vwCl (wF h_F h_F_firstOf h_F_lastOf h_F_jobOf h_F_machineOf h_F_duration h_F_nextOf h_F_arcs h_F_head h_F_tail h_F_kept cI F_jobs F_size F_firstOf F_lastOf F_jobOf F_machineOf F_duration F_nextOf F_arcs (upd F_head_11 x4_11.toNatClampNeg ((F_head_11 a0.toNatClampNeg) + (F_duration a0.toNatClampNeg))) F_tail_11 F_kept) H := hP
          have hD : va_D A (wF h_F h_F_firstOf h_F_lastOf h_F_jobOf h_F_machineOf h_F_duration h_F_nextOf h_F_arcs h_F_head h_F_tail h_F_kept cI F_jobs F_size F_firstOf F_lastOf F_jobOf F_machineOf F_duration F_nextOf F_arcs (upd F_head_11 x4_11.toNatClampNeg ((F_head_11 a0.toNatClampNeg) + (F_duration a0.toNatClampNeg))) F_tail_11 F_kept) := hD
          refine lv_iconst (v := 1) (pc := 72) hx hb dX0_stretch_72 (by decide) ?_
          refine lv_istore_n (lv' := [(2, .int 1), (0, .ref h_F), (1, .int a0), (3, .int r_4), (4, .int x4_11)]) (pc := 73) hx hb dX0_stretch_73 rfl hl (by decide) rfl (fun ls hl => ?_)
          exact hj_74 (1, (upd F_head_11 x4_11.toNatClampNeg ((F_head_11 a0.toNatClampNeg) + (F_duration a0.toNatClampNeg)))) _ _ _ hw ⟨hP, hD, hS, (lv_sub hl [1, 2, 0, 3, 4] rfl)⟩
set_option maxHeartbeats 4000000 in
set_option maxRecDepth 100000 in
theorem c_X0_measure (l : Launch) (dC : Nat → ClassId) (dI : Nat → Nat → Nat) (h_F h_F_firstOf h_F_lastOf h_F_jobOf h_F_machineOf h_F_duration h_F_nextOf h_F_arcs h_F_head h_F_tail h_F_kept : Nat) (sz : Nat) (cI : ClassId) (F_jobs : Int32) (F_size : Int32) (F_firstOf : Nat → Int32) (F_lastOf : Nat → Int32) (F_jobOf : Nat → Int32) (F_machineOf : Nat → Int32) (F_duration : Nat → Int32) (F_nextOf : Nat → Int32) (F_arcs : Nat → Int32) (F_head : Nat → Int32) (F_tail : Nat → Int32) (F_kept : Nat → Int32) (post : (Nat → Int32) → (Nat → Int32) → Prop) (hw : wp_X0_measure F_size F_duration F_nextOf F_arcs F_head F_tail post) : Met l yX0_measure wsX0_measure ({ frames := 2, cells := 0, slots := 0, locals := 45 }) (va_Pc [.ref h_F] (fun U => U.heap.size = sz ∧ va_P (dC, dI) vwCl (wF h_F h_F_firstOf h_F_lastOf h_F_jobOf h_F_machineOf h_F_duration h_F_nextOf h_F_arcs h_F_head h_F_tail h_F_kept cI F_jobs F_size F_firstOf F_lastOf F_jobOf F_machineOf F_duration F_nextOf F_arcs F_head F_tail F_kept) U.heap ∧ va_K (dC, dI) vwCl [(cI, .int)] U ∧ va_D (fun _ => True) (wF h_F h_F_firstOf h_F_lastOf h_F_jobOf h_F_machineOf h_F_duration h_F_nextOf h_F_arcs h_F_head h_F_tail h_F_kept cI F_jobs F_size F_firstOf F_lastOf F_jobOf F_machineOf F_duration F_nextOf F_arcs F_head F_tail F_kept) ∧ nw U)) (va_Qv (fun (u : (Nat → Int32) × (Nat → Int32)) => post u.1 u.2) (fun u t => va_P (dC, dI) vwCl (wF h_F h_F_firstOf h_F_lastOf h_F_jobOf h_F_machineOf h_F_duration h_F_nextOf h_F_arcs h_F_head h_F_tail h_F_kept cI F_jobs F_size F_firstOf F_lastOf F_jobOf F_machineOf F_duration F_nextOf F_arcs u.1 u.2 F_kept) t.heap ∧ va_K (dC, dI) vwCl [(cI, .int)] t ∧ va_D (va_A (wF h_F h_F_firstOf h_F_lastOf h_F_jobOf h_F_machineOf h_F_duration h_F_nextOf h_F_arcs h_F_head h_F_tail h_F_kept cI F_jobs F_size F_firstOf F_lastOf F_jobOf F_machineOf F_duration F_nextOf F_arcs F_head F_tail F_kept) sz) (wF h_F h_F_firstOf h_F_lastOf h_F_jobOf h_F_machineOf h_F_duration h_F_nextOf h_F_arcs h_F_head h_F_tail h_F_kept cI F_jobs F_size F_firstOf F_lastOf F_jobOf F_machineOf F_duration F_nextOf F_arcs u.1 u.2 F_kept)) (va_A (wF h_F h_F_firstOf h_F_lastOf h_F_jobOf h_F_machineOf h_F_duration h_F_nextOf h_F_arcs h_F_head h_F_tail h_F_kept cI F_jobs F_size F_firstOf F_lastOf F_jobOf F_machineOf F_duration F_nextOf F_arcs F_head F_tail F_kept) sz)) 0 0 (va_A (wF h_F h_F_firstOf h_F_lastOf h_F_jobOf h_F_machineOf h_F_duration h_F_nextOf h_F_arcs h_F_head h_F_tail h_F_kept cI F_jobs F_size F_firstOf F_lastOf F_jobOf F_machineOf F_duration F_nextOf F_arcs F_head F_tail F_kept) sz) := by
  refine Met.ofW (cc := cX0_measure) (maxL := 4) (ret := none) (by decide) rfl ?_
  intro p e s m args below meth c s₁ B hml hv
  obtain ⟨rfl, hsz, hP, hK, hD0, hN⟩ := hv
  have hx := B.exec
  have hb := B.bytes
  have hr := B.returns
  have hts := atoms_spec (ws := wsX0_measure) B.pre
  have hown : s.vm.findClass RX0 = some m.cls := findClass_of_methodNamed B.named
  have hlocks := B.notSynchronized
  subst hsz
  have hD := hD0.self (sz := s.heap.size)
  generalize hAe : va_A (wF h_F h_F_firstOf h_F_lastOf h_F_jobOf h_F_machineOf h_F_duration h_F_nextOf h_F_arcs h_F_head h_F_tail h_F_kept cI F_jobs F_size F_firstOf F_lastOf F_jobOf F_machineOf F_duration F_nextOf F_arcs F_head F_tail F_kept) s.heap.size = A at hD ⊢
  have hA : ∀ q : Nat, s.heap.size ≤ q → A q := fun q h => by rw [← hAe]; exact Or.inr h
  have hS : va_S A s.heap s.heap [] := va_S.rf
  have hP : va_P (dC, dI) vwCl (wF h_F h_F_firstOf h_F_lastOf h_F_jobOf h_F_machineOf h_F_duration h_F_nextOf h_F_arcs h_F_head h_F_tail h_F_kept cI F_jobs F_size F_firstOf F_lastOf F_jobOf F_machineOf F_duration F_nextOf F_arcs F_head F_tail F_kept) s.heap := hP
  have hl := lv_entry ([.ref h_F]) (n := 4) (Nat.le_of_ble_eq_true rfl)
  rw [lg_entry_eq]
  generalize (lg_sl ([.ref h_F]) ++ List.replicate (4 - (lg_sl ([.ref h_F])).length) Slot.unset).toArray = ls at hl ⊢
  have hl : lv_has ls 4 [(0, .ref h_F)] := hl
  obtain ⟨H, hH⟩ : ∃ H, H = s.heap := ⟨_, rfl⟩
  rw [← hH] at hP
  have hS : va_S A s.heap H [] := by rw [hH]; exact hS
  refine W_heap hH ?_
  unfold wp_X0_measure at hw
  have hin_X0 : ∀ w ∈ u_ws RX0 TX0 12, w ∈ wsX0_measure := by decide +kernel
  refine lv_iconst (v := 0) (pc := 0) hx hb dX0_measure_0 (by decide) ?_
  refine lv_istore_n (lv' := [(1, .int 0), (0, .ref h_F)]) (pc := 1) hx hb dX0_measure_1 rfl hl (by decide) rfl (fun ls hl => ?_)
  obtain ⟨I_2, μ_2, hI_2, hs_2⟩ := hw
  refine lp_W (I := fun z : Int32 × (Nat → Int32) × (Nat → Int32) => I_2 z.1 z.2.1 z.2.2) (fun z => μ_2 z.1 z.2.1 z.2.2) (fun (z : Int32 × (Nat → Int32) × (Nat → Int32)) H locs ls => va_P (dC, dI) vwCl (wF h_F h_F_firstOf h_F_lastOf h_F_jobOf h_F_machineOf h_F_duration h_F_nextOf h_F_arcs h_F_head h_F_tail h_F_kept cI F_jobs F_size F_firstOf F_lastOf F_jobOf F_machineOf F_duration F_nextOf F_arcs z.2.1 z.2.2 F_kept) H ∧ va_D A (wF h_F h_F_firstOf h_F_lastOf h_F_jobOf h_F_machineOf h_F_duration h_F_nextOf h_F_arcs h_F_head h_F_tail h_F_kept cI F_jobs F_size F_firstOf F_lastOf F_jobOf F_machineOf F_duration F_nextOf F_arcs z.2.1 z.2.2 F_kept) ∧ va_S A s.heap H locs ∧ lv_has ls 4 [(0, .ref h_F), (1, .int z.1)]) ?_ (0, F_head, F_tail) _ _ _ hI_2 ⟨hP, hD, hS, (lv_sub hl [1, 0] rfl)⟩
  rintro ⟨x1_2, F_head_2, F_tail_2⟩ H locs ls hI ⟨hP, hD, hS, hl⟩ ih_2
  have hw := hs_2 x1_2 F_head_2 F_tail_2 hI
  have hP : va_P (dC, dI) vwCl (wF h_F h_F_firstOf h_F_lastOf h_F_jobOf h_F_machineOf h_F_duration h_F_nextOf h_F_arcs h_F_head h_F_tail h_F_kept cI F_jobs F_size F_firstOf F_lastOf F_jobOf F_machineOf F_duration F_nextOf F_arcs F_head_2 F_tail_2 F_kept) H := hP
  have hD : va_D A (wF h_F h_F_firstOf h_F_lastOf h_F_jobOf h_F_machineOf h_F_duration h_F_nextOf h_F_arcs h_F_head h_F_tail h_F_kept cI F_jobs F_size F_firstOf F_lastOf F_jobOf F_machineOf F_duration F_nextOf F_arcs F_head_2 F_tail_2 F_kept) := hD
  have hl : lv_has ls 4 [(0, .ref h_F), (1, .int x1_2)] := hl
  refine lv_iload_n (pc := 2) hx hb dX0_measure_2 rfl (lv_at hl 1 rfl) ?_
  refine lv_aload_n (pc := 3) hx hb dX0_measure_3 rfl (lv_at hl 0 rfl) ?_
  refine va_get (D := (dC, dI)) (ci := 0) (v := .int F_size) (C := RX0) (T := TX0) (N := 12) (pc := 4) hx hb hts hin_X0 hown hK hP 0 rfl rfl 1 (by decide) (hts (.fieldLink RX0 46 "JobShop$Floor" "size" "I") (by decide +kernel)) (fun _ h9 => h9) rfl dX0_measure_4 ?_
  refine lv_icmp_ge (tgt := 30) (pc := 7) hx hb dX0_measure_7 (by decide) (fun c_1 => ?_) (fun c_1 => ?_)
  · have hw := hw.1 c_1
    refine lv_iconst (v := 1) (pc := 30) hx hb dX0_measure_30 (by decide) ?_
    refine lv_istore_n (lv' := [(1, .int 1), (0, .ref h_F)]) (pc := 31) hx hb dX0_measure_31 rfl hl (by decide) rfl (fun ls hl => ?_)
    refine lv_iconst (v := 0) (pc := 32) hx hb dX0_measure_32 (by decide) ?_
    refine lv_istore_n (lv' := [(2, .int 0), (1, .int 1), (0, .ref h_F)]) (pc := 33) hx hb dX0_measure_33 rfl hl (by decide) rfl (fun ls hl => ?_)
    obtain ⟨I_34, μ_34, hI_34, hs_34⟩ := hw
    refine lp_W (I := fun z : Int32 × Int32 × (Nat → Int32) × (Nat → Int32) => I_34 z.1 z.2.1 z.2.2.1 z.2.2.2) (fun z => μ_34 z.1 z.2.1 z.2.2.1 z.2.2.2) (fun (z : Int32 × Int32 × (Nat → Int32) × (Nat → Int32)) H locs ls => va_P (dC, dI) vwCl (wF h_F h_F_firstOf h_F_lastOf h_F_jobOf h_F_machineOf h_F_duration h_F_nextOf h_F_arcs h_F_head h_F_tail h_F_kept cI F_jobs F_size F_firstOf F_lastOf F_jobOf F_machineOf F_duration F_nextOf F_arcs z.2.2.1 z.2.2.2 F_kept) H ∧ va_D A (wF h_F h_F_firstOf h_F_lastOf h_F_jobOf h_F_machineOf h_F_duration h_F_nextOf h_F_arcs h_F_head h_F_tail h_F_kept cI F_jobs F_size F_firstOf F_lastOf F_jobOf F_machineOf F_duration F_nextOf F_arcs z.2.2.1 z.2.2.2 F_kept) ∧ va_S A s.heap H locs ∧ lv_has ls 4 [(0, .ref h_F), (1, .int z.1), (2, .int z.2.1)]) ?_ (1, 0, F_head_2, F_tail_2) _ _ _ hI_34 ⟨hP, hD, hS, (lv_sub hl [2, 1, 0] rfl)⟩
    rintro ⟨x1_34, x2_34, F_head_34, F_tail_34⟩ H locs ls hI ⟨hP, hD, hS, hl⟩ ih_34
    have hw := hs_34 x1_34 x2_34 F_head_34 F_tail_34 hI
    have hP : va_P (dC, dI) vwCl (wF h_F h_F_firstOf h_F_lastOf h_F_jobOf h_F_machineOf h_F_duration h_F_nextOf h_F_arcs h_F_head h_F_tail h_F_kept cI F_jobs F_size F_firstOf F_lastOf F_jobOf F_machineOf F_duration F_nextOf F_arcs F_head_34 F_tail_34 F_kept) H := hP
    have hD : va_D A (wF h_F h_F_firstOf h_F_lastOf h_F_jobOf h_F_machineOf h_F_duration h_F_nextOf h_F_arcs h_F_head h_F_tail h_F_kept cI F_jobs F_size F_firstOf F_lastOf F_jobOf F_machineOf F_duration F_nextOf F_arcs F_head_34 F_tail_34 F_kept) := hD
    have hl : lv_has ls 4 [(0, .ref h_F), (1, .int x1_34), (2, .int x2_34)] := hl
    refine lv_iload_n (pc := 34) hx hb dX0_measure_34 rfl (lv_at hl 2 rfl) ?_
    refine lv_aload_n (pc := 35) hx hb dX0_measure_35 rfl (lv_at hl 0 rfl) ?_
    refine va_get (D := (dC, dI)) (ci := 0) (v := .int F_size) (C := RX0) (T := TX0) (N := 12) (pc := 36) hx hb hts hin_X0 hown hK hP 0 rfl rfl 1 (by decide) (hts (.fieldLink RX0 46 "JobShop$Floor" "size" "I") (by decide +kernel)) (fun _ h9 => h9) rfl dX0_measure_36 ?_
    refine lv_icmp_ge (tgt := 80) (pc := 39) hx hb dX0_measure_39 (by decide) (fun c_2 => ?_) (fun c_2 => ?_)
    · have hw := hw.1 c_2
      exact W.vret hx hb hr (fun t ht hW => ⟨⟨(F_head_34, F_tail_34), rfl, hw, by rw [ht]; exact hP, va_K.moved hW.alike hK, hD⟩, hS.F ht⟩) hS.2.2 dX0_measure_80
    · have hw := hw.2 c_2
      refine lv_iload_n (pc := 42) hx hb dX0_measure_42 rfl (lv_at hl 1 rfl) ?_
      refine lv_if_eq (tgt := 80) (pc := 43) hx hb dX0_measure_43 (by decide) (fun c_3 => ?_) (fun c_3 => ?_)
      · have hw := hw.1 c_3
        exact W.vret hx hb hr (fun t ht hW => ⟨⟨(F_head_34, F_tail_34), rfl, hw, by rw [ht]; exact hP, va_K.moved hW.alike hK, hD⟩, hS.F ht⟩) hS.2.2 dX0_measure_80
      · have hw := hw.2 c_3
        refine lv_iconst (v := 0) (pc := 46) hx hb dX0_measure_46 (by decide) ?_
        refine lv_istore_n (lv' := [(1, .int 0), (0, .ref h_F), (2, .int x2_34)]) (pc := 47) hx hb dX0_measure_47 rfl hl (by decide) rfl (fun ls hl => ?_)
        refine lv_iconst (v := 0) (pc := 48) hx hb dX0_measure_48 (by decide) ?_
        refine lv_istore_n (lv' := [(3, .int 0), (1, .int 0), (0, .ref h_F), (2, .int x2_34)]) (pc := 49) hx hb dX0_measure_49 rfl hl (by decide) rfl (fun ls hl => ?_)
        obtain ⟨I_50, μ_50, hI_50, hs_50⟩ := hw
        refine lp_W (I := fun z : Int32 × Int32 × (Nat → Int32) × (Nat → Int32) => I_50 z.1 z.2.1 z.2.2.1 z.2.2.2) (fun z => μ_50 z.1 z.2.1 z.2.2.1 z.2.2.2) (fun (z : Int32 × Int32 × (Nat → Int32) × (Nat → Int32)) H locs ls => va_P (dC, dI) vwCl (wF h_F h_F_firstOf h_F_lastOf h_F_jobOf h_F_machineOf h_F_duration h_F_nextOf h_F_arcs h_F_head h_F_tail h_F_kept cI F_jobs F_size F_firstOf F_lastOf F_jobOf F_machineOf F_duration F_nextOf F_arcs z.2.2.1 z.2.2.2 F_kept) H ∧ va_D A (wF h_F h_F_firstOf h_F_lastOf h_F_jobOf h_F_machineOf h_F_duration h_F_nextOf h_F_arcs h_F_head h_F_tail h_F_kept cI F_jobs F_size F_firstOf F_lastOf F_jobOf F_machineOf F_duration F_nextOf F_arcs z.2.2.1 z.2.2.2 F_kept) ∧ va_S A s.heap H locs ∧ lv_has ls 4 [(0, .ref h_F), (1, .int z.1), (2, .int x2_34), (3, .int z.2.1)]) ?_ (0, 0, F_head_34, F_tail_34) _ _ _ hI_50 ⟨hP, hD, hS, (lv_sub hl [2, 1, 3, 0] rfl)⟩
        rintro ⟨x1_50, x3_50, F_head_50, F_tail_50⟩ H locs ls hI ⟨hP, hD, hS, hl⟩ ih_50
        have hw := hs_50 x1_50 x3_50 F_head_50 F_tail_50 hI
        have hP : va_P (dC, dI) vwCl (wF h_F h_F_firstOf h_F_lastOf h_F_jobOf h_F_machineOf h_F_duration h_F_nextOf h_F_arcs h_F_head h_F_tail h_F_kept cI F_jobs F_size F_firstOf F_lastOf F_jobOf F_machineOf F_duration F_nextOf F_arcs F_head_50 F_tail_50 F_kept) H := hP
        have hD : va_D A (wF h_F h_F_firstOf h_F_lastOf h_F_jobOf h_F_machineOf h_F_duration h_F_nextOf h_F_arcs h_F_head h_F_tail h_F_kept cI F_jobs F_size F_firstOf F_lastOf F_jobOf F_machineOf F_duration F_nextOf F_arcs F_head_50 F_tail_50 F_kept) := hD
        have hl : lv_has ls 4 [(0, .ref h_F), (1, .int x1_50), (2, .int x2_34), (3, .int x3_50)] := hl
        refine lv_iload_n (pc := 50) hx hb dX0_measure_50 rfl (lv_at hl 3 rfl) ?_
        refine lv_aload_n (pc := 51) hx hb dX0_measure_51 rfl (lv_at hl 0 rfl) ?_
        refine va_get (D := (dC, dI)) (ci := 0) (v := .int F_size) (C := RX0) (T := TX0) (N := 12) (pc := 52) hx hb hts hin_X0 hown hK hP 0 rfl rfl 1 (by decide) (hts (.fieldLink RX0 46 "JobShop$Floor" "size" "I") (by decide +kernel)) (fun _ h9 => h9) rfl dX0_measure_52 ?_
        refine lv_icmp_ge (tgt := 74) (pc := 55) hx hb dX0_measure_55 (by decide) (fun c_4 => ?_) (fun c_4 => ?_)
        · have hw := hw.1 c_4
          refine lv_iinc (v := x2_34 + 1) (lv' := [(2, .int (x2_34 + 1)), (0, .ref h_F), (1, .int x1_50), (3, .int x3_50)]) (pc := 74) hx hb dX0_measure_74 hl (k := 2) rfl rfl (by decide) rfl (fun ls hl => ?_)
          refine lv_goto (tgt := 34) (pc := 77) hx hb dX0_measure_77 (by decide) ?_
          exact ih_34 (x1_50, (x2_34 + 1), F_head_50, F_tail_50) _ _ _ hw.1 hw.2 ⟨hP, hD, hS, (lv_sub hl [1, 2, 0] rfl)⟩
        · have hw := hw.2 c_4
          refine lv_aload_n (pc := 58) hx hb dX0_measure_58 rfl (lv_at hl 0 rfl) ?_
          refine lv_iload_n (pc := 59) hx hb dX0_measure_59 rfl (lv_at hl 3 rfl) ?_
          have hPx : va_P (dC, dI) vwCl ([] ++ (wF h_F h_F_firstOf h_F_lastOf h_F_jobOf h_F_machineOf h_F_duration h_F_nextOf h_F_arcs h_F_head h_F_tail h_F_kept cI F_jobs F_size F_firstOf F_lastOf F_jobOf F_machineOf F_duration F_nextOf F_arcs F_head_50 F_tail_50 F_kept)) H := hP
          have hDx : va_D A ([] ++ (wF h_F h_F_firstOf h_F_lastOf h_F_jobOf h_F_machineOf h_F_duration h_F_nextOf h_F_arcs h_F_head h_F_tail h_F_kept cI F_jobs F_size F_firstOf F_lastOf F_jobOf F_machineOf F_duration F_nextOf F_arcs F_head_50 F_tail_50 F_kept)) := hD
          refine kc_i (pc := 60) (w1 := (fun u : (Nat → Int32) × (Nat → Int32) => (wF h_F h_F_firstOf h_F_lastOf h_F_jobOf h_F_machineOf h_F_duration h_F_nextOf h_F_arcs h_F_head h_F_tail h_F_kept cI F_jobs F_size F_firstOf F_lastOf F_jobOf F_machineOf F_duration F_nextOf F_arcs u.1 u.2 F_kept))) (va_runV (As := [.int x3_50]) (rest := []) ⟨hx, hb, hml, hown, hts⟩ (c_X0_stretch l dC dI h_F h_F_firstOf h_F_lastOf h_F_jobOf h_F_machineOf h_F_duration h_F_nextOf h_F_arcs h_F_head h_F_tail h_F_kept H.size cI F_jobs F_size F_firstOf F_lastOf F_jobOf F_machineOf F_duration F_nextOf F_arcs F_head_50 F_tail_50 F_kept x3_50 _ hw) (cwV 1 hts gX0_measure_X0_stretch rfl rfl rfl (by decide +kernel) ⟨Nat.le_of_ble_eq_true rfl, Nat.le_of_ble_eq_true rfl⟩) (kc_preV (q0 := 0) (ci := 0) hK hPx hDx [0] rfl rfl rfl hN) rfl rfl hl.1 rfl (lv_room (Nat.le_of_ble_eq_true rfl)) dX0_measure_60 ⟨Nat.zero_le _, Nat.zero_le _⟩) hPx hDx hS hA (fun r_60 u H locs hw hP hD hS => ?_)
          obtain ⟨F_head_60, F_tail_60⟩ := u
          have hP : va_P (dC, dI) vwCl (wF h_F h_F_firstOf h_F_lastOf h_F_jobOf h_F_machineOf h_F_duration h_F_nextOf h_F_arcs h_F_head h_F_tail h_F_kept cI F_jobs F_size F_firstOf F_lastOf F_jobOf F_machineOf F_duration F_nextOf F_arcs F_head_60 F_tail_60 F_kept) H := hP
          have hD : va_D A (wF h_F h_F_firstOf h_F_lastOf h_F_jobOf h_F_machineOf h_F_duration h_F_nextOf h_F_arcs h_F_head h_F_tail h_F_kept cI F_jobs F_size F_firstOf F_lastOf F_jobOf F_machineOf F_duration F_nextOf F_arcs F_head_60 F_tail_60 F_kept) := hD
          refine lv_if_eq (tgt := 68) (pc := 63) hx hb dX0_measure_63 (by decide) (fun c_5 => ?_) (fun c_5 => ?_)
          · have hw := hw.1 c_5
            refine lv_iinc (v := x3_50 + 1) (lv' := [(3, .int (x3_50 + 1)), (0, .ref h_F), (1, .int x1_50), (2, .int x2_34)]) (pc := 68) hx hb dX0_measure_68 hl (k := 3) rfl rfl (by decide) rfl (fun ls hl => ?_)
            refine lv_goto (tgt := 50) (pc := 71) hx hb dX0_measure_71 (by decide) ?_
            exact ih_50 (x1_50, (x3_50 + 1), F_head_60, F_tail_60) _ _ _ hw.1 hw.2 ⟨hP, hD, hS, (lv_sub hl [1, 2, 3, 0] rfl)⟩
          · have hw := hw.2 c_5
            refine lv_iconst (v := 1) (pc := 66) hx hb dX0_measure_66 (by decide) ?_
            refine lv_istore_n (lv' := [(1, .int 1), (0, .ref h_F), (2, .int x2_34), (3, .int x3_50)]) (pc := 67) hx hb dX0_measure_67 rfl hl (by decide) rfl (fun ls hl => ?_)
            refine lv_iinc (v := x3_50 + 1) (lv' := [(3, .int (x3_50 + 1)), (1, .int 1), (0, .ref h_F), (2, .int x2_34)]) (pc := 68) hx hb dX0_measure_68 hl (k := 3) rfl rfl (by decide) rfl (fun ls hl => ?_)
            refine lv_goto (tgt := 50) (pc := 71) hx hb dX0_measure_71 (by decide) ?_
            exact ih_50 (1, (x3_50 + 1), F_head_60, F_tail_60) _ _ _ hw.1 hw.2 ⟨hP, hD, hS, (lv_sub hl [2, 1, 3, 0] rfl)⟩
  · have hw := hw.2 c_1
    refine lv_aload_n (pc := 10) hx hb dX0_measure_10 rfl (lv_at hl 0 rfl) ?_
    refine va_get (D := (dC, dI)) (ci := 0) (v := .ref h_F_head) (C := RX0) (T := TX0) (N := 12) (pc := 11) hx hb hts hin_X0 hown hK hP 0 rfl rfl 9 (by decide) (hts (.fieldLink RX0 33 "JobShop$Floor" "head" "[I") (by decide +kernel)) (fun _ h9 => h9) rfl dX0_measure_11 ?_
    refine lv_iload_n (pc := 14) hx hb dX0_measure_14 rfl (lv_at hl 1 rfl) ?_
    refine lv_iconst (v := 0) (pc := 15) hx hb dX0_measure_15 (by decide) ?_
    obtain ⟨b_6, hw⟩ := hw
    refine va_iast (pc := 16) hx hb hK hP hD hS 8 0 rfl rfl b_6 dX0_measure_16 (fun H locs hP hD hS => ?_)
    have hP : va_P (dC, dI) vwCl (wF h_F h_F_firstOf h_F_lastOf h_F_jobOf h_F_machineOf h_F_duration h_F_nextOf h_F_arcs h_F_head h_F_tail h_F_kept cI F_jobs F_size F_firstOf F_lastOf F_jobOf F_machineOf F_duration F_nextOf F_arcs (upd F_head_2 x1_2.toNatClampNeg 0) F_tail_2 F_kept) H := hP
    have hD : va_D A (wF h_F h_F_firstOf h_F_lastOf h_F_jobOf h_F_machineOf h_F_duration h_F_nextOf h_F_arcs h_F_head h_F_tail h_F_kept cI F_jobs F_size F_firstOf F_lastOf F_jobOf F_machineOf F_duration F_nextOf F_arcs (upd F_head_2 x1_2.toNatClampNeg 0) F_tail_2 F_kept) := hD
    refine lv_aload_n (pc := 17) hx hb dX0_measure_17 rfl (lv_at hl 0 rfl) ?_
    refine va_get (D := (dC, dI)) (ci := 0) (v := .ref h_F_tail) (C := RX0) (T := TX0) (N := 12) (pc := 18) hx hb hts hin_X0 hown hK hP 0 rfl rfl 10 (by decide) (hts (.fieldLink RX0 36 "JobShop$Floor" "tail" "[I") (by decide +kernel)) (fun _ h9 => h9) rfl dX0_measure_18 ?_
    refine lv_iload_n (pc := 21) hx hb dX0_measure_21 rfl (lv_at hl 1 rfl) ?_
    refine lv_iconst (v := 0) (pc := 22) hx hb dX0_measure_22 (by decide) ?_
    obtain ⟨b_7, hw⟩ := hw
    refine va_iast (pc := 23) hx hb hK hP hD hS 9 0 rfl rfl b_7 dX0_measure_23 (fun H locs hP hD hS => ?_)
    have hP : va_P (dC, dI) vwCl (wF h_F h_F_firstOf h_F_lastOf h_F_jobOf h_F_machineOf h_F_duration h_F_nextOf h_F_arcs h_F_head h_F_tail h_F_kept cI F_jobs F_size F_firstOf F_lastOf F_jobOf F_machineOf F_duration F_nextOf F_arcs (upd F_head_2 x1_2.toNatClampNeg 0) (upd F_tail_2 x1_2.toNatClampNeg 0) F_kept) H := hP
    have hD : va_D A (wF h_F h_F_firstOf h_F_lastOf h_F_jobOf h_F_machineOf h_F_duration h_F_nextOf h_F_arcs h_F_head h_F_tail h_F_kept cI F_jobs F_size F_firstOf F_lastOf F_jobOf F_machineOf F_duration F_nextOf F_arcs (upd F_head_2 x1_2.toNatClampNeg 0) (upd F_tail_2 x1_2.toNatClampNeg 0) F_kept) := hD
    refine lv_iinc (v := x1_2 + 1) (lv' := [(1, .int (x1_2 + 1)), (0, .ref h_F)]) (pc := 24) hx hb dX0_measure_24 hl (k := 1) rfl rfl (by decide) rfl (fun ls hl => ?_)
    refine lv_goto (tgt := 2) (pc := 27) hx hb dX0_measure_27 (by decide) ?_
    exact ih_2 ((x1_2 + 1), (upd F_head_2 x1_2.toNatClampNeg 0), (upd F_tail_2 x1_2.toNatClampNeg 0)) _ _ _ hw.1 hw.2 ⟨hP, hD, hS, (lv_sub hl [1, 0] rfl)⟩
