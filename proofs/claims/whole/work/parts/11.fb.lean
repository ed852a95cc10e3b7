set_option maxHeartbeats 4000000 in
set_option maxRecDepth 100000 in
theorem c_X0_addOperation (l : Launch) (dC : Nat → ClassId) (dI : Nat → Nat → Nat) (h_F h_F_firstOf h_F_lastOf h_F_jobOf h_F_machineOf h_F_duration h_F_nextOf h_F_arcs h_F_head h_F_tail h_F_kept : Nat) (sz : Nat) (cI : ClassId) (F_jobs : Int32) (F_size : Int32) (F_firstOf : Nat → Int32) (F_lastOf : Nat → Int32) (F_jobOf : Nat → Int32) (F_machineOf : Nat → Int32) (F_duration : Nat → Int32) (F_nextOf : Nat → Int32) (F_arcs : Nat → Int32) (F_head : Nat → Int32) (F_tail : Nat → Int32) (F_kept : Nat → Int32) (a0 a1 a2 : Int32) (post : Int32 → Int32 → (Nat → Int32) → (Nat → Int32) → (Nat → Int32) → (Nat → Int32) → (Nat → Int32) → (Nat → Int32) → (Nat → Int32) → (Nat → Int32) → (Nat → Int32) → Prop) (hw : wp_X0_addOperation F_size F_firstOf F_lastOf F_jobOf F_machineOf F_duration F_nextOf F_arcs F_head F_tail a0 a1 a2 post) : Met l yX0_addOperation wsX0_addOperation ({ frames := 3, cells := 0, slots := 0, locals := 68 }) (va_Pc [.ref h_F, .int a0, .int a1, .int a2] (fun U => U.heap.size = sz ∧ va_P (dC, dI) vwCl (wF h_F h_F_firstOf h_F_lastOf h_F_jobOf h_F_machineOf h_F_duration h_F_nextOf h_F_arcs h_F_head h_F_tail h_F_kept cI F_jobs F_size F_firstOf F_lastOf F_jobOf F_machineOf F_duration F_nextOf F_arcs F_head F_tail F_kept) U.heap ∧ va_K (dC, dI) vwCl [(cI, .int)] U ∧ va_D (fun _ => True) (wF h_F h_F_firstOf h_F_lastOf h_F_jobOf h_F_machineOf h_F_duration h_F_nextOf h_F_arcs h_F_head h_F_tail h_F_kept cI F_jobs F_size F_firstOf F_lastOf F_jobOf F_machineOf F_duration F_nextOf F_arcs F_head F_tail F_kept) ∧ nw U)) (va_Qi (fun (r : Int32) (u : Int32 × (Nat → Int32) × (Nat → Int32) × (Nat → Int32) × (Nat → Int32) × (Nat → Int32) × (Nat → Int32) × (Nat → Int32) × (Nat → Int32) × (Nat → Int32)) => post r u.1 u.2.1 u.2.2.1 u.2.2.2.1 u.2.2.2.2.1 u.2.2.2.2.2.1 u.2.2.2.2.2.2.1 u.2.2.2.2.2.2.2.1 u.2.2.2.2.2.2.2.2.1 u.2.2.2.2.2.2.2.2.2) (fun u t => va_P (dC, dI) vwCl (wF h_F h_F_firstOf h_F_lastOf h_F_jobOf h_F_machineOf h_F_duration h_F_nextOf h_F_arcs h_F_head h_F_tail h_F_kept cI F_jobs u.1 u.2.1 u.2.2.1 u.2.2.2.1 u.2.2.2.2.1 u.2.2.2.2.2.1 u.2.2.2.2.2.2.1 u.2.2.2.2.2.2.2.1 u.2.2.2.2.2.2.2.2.1 u.2.2.2.2.2.2.2.2.2 F_kept) t.heap ∧ va_K (dC, dI) vwCl [(cI, .int)] t ∧ va_D (va_A (wF h_F h_F_firstOf h_F_lastOf h_F_jobOf h_F_machineOf h_F_duration h_F_nextOf h_F_arcs h_F_head h_F_tail h_F_kept cI F_jobs F_size F_firstOf F_lastOf F_jobOf F_machineOf F_duration F_nextOf F_arcs F_head F_tail F_kept) sz) (wF h_F h_F_firstOf h_F_lastOf h_F_jobOf h_F_machineOf h_F_duration h_F_nextOf h_F_arcs h_F_head h_F_tail h_F_kept cI F_jobs u.1 u.2.1 u.2.2.1 u.2.2.2.1 u.2.2.2.2.1 u.2.2.2.2.2.1 u.2.2.2.2.2.2.1 u.2.2.2.2.2.2.2.1 u.2.2.2.2.2.2.2.2.1 u.2.2.2.2.2.2.2.2.2 F_kept)) (va_A (wF h_F h_F_firstOf h_F_lastOf h_F_jobOf h_F_machineOf h_F_duration h_F_nextOf h_F_arcs h_F_head h_F_tail h_F_kept cI F_jobs F_size F_firstOf F_lastOf F_jobOf F_machineOf F_duration F_nextOf F_arcs F_head F_tail F_kept) sz)) 0 0 (va_A (wF h_F h_F_firstOf h_F_lastOf h_F_jobOf h_F_machineOf h_F_duration h_F_nextOf h_F_arcs h_F_head h_F_tail h_F_kept cI F_jobs F_size F_firstOf F_lastOf F_jobOf F_machineOf F_duration F_nextOf F_arcs F_head F_tail F_kept) sz) := by
  refine Met.ofW (cc := cX0_addOperation) (maxL := 6) (ret := (some .int)) (by decide) rfl ?_
  intro p e s m args below meth c s₁ B hml hv
  obtain ⟨rfl, hsz, hP, hK, hD0, hN⟩ := hv
  have hx := B.exec
  have hb := B.bytes
  have hr := B.returns
  have hts := atoms_spec (ws := wsX0_addOperation) B.pre
  have hown : s.vm.findClass RX0 = some m.cls := findClass_of_methodNamed B.named
  have hlocks := B.notSynchronized
  subst hsz
  have hD := hD0.self (sz := s.heap.size)
  generalize hAe : va_A (wF h_F h_F_firstOf h_F_lastOf h_F_jobOf h_F_machineOf h_F_duration h_F_nextOf h_F_arcs h_F_head h_F_tail h_F_kept cI F_jobs F_size F_firstOf F_lastOf F_jobOf F_machineOf F_duration F_nextOf F_arcs F_head F_tail F_kept) s.heap.size = A at hD ⊢
  have hA : ∀ q : Nat, s.heap.size ≤ q → A q := fun q h => by rw [← hAe]; exact Or.inr h
  have hS : va_S A s.heap s.heap [] := va_S.rf
  have hP : va_P (dC, dI) vwCl (wF h_F h_F_firstOf h_F_lastOf h_F_jobOf h_F_machineOf h_F_duration h_F_nextOf h_F_arcs h_F_head h_F_tail h_F_kept cI F_jobs F_size F_firstOf F_lastOf F_jobOf F_machineOf F_duration F_nextOf F_arcs F_head F_tail F_kept) s.heap := hP
  have hl := lv_entry ([.ref h_F, .int a0, .int a1, .int a2]) (n := 6) (Nat.le_of_ble_eq_true rfl)
  rw [lg_entry_eq]
  generalize (lg_sl ([.ref h_F, .int a0, .int a1, .int a2]) ++ List.replicate (6 - (lg_sl ([.ref h_F, .int a0, .int a1, .int a2])).length) Slot.unset).toArray = ls at hl ⊢
  have hl : lv_has ls 6 [(0, .ref h_F), (1, .int a0), (2, .int a1), (3, .int a2)] := hl
  obtain ⟨H, hH⟩ : ∃ H, H = s.heap := ⟨_, rfl⟩
  rw [← hH] at hP
  have hS : va_S A s.heap H [] := by rw [hH]; exact hS
  refine W_heap hH ?_
  unfold wp_X0_addOperation at hw
  have hin_X0 : ∀ w ∈ u_ws RX0 TX0 12, w ∈ wsX0_addOperation := by decide +kernel
  refine lv_aload_n (pc := 0) hx hb dX0_addOperation_0 rfl (lv_at hl 0 rfl) ?_
  refine va_get (D := (dC, dI)) (ci := 0) (v := .int F_size) (C := RX0) (T := TX0) (N := 12) (pc := 1) hx hb hts hin_X0 hown hK hP 0 rfl rfl 1 (by decide) (hts (.fieldLink RX0 46 "JobShop$Floor" "size" "I") (by decide +kernel)) (fun _ h9 => h9) rfl dX0_addOperation_1 ?_
  refine lv_istore (lv' := [(4, .int F_size), (0, .ref h_F), (1, .int a0), (2, .int a1), (3, .int a2)]) (pc := 4) hx hb dX0_addOperation_4 hl (by decide) rfl (fun ls hl => ?_)
  refine lv_aload_n (pc := 6) hx hb dX0_addOperation_6 rfl (lv_at hl 1 rfl) ?_
  refine va_get (D := (dC, dI)) (ci := 0) (v := .ref h_F_jobOf) (C := RX0) (T := TX0) (N := 12) (pc := 7) hx hb hts hin_X0 hown hK hP 0 rfl rfl 4 (by decide) (hts (.fieldLink RX0 18 "JobShop$Floor" "jobOf" "[I") (by decide +kernel)) (fun _ h9 => h9) rfl dX0_addOperation_7 ?_
  refine lv_iload (pc := 10) hx hb dX0_addOperation_10 (lv_at hl 0 rfl) ?_
  refine lv_iload_n (pc := 12) hx hb dX0_addOperation_12 rfl (lv_at hl 2 rfl) ?_
  obtain ⟨b_1, hw⟩ := hw
  refine va_iast (pc := 13) hx hb hK hP hD hS 3 0 rfl rfl b_1 dX0_addOperation_13 (fun H locs hP hD hS => ?_)
  have hP : va_P (dC, dI) vwCl (wF h_F h_F_firstOf h_F_lastOf h_F_jobOf h_F_machineOf h_F_duration h_F_nextOf h_F_arcs h_F_head h_F_tail h_F_kept cI F_jobs F_size F_firstOf F_lastOf (upd F_jobOf F_size.toNatClampNeg a0) F_machineOf F_duration F_nextOf F_arcs F_head F_tail F_kept) H := hP
  have hD : va_D A (wF h_F h_F_firstOf h_F_lastOf h_F_jobOf h_F_machineOf h_F_duration h_F_nextOf h_F_arcs h_F_head h_F_tail h_F_kept cI F_jobs F_size F_firstOf F_lastOf (upd F_jobOf F_size.toNatClampNeg a0) F_machineOf F_duration F_nextOf F_arcs F_head F_tail F_kept) := hD
  refine lv_aload_n (pc := 14) hx hb dX0_addOperation_14 rfl (lv_at hl 1 rfl) ?_
  refine va_get (D := (dC, dI)) (ci := 0) (v := .ref h_F_machineOf) (C := RX0) (T := TX0) (N := 12) (pc := 15) hx hb hts hin_X0 hown hK hP 0 rfl rfl 5 (by decide) (hts (.fieldLink RX0 21 "JobShop$Floor" "machineOf" "[I") (by decide +kernel)) (fun _ h9 => h9) rfl dX0_addOperation_15 ?_
  refine lv_iload (pc := 18) hx hb dX0_addOperation_18 (lv_at hl 0 rfl) ?_
  refine lv_iload_n (pc := 20) hx hb dX0_addOperation_20 rfl (lv_at hl 3 rfl) ?_
  obtain ⟨b_2, hw⟩ := hw
  refine va_iast (pc := 21) hx hb hK hP hD hS 4 0 rfl rfl b_2 dX0_addOperation_21 (fun H locs hP hD hS => ?_)
  have hP : va_P (dC, dI) vwCl (wF h_F h_F_firstOf h_F_lastOf h_F_jobOf h_F_machineOf h_F_duration h_F_nextOf h_F_arcs h_F_head h_F_tail h_F_kept cI F_jobs F_size F_firstOf F_lastOf (upd F_jobOf F_size.toNatClampNeg a0) (upd F_machineOf F_size.toNatClampNeg a1) F_duration F_nextOf F_arcs F_head F_tail F_kept) H := hP
  have hD : va_D A (wF h_F h_F_firstOf h_F_lastOf h_F_jobOf h_F_machineOf h_F_duration h_F_nextOf h_F_arcs h_F_head h_F_tail h_F_kept cI F_jobs F_size F_firstOf F_lastOf (upd F_jobOf F_size.toNatClampNeg a0) (upd F_machineOf F_size.toNatClampNeg a1) F_duration F_nextOf F_arcs F_head F_tail F_kept) := hD
  refine lv_aload_n (pc := 22) hx hb dX0_addOperation_22 rfl (lv_at hl 1 rfl) ?_
  refine va_get (D := (dC, dI)) (ci := 0) (v := .ref h_F_duration) (C := RX0) (T := TX0) (N := 12) (pc := 23) hx hb hts hin_X0 hown hK hP 0 rfl rfl 6 (by decide) (hts (.fieldLink RX0 24 "JobShop$Floor" "duration" "[I") (by decide +kernel)) (fun _ h9 => h9) rfl dX0_addOperation_23 ?_
  refine lv_iload (pc := 26) hx hb dX0_addOperation_26 (lv_at hl 0 rfl) ?_
  refine lv_iload_n (pc := 28) hx hb dX0_addOperation_28 rfl (lv_at hl 4 rfl) ?_
  obtain ⟨b_3, hw⟩ := hw
  refine va_iast (pc := 29) hx hb hK hP hD hS 5 0 rfl rfl b_3 dX0_addOperation_29 (fun H locs hP hD hS => ?_)
  have hP : va_P (dC, dI) vwCl (wF h_F h_F_firstOf h_F_lastOf h_F_jobOf h_F_machineOf h_F_duration h_F_nextOf h_F_arcs h_F_head h_F_tail h_F_kept cI F_jobs F_size F_firstOf F_lastOf (upd F_jobOf F_size.toNatClampNeg a0) (upd F_machineOf F_size.toNatClampNeg a1) (upd F_duration F_size.toNatClampNeg a2) F_nextOf F_arcs F_head F_tail F_kept) H := hP
  have hD : va_D A (wF h_F h_F_firstOf h_F_lastOf h_F_jobOf h_F_machineOf h_F_duration h_F_nextOf h_F_arcs h_F_head h_F_tail h_F_kept cI F_jobs F_size F_firstOf F_lastOf (upd F_jobOf F_size.toNatClampNeg a0) (upd F_machineOf F_size.toNatClampNeg a1) (upd F_duration F_size.toNatClampNeg a2) F_nextOf F_arcs F_head F_tail F_kept) := hD
  refine lv_aload_n (pc := 30) hx hb dX0_addOperation_30 rfl (lv_at hl 1 rfl) ?_
  refine va_get (D := (dC, dI)) (ci := 0) (v := .ref h_F_nextOf) (C := RX0) (T := TX0) (N := 12) (pc := 31) hx hb hts hin_X0 hown hK hP 0 rfl rfl 7 (by decide) (hts (.fieldLink RX0 27 "JobShop$Floor" "nextOf" "[I") (by decide +kernel)) (fun _ h9 => h9) rfl dX0_addOperation_31 ?_
  refine lv_iload (pc := 34) hx hb dX0_addOperation_34 (lv_at hl 0 rfl) ?_
  refine lv_iconst (v := (-1)) (pc := 36) hx hb dX0_addOperation_36 (by decide) ?_
  obtain ⟨b_4, hw⟩ := hw
  refine va_iast (pc := 37) hx hb hK hP hD hS 6 0 rfl rfl b_4 dX0_addOperation_37 (fun H locs hP hD hS => ?_)
  have hP : va_P (dC, dI) vwCl (wF h_F h_F_firstOf h_F_lastOf h_F_jobOf h_F_machineOf h_F_duration h_F_nextOf h_F_arcs h_F_head h_F_tail h_F_kept cI F_jobs F_size F_firstOf F_lastOf (upd F_jobOf F_size.toNatClampNeg a0) (upd F_machineOf F_size.toNatClampNeg a1) (upd F_duration F_size.toNatClampNeg a2) (upd F_nextOf F_size.toNatClampNeg (-1)) F_arcs F_head F_tail F_kept) H := hP
  have hD : va_D A (wF h_F h_F_firstOf h_F_lastOf h_F_jobOf h_F_machineOf h_F_duration h_F_nextOf h_F_arcs h_F_head h_F_tail h_F_kept cI F_jobs F_size F_firstOf F_lastOf (upd F_jobOf F_size.toNatClampNeg a0) (upd F_machineOf F_size.toNatClampNeg a1) (upd F_duration F_size.toNatClampNeg a2) (upd F_nextOf F_size.toNatClampNeg (-1)) F_arcs F_head F_tail F_kept) := hD
  refine lv_aload_n (pc := 38) hx hb dX0_addOperation_38 rfl (lv_at hl 1 rfl) ?_
  refine va_get (D := (dC, dI)) (ci := 0) (v := .ref h_F_arcs) (C := RX0) (T := TX0) (N := 12) (pc := 39) hx hb hts hin_X0 hown hK hP 0 rfl rfl 8 (by decide) (hts (.fieldLink RX0 30 "JobShop$Floor" "arcs" "[I") (by decide +kernel)) (fun _ h9 => h9) rfl dX0_addOperation_39 ?_
  refine lv_iload (pc := 42) hx hb dX0_addOperation_42 (lv_at hl 0 rfl) ?_
  refine lv_iconst (v := 0) (pc := 44) hx hb dX0_addOperation_44 (by decide) ?_
  obtain ⟨b_5, hw⟩ := hw
  refine va_iast (pc := 45) hx hb hK hP hD hS 7 0 rfl rfl b_5 dX0_addOperation_45 (fun H locs hP hD hS => ?_)
  have hP : va_P (dC, dI) vwCl (wF h_F h_F_firstOf h_F_lastOf h_F_jobOf h_F_machineOf h_F_duration h_F_nextOf h_F_arcs h_F_head h_F_tail h_F_kept cI F_jobs F_size F_firstOf F_lastOf (upd F_jobOf F_size.toNatClampNeg a0) (upd F_machineOf F_size.toNatClampNeg a1) (upd F_duration F_size.toNatClampNeg a2) (upd F_nextOf F_size.toNatClampNeg (-1)) (upd F_arcs F_size.toNatClampNeg 0) F_head F_tail F_kept) H := hP
  have hD : va_D A (wF h_F h_F_firstOf h_F_lastOf h_F_jobOf h_F_machineOf h_F_duration h_F_nextOf h_F_arcs h_F_head h_F_tail h_F_kept cI F_jobs F_size F_firstOf F_lastOf (upd F_jobOf F_size.toNatClampNeg a0) (upd F_machineOf F_size.toNatClampNeg a1) (upd F_duration F_size.toNatClampNeg a2) (upd F_nextOf F_size.toNatClampNeg (-1)) (upd F_arcs F_size.toNatClampNeg 0) F_head F_tail F_kept) := hD
  refine lv_aload_n (pc := 46) hx hb dX0_addOperation_46 rfl (lv_at hl 1 rfl) ?_
  refine va_get (D := (dC, dI)) (ci := 0) (v := .ref h_F_lastOf) (C := RX0) (T := TX0) (N := 12) (pc := 47) hx hb hts hin_X0 hown hK hP 0 rfl rfl 3 (by decide) (hts (.fieldLink RX0 15 "JobShop$Floor" "lastOf" "[I") (by decide +kernel)) (fun _ h9 => h9) rfl dX0_addOperation_47 ?_
  refine lv_iload_n (pc := 50) hx hb dX0_addOperation_50 rfl (lv_at hl 2 rfl) ?_
  obtain ⟨b_6, hw⟩ := hw
  refine va_iald (pc := 51) hx hb hK hP 2 0 rfl rfl b_6 dX0_addOperation_51 ?_
  refine lv_istore (lv' := [(5, .int (F_lastOf a0.toNatClampNeg)), (4, .int F_size), (0, .ref h_F), (1, .int a0), (2, .int a1), (3, .int a2)]) (pc := 52) hx hb dX0_addOperation_52 hl (by decide) rfl (fun ls hl => ?_)
  refine lv_aload_n (pc := 54) hx hb dX0_addOperation_54 rfl (lv_at hl 2 rfl) ?_
  refine lv_iload (pc := 55) hx hb dX0_addOperation_55 (lv_at hl 0 rfl) ?_
  have hPx : va_P (dC, dI) vwCl ([] ++ (wF h_F h_F_firstOf h_F_lastOf h_F_jobOf h_F_machineOf h_F_duration h_F_nextOf h_F_arcs h_F_head h_F_tail h_F_kept cI F_jobs F_size F_firstOf F_lastOf (upd F_jobOf F_size.toNatClampNeg a0) (upd F_machineOf F_size.toNatClampNeg a1) (upd F_duration F_size.toNatClampNeg a2) (upd F_nextOf F_size.toNatClampNeg (-1)) (upd F_arcs F_size.toNatClampNeg 0) F_head F_tail F_kept)) H := hP
  have hDx : va_D A ([] ++ (wF h_F h_F_firstOf h_F_lastOf h_F_jobOf h_F_machineOf h_F_duration h_F_nextOf h_F_arcs h_F_head h_F_tail h_F_kept cI F_jobs F_size F_firstOf F_lastOf (upd F_jobOf F_size.toNatClampNeg a0) (upd F_machineOf F_size.toNatClampNeg a1) (upd F_duration F_size.toNatClampNeg a2) (upd F_nextOf F_size.toNatClampNeg (-1)) (upd F_arcs F_size.toNatClampNeg 0) F_head F_tail F_kept)) := hD
  refine kc_i (pc := 57) (w1 := (fun u : Unit => (wF h_F h_F_firstOf h_F_lastOf h_F_jobOf h_F_machineOf h_F_duration h_F_nextOf h_F_arcs h_F_head h_F_tail h_F_kept cI F_jobs F_size F_firstOf F_lastOf (upd F_jobOf F_size.toNatClampNeg a0) (upd F_machineOf F_size.toNatClampNeg a1) (upd F_duration F_size.toNatClampNeg a2) (upd F_nextOf F_size.toNatClampNeg (-1)) (upd F_arcs F_size.toNatClampNeg 0) F_head F_tail F_kept))) (va_runV (As := [.int (F_lastOf a0.toNatClampNeg)]) (rest := []) ⟨hx, hb, hml, hown, hts⟩ (c_X0_isOperation l dC dI h_F h_F_firstOf h_F_lastOf h_F_jobOf h_F_machineOf h_F_duration h_F_nextOf h_F_arcs h_F_head h_F_tail h_F_kept H.size cI F_jobs F_size F_firstOf F_lastOf (upd F_jobOf F_size.toNatClampNeg a0) (upd F_machineOf F_size.toNatClampNeg a1) (upd F_duration F_size.toNatClampNeg a2) (upd F_nextOf F_size.toNatClampNeg (-1)) (upd F_arcs F_size.toNatClampNeg 0) F_head F_tail F_kept (F_lastOf a0.toNatClampNeg) _ hw) (cwV 1 hts gX0_addOperation_X0_isOperation rfl rfl rfl (by decide +kernel) ⟨Nat.le_of_ble_eq_true rfl, Nat.le_of_ble_eq_true rfl⟩) (kc_preV (q0 := 0) (ci := 0) hK hPx hDx [0] rfl rfl rfl hN) rfl rfl hl.1 rfl (lv_room (Nat.le_of_ble_eq_true rfl)) dX0_addOperation_57 ⟨Nat.zero_le _, Nat.zero_le _⟩) hPx hDx hS hA (fun r_57 u H locs hw hP hD hS => ?_)
  have hP : va_P (dC, dI) vwCl (wF h_F h_F_firstOf h_F_lastOf h_F_jobOf h_F_machineOf h_F_duration h_F_nextOf h_F_arcs h_F_head h_F_tail h_F_kept cI F_jobs F_size F_firstOf F_lastOf (upd F_jobOf F_size.toNatClampNeg a0) (upd F_machineOf F_size.toNatClampNeg a1) (upd F_duration F_size.toNatClampNeg a2) (upd F_nextOf F_size.toNatClampNeg (-1)) (upd F_arcs F_size.toNatClampNeg 0) F_head F_tail F_kept) H := hP
  have hD : va_D A (wF h_F h_F_firstOf h_F_lastOf h_F_jobOf h_F_machineOf h_F_duration h_F_nextOf h_F_arcs h_F_head h_F_tail h_F_kept cI F_jobs F_size F_firstOf F_lastOf (upd F_jobOf F_size.toNatClampNeg a0) (upd F_machineOf F_size.toNatClampNeg a1) (upd F_duration F_size.toNatClampNeg a2) (upd F_nextOf F_size.toNatClampNeg (-1)) (upd F_arcs F_size.toNatClampNeg 0) F_head F_tail F_kept) := hD
  obtain ⟨J_83, hs_83, hw⟩ := hw
  refine jn_W (J := fun z : (Nat → Int32) × (Nat → Int32) => J_83 z.1 z.2) 83 (fun z => []) (fun (z : (Nat → Int32) × (Nat → Int32)) H locs ls => va_P (dC, dI) vwCl (wF h_F h_F_firstOf h_F_lastOf h_F_jobOf h_F_machineOf h_F_duration h_F_nextOf h_F_arcs h_F_head h_F_tail h_F_kept cI F_jobs F_size z.1 F_lastOf (upd F_jobOf F_size.toNatClampNeg a0) (upd F_machineOf F_size.toNatClampNeg a1) (upd F_duration F_size.toNatClampNeg a2) z.2 (upd F_arcs F_size.toNatClampNeg 0) F_head F_tail F_kept) H ∧ va_D A (wF h_F h_F_firstOf h_F_lastOf h_F_jobOf h_F_machineOf h_F_duration h_F_nextOf h_F_arcs h_F_head h_F_tail h_F_kept cI F_jobs F_size z.1 F_lastOf (upd F_jobOf F_size.toNatClampNeg a0) (upd F_machineOf F_size.toNatClampNeg a1) (upd F_duration F_size.toNatClampNeg a2) z.2 (upd F_arcs F_size.toNatClampNeg 0) F_head F_tail F_kept) ∧ va_S A s.heap H locs ∧ lv_has ls 6 [(0, .ref h_F), (1, .int a0), (4, .int F_size)]) ?_ ?_
  · rintro ⟨F_firstOf_83, F_nextOf_83⟩ H locs ls hI ⟨hP, hD, hS, hl⟩
    have hw := hs_83 F_firstOf_83 F_nextOf_83 hI
    have hP : va_P (dC, dI) vwCl (wF h_F h_F_firstOf h_F_lastOf h_F_jobOf h_F_machineOf h_F_duration h_F_nextOf h_F_arcs h_F_head h_F_tail h_F_kept cI F_jobs F_size F_firstOf_83 F_lastOf (upd F_jobOf F_size.toNatClampNeg a0) (upd F_machineOf F_size.toNatClampNeg a1) (upd F_duration F_size.toNatClampNeg a2) F_nextOf_83 (upd F_arcs F_size.toNatClampNeg 0) F_head F_tail F_kept) H := hP
    have hD : va_D A (wF h_F h_F_firstOf h_F_lastOf h_F_jobOf h_F_machineOf h_F_duration h_F_nextOf h_F_arcs h_F_head h_F_tail h_F_kept cI F_jobs F_size F_firstOf_83 F_lastOf (upd F_jobOf F_size.toNatClampNeg a0) (upd F_machineOf F_size.toNatClampNeg a1) (upd F_duration F_size.toNatClampNeg a2) F_nextOf_83 (upd F_arcs F_size.toNatClampNeg 0) F_head F_tail F_kept) := hD
    have hl : lv_has ls 6 [(0, .ref h_F), (1, .int a0), (4, .int F_size)] := hl
    refine W.eq (g2 := F0 m 83 ls []) rfl ?_
    refine lv_aload_n (pc := 83) hx hb dX0_addOperation_83 rfl (lv_at hl 0 rfl) ?_
    refine va_get (D := (dC, dI)) (ci := 0) (v := .ref h_F_lastOf) (C := RX0) (T := TX0) (N := 12) (pc := 84) hx hb hts hin_X0 hown hK hP 0 rfl rfl 3 (by decide) (hts (.fieldLink RX0 15 "JobShop$Floor" "lastOf" "[I") (by decide +kernel)) (fun _ h9 => h9) rfl dX0_addOperation_84 ?_
    refine lv_iload_n (pc := 87) hx hb dX0_addOperation_87 rfl (lv_at hl 1 rfl) ?_
    refine lv_iload (pc := 88) hx hb dX0_addOperation_88 (lv_at hl 2 rfl) ?_
    obtain ⟨b_7, hw⟩ := hw
    refine va_iast (pc := 90) hx hb hK hP hD hS 2 0 rfl rfl b_7 dX0_addOperation_90 (fun H locs hP hD hS => ?_)
    have hP : va_P (dC, dI) vwCl (wF h_F h_F_firstOf h_F_lastOf h_F_jobOf h_F_machineOf h_F_duration h_F_nextOf h_F_arcs h_F_head h_F_tail h_F_kept cI F_jobs F_size F_firstOf_83 (upd F_lastOf a0.toNatClampNeg F_size) (upd F_jobOf F_size.toNatClampNeg a0) (upd F_machineOf F_size.toNatClampNeg a1) (upd F_duration F_size.toNatClampNeg a2) F_nextOf_83 (upd F_arcs F_size.toNatClampNeg 0) F_head F_tail F_kept) H := hP
    have hD : va_D A (wF h_F h_F_firstOf h_F_lastOf h_F_jobOf h_F_machineOf h_F_duration h_F_nextOf h_F_arcs h_F_head h_F_tail h_F_kept cI F_jobs F_size F_firstOf_83 (upd F_lastOf a0.toNatClampNeg F_size) (upd F_jobOf F_size.toNatClampNeg a0) (upd F_machineOf F_size.toNatClampNeg a1) (upd F_duration F_size.toNatClampNeg a2) F_nextOf_83 (upd F_arcs F_size.toNatClampNeg 0) F_head F_tail F_kept) := hD
    refine lv_aload_n (pc := 91) hx hb dX0_addOperation_91 rfl (lv_at hl 0 rfl) ?_
    refine lv_dup (pc := 92) hx hb dX0_addOperation_92 rfl ?_
    refine va_get (D := (dC, dI)) (ci := 0) (v := .int F_size) (C := RX0) (T := TX0) (N := 12) (pc := 93) hx hb hts hin_X0 hown hK hP 0 rfl rfl 1 (by decide) (hts (.fieldLink RX0 46 "JobShop$Floor" "size" "I") (by decide +kernel)) (fun _ h9 => h9) rfl dX0_addOperation_93 ?_
    refine lv_iconst (v := 1) (pc := 96) hx hb dX0_addOperation_96 (by decide) ?_
    refine lv_iadd (pc := 97) hx hb dX0_addOperation_97 ?_
    refine va_put (D := (dC, dI)) (ci := 0) (v := .int (F_size + 1)) (ty := .int) (C := RX0) (T := TX0) (N := 12) (pc := 98) hx hb hts hin_X0 tyX0 tyX0_ok nmX0 hown hK hP hD hS 0 rfl rfl 1 (by decide) (hts (.fieldLink RX0 46 "JobShop$Floor" "size" "I") (by decide +kernel)) (fun _ h9 => h9) rfl (by decide +kernel) rfl rfl (Nat.le_of_ble_eq_true rfl) dX0_addOperation_98 (fun H locs hP hD hS => ?_)
    have hP : va_P (dC, dI) vwCl (wF h_F h_F_firstOf h_F_lastOf h_F_jobOf h_F_machineOf h_F_duration h_F_nextOf h_F_arcs h_F_head h_F_tail h_F_kept cI F_jobs (F_size + 1) F_firstOf_83 (upd F_lastOf a0.toNatClampNeg F_size) (upd F_jobOf F_size.toNatClampNeg a0) (upd F_machineOf F_size.toNatClampNeg a1) (upd F_duration F_size.toNatClampNeg a2) F_nextOf_83 (upd F_arcs F_size.toNatClampNeg 0) F_head F_tail F_kept) H := hP
    have hD : va_D A (wF h_F h_F_firstOf h_F_lastOf h_F_jobOf h_F_machineOf h_F_duration h_F_nextOf h_F_arcs h_F_head h_F_tail h_F_kept cI F_jobs (F_size + 1) F_firstOf_83 (upd F_lastOf a0.toNatClampNeg F_size) (upd F_jobOf F_size.toNatClampNeg a0) (upd F_machineOf F_size.toNatClampNeg a1) (upd F_duration F_size.toNatClampNeg a2) F_nextOf_83 (upd F_arcs F_size.toNatClampNeg 0) F_head F_tail F_kept) := hD
    refine lv_aload_n (pc := 101) hx hb dX0_addOperation_101 rfl (lv_at hl 0 rfl) ?_
    have hPx : va_P (dC, dI) vwCl ([] ++ (wF h_F h_F_firstOf h_F_lastOf h_F_jobOf h_F_machineOf h_F_duration h_F_nextOf h_F_arcs h_F_head h_F_tail h_F_kept cI F_jobs (F_size + 1) F_firstOf_83 (upd F_lastOf a0.toNatClampNeg F_size) (upd F_jobOf F_size.toNatClampNeg a0) (upd F_machineOf F_size.toNatClampNeg a1) (upd F_duration F_size.toNatClampNeg a2) F_nextOf_83 (upd F_arcs F_size.toNatClampNeg 0) F_head F_tail F_kept)) H := hP
    have hDx : va_D A ([] ++ (wF h_F h_F_firstOf h_F_lastOf h_F_jobOf h_F_machineOf h_F_duration h_F_nextOf h_F_arcs h_F_head h_F_tail h_F_kept cI F_jobs (F_size + 1) F_firstOf_83 (upd F_lastOf a0.toNatClampNeg F_size) (upd F_jobOf F_size.toNatClampNeg a0) (upd F_machineOf F_size.toNatClampNeg a1) (upd F_duration F_size.toNatClampNeg a2) F_nextOf_83 (upd F_arcs F_size.toNatClampNeg 0) F_head F_tail F_kept)) := hD
    refine kc_v (pc := 102) (w1 := (fun u : (Nat → Int32) × (Nat → Int32) => (wF h_F h_F_firstOf h_F_lastOf h_F_jobOf h_F_machineOf h_F_duration h_F_nextOf h_F_arcs h_F_head h_F_tail h_F_kept cI F_jobs (F_size + 1) F_firstOf_83 (upd F_lastOf a0.toNatClampNeg F_size) (upd F_jobOf F_size.toNatClampNeg a0) (upd F_machineOf F_size.toNatClampNeg a1) (upd F_duration F_size.toNatClampNeg a2) F_nextOf_83 (upd F_arcs F_size.toNatClampNeg 0) u.1 u.2 F_kept))) (va_runV (As := []) (rest := []) ⟨hx, hb, hml, hown, hts⟩ (c_X0_measure l dC dI h_F h_F_firstOf h_F_lastOf h_F_jobOf h_F_machineOf h_F_duration h_F_nextOf h_F_arcs h_F_head h_F_tail h_F_kept H.size cI F_jobs (F_size + 1) F_firstOf_83 (upd F_lastOf a0.toNatClampNeg F_size) (upd F_jobOf F_size.toNatClampNeg a0) (upd F_machineOf F_size.toNatClampNeg a1) (upd F_duration F_size.toNatClampNeg a2) F_nextOf_83 (upd F_arcs F_size.toNatClampNeg 0) F_head F_tail F_kept _ hw) (cwV 0 hts gX0_addOperation_X0_measure rfl rfl rfl (by decide +kernel) ⟨Nat.le_of_ble_eq_true rfl, Nat.le_of_ble_eq_true rfl⟩) (kc_preV (q0 := 0) (ci := 0) hK hPx hDx [0] rfl rfl rfl hN) rfl rfl hl.1 rfl (lv_room (Nat.le_of_ble_eq_true rfl)) dX0_addOperation_102 ⟨Nat.zero_le _, Nat.zero_le _⟩) hPx hDx hS hA (fun u H locs hw hP hD hS => ?_)
    obtain ⟨F_head_102, F_tail_102⟩ := u
    have hP : va_P (dC, dI) vwCl (wF h_F h_F_firstOf h_F_lastOf h_F_jobOf h_F_machineOf h_F_duration h_F_nextOf h_F_arcs h_F_head h_F_tail h_F_kept cI F_jobs (F_size + 1) F_firstOf_83 (upd F_lastOf a0.toNatClampNeg F_size) (upd F_jobOf F_size.toNatClampNeg a0) (upd F_machineOf F_size.toNatClampNeg a1) (upd F_duration F_size.toNatClampNeg a2) F_nextOf_83 (upd F_arcs F_size.toNatClampNeg 0) F_head_102 F_tail_102 F_kept) H := hP
    have hD : va_D A (wF h_F h_F_firstOf h_F_lastOf h_F_jobOf h_F_machineOf h_F_duration h_F_nextOf h_F_arcs h_F_head h_F_tail h_F_kept cI F_jobs (F_size + 1) F_firstOf_83 (upd F_lastOf a0.toNatClampNeg F_size) (upd F_jobOf F_size.toNatClampNeg a0) (upd F_machineOf F_size.toNatClampNeg a1) (upd F_duration F_size.toNatClampNeg a2) F_nextOf_83 (upd F_arcs F_size.toNatClampNeg 0) F_head_102 F_tail_102 F_kept) := hD
    refine lv_iload (pc := 105) hx hb dX0_addOperation_105 (lv_at hl 2 rfl) ?_
    exact W.iret (v := F_size) hx hb hr (fun t ht hW => ⟨⟨F_size, ((F_size + 1), F_firstOf_83, (upd F_lastOf a0.toNatClampNeg F_size), (upd F_jobOf F_size.toNatClampNeg a0), (upd F_machineOf F_size.toNatClampNeg a1), (upd F_duration F_size.toNatClampNeg a2), F_nextOf_83, (upd F_arcs F_size.toNatClampNeg 0), F_head_102, F_tail_102), rfl, hw, by rw [ht]; exact hP, va_K.moved hW.alike hK, hD⟩, hS.F ht⟩) hS.2.2 dX0_addOperation_107
  · intro hj_83
    refine lv_if_eq (tgt := 75) (pc := 60) hx hb dX0_addOperation_60 (by decide) (fun c_8 => ?_) (fun c_8 => ?_)
    · have hw := hw.1 c_8
      refine lv_aload_n (pc := 75) hx hb dX0_addOperation_75 rfl (lv_at hl 2 rfl) ?_
      refine va_get (D := (dC, dI)) (ci := 0) (v := .ref h_F_firstOf) (C := RX0) (T := TX0) (N := 12) (pc := 76) hx hb hts hin_X0 hown hK hP 0 rfl rfl 2 (by decide) (hts (.fieldLink RX0 9 "JobShop$Floor" "firstOf" "[I") (by decide +kernel)) (fun _ h9 => h9) rfl dX0_addOperation_76 ?_
      refine lv_iload_n (pc := 79) hx hb dX0_addOperation_79 rfl (lv_at hl 3 rfl) ?_
      refine lv_iload (pc := 80) hx hb dX0_addOperation_80 (lv_at hl 1 rfl) ?_
      obtain ⟨b_9, hw⟩ := hw
      refine va_iast (pc := 82) hx hb hK hP hD hS 1 0 rfl rfl b_9 dX0_addOperation_82 (fun H locs hP hD hS => ?_)
      have hP : va_P (dC, dI) vwCl (wF h_F h_F_firstOf h_F_lastOf h_F_jobOf h_F_machineOf h_F_duration h_F_nextOf h_F_arcs h_F_head h_F_tail h_F_kept cI F_jobs F_size (upd F_firstOf a0.toNatClampNeg F_size) F_lastOf (upd F_jobOf F_size.toNatClampNeg a0) (upd F_machineOf F_size.toNatClampNeg a1) (upd F_duration F_size.toNatClampNeg a2) (upd F_nextOf F_size.toNatClampNeg (-1)) (upd F_arcs F_size.toNatClampNeg 0) F_head F_tail F_kept) H := hP
      have hD : va_D A (wF h_F h_F_firstOf h_F_lastOf h_F_jobOf h_F_machineOf h_F_duration h_F_nextOf h_F_arcs h_F_head h_F_tail h_F_kept cI F_jobs F_size (upd F_firstOf a0.toNatClampNeg F_size) F_lastOf (upd F_jobOf F_size.toNatClampNeg a0) (upd F_machineOf F_size.toNatClampNeg a1) (upd F_duration F_size.toNatClampNeg a2) (upd F_nextOf F_size.toNatClampNeg (-1)) (upd F_arcs F_size.toNatClampNeg 0) F_head F_tail F_kept) := hD
      exact hj_83 ((upd F_firstOf a0.toNatClampNeg F_size), (upd F_nextOf F_size.toNatClampNeg (-1))) _ _ _ hw ⟨hP, hD, hS, (lv_sub hl [2, 3, 1] rfl)⟩
    · have hw := hw.2 c_8
      refine lv_aload_n (pc := 63) hx hb dX0_addOperation_63 rfl (lv_at hl 2 rfl) ?_
      refine va_get (D := (dC, dI)) (ci := 0) (v := .ref h_F_nextOf) (C := RX0) (T := TX0) (N := 12) (pc := 64) hx hb hts hin_X0 hown hK hP 0 rfl rfl 7 (by decide) (hts (.fieldLink RX0 27 "JobShop$Floor" "nextOf" "[I") (by decide +kernel)) (fun _ h9 => h9) rfl dX0_addOperation_64 ?_
      refine lv_iload (pc := 67) hx hb dX0_addOperation_67 (lv_at hl 0 rfl) ?_
      refine lv_iload (pc := 69) hx hb dX0_addOperation_69 (lv_at hl 1 rfl) ?_
      obtain ⟨b_10, hw⟩ := hw
      refine va_iast (pc := 71) hx hb hK hP hD hS 6 0 rfl rfl b_10 dX0_addOperation_71 (fun H locs hP hD hS => ?_)
      have hP : va_P (dC, dI) vwCl (wF h_F h_F_firstOf h_F_lastOf h_F_jobOf h_F_machineOf h_F_duration h_F_nextOf h_F_arcs h_F_head h_F_tail h_F_kept cI F_jobs F_size F_firstOf F_lastOf (upd F_jobOf F_size.toNatClampNeg a0) (upd F_machineOf F_size.toNatClampNeg a1) (upd F_duration F_size.toNatClampNeg a2) (upd (upd F_nextOf F_size.toNatClampNeg (-1)) (F_lastOf a0.toNatClampNeg).toNatClampNeg F_size) (upd F_arcs F_size.toNatClampNeg 0) F_head F_tail F_kept) H := hP
      have hD : va_D A (wF h_F h_F_firstOf h_F_lastOf h_F_jobOf h_F_machineOf h_F_duration h_F_nextOf h_F_arcs h_F_head h_F_tail h_F_kept cI F_jobs F_size F_firstOf F_lastOf (upd F_jobOf F_size.toNatClampNeg a0) (upd F_machineOf F_size.toNatClampNeg a1) (upd F_duration F_size.toNatClampNeg a2) (upd (upd F_nextOf F_size.toNatClampNeg (-1)) (F_lastOf a0.toNatClampNeg).toNatClampNeg F_size) (upd F_arcs F_size.toNatClampNeg 0) F_head F_tail F_kept) := hD
      refine lv_goto (tgt := 83) (pc := 72) hx hb dX0_addOperation_72 (by decide) ?_
      exact hj_83 (F_firstOf, (upd (upd F_nextOf F_size.toNatClampNeg (-1)) (F_lastOf a0.toNatClampNeg).toNatClampNeg F_size)) _ _ _ hw ⟨hP, hD, hS, (lv_sub hl [2, 3, 1] rfl)⟩
set_option maxHeartbeats 4000000 in
set_option maxRecDepth 100000 in
theorem c_X0_hasArc (l : Launch) (dC : Nat → ClassId) (dI : Nat → Nat → Nat) (h_F h_F_firstOf h_F_lastOf h_F_jobOf h_F_machineOf h_F_duration h_F_nextOf h_F_arcs h_F_head h_F_tail h_F_kept : Nat) (sz : Nat) (cI : ClassId) (F_jobs : Int32) (F_size : Int32) (F_firstOf : Nat → Int32) (F_lastOf : Nat → Int32) (F_jobOf : Nat → Int32) (F_machineOf : Nat → Int32) (F_duration : Nat → Int32) (F_nextOf : Nat → Int32) (F_arcs : Nat → Int32) (F_head : Nat → Int32) (F_tail : Nat → Int32) (F_kept : Nat → Int32) (a0 a1 : Int32) (post : Int32 → Prop) (hw : wp_X0_hasArc F_arcs a0 a1 post) : Met l yX0_hasArc wsX0_hasArc ({ frames := 1, cells := 0, slots := 0, locals := 21 }) (va_Pc [.ref h_F, .int a0, .int a1] (fun U => U.heap.size = sz ∧ va_P (dC, dI) vwCl (wF h_F h_F_firstOf h_F_lastOf h_F_jobOf h_F_machineOf h_F_duration h_F_nextOf h_F_arcs h_F_head h_F_tail h_F_kept cI F_jobs F_size F_firstOf F_lastOf F_jobOf F_machineOf F_duration F_nextOf F_arcs F_head F_tail F_kept) U.heap ∧ va_K (dC, dI) vwCl [(cI, .int)] U ∧ va_D (fun _ => True) (wF h_F h_F_firstOf h_F_lastOf h_F_jobOf h_F_machineOf h_F_duration h_F_nextOf h_F_arcs h_F_head h_F_tail h_F_kept cI F_jobs F_size F_firstOf F_lastOf F_jobOf F_machineOf F_duration F_nextOf F_arcs F_head F_tail F_kept) ∧ nw U)) (va_Qi (fun (r : Int32) (u : Unit) => post r ) (fun u t => va_P (dC, dI) vwCl (wF h_F h_F_firstOf h_F_lastOf h_F_jobOf h_F_machineOf h_F_duration h_F_nextOf h_F_arcs h_F_head h_F_tail h_F_kept cI F_jobs F_size F_firstOf F_lastOf F_jobOf F_machineOf F_duration F_nextOf F_arcs F_head F_tail F_kept) t.heap ∧ va_K (dC, dI) vwCl [(cI, .int)] t ∧ va_D (va_A (wF h_F h_F_firstOf h_F_lastOf h_F_jobOf h_F_machineOf h_F_duration h_F_nextOf h_F_arcs h_F_head h_F_tail h_F_kept cI F_jobs F_size F_firstOf F_lastOf F_jobOf F_machineOf F_duration F_nextOf F_arcs F_head F_tail F_kept) sz) (wF h_F h_F_firstOf h_F_lastOf h_F_jobOf h_F_machineOf h_F_duration h_F_nextOf h_F_arcs h_F_head h_F_tail h_F_kept cI F_jobs F_size F_firstOf F_lastOf F_jobOf F_machineOf F_duration F_nextOf F_arcs F_head F_tail F_kept)) (va_A (wF h_F h_F_firstOf h_F_lastOf h_F_jobOf h_F_machineOf h_F_duration h_F_nextOf h_F_arcs h_F_head h_F_tail h_F_kept cI F_jobs F_size F_firstOf F_lastOf F_jobOf F_machineOf F_duration F_nextOf F_arcs F_head F_tail F_kept) sz)) 0 0 (va_A (wF h_F h_F_firstOf h_F_lastOf h_F_jobOf h_F_machineOf h_F_duration h_F_nextOf h_F_arcs h_F_head h_F_tail h_F_kept cI F_jobs F_size F_firstOf F_lastOf F_jobOf F_machineOf F_duration F_nextOf F_arcs F_head F_tail F_kept) sz) := by
  refine Met.ofW (cc := cX0_hasArc) (maxL := 3) (ret := (some .boolean)) (by decide) rfl ?_
  intro p e s m args below meth c s₁ B hml hv
  obtain ⟨rfl, hsz, hP, hK, hD0, hN⟩ := hv
  have hx := B.exec
  have hb := B.bytes
  have hr := B.returns
  have hts := atoms_spec (ws := wsX0_hasArc) B.pre
  have hown : s.vm.findClass RX0 = some m.cls := findClass_of_methodNamed B.named
  have hlocks := B.notSynchronized
  subst hsz
  have hD := hD0.self (sz := s.heap.size)
  generalize hAe : va_A (wF h_F h_F_firstOf h_F_lastOf h_F_jobOf h_F_machineOf h_F_duration h_F_nextOf h_F_arcs h_F_head h_F_tail h_F_kept cI F_jobs F_size F_firstOf F_lastOf F_jobOf F_machineOf F_duration F_nextOf F_arcs F_head F_tail F_kept) s.heap.size = A at hD ⊢
  have hA : ∀ q : Nat, s.heap.size ≤ q → A q := fun q h => by rw [← hAe]; exact Or.inr h
  have hS : va_S A s.heap s.heap [] := va_S.rf
  have hP : va_P (dC, dI) vwCl (wF h_F h_F_firstOf h_F_lastOf h_F_jobOf h_F_machineOf h_F_duration h_F_nextOf h_F_arcs h_F_head h_F_tail h_F_kept cI F_jobs F_size F_firstOf F_lastOf F_jobOf F_machineOf F_duration F_nextOf F_arcs F_head F_tail F_kept) s.heap := hP
  have hl := lv_entry ([.ref h_F, .int a0, .int a1]) (n := 3) (Nat.le_of_ble_eq_true rfl)
  rw [lg_entry_eq]
  generalize (lg_sl ([.ref h_F, .int a0, .int a1]) ++ List.replicate (3 - (lg_sl ([.ref h_F, .int a0, .int a1])).length) Slot.unset).toArray = ls at hl ⊢
  have hl : lv_has ls 3 [(0, .ref h_F), (1, .int a0), (2, .int a1)] := hl
  obtain ⟨H, hH⟩ : ∃ H, H = s.heap := ⟨_, rfl⟩
  rw [← hH] at hP
  have hS : va_S A s.heap H [] := by rw [hH]; exact hS
  refine W_heap hH ?_
  unfold wp_X0_hasArc at hw
  have hin_X0 : ∀ w ∈ u_ws RX0 TX0 12, w ∈ wsX0_hasArc := by decide +kernel
  refine lv_aload_n (pc := 0) hx hb dX0_hasArc_0 rfl (lv_at hl 0 rfl) ?_
  refine va_get (D := (dC, dI)) (ci := 0) (v := .ref h_F_arcs) (C := RX0) (T := TX0) (N := 12) (pc := 1) hx hb hts hin_X0 hown hK hP 0 rfl rfl 8 (by decide) (hts (.fieldLink RX0 30 "JobShop$Floor" "arcs" "[I") (by decide +kernel)) (fun _ h9 => h9) rfl dX0_hasArc_1 ?_
  refine lv_iload_n (pc := 4) hx hb dX0_hasArc_4 rfl (lv_at hl 1 rfl) ?_
  obtain ⟨b_1, hw⟩ := hw
  refine va_iald (pc := 5) hx hb hK hP 7 0 rfl rfl b_1 dX0_hasArc_5 ?_
  refine lv_iload_n (pc := 6) hx hb dX0_hasArc_6 rfl (lv_at hl 2 rfl) ?_
  have hPx : va_P (dC, dI) vwCl ([(h_F, .inr (0, [.int F_jobs, .int F_size, .ref h_F_firstOf, .ref h_F_lastOf, .ref h_F_jobOf, .ref h_F_machineOf, .ref h_F_duration, .ref h_F_nextOf, .ref h_F_arcs, .ref h_F_head, .ref h_F_tail, .ref h_F_kept])), (h_F_firstOf, .inl (cI, 4, .inl F_firstOf)), (h_F_lastOf, .inl (cI, 4, .inl F_lastOf)), (h_F_jobOf, .inl (cI, 12, .inl F_jobOf)), (h_F_machineOf, .inl (cI, 12, .inl F_machineOf)), (h_F_duration, .inl (cI, 12, .inl F_duration)), (h_F_nextOf, .inl (cI, 12, .inl F_nextOf)), (h_F_arcs, .inl (cI, 12, .inl F_arcs)), (h_F_head, .inl (cI, 12, .inl F_head)), (h_F_tail, .inl (cI, 12, .inl F_tail)), (h_F_kept, .inl (cI, 12, .inl F_kept))] ++ ([] : va_W)) H := hP
  have hDx : va_D A ([(h_F, .inr (0, [.int F_jobs, .int F_size, .ref h_F_firstOf, .ref h_F_lastOf, .ref h_F_jobOf, .ref h_F_machineOf, .ref h_F_duration, .ref h_F_nextOf, .ref h_F_arcs, .ref h_F_head, .ref h_F_tail, .ref h_F_kept])), (h_F_firstOf, .inl (cI, 4, .inl F_firstOf)), (h_F_lastOf, .inl (cI, 4, .inl F_lastOf)), (h_F_jobOf, .inl (cI, 12, .inl F_jobOf)), (h_F_machineOf, .inl (cI, 12, .inl F_machineOf)), (h_F_duration, .inl (cI, 12, .inl F_duration)), (h_F_nextOf, .inl (cI, 12, .inl F_nextOf)), (h_F_arcs, .inl (cI, 12, .inl F_arcs)), (h_F_head, .inl (cI, 12, .inl F_head)), (h_F_tail, .inl (cI, 12, .inl F_tail)), (h_F_kept, .inl (cI, 12, .inl F_kept))] ++ ([] : va_W)) := hD
  refine kc_i (pc := 7) (w1 := (fun u : Unit => ([] : va_W))) (va_runSN (As := [.int (F_arcs a0.toNatClampNeg), .int a1]) (rest := []) ⟨hx, hb, hml, hown, hts⟩ (c_X2_isIn l dC dI H.size  (F_arcs a0.toNatClampNeg) a1 _ hw) ⟨va_cnB 2 hts gX0_hasArc_X2_isIn_n56 rfl rfl rfl hN (hts (.initialized RX2) (by decide +kernel)) (by decide +kernel) ⟨Nat.le_of_ble_eq_true rfl, Nat.le_of_ble_eq_true rfl⟩, hts (.static yX2_isIn) (by decide +kernel), trivial⟩ (kc_preS hK hPx hDx [] rfl) rfl rfl hl.1 rfl (lv_room (Nat.le_of_ble_eq_true rfl)) dX0_hasArc_7 ⟨Nat.zero_le _, Nat.zero_le _⟩) hPx hDx hS hA (fun r_7 u H locs hw hP hD hS => ?_)
  have hP : va_P (dC, dI) vwCl (wF h_F h_F_firstOf h_F_lastOf h_F_jobOf h_F_machineOf h_F_duration h_F_nextOf h_F_arcs h_F_head h_F_tail h_F_kept cI F_jobs F_size F_firstOf F_lastOf F_jobOf F_machineOf F_duration F_nextOf F_arcs F_head F_tail F_kept) H := hP
  have hD : va_D A (wF h_F h_F_firstOf h_F_lastOf h_F_jobOf h_F_machineOf h_F_duration h_F_nextOf h_F_arcs h_F_head h_F_tail h_F_kept cI F_jobs F_size F_firstOf F_lastOf F_jobOf F_machineOf F_duration F_nextOf F_arcs F_head F_tail F_kept) := hD
  exact W.zret (v := r_7) hx hb hr (nar_b hw.1) (fun t ht hW => ⟨⟨r_7, (), rfl, hw.2, by rw [ht]; exact hP, va_K.moved hW.alike hK, hD⟩, hS.F ht⟩) hS.2.2 dX0_hasArc_10
set_option maxHeartbeats 4000000 in
set_option maxRecDepth 100000 in
theorem c_X0_isTied (l : Launch) (dC : Nat → ClassId) (dI : Nat → Nat → Nat) (h_F h_F_firstOf h_F_lastOf h_F_jobOf h_F_machineOf h_F_duration h_F_nextOf h_F_arcs h_F_head h_F_tail h_F_kept : Nat) (sz : Nat) (cI : ClassId) (F_jobs : Int32) (F_size : Int32) (F_firstOf : Nat → Int32) (F_lastOf : Nat → Int32) (F_jobOf : Nat → Int32) (F_machineOf : Nat → Int32) (F_duration : Nat → Int32) (F_nextOf : Nat → Int32) (F_arcs : Nat → Int32) (F_head : Nat → Int32) (F_tail : Nat → Int32) (F_kept : Nat → Int32) (a0 a1 : Int32) (post : Int32 → Prop) (hw : wp_X0_isTied F_arcs a0 a1 post) : Met l yX0_isTied wsX0_isTied ({ frames := 2, cells := 0, slots := 0, locals := 43 }) (va_Pc [.ref h_F, .int a0, .int a1] (fun U => U.heap.size = sz ∧ va_P (dC, dI) vwCl (wF h_F h_F_firstOf h_F_lastOf h_F_jobOf h_F_machineOf h_F_duration h_F_nextOf h_F_arcs h_F_head h_F_tail h_F_kept cI F_jobs F_size F_firstOf F_lastOf F_jobOf F_machineOf F_duration F_nextOf F_arcs F_head F_tail F_kept) U.heap ∧ va_K (dC, dI) vwCl [(cI, .int)] U ∧ va_D (fun _ => True) (wF h_F h_F_firstOf h_F_lastOf h_F_jobOf h_F_machineOf h_F_duration h_F_nextOf h_F_arcs h_F_head h_F_tail h_F_kept cI F_jobs F_size F_firstOf F_lastOf F_jobOf F_machineOf F_duration F_nextOf F_arcs F_head F_tail F_kept) ∧ nw U)) (va_Qi (fun (r : Int32) (u : Unit) => post r ) (fun u t => va_P (dC, dI) vwCl (wF h_F h_F_firstOf h_F_lastOf h_F_jobOf h_F_machineOf h_F_duration h_F_nextOf h_F_arcs h_F_head h_F_tail h_F_kept cI F_jobs F_size F_firstOf F_lastOf F_jobOf F_machineOf F_duration F_nextOf F_arcs F_head F_tail F_kept) t.heap ∧ va_K (dC, dI) vwCl [(cI, .int)] t ∧ va_D (va_A (wF h_F h_F_firstOf h_F_lastOf h_F_jobOf h_F_machineOf h_F_duration h_F_nextOf h_F_arcs h_F_head h_F_tail h_F_kept cI F_jobs F_size F_firstOf F_lastOf F_jobOf F_machineOf F_duration F_nextOf F_arcs F_head F_tail F_kept) sz) (wF h_F h_F_firstOf h_F_lastOf h_F_jobOf h_F_machineOf h_F_duration h_F_nextOf h_F_arcs h_F_head h_F_tail h_F_kept cI F_jobs F_size F_firstOf F_lastOf F_jobOf F_machineOf F_duration F_nextOf F_arcs F_head F_tail F_kept)) (va_A (wF h_F h_F_firstOf h_F_lastOf h_F_jobOf h_F_machineOf h_F_duration h_F_nextOf h_F_arcs h_F_head h_F_tail h_F_kept cI F_jobs F_size F_firstOf F_lastOf F_jobOf F_machineOf F_duration F_nextOf F_arcs F_head F_tail F_kept) sz)) 0 0 (va_A (wF h_F h_F_firstOf h_F_lastOf h_F_jobOf h_F_machineOf h_F_duration h_F_nextOf h_F_arcs h_F_head h_F_tail h_F_kept cI F_jobs F_size F_firstOf F_lastOf F_jobOf F_machineOf F_duration F_nextOf F_arcs F_head F_tail F_kept) sz) := by
  refine Met.ofW (cc := cX0_isTied) (maxL := 3) (ret := (some .boolean)) (by decide) rfl ?_
  intro p e s m args below meth c s₁ B hml hv
  obtain ⟨rfl, hsz, hP, hK, hD0, hN⟩ := hv
  have hx := B.exec
  have hb := B.bytes
  have hr := B.returns
  have hts := atoms_spec (ws := wsX0_isTied) B.pre
  have hown : s.vm.findClass RX0 = some m.cls := findClass_of_methodNamed B.named
  have hlocks := B.notSynchronized
  subst hsz
  have hD := hD0.self (sz := s.heap.size)
  generalize hAe : va_A (wF h_F h_F_firstOf h_F_lastOf h_F_jobOf h_F_machineOf h_F_duration h_F_nextOf h_F_arcs h_F_head h_F_tail h_F_kept cI F_jobs F_size F_firstOf F_lastOf F_jobOf F_machineOf F_duration F_nextOf F_arcs F_head F_tail F_kept) s.heap.size = A at hD ⊢
  have hA : ∀ q : Nat, s.heap.size ≤ q → A q := fun q h => by rw [← hAe]; exact Or.inr h
  have hS : va_S A s.heap s.heap [] := va_S.rf
  have hP : va_P (dC, dI) vwCl (wF h_F h_F_firstOf h_F_lastOf h_F_jobOf h_F_machineOf h_F_duration h_F_nextOf h_F_arcs h_F_head h_F_tail h_F_kept cI F_jobs F_size F_firstOf F_lastOf F_jobOf F_machineOf F_duration F_nextOf F_arcs F_head F_tail F_kept) s.heap := hP
  have hl := lv_entry ([.ref h_F, .int a0, .int a1]) (n := 3) (Nat.le_of_ble_eq_true rfl)
  rw [lg_entry_eq]
  generalize (lg_sl ([.ref h_F, .int a0, .int a1]) ++ List.replicate (3 - (lg_sl ([.ref h_F, .int a0, .int a1])).length) Slot.unset).toArray = ls at hl ⊢
  have hl : lv_has ls 3 [(0, .ref h_F), (1, .int a0), (2, .int a1)] := hl
  obtain ⟨H, hH⟩ : ∃ H, H = s.heap := ⟨_, rfl⟩
  rw [← hH] at hP
  have hS : va_S A s.heap H [] := by rw [hH]; exact hS
  refine W_heap hH ?_
  unfold wp_X0_isTied at hw
  refine lv_aload_n (pc := 0) hx hb dX0_isTied_0 rfl (lv_at hl 0 rfl) ?_
  refine lv_iload_n (pc := 1) hx hb dX0_isTied_1 rfl (lv_at hl 1 rfl) ?_
  refine lv_iload_n (pc := 2) hx hb dX0_isTied_2 rfl (lv_at hl 2 rfl) ?_
  have hPx : va_P (dC, dI) vwCl ([] ++ (wF h_F h_F_firstOf h_F_lastOf h_F_jobOf h_F_machineOf h_F_duration h_F_nextOf h_F_arcs h_F_head h_F_tail h_F_kept cI F_jobs F_size F_firstOf F_lastOf F_jobOf F_machineOf F_duration F_nextOf F_arcs F_head F_tail F_kept)) H := hP
  have hDx : va_D A ([] ++ (wF h_F h_F_firstOf h_F_lastOf h_F_jobOf h_F_machineOf h_F_duration h_F_nextOf h_F_arcs h_F_head h_F_tail h_F_kept cI F_jobs F_size F_firstOf F_lastOf F_jobOf F_machineOf F_duration F_nextOf F_arcs F_head F_tail F_kept)) := hD
  refine kc_i (pc := 3) (w1 := (fun u : Unit => (wF h_F h_F_firstOf h_F_lastOf h_F_jobOf h_F_machineOf h_F_duration h_F_nextOf h_F_arcs h_F_head h_F_tail h_F_kept cI F_jobs F_size F_firstOf F_lastOf F_jobOf F_machineOf F_duration F_nextOf F_arcs F_head F_tail F_kept))) (va_runV (As := [.int a0, .int a1]) (rest := []) ⟨hx, hb, hml, hown, hts⟩ (c_X0_hasArc l dC dI h_F h_F_firstOf h_F_lastOf h_F_jobOf h_F_machineOf h_F_duration h_F_nextOf h_F_arcs h_F_head h_F_tail h_F_kept H.size cI F_jobs F_size F_firstOf F_lastOf F_jobOf F_machineOf F_duration F_nextOf F_arcs F_head F_tail F_kept a0 a1 _ hw) (cwV 2 hts gX0_isTied_X0_hasArc rfl rfl rfl (by decide +kernel) ⟨Nat.le_of_ble_eq_true rfl, Nat.le_of_ble_eq_true rfl⟩) (kc_preV (q0 := 0) (ci := 0) hK hPx hDx [0] rfl rfl rfl hN) rfl rfl hl.1 rfl (lv_room (Nat.le_of_ble_eq_true rfl)) dX0_isTied_3 ⟨Nat.zero_le _, Nat.zero_le _⟩) hPx hDx hS hA (fun r_3 u H locs hw hP hD hS => ?_)
  have hP : va_P (dC, dI) vwCl (wF h_F h_F_firstOf h_F_lastOf h_F_jobOf h_F_machineOf h_F_duration h_F_nextOf h_F_arcs h_F_head h_F_tail h_F_kept cI F_jobs F_size F_firstOf F_lastOf F_jobOf F_machineOf F_duration F_nextOf F_arcs F_head F_tail F_kept) H := hP
  have hD : va_D A (wF h_F h_F_firstOf h_F_lastOf h_F_jobOf h_F_machineOf h_F_duration h_F_nextOf h_F_arcs h_F_head h_F_tail h_F_kept cI F_jobs F_size F_firstOf F_lastOf F_jobOf F_machineOf F_duration F_nextOf F_arcs F_head F_tail F_kept) := hD
  refine lv_if_ne (tgt := 18) (pc := 6) hx hb dX0_isTied_6 (by decide) (fun c_1 => ?_) (fun c_1 => ?_)
  · have hw := hw.1 c_1
    refine lv_iconst (v := 1) (pc := 18) hx hb dX0_isTied_18 (by decide) ?_
    refine lv_goto (tgt := 23) (pc := 19) hx hb dX0_isTied_19 (by decide) ?_
    exact W.zret (v := 1) hx hb hr rfl (fun t ht hW => ⟨⟨1, (), rfl, hw, by rw [ht]; exact hP, va_K.moved hW.alike hK, hD⟩, hS.F ht⟩) hS.2.2 dX0_isTied_23
  · have hw := hw.2 c_1
    refine lv_aload_n (pc := 9) hx hb dX0_isTied_9 rfl (lv_at hl 0 rfl) ?_
    refine lv_iload_n (pc := 10) hx hb dX0_isTied_10 rfl (lv_at hl 2 rfl) ?_
    refine lv_iload_n (pc := 11) hx hb dX0_isTied_11 rfl (lv_at hl 1 rfl) ?_
    have hPx : va_P (dC, dI) vwCl ([] ++ (wF h_F h_F_firstOf h_F_lastOf h_F_jobOf h_F_machineOf h_F_duration h_F_nextOf h_F_arcs h_F_head h_F_tail h_F_kept cI F_jobs F_size F_firstOf F_lastOf F_jobOf F_machineOf F_duration F_nextOf F_arcs F_head F_tail F_kept)) H := hP
    have hDx : va_D A ([] ++ (wF h_F h_F_firstOf h_F_lastOf h_F_jobOf h_F_machineOf h_F_duration h_F_nextOf h_F_arcs h_F_head h_F_tail h_F_kept cI F_jobs F_size F_firstOf F_lastOf F_jobOf F_machineOf F_duration F_nextOf F_arcs F_head F_tail F_kept)) := hD
    refine kc_i (pc := 12) (w1 := (fun u : Unit => (wF h_F h_F_firstOf h_F_lastOf h_F_jobOf h_F_machineOf h_F_duration h_F_nextOf h_F_arcs h_F_head h_F_tail h_F_kept cI F_jobs F_size F_firstOf F_lastOf F_jobOf F_machineOf F_duration F_nextOf F_arcs F_head F_tail F_kept))) (va_runV (As := [.int a1, .int a0]) (rest := []) ⟨hx, hb, hml, hown, hts⟩ (c_X0_hasArc l dC dI h_F h_F_firstOf h_F_lastOf h_F_jobOf h_F_machineOf h_F_duration h_F_nextOf h_F_arcs h_F_head h_F_tail h_F_kept H.size cI F_jobs F_size F_firstOf F_lastOf F_jobOf F_machineOf F_duration F_nextOf F_arcs F_head F_tail F_kept a1 a0 _ hw) (cwV 2 hts gX0_isTied_X0_hasArc rfl rfl rfl (by decide +kernel) ⟨Nat.le_of_ble_eq_true rfl, Nat.le_of_ble_eq_true rfl⟩) (kc_preV (q0 := 0) (ci := 0) hK hPx hDx [0] rfl rfl rfl hN) rfl rfl hl.1 rfl (lv_room (Nat.le_of_ble_eq_true rfl)) dX0_isTied_12 ⟨Nat.zero_le _, Nat.zero_le _⟩) hPx hDx hS hA (fun r_12 u H locs hw hP hD hS => ?_)
    have hP : va_P (dC, dI) vwCl (wF h_F h_F_firstOf h_F_lastOf h_F_jobOf h_F_machineOf h_F_duration h_F_nextOf h_F_arcs h_F_head h_F_tail h_F_kept cI F_jobs F_size F_firstOf F_lastOf F_jobOf F_machineOf F_duration F_nextOf F_arcs F_head F_tail F_kept) H := hP
    have hD : va_D A (wF h_F h_F_firstOf h_F_lastOf h_F_jobOf h_F_machineOf h_F_duration h_F_nextOf h_F_arcs h_F_head h_F_tail h_F_kept cI F_jobs F_size F_firstOf F_lastOf F_jobOf F_machineOf F_duration F_nextOf F_arcs F_head F_tail F_kept) := hD
    refine lv_if_eq (tgt := 22) (pc := 15) hx hb dX0_isTied_15 (by decide) (fun c_2 => ?_) (fun c_2 => ?_)
    · have hw := hw.1 c_2
      refine lv_iconst (v := 0) (pc := 22) hx hb dX0_isTied_22 (by decide) ?_
      exact W.zret (v := 0) hx hb hr rfl (fun t ht hW => ⟨⟨0, (), rfl, hw, by rw [ht]; exact hP, va_K.moved hW.alike hK, hD⟩, hS.F ht⟩) hS.2.2 dX0_isTied_23
    · have hw := hw.2 c_2
      refine lv_iconst (v := 1) (pc := 18) hx hb dX0_isTied_18 (by decide) ?_
      refine lv_goto (tgt := 23) (pc := 19) hx hb dX0_isTied_19 (by decide) ?_
      exact W.zret (v := 1) hx hb hr rfl (fun t ht hW => ⟨⟨1, (), rfl, hw, by rw [ht]; exact hP, va_K.moved hW.alike hK, hD⟩, hS.F ht⟩) hS.2.2 dX0_isTied_23
set_option maxHeartbeats 4000000 in
set_option maxRecDepth 100000 in
theorem c_X0_putArc (l : Launch) (dC : Nat → ClassId) (dI : Nat → Nat → Nat) (h_F h_F_firstOf h_F_lastOf h_F_jobOf h_F_machineOf h_F_duration h_F_nextOf h_F_arcs h_F_head h_F_tail h_F_kept : Nat) (sz : Nat) (cI : ClassId) (F_jobs : Int32) (F_size : Int32) (F_firstOf : Nat → Int32) (F_lastOf : Nat → Int32) (F_jobOf : Nat → Int32) (F_machineOf : Nat → Int32) (F_duration : Nat → Int32) (F_nextOf : Nat → Int32) (F_arcs : Nat → Int32) (F_head : Nat → Int32) (F_tail : Nat → Int32) (F_kept : Nat → Int32) (a0 a1 : Int32) (post : (Nat → Int32) → (Nat → Int32) → (Nat → Int32) → Prop) (hw : wp_X0_putArc F_size F_duration F_nextOf F_arcs F_head F_tail a0 a1 post) : Met l yX0_putArc wsX0_putArc ({ frames := 3, cells := 0, slots := 0, locals := 68 }) (va_Pc [.ref h_F, .int a0, .int a1] (fun U => U.heap.size = sz ∧ va_P (dC, dI) vwCl (wF h_F h_F_firstOf h_F_lastOf h_F_jobOf h_F_machineOf h_F_duration h_F_nextOf h_F_arcs h_F_head h_F_tail h_F_kept cI F_jobs F_size F_firstOf F_lastOf F_jobOf F_machineOf F_duration F_nextOf F_arcs F_head F_tail F_kept) U.heap ∧ va_K (dC, dI) vwCl [(cI, .int)] U ∧ va_D (fun _ => True) (wF h_F h_F_firstOf h_F_lastOf h_F_jobOf h_F_machineOf h_F_duration h_F_nextOf h_F_arcs h_F_head h_F_tail h_F_kept cI F_jobs F_size F_firstOf F_lastOf F_jobOf F_machineOf F_duration F_nextOf F_arcs F_head F_tail F_kept) ∧ nw U)) (va_Qv (fun (u : (Nat → Int32) × (Nat → Int32) × (Nat → Int32)) => post u.1 u.2.1 u.2.2) (fun u t => va_P (dC, dI) vwCl (wF h_F h_F_firstOf h_F_lastOf h_F_jobOf h_F_machineOf h_F_duration h_F_nextOf h_F_arcs h_F_head h_F_tail h_F_kept cI F_jobs F_size F_firstOf F_lastOf F_jobOf F_machineOf F_duration F_nextOf u.1 u.2.1 u.2.2 F_kept) t.heap ∧ va_K (dC, dI) vwCl [(cI, .int)] t ∧ va_D (va_A (wF h_F h_F_firstOf h_F_lastOf h_F_jobOf h_F_machineOf h_F_duration h_F_nextOf h_F_arcs h_F_head h_F_tail h_F_kept cI F_jobs F_size F_firstOf F_lastOf F_jobOf F_machineOf F_duration F_nextOf F_arcs F_head F_tail F_kept) sz) (wF h_F h_F_firstOf h_F_lastOf h_F_jobOf h_F_machineOf h_F_duration h_F_nextOf h_F_arcs h_F_head h_F_tail h_F_kept cI F_jobs F_size F_firstOf F_lastOf F_jobOf F_machineOf F_duration F_nextOf u.1 u.2.1 u.2.2 F_kept)) (va_A (wF h_F h_F_firstOf h_F_lastOf h_F_jobOf h_F_machineOf h_F_duration h_F_nextOf h_F_arcs h_F_head h_F_tail h_F_kept cI F_jobs F_size F_firstOf F_lastOf F_jobOf F_machineOf F_duration F_nextOf F_arcs F_head F_tail F_kept) sz)) 0 0 (va_A (wF h_F h_F_firstOf h_F_lastOf h_F_jobOf h_F_machineOf h_F_duration h_F_nextOf h_F_arcs h_F_head h_F_tail h_F_kept cI F_jobs F_size F_firstOf F_lastOf F_jobOf F_machineOf F_duration F_nextOf F_arcs F_head F_tail F_kept) sz) := by
  refine Met.ofW (cc := cX0_putArc) (maxL := 3) (ret := none) (by decide) rfl ?_
  intro p e s m args below meth c s₁ B hml hv
  obtain ⟨rfl, hsz, hP, hK, hD0, hN⟩ := hv
  have hx := B.exec
  have hb := B.bytes
  have hr := B.returns
  have hts := atoms_spec (ws := wsX0_putArc) B.pre
  have hown : s.vm.findClass RX0 = some m.cls := findClass_of_methodNamed B.named
  have hlocks := B.notSynchronized
  subst hsz
  have hD := hD0.self (sz := s.heap.size)
  generalize hAe : va_A (wF h_F h_F_firstOf h_F_lastOf h_F_jobOf h_F_machineOf h_F_duration h_F_nextOf h_F_arcs h_F_head h_F_tail h_F_kept cI F_jobs F_size F_firstOf F_lastOf F_jobOf F_machineOf F_duration F_nextOf F_arcs F_head F_tail F_kept) s.heap.size = A at hD ⊢
  have hA : ∀ q : Nat, s.heap.size ≤ q → A q := fun q h => by rw [← hAe]; exact Or.inr h
  have hS : va_S A s.heap s.heap [] := va_S.rf
  have hP : va_P (dC, dI) vwCl (wF h_F h_F_firstOf h_F_lastOf h_F_jobOf h_F_machineOf h_F_duration h_F_nextOf h_F_arcs h_F_head h_F_tail h_F_kept cI F_jobs F_size F_firstOf F_lastOf F_jobOf F_machineOf F_duration F_nextOf F_arcs F_head F_tail F_kept) s.heap := hP
  have hl := lv_entry ([.ref h_F, .int a0, .int a1]) (n := 3) (Nat.le_of_ble_eq_true rfl)
  rw [lg_entry_eq]
  generalize (lg_sl ([.ref h_F, .int a0, .int a1]) ++ List.replicate (3 - (lg_sl ([.ref h_F, .int a0, .int a1])).length) Slot.unset).toArray = ls at hl ⊢
  have hl : lv_has ls 3 [(0, .ref h_F), (1, .int a0), (2, .int a1)] := hl
  obtain ⟨H, hH⟩ : ∃ H, H = s.heap := ⟨_, rfl⟩
  rw [← hH] at hP
  have hS : va_S A s.heap H [] := by rw [hH]; exact hS
  refine W_heap hH ?_
  unfold wp_X0_putArc at hw
  have hin_X0 : ∀ w ∈ u_ws RX0 TX0 12, w ∈ wsX0_putArc := by decide +kernel
  refine lv_aload_n (pc := 0) hx hb dX0_putArc_0 rfl (lv_at hl 0 rfl) ?_
  refine va_get (D := (dC, dI)) (ci := 0) (v := .ref h_F_arcs) (C := RX0) (T := TX0) (N := 12) (pc := 1) hx hb hts hin_X0 hown hK hP 0 rfl rfl 8 (by decide) (hts (.fieldLink RX0 30 "JobShop$Floor" "arcs" "[I") (by decide +kernel)) (fun _ h9 => h9) rfl dX0_putArc_1 ?_
  refine lv_iload_n (pc := 4) hx hb dX0_putArc_4 rfl (lv_at hl 1 rfl) ?_
  refine lv_dup2_11 (pc := 5) hx hb dX0_putArc_5 rfl rfl ?_
  obtain ⟨b_1, hw⟩ := hw
  refine va_iald (pc := 6) hx hb hK hP 7 0 rfl rfl b_1 dX0_putArc_6 ?_
  refine lv_iconst (v := 1) (pc := 7) hx hb dX0_putArc_7 (by decide) ?_
  refine lv_iload_n (pc := 8) hx hb dX0_putArc_8 rfl (lv_at hl 2 rfl) ?_
  refine lv_ishl (pc := 9) hx hb dX0_putArc_9 ?_
  refine lv_ior (pc := 10) hx hb dX0_putArc_10 ?_
  obtain ⟨b_2, hw⟩ := hw
  refine va_iast (pc := 11) hx hb hK hP hD hS 7 0 rfl rfl b_2 dX0_putArc_11 (fun H locs hP hD hS => ?_)
  have hP : va_P (dC, dI) vwCl (wF h_F h_F_firstOf h_F_lastOf h_F_jobOf h_F_machineOf h_F_duration h_F_nextOf h_F_arcs h_F_head h_F_tail h_F_kept cI F_jobs F_size F_firstOf F_lastOf F_jobOf F_machineOf F_duration F_nextOf (upd F_arcs a0.toNatClampNeg ((F_arcs a0.toNatClampNeg) ||| ((1 : Int32) <<< (a1 &&& 31)))) F_head F_tail F_kept) H := hP
  have hD : va_D A (wF h_F h_F_firstOf h_F_lastOf h_F_jobOf h_F_machineOf h_F_duration h_F_nextOf h_F_arcs h_F_head h_F_tail h_F_kept cI F_jobs F_size F_firstOf F_lastOf F_jobOf F_machineOf F_duration F_nextOf (upd F_arcs a0.toNatClampNeg ((F_arcs a0.toNatClampNeg) ||| ((1 : Int32) <<< (a1 &&& 31)))) F_head F_tail F_kept) := hD
  refine lv_aload_n (pc := 12) hx hb dX0_putArc_12 rfl (lv_at hl 0 rfl) ?_
  have hPx : va_P (dC, dI) vwCl ([] ++ (wF h_F h_F_firstOf h_F_lastOf h_F_jobOf h_F_machineOf h_F_duration h_F_nextOf h_F_arcs h_F_head h_F_tail h_F_kept cI F_jobs F_size F_firstOf F_lastOf F_jobOf F_machineOf F_duration F_nextOf (upd F_arcs a0.toNatClampNeg ((F_arcs a0.toNatClampNeg) ||| ((1 : Int32) <<< (a1 &&& 31)))) F_head F_tail F_kept)) H := hP
  have hDx : va_D A ([] ++ (wF h_F h_F_firstOf h_F_lastOf h_F_jobOf h_F_machineOf h_F_duration h_F_nextOf h_F_arcs h_F_head h_F_tail h_F_kept cI F_jobs F_size F_firstOf F_lastOf F_jobOf F_machineOf F_duration F_nextOf (upd F_arcs a0.toNatClampNeg ((F_arcs a0.toNatClampNeg) ||| ((1 : Int32) <<< (a1 &&& 31)))) F_head F_tail F_kept)) := hD
  refine kc_v (pc := 13) (w1 := (fun u : (Nat → Int32) × (Nat → Int32) => (wF h_F h_F_firstOf h_F_lastOf h_F_jobOf h_F_machineOf h_F_duration h_F_nextOf h_F_arcs h_F_head h_F_tail h_F_kept cI F_jobs F_size F_firstOf F_lastOf F_jobOf F_machineOf F_duration F_nextOf (upd F_arcs a0.toNatClampNeg ((F_arcs a0.toNatClampNeg) ||| ((1 : Int32) <<< (a1 &&& 31)))) u.1 u.2 F_kept))) (va_runV (As := []) (rest := []) ⟨hx, hb, hml, hown, hts⟩ (c_X0_measure l dC dI h_F h_F_firstOf h_F_lastOf h_F_jobOf h_F_machineOf h_F_duration h_F_nextOf h_F_arcs h_F_head h_F_tail h_F_kept H.size cI F_jobs F_size F_firstOf F_lastOf F_jobOf F_machineOf F_duration F_nextOf (upd F_arcs a0.toNatClampNeg ((F_arcs a0.toNatClampNeg) ||| ((1 : Int32) <<< (a1 &&& 31)))) F_head F_tail F_kept _ hw) (cwV 0 hts gX0_putArc_X0_measure rfl rfl rfl (by decide +kernel) ⟨Nat.le_of_ble_eq_true rfl, Nat.le_of_ble_eq_true rfl⟩) (kc_preV (q0 := 0) (ci := 0) hK hPx hDx [0] rfl rfl rfl hN) rfl rfl hl.1 rfl (lv_room (Nat.le_of_ble_eq_true rfl)) dX0_putArc_13 ⟨Nat.zero_le _, Nat.zero_le _⟩) hPx hDx hS hA (fun u H locs hw hP hD hS => ?_)
  obtain ⟨F_head_13, F_tail_13⟩ := u
  have hP : va_P (dC, dI) vwCl (wF h_F h_F_firstOf h_F_lastOf h_F_jobOf h_F_machineOf h_F_duration h_F_nextOf h_F_arcs h_F_head h_F_tail h_F_kept cI F_jobs F_size F_firstOf F_lastOf F_jobOf F_machineOf F_duration F_nextOf (upd F_arcs a0.toNatClampNeg ((F_arcs a0.toNatClampNeg) ||| ((1 : Int32) <<< (a1 &&& 31)))) F_head_13 F_tail_13 F_kept) H := hP
  have hD : va_D A (wF h_F h_F_firstOf h_F_lastOf h_F_jobOf h_F_machineOf h_F_duration h_F_nextOf h_F_arcs h_F_head h_F_tail h_F_kept cI F_jobs F_size F_firstOf F_lastOf F_jobOf F_machineOf F_duration F_nextOf (upd F_arcs a0.toNatClampNeg ((F_arcs a0.toNatClampNeg) ||| ((1 : Int32) <<< (a1 &&& 31)))) F_head_13 F_tail_13 F_kept) := hD
  exact W.vret hx hb hr (fun t ht hW => ⟨⟨((upd F_arcs a0.toNatClampNeg ((F_arcs a0.toNatClampNeg) ||| ((1 : Int32) <<< (a1 &&& 31)))), F_head_13, F_tail_13), rfl, hw, by rw [ht]; exact hP, va_K.moved hW.alike hK, hD⟩, hS.F ht⟩) hS.2.2 dX0_putArc_16
set_option maxHeartbeats 4000000 in
set_option maxRecDepth 100000 in
theorem c_X0_dropArcs (l : Launch) (dC : Nat → ClassId) (dI : Nat → Nat → Nat) (h_F h_F_firstOf h_F_lastOf h_F_jobOf h_F_machineOf h_F_duration h_F_nextOf h_F_arcs h_F_head h_F_tail h_F_kept : Nat) (sz : Nat) (cI : ClassId) (F_jobs : Int32) (F_size : Int32) (F_firstOf : Nat → Int32) (F_lastOf : Nat → Int32) (F_jobOf : Nat → Int32) (F_machineOf : Nat → Int32) (F_duration : Nat → Int32) (F_nextOf : Nat → Int32) (F_arcs : Nat → Int32) (F_head : Nat → Int32) (F_tail : Nat → Int32) (F_kept : Nat → Int32) (a0 a1 : Int32) (post : (Nat → Int32) → (Nat → Int32) → (Nat → Int32) → Prop) (hw : wp_X0_dropArcs F_size F_duration F_nextOf F_arcs F_head F_tail a0 a1 post) : Met l yX0_dropArcs wsX0_dropArcs ({ frames := 3, cells := 0, slots := 0, locals := 68 }) (va_Pc [.ref h_F, .int a0, .int a1] (fun U => U.heap.size = sz ∧ va_P (dC, dI) vwCl (wF h_F h_F_firstOf h_F_lastOf h_F_jobOf h_F_machineOf h_F_duration h_F_nextOf h_F_arcs h_F_head h_F_tail h_F_kept cI F_jobs F_size F_firstOf F_lastOf F_jobOf F_machineOf F_duration F_nextOf F_arcs F_head F_tail F_kept) U.heap ∧ va_K (dC, dI) vwCl [(cI, .int)] U ∧ va_D (fun _ => True) (wF h_F h_F_firstOf h_F_lastOf h_F_jobOf h_F_machineOf h_F_duration h_F_nextOf h_F_arcs h_F_head h_F_tail h_F_kept cI F_jobs F_size F_firstOf F_lastOf F_jobOf F_machineOf F_duration F_nextOf F_arcs F_head F_tail F_kept) ∧ nw U)) (va_Qv (fun (u : (Nat → Int32) × (Nat → Int32) × (Nat → Int32)) => post u.1 u.2.1 u.2.2) (fun u t => va_P (dC, dI) vwCl (wF h_F h_F_firstOf h_F_lastOf h_F_jobOf h_F_machineOf h_F_duration h_F_nextOf h_F_arcs h_F_head h_F_tail h_F_kept cI F_jobs F_size F_firstOf F_lastOf F_jobOf F_machineOf F_duration F_nextOf u.1 u.2.1 u.2.2 F_kept) t.heap ∧ va_K (dC, dI) vwCl [(cI, .int)] t ∧ va_D (va_A (wF h_F h_F_firstOf h_F_lastOf h_F_jobOf h_F_machineOf h_F_duration h_F_nextOf h_F_arcs h_F_head h_F_tail h_F_kept cI F_jobs F_size F_firstOf F_lastOf F_jobOf F_machineOf F_duration F_nextOf F_arcs F_head F_tail F_kept) sz) (wF h_F h_F_firstOf h_F_lastOf h_F_jobOf h_F_machineOf h_F_duration h_F_nextOf h_F_arcs h_F_head h_F_tail h_F_kept cI F_jobs F_size F_firstOf F_lastOf F_jobOf F_machineOf F_duration F_nextOf u.1 u.2.1 u.2.2 F_kept)) (va_A (wF h_F h_F_firstOf h_F_lastOf h_F_jobOf h_F_machineOf h_F_duration h_F_nextOf h_F_arcs h_F_head h_F_tail h_F_kept cI F_jobs F_size F_firstOf F_lastOf F_jobOf F_machineOf F_duration F_nextOf F_arcs F_head F_tail F_kept) sz)) 0 0 (va_A (wF h_F h_F_firstOf h_F_lastOf h_F_jobOf h_F_machineOf h_F_duration h_F_nextOf h_F_arcs h_F_head h_F_tail h_F_kept cI F_jobs F_size F_firstOf F_lastOf F_jobOf F_machineOf F_duration F_nextOf F_arcs F_head F_tail F_kept) sz) := by
  refine Met.ofW (cc := cX0_dropArcs) (maxL := 3) (ret := none) (by decide) rfl ?_
  intro p e s m args below meth c s₁ B hml hv
  obtain ⟨rfl, hsz, hP, hK, hD0, hN⟩ := hv
  have hx := B.exec
  have hb := B.bytes
  have hr := B.returns
  have hts := atoms_spec (ws := wsX0_dropArcs) B.pre
  have hown : s.vm.findClass RX0 = some m.cls := findClass_of_methodNamed B.named
  have hlocks := B.notSynchronized
  subst hsz
  have hD := hD0.self (sz := s.heap.size)
  generalize hAe : va_A (wF h_F h_F_firstOf h_F_lastOf h_F_jobOf h_F_machineOf h_F_duration h_F_nextOf h_F_arcs h_F_head h_F_tail h_F_kept cI F_jobs F_size F_firstOf F_lastOf F_jobOf F_machineOf F_duration F_nextOf F_arcs F_head F_tail F_kept) s.heap.size = A at hD ⊢
  have hA : ∀ q : Nat, s.heap.size ≤ q → A q := fun q h => by rw [← hAe]; exact Or.inr h
  have hS : va_S A s.heap s.heap [] := va_S.rf
  have hP : va_P (dC, dI) vwCl (wF h_F h_F_firstOf h_F_lastOf h_F_jobOf h_F_machineOf h_F_duration h_F_nextOf h_F_arcs h_F_head h_F_tail h_F_kept cI F_jobs F_size F_firstOf F_lastOf F_jobOf F_machineOf F_duration F_nextOf F_arcs F_head F_tail F_kept) s.heap := hP
  have hl := lv_entry ([.ref h_F, .int a0, .int a1]) (n := 3) (Nat.le_of_ble_eq_true rfl)
  rw [lg_entry_eq]
  generalize (lg_sl ([.ref h_F, .int a0, .int a1]) ++ List.replicate (3 - (lg_sl ([.ref h_F, .int a0, .int a1])).length) Slot.unset).toArray = ls at hl ⊢
  have hl : lv_has ls 3 [(0, .ref h_F), (1, .int a0), (2, .int a1)] := hl
  obtain ⟨H, hH⟩ : ∃ H, H = s.heap := ⟨_, rfl⟩
  rw [← hH] at hP
  have hS : va_S A s.heap H [] := by rw [hH]; exact hS
  refine W_heap hH ?_
  unfold wp_X0_dropArcs at hw
  have hin_X0 : ∀ w ∈ u_ws RX0 TX0 12, w ∈ wsX0_dropArcs := by decide +kernel
  refine lv_aload_n (pc := 0) hx hb dX0_dropArcs_0 rfl (lv_at hl 0 rfl) ?_
  refine va_get (D := (dC, dI)) (ci := 0) (v := .ref h_F_arcs) (C := RX0) (T := TX0) (N := 12) (pc := 1) hx hb hts hin_X0 hown hK hP 0 rfl rfl 8 (by decide) (hts (.fieldLink RX0 30 "JobShop$Floor" "arcs" "[I") (by decide +kernel)) (fun _ h9 => h9) rfl dX0_dropArcs_1 ?_
  refine lv_iload_n (pc := 4) hx hb dX0_dropArcs_4 rfl (lv_at hl 1 rfl) ?_
  refine lv_dup2_11 (pc := 5) hx hb dX0_dropArcs_5 rfl rfl ?_
  obtain ⟨b_1, hw⟩ := hw
  refine va_iald (pc := 6) hx hb hK hP 7 0 rfl rfl b_1 dX0_dropArcs_6 ?_
  refine lv_iconst (v := 1) (pc := 7) hx hb dX0_dropArcs_7 (by decide) ?_
  refine lv_iload_n (pc := 8) hx hb dX0_dropArcs_8 rfl (lv_at hl 2 rfl) ?_
  refine lv_ishl (pc := 9) hx hb dX0_dropArcs_9 ?_
  refine lv_iconst (v := (-1)) (pc := 10) hx hb dX0_dropArcs_10 (by decide) ?_
  refine lv_ixor (pc := 11) hx hb dX0_dropArcs_11 ?_
  refine lv_iand (pc := 12) hx hb dX0_dropArcs_12 ?_
  obtain ⟨b_2, hw⟩ := hw
  refine va_iast (pc := 13) hx hb hK hP hD hS 7 0 rfl rfl b_2 dX0_dropArcs_13 (fun H locs hP hD hS => ?_)
  have hP : va_P (dC, dI) vwCl (wF h_F h_F_firstOf h_F_lastOf h_F_jobOf h_F_machineOf h_F_duration h_F_nextOf h_F_arcs h_F_head h_F_tail h_F_kept cI F_jobs F_size F_firstOf F_lastOf F_jobOf F_machineOf F_duration F_nextOf (upd F_arcs a0.toNatClampNeg ((F_arcs a0.toNatClampNeg) &&& (((1 : Int32) <<< (a1 &&& 31)) ^^^ (-1)))) F_head F_tail F_kept) H := hP
  have hD : va_D A (wF h_F h_F_firstOf h_F_lastOf h_F_jobOf h_F_machineOf h_F_duration h_F_nextOf h_F_arcs h_F_head h_F_tail h_F_kept cI F_jobs F_size F_firstOf F_lastOf F_jobOf F_machineOf F_duration F_nextOf (upd F_arcs a0.toNatClampNeg ((F_arcs a0.toNatClampNeg) &&& (((1 : Int32) <<< (a1 &&& 31)) ^^^ (-1)))) F_head F_tail F_kept) := hD
  refine lv_aload_n (pc := 14) hx hb dX0_dropArcs_14 rfl (lv_at hl 0 rfl) ?_
  refine va_get (D := (dC, dI)) (ci := 0) (v := .ref h_F_arcs) (C := RX0) (T := TX0) (N := 12) (pc := 15) hx hb hts hin_X0 hown hK hP 0 rfl rfl 8 (by decide) (hts (.fieldLink RX0 30 "JobShop$Floor" "arcs" "[I") (by decide +kernel)) (fun _ h9 => h9) rfl dX0_dropArcs_15 ?_
  refine lv_iload_n (pc := 18) hx hb dX0_dropArcs_18 rfl (lv_at hl 2 rfl) ?_
  refine lv_dup2_11 (pc := 19) hx hb dX0_dropArcs_19 rfl rfl ?_
  obtain ⟨b_3, hw⟩ := hw
  refine va_iald (pc := 20) hx hb hK hP 7 0 rfl rfl b_3 dX0_dropArcs_20 ?_
  refine lv_iconst (v := 1) (pc := 21) hx hb dX0_dropArcs_21 (by decide) ?_
  refine lv_iload_n (pc := 22) hx hb dX0_dropArcs_22 rfl (lv_at hl 1 rfl) ?_
  refine lv_ishl (pc := 23) hx hb dX0_dropArcs_23 ?_
  refine lv_iconst (v := (-1)) (pc := 24) hx hb dX0_dropArcs_24 (by decide) ?_
  refine lv_ixor (pc := 25) hx hb dX0_dropArcs_25 ?_
  refine lv_iand (pc := 26) hx hb dX0_dropArcs_26 ?_
  obtain ⟨b_4, hw⟩ := hw
  refine va_iast (pc := 27) hx hb hK hP hD hS 7 0 rfl rfl b_4 dX0_dropArcs_27 (fun H locs hP hD hS => ?_)
  have hP : va_P (dC, dI) vwCl (wF h_F h_F_firstOf h_F_lastOf h_F_jobOf h_F_machineOf h_F_duration h_F_nextOf h_F_arcs h_F_head h_F_tail h_F_kept cI F_jobs F_size F_firstOf F_lastOf F_jobOf F_machineOf F_duration F_nextOf (upd (upd F_arcs a0.toNatClampNeg ((F_arcs a0.toNatClampNeg) &&& (((1 : Int32) <<< (a1 &&& 31)) ^^^ (-1)))) a1.toNatClampNeg (((upd F_arcs a0.toNatClampNeg ((F_arcs a0.toNatClampNeg) &&& (((1 : Int32) <<< (a1 &&& 31)) ^^^ (-1)))) a1.toNatClampNeg) &&& (((1 : Int32) <<< (a0 &&& 31)) ^^^ (-1)))) F_head F_tail F_kept) H := hP
  have hD : va_D A (wF h_F h_F_firstOf h_F_lastOf h_F_jobOf h_F_machineOf h_F_duration h_F_nextOf h_F_arcs h_F_head h_F_tail h_F_kept cI F_jobs F_size F_firstOf F_lastOf F_jobOf F_machineOf F_duration F_nextOf (upd (upd F_arcs a0.toNatClampNeg ((F_arcs a0.toNatClampNeg) &&& (((1 : Int32) <<< (a1 &&& 31)) ^^^ (-1)))) a1.toNatClampNeg (((upd F_arcs a0.toNatClampNeg ((F_arcs a0.toNatClampNeg) &&& (((1 : Int32) <<< (a1 &&& 31)) ^^^ (-1)))) a1.toNatClampNeg) &&& (((1 : Int32) <<< (a0 &&& 31)) ^^^ (-1)))) F_head F_tail F_kept) := hD
  refine lv_aload_n (pc := 28) hx hb dX0_dropArcs_28 rfl (lv_at hl 0 rfl) ?_
  have hPx : va_P (dC, dI) vwCl ([] ++ (wF h_F h_F_firstOf h_F_lastOf h_F_jobOf h_F_machineOf h_F_duration h_F_nextOf h_F_arcs h_F_head h_F_tail h_F_kept cI F_jobs F_size F_firstOf F_lastOf F_jobOf F_machineOf F_duration F_nextOf (upd (upd F_arcs a0.toNatClampNeg ((F_arcs a0.toNatClampNeg) &&& (((1 : Int32) <<< (a1 &&& 31)) ^^^ (-1)))) a1.toNatClampNeg (((upd F_arcs a0.toNatClampNeg ((F_arcs a0.toNatClampNeg) &&& (((1 : Int32) <<< (a1 &&& 31)) ^^^ (-1)))) a1.toNatClampNeg) &&& (((1 : Int32) <<< (a0 &&& 31)) ^^^ (-1)))) F_head F_tail F_kept)) H := hP
  have hDx : va_D A ([] ++ (wF h_F h_F_firstOf h_F_lastOf h_F_jobOf h_F_machineOf h_F_duration h_F_nextOf h_F_arcs h_F_head h_F_tail h_F_kept cI F_jobs F_size F_firstOf F_lastOf F_jobOf F_machineOf F_duration F_nextOf (upd (upd F_arcs a0.toNatClampNeg ((F_arcs a0.toNatClampNeg) &&& (((1 : Int32) <<< (a1 &&& 31)) ^^^ (-1)))) a1.toNatClampNeg (((upd F_arcs a0.toNatClampNeg ((F_arcs a0.toNatClampNeg) &&& (((1 : Int32) <<< (a1 &&& 31)) ^^^ (-1)))) a1.toNatClampNeg) &&& (((1 : Int32) <<< (a0 &&& 31)) ^^^ (-1)))) F_head F_tail F_kept)) := hD
  refine kc_v (pc := 29) (w1 := (fun u : (Nat → Int32) × (Nat → Int32) => (wF h_F h_F_firstOf h_F_lastOf h_F_jobOf h_F_machineOf h_F_duration h_F_nextOf h_F_arcs h_F_head h_F_tail h_F_kept cI F_jobs F_size F_firstOf F_lastOf F_jobOf F_machineOf F_duration F_nextOf (upd (upd F_arcs a0.toNatClampNeg ((F_arcs a0.toNatClampNeg) &&& (((1 : Int32) <<< (a1 &&& 31)) ^^^ (-1)))) a1.toNatClampNeg (((upd F_arcs a0.toNatClampNeg ((F_arcs a0.toNatClampNeg) &&& (((1 : Int32) <<< (a1 &&& 31)) ^^^ (-1)))) a1.toNatClampNeg) &&& (((1 : Int32) <<< (a0 &&& 31)) ^^^ (-1)))) u.1 u.2 F_kept))) (va_runV (As := []) (rest := []) ⟨hx, hb, hml, hown, hts⟩ (c_X0_measure l dC dI h_F h_F_firstOf h_F_lastOf h_F_jobOf h_F_machineOf h_F_duration h_F_nextOf h_F_arcs h_F_head h_F_tail h_F_kept H.size cI F_jobs F_size F_firstOf F_lastOf F_jobOf F_machineOf F_duration F_nextOf (upd (upd F_arcs a0.toNatClampNeg ((F_arcs a0.toNatClampNeg) &&& (((1 : Int32) <<< (a1 &&& 31)) ^^^ (-1)))) a1.toNatClampNeg (((upd F_arcs a0.toNatClampNeg ((F_arcs a0.toNatClampNeg) &&& (((1 : Int32) <<< (a1 &&& 31)) ^^^ (-1)))) a1.toNatClampNeg) &&& (((1 : Int32) <<< (a0 &&& 31)) ^^^ (-1)))) F_head F_tail F_kept _ hw) (cwV 0 hts gX0_dropArcs_X0_measure rfl rfl rfl (by decide +kernel) ⟨Nat.le_of_ble_eq_true rfl, Nat.le_of_ble_eq_true rfl⟩) (kc_preV (q0 := 0) (ci := 0) hK hPx hDx [0] rfl rfl rfl hN) rfl rfl hl.1 rfl (lv_room (Nat.le_of_ble_eq_true rfl)) dX0_dropArcs_29 ⟨Nat.zero_le _, Nat.zero_le _⟩) hPx hDx hS hA (fun u H locs hw hP hD hS => ?_)
  obtain ⟨F_head_29, F_tail_29⟩ := u
  have hP : va_P (dC, dI) vwCl (wF h_F h_F_firstOf h_F_lastOf h_F_jobOf h_F_machineOf h_F_duration h_F_nextOf h_F_arcs h_F_head h_F_tail h_F_kept cI F_jobs F_size F_firstOf F_lastOf F_jobOf F_machineOf F_duration F_nextOf (upd (upd F_arcs a0.toNatClampNeg ((F_arcs a0.toNatClampNeg) &&& (((1 : Int32) <<< (a1 &&& 31)) ^^^ (-1)))) a1.toNatClampNeg (((upd F_arcs a0.toNatClampNeg ((F_arcs a0.toNatClampNeg) &&& (((1 : Int32) <<< (a1 &&& 31)) ^^^ (-1)))) a1.toNatClampNeg) &&& (((1 : Int32) <<< (a0 &&& 31)) ^^^ (-1)))) F_head_29 F_tail_29 F_kept) H := hP
  have hD : va_D A (wF h_F h_F_firstOf h_F_lastOf h_F_jobOf h_F_machineOf h_F_duration h_F_nextOf h_F_arcs h_F_head h_F_tail h_F_kept cI F_jobs F_size F_firstOf F_lastOf F_jobOf F_machineOf F_duration F_nextOf (upd (upd F_arcs a0.toNatClampNeg ((F_arcs a0.toNatClampNeg) &&& (((1 : Int32) <<< (a1 &&& 31)) ^^^ (-1)))) a1.toNatClampNeg (((upd F_arcs a0.toNatClampNeg ((F_arcs a0.toNatClampNeg) &&& (((1 : Int32) <<< (a1 &&& 31)) ^^^ (-1)))) a1.toNatClampNeg) &&& (((1 : Int32) <<< (a0 &&& 31)) ^^^ (-1)))) F_head_29 F_tail_29 F_kept) := hD
  exact W.vret hx hb hr (fun t ht hW => ⟨⟨((upd (upd F_arcs a0.toNatClampNeg ((F_arcs a0.toNatClampNeg) &&& (((1 : Int32) <<< (a1 &&& 31)) ^^^ (-1)))) a1.toNatClampNeg (((upd F_arcs a0.toNatClampNeg ((F_arcs a0.toNatClampNeg) &&& (((1 : Int32) <<< (a1 &&& 31)) ^^^ (-1)))) a1.toNatClampNeg) &&& (((1 : Int32) <<< (a0 &&& 31)) ^^^ (-1)))), F_head_29, F_tail_29), rfl, hw, by rw [ht]; exact hP, va_K.moved hW.alike hK, hD⟩, hS.F ht⟩) hS.2.2 dX0_dropArcs_32
set_option maxHeartbeats 4000000 in
set_option maxRecDepth 100000 in
theorem c_X0_leads (l : Launch) (dC : Nat → ClassId) (dI : Nat → Nat → Nat) (h_F h_F_firstOf h_F_lastOf h_F_jobOf h_F_machineOf h_F_duration h_F_nextOf h_F_arcs h_F_head h_F_tail h_F_kept : Nat) (sz : Nat) (cI : ClassId) (F_jobs : Int32) (F_size : Int32) (F_firstOf : Nat → Int32) (F_lastOf : Nat → Int32) (F_jobOf : Nat → Int32) (F_machineOf : Nat → Int32) (F_duration : Nat → Int32) (F_nextOf : Nat → Int32) (F_arcs : Nat → Int32) (F_head : Nat → Int32) (F_tail : Nat → Int32) (F_kept : Nat → Int32) (a0 a1 : Int32) (post : Int32 → Prop) (hw : wp_X0_leads F_size F_nextOf F_arcs a0 a1 post) : Met l yX0_leads wsX0_leads ({ frames := 1, cells := 0, slots := 0, locals := 21 }) (va_Pc [.ref h_F, .int a0, .int a1] (fun U => U.heap.size = sz ∧ va_P (dC, dI) vwCl (wF h_F h_F_firstOf h_F_lastOf h_F_jobOf h_F_machineOf h_F_duration h_F_nextOf h_F_arcs h_F_head h_F_tail h_F_kept cI F_jobs F_size F_firstOf F_lastOf F_jobOf F_machineOf F_duration F_nextOf F_arcs F_head F_tail F_kept) U.heap ∧ va_K (dC, dI) vwCl [(cI, .int)] U ∧ va_D (fun _ => True) (wF h_F h_F_firstOf h_F_lastOf h_F_jobOf h_F_machineOf h_F_duration h_F_nextOf h_F_arcs h_F_head h_F_tail h_F_kept cI F_jobs F_size F_firstOf F_lastOf F_jobOf F_machineOf F_duration F_nextOf F_arcs F_head F_tail F_kept) ∧ nw U)) (va_Qi (fun (r : Int32) (u : Unit) => post r ) (fun u t => va_P (dC, dI) vwCl (wF h_F h_F_firstOf h_F_lastOf h_F_jobOf h_F_machineOf h_F_duration h_F_nextOf h_F_arcs h_F_head h_F_tail h_F_kept cI F_jobs F_size F_firstOf F_lastOf F_jobOf F_machineOf F_duration F_nextOf F_arcs F_head F_tail F_kept) t.heap ∧ va_K (dC, dI) vwCl [(cI, .int)] t ∧ va_D (va_A (wF h_F h_F_firstOf h_F_lastOf h_F_jobOf h_F_machineOf h_F_duration h_F_nextOf h_F_arcs h_F_head h_F_tail h_F_kept cI F_jobs F_size F_firstOf F_lastOf F_jobOf F_machineOf F_duration F_nextOf F_arcs F_head F_tail F_kept) sz) (wF h_F h_F_firstOf h_F_lastOf h_F_jobOf h_F_machineOf h_F_duration h_F_nextOf h_F_arcs h_F_head h_F_tail h_F_kept cI F_jobs F_size F_firstOf F_lastOf F_jobOf F_machineOf F_duration F_nextOf F_arcs F_head F_tail F_kept)) (va_A (wF h_F h_F_firstOf h_F_lastOf h_F_jobOf h_F_machineOf h_F_duration h_F_nextOf h_F_arcs h_F_head h_F_tail h_F_kept cI F_jobs F_size F_firstOf F_lastOf F_jobOf F_machineOf F_duration F_nextOf F_arcs F_head F_tail F_kept) sz)) 0 0 (va_A (wF h_F h_F_firstOf h_F_lastOf h_F_jobOf h_F_machineOf h_F_duration h_F_nextOf h_F_arcs h_F_head h_F_tail h_F_kept cI F_jobs F_size F_firstOf F_lastOf F_jobOf F_machineOf F_duration F_nextOf F_arcs F_head F_tail F_kept) sz) := by
  refine Met.ofW (cc := cX0_leads) (maxL := 7) (ret := (some .boolean)) (by decide) rfl ?_
  intro p e s m args below meth c s₁ B hml hv
  obtain ⟨rfl, hsz, hP, hK, hD0, hN⟩ := hv
  have hx := B.exec
  have hb := B.bytes
  have hr := B.returns
  have hts := atoms_spec (ws := wsX0_leads) B.pre
  have hown : s.vm.findClass RX0 = some m.cls := findClass_of_methodNamed B.named
  have hlocks := B.notSynchronized
  subst hsz
  have hD := hD0.self (sz := s.heap.size)
  generalize hAe : va_A (wF h_F h_F_firstOf h_F_lastOf h_F_jobOf h_F_machineOf h_F_duration h_F_nextOf h_F_arcs h_F_head h_F_tail h_F_kept cI F_jobs F_size F_firstOf F_lastOf F_jobOf F_machineOf F_duration F_nextOf F_arcs F_head F_tail F_kept) s.heap.size = A at hD ⊢
  have hA : ∀ q : Nat, s.heap.size ≤ q → A q := fun q h => by rw [← hAe]; exact Or.inr h
  have hS : va_S A s.heap s.heap [] := va_S.rf
  have hP : va_P (dC, dI) vwCl (wF h_F h_F_firstOf h_F_lastOf h_F_jobOf h_F_machineOf h_F_duration h_F_nextOf h_F_arcs h_F_head h_F_tail h_F_kept cI F_jobs F_size F_firstOf F_lastOf F_jobOf F_machineOf F_duration F_nextOf F_arcs F_head F_tail F_kept) s.heap := hP
  have hl := lv_entry ([.ref h_F, .int a0, .int a1]) (n := 7) (Nat.le_of_ble_eq_true rfl)
  rw [lg_entry_eq]
  generalize (lg_sl ([.ref h_F, .int a0, .int a1]) ++ List.replicate (7 - (lg_sl ([.ref h_F, .int a0, .int a1])).length) Slot.unset).toArray = ls at hl ⊢
  have hl : lv_has ls 7 [(0, .ref h_F), (1, .int a0), (2, .int a1)] := hl
  obtain ⟨H, hH⟩ : ∃ H, H = s.heap := ⟨_, rfl⟩
  rw [← hH] at hP
  have hS : va_S A s.heap H [] := by rw [hH]; exact hS
  refine W_heap hH ?_
  unfold wp_X0_leads at hw
  have hin_X0 : ∀ w ∈ u_ws RX0 TX0 12, w ∈ wsX0_leads := by decide +kernel
  refine lv_aload_n (pc := 0) hx hb dX0_leads_0 rfl (lv_at hl 0 rfl) ?_
  refine lv_iload_n (pc := 1) hx hb dX0_leads_1 rfl (lv_at hl 1 rfl) ?_
  have hPx : va_P (dC, dI) vwCl ([] ++ (wF h_F h_F_firstOf h_F_lastOf h_F_jobOf h_F_machineOf h_F_duration h_F_nextOf h_F_arcs h_F_head h_F_tail h_F_kept cI F_jobs F_size F_firstOf F_lastOf F_jobOf F_machineOf F_duration F_nextOf F_arcs F_head F_tail F_kept)) H := hP
  have hDx : va_D A ([] ++ (wF h_F h_F_firstOf h_F_lastOf h_F_jobOf h_F_machineOf h_F_duration h_F_nextOf h_F_arcs h_F_head h_F_tail h_F_kept cI F_jobs F_size F_firstOf F_lastOf F_jobOf F_machineOf F_duration F_nextOf F_arcs F_head F_tail F_kept)) := hD
  refine kc_i (pc := 2) (w1 := (fun u : Unit => (wF h_F h_F_firstOf h_F_lastOf h_F_jobOf h_F_machineOf h_F_duration h_F_nextOf h_F_arcs h_F_head h_F_tail h_F_kept cI F_jobs F_size F_firstOf F_lastOf F_jobOf F_machineOf F_duration F_nextOf F_arcs F_head F_tail F_kept))) (va_runV (As := [.int a0]) (rest := []) ⟨hx, hb, hml, hown, hts⟩ (c_X0_followers l dC dI h_F h_F_firstOf h_F_lastOf h_F_jobOf h_F_machineOf h_F_duration h_F_nextOf h_F_arcs h_F_head h_F_tail h_F_kept H.size cI F_jobs F_size F_firstOf F_lastOf F_jobOf F_machineOf F_duration F_nextOf F_arcs F_head F_tail F_kept a0 _ hw) (cwV 1 hts gX0_leads_X0_followers rfl rfl rfl (by decide +kernel) ⟨Nat.le_of_ble_eq_true rfl, Nat.le_of_ble_eq_true rfl⟩) (kc_preV (q0 := 0) (ci := 0) hK hPx hDx [0] rfl rfl rfl hN) rfl rfl hl.1 rfl (lv_room (Nat.le_of_ble_eq_true rfl)) dX0_leads_2 ⟨Nat.zero_le _, Nat.zero_le _⟩) hPx hDx hS hA (fun r_2 u H locs hw hP hD hS => ?_)
  have hP : va_P (dC, dI) vwCl (wF h_F h_F_firstOf h_F_lastOf h_F_jobOf h_F_machineOf h_F_duration h_F_nextOf h_F_arcs h_F_head h_F_tail h_F_kept cI F_jobs F_size F_firstOf F_lastOf F_jobOf F_machineOf F_duration F_nextOf F_arcs F_head F_tail F_kept) H := hP
  have hD : va_D A (wF h_F h_F_firstOf h_F_lastOf h_F_jobOf h_F_machineOf h_F_duration h_F_nextOf h_F_arcs h_F_head h_F_tail h_F_kept cI F_jobs F_size F_firstOf F_lastOf F_jobOf F_machineOf F_duration F_nextOf F_arcs F_head F_tail F_kept) := hD
  refine lv_istore_n (lv' := [(3, .int r_2), (0, .ref h_F), (1, .int a0), (2, .int a1)]) (pc := 5) hx hb dX0_leads_5 rfl hl (by decide) rfl (fun ls hl => ?_)
  refine lv_iconst (v := 0) (pc := 6) hx hb dX0_leads_6 (by decide) ?_
  refine lv_istore (lv' := [(4, .int 0), (3, .int r_2), (0, .ref h_F), (1, .int a0), (2, .int a1)]) (pc := 7) hx hb dX0_leads_7 hl (by decide) rfl (fun ls hl => ?_)
  refine lv_iconst (v := 0) (pc := 9) hx hb dX0_leads_9 (by decide) ?_
  refine lv_istore (lv' := [(5, .int 0), (4, .int 0), (3, .int r_2), (0, .ref h_F), (1, .int a0), (2, .int a1)]) (pc := 10) hx hb dX0_leads_10 hl (by decide) rfl (fun ls hl => ?_)
  obtain ⟨I_12, μ_12, hI_12, hs_12⟩ := hw
  refine lp_W (I := fun z : Int32 × Int32 × Int32 => I_12 z.1 z.2.1 z.2.2) (fun z => μ_12 z.1 z.2.1 z.2.2) (fun (z : Int32 × Int32 × Int32) H locs ls => va_P (dC, dI) vwCl (wF h_F h_F_firstOf h_F_lastOf h_F_jobOf h_F_machineOf h_F_duration h_F_nextOf h_F_arcs h_F_head h_F_tail h_F_kept cI F_jobs F_size F_firstOf F_lastOf F_jobOf F_machineOf F_duration F_nextOf F_arcs F_head F_tail F_kept) H ∧ va_D A (wF h_F h_F_firstOf h_F_lastOf h_F_jobOf h_F_machineOf h_F_duration h_F_nextOf h_F_arcs h_F_head h_F_tail h_F_kept cI F_jobs F_size F_firstOf F_lastOf F_jobOf F_machineOf F_duration F_nextOf F_arcs F_head F_tail F_kept) ∧ va_S A s.heap H locs ∧ lv_has ls 7 [(0, .ref h_F), (2, .int a1), (3, .int z.1), (4, .int z.2.1), (5, .int z.2.2)]) ?_ (r_2, 0, 0) _ _ _ hI_12 ⟨hP, hD, hS, (lv_sub hl [3, 5, 2, 1, 0] rfl)⟩
  rintro ⟨x3_12, x4_12, x5_12⟩ H locs ls hI ⟨hP, hD, hS, hl⟩ ih_12
  have hw := hs_12 x3_12 x4_12 x5_12 hI
  have hP : va_P (dC, dI) vwCl (wF h_F h_F_firstOf h_F_lastOf h_F_jobOf h_F_machineOf h_F_duration h_F_nextOf h_F_arcs h_F_head h_F_tail h_F_kept cI F_jobs F_size F_firstOf F_lastOf F_jobOf F_machineOf F_duration F_nextOf F_arcs F_head F_tail F_kept) H := hP
  have hD : va_D A (wF h_F h_F_firstOf h_F_lastOf h_F_jobOf h_F_machineOf h_F_duration h_F_nextOf h_F_arcs h_F_head h_F_tail h_F_kept cI F_jobs F_size F_firstOf F_lastOf F_jobOf F_machineOf F_duration F_nextOf F_arcs F_head F_tail F_kept) := hD
  have hl : lv_has ls 7 [(0, .ref h_F), (2, .int a1), (3, .int x3_12), (4, .int x4_12), (5, .int x5_12)] := hl
  refine lv_iload (pc := 12) hx hb dX0_leads_12 (lv_at hl 4 rfl) ?_
  refine lv_aload_n (pc := 14) hx hb dX0_leads_14 rfl (lv_at hl 0 rfl) ?_
  refine va_get (D := (dC, dI)) (ci := 0) (v := .int F_size) (C := RX0) (T := TX0) (N := 12) (pc := 15) hx hb hts hin_X0 hown hK hP 0 rfl rfl 1 (by decide) (hts (.fieldLink RX0 46 "JobShop$Floor" "size" "I") (by decide +kernel)) (fun _ h9 => h9) rfl dX0_leads_15 ?_
  refine lv_icmp_ge (tgt := 73) (pc := 18) hx hb dX0_leads_18 (by decide) (fun c_1 => ?_) (fun c_1 => ?_)
  · have hw := hw.1 c_1
    refine lv_iload_n (pc := 73) hx hb dX0_leads_73 rfl (lv_at hl 2 rfl) ?_
    refine lv_iload_n (pc := 74) hx hb dX0_leads_74 rfl (lv_at hl 1 rfl) ?_
    have hPx : va_P (dC, dI) vwCl ([(h_F, .inr (0, [.int F_jobs, .int F_size, .ref h_F_firstOf, .ref h_F_lastOf, .ref h_F_jobOf, .ref h_F_machineOf, .ref h_F_duration, .ref h_F_nextOf, .ref h_F_arcs, .ref h_F_head, .ref h_F_tail, .ref h_F_kept])), (h_F_firstOf, .inl (cI, 4, .inl F_firstOf)), (h_F_lastOf, .inl (cI, 4, .inl F_lastOf)), (h_F_jobOf, .inl (cI, 12, .inl F_jobOf)), (h_F_machineOf, .inl (cI, 12, .inl F_machineOf)), (h_F_duration, .inl (cI, 12, .inl F_duration)), (h_F_nextOf, .inl (cI, 12, .inl F_nextOf)), (h_F_arcs, .inl (cI, 12, .inl F_arcs)), (h_F_head, .inl (cI, 12, .inl F_head)), (h_F_tail, .inl (cI, 12, .inl F_tail)), (h_F_kept, .inl (cI, 12, .inl F_kept))] ++ ([] : va_W)) H := hP
    have hDx : va_D A ([(h_F, .inr (0, [.int F_jobs, .int F_size, .ref h_F_firstOf, .ref h_F_lastOf, .ref h_F_jobOf, .ref h_F_machineOf, .ref h_F_duration, .ref h_F_nextOf, .ref h_F_arcs, .ref h_F_head, .ref h_F_tail, .ref h_F_kept])), (h_F_firstOf, .inl (cI, 4, .inl F_firstOf)), (h_F_lastOf, .inl (cI, 4, .inl F_lastOf)), (h_F_jobOf, .inl (cI, 12, .inl F_jobOf)), (h_F_machineOf, .inl (cI, 12, .inl F_machineOf)), (h_F_duration, .inl (cI, 12, .inl F_duration)), (h_F_nextOf, .inl (cI, 12, .inl F_nextOf)), (h_F_arcs, .inl (cI, 12, .inl F_arcs)), (h_F_head, .inl (cI, 12, .inl F_head)), (h_F_tail, .inl (cI, 12, .inl F_tail)), (h_F_kept, .inl (cI, 12, .inl F_kept))] ++ ([] : va_W)) := hD
    refine kc_i (pc := 75) (w1 := (fun u : Unit => ([] : va_W))) (va_runSN (As := [.int x3_12, .int a1]) (rest := []) ⟨hx, hb, hml, hown, hts⟩ (c_X2_isIn l dC dI H.size  x3_12 a1 _ hw) ⟨va_cnB 2 hts gX0_leads_X2_isIn_n56 rfl rfl rfl hN (hts (.initialized RX2) (by decide +kernel)) (by decide +kernel) ⟨Nat.le_of_ble_eq_true rfl, Nat.le_of_ble_eq_true rfl⟩, hts (.static yX2_isIn) (by decide +kernel), trivial⟩ (kc_preS hK hPx hDx [] rfl) rfl rfl hl.1 rfl (lv_room (Nat.le_of_ble_eq_true rfl)) dX0_leads_75 ⟨Nat.zero_le _, Nat.zero_le _⟩) hPx hDx hS hA (fun r_75 u H locs hw hP hD hS => ?_)
    have hP : va_P (dC, dI) vwCl (wF h_F h_F_firstOf h_F_lastOf h_F_jobOf h_F_machineOf h_F_duration h_F_nextOf h_F_arcs h_F_head h_F_tail h_F_kept cI F_jobs F_size F_firstOf F_lastOf F_jobOf F_machineOf F_duration F_nextOf F_arcs F_head F_tail F_kept) H := hP
    have hD : va_D A (wF h_F h_F_firstOf h_F_lastOf h_F_jobOf h_F_machineOf h_F_duration h_F_nextOf h_F_arcs h_F_head h_F_tail h_F_kept cI F_jobs F_size F_firstOf F_lastOf F_jobOf F_machineOf F_duration F_nextOf F_arcs F_head F_tail F_kept) := hD
    exact W.zret (v := r_75) hx hb hr (nar_b hw.1) (fun t ht hW => ⟨⟨r_75, (), rfl, hw.2, by rw [ht]; exact hP, va_K.moved hW.alike hK, hD⟩, hS.F ht⟩) hS.2.2 dX0_leads_78
  · have hw := hw.2 c_1
    refine lv_iload (pc := 21) hx hb dX0_leads_21 (lv_at hl 3 rfl) ?_
    refine lv_iload_n (pc := 23) hx hb dX0_leads_23 rfl (lv_at hl 2 rfl) ?_
    refine lv_icmp_eq (tgt := 73) (pc := 24) hx hb dX0_leads_24 (by decide) (fun c_2 => ?_) (fun c_2 => ?_)
    · have hw := hw.1 c_2
      refine lv_iload_n (pc := 73) hx hb dX0_leads_73 rfl (lv_at hl 2 rfl) ?_
      refine lv_iload_n (pc := 74) hx hb dX0_leads_74 rfl (lv_at hl 1 rfl) ?_
      have hPx : va_P (dC, dI) vwCl ([(h_F, .inr (0, [.int F_jobs, .int F_size, .ref h_F_firstOf, .ref h_F_lastOf, .ref h_F_jobOf, .ref h_F_machineOf, .ref h_F_duration, .ref h_F_nextOf, .ref h_F_arcs, .ref h_F_head, .ref h_F_tail, .ref h_F_kept])), (h_F_firstOf, .inl (cI, 4, .inl F_firstOf)), (h_F_lastOf, .inl (cI, 4, .inl F_lastOf)), (h_F_jobOf, .inl (cI, 12, .inl F_jobOf)), (h_F_machineOf, .inl (cI, 12, .inl F_machineOf)), (h_F_duration, .inl (cI, 12, .inl F_duration)), (h_F_nextOf, .inl (cI, 12, .inl F_nextOf)), (h_F_arcs, .inl (cI, 12, .inl F_arcs)), (h_F_head, .inl (cI, 12, .inl F_head)), (h_F_tail, .inl (cI, 12, .inl F_tail)), (h_F_kept, .inl (cI, 12, .inl F_kept))] ++ ([] : va_W)) H := hP
      have hDx : va_D A ([(h_F, .inr (0, [.int F_jobs, .int F_size, .ref h_F_firstOf, .ref h_F_lastOf, .ref h_F_jobOf, .ref h_F_machineOf, .ref h_F_duration, .ref h_F_nextOf, .ref h_F_arcs, .ref h_F_head, .ref h_F_tail, .ref h_F_kept])), (h_F_firstOf, .inl (cI, 4, .inl F_firstOf)), (h_F_lastOf, .inl (cI, 4, .inl F_lastOf)), (h_F_jobOf, .inl (cI, 12, .inl F_jobOf)), (h_F_machineOf, .inl (cI, 12, .inl F_machineOf)), (h_F_duration, .inl (cI, 12, .inl F_duration)), (h_F_nextOf, .inl (cI, 12, .inl F_nextOf)), (h_F_arcs, .inl (cI, 12, .inl F_arcs)), (h_F_head, .inl (cI, 12, .inl F_head)), (h_F_tail, .inl (cI, 12, .inl F_tail)), (h_F_kept, .inl (cI, 12, .inl F_kept))] ++ ([] : va_W)) := hD
      refine kc_i (pc := 75) (w1 := (fun u : Unit => ([] : va_W))) (va_runSN (As := [.int x3_12, .int a1]) (rest := []) ⟨hx, hb, hml, hown, hts⟩ (c_X2_isIn l dC dI H.size  x3_12 a1 _ hw) ⟨va_cnB 2 hts gX0_leads_X2_isIn_n56 rfl rfl rfl hN (hts (.initialized RX2) (by decide +kernel)) (by decide +kernel) ⟨Nat.le_of_ble_eq_true rfl, Nat.le_of_ble_eq_true rfl⟩, hts (.static yX2_isIn) (by decide +kernel), trivial⟩ (kc_preS hK hPx hDx [] rfl) rfl rfl hl.1 rfl (lv_room (Nat.le_of_ble_eq_true rfl)) dX0_leads_75 ⟨Nat.zero_le _, Nat.zero_le _⟩) hPx hDx hS hA (fun r_75 u H locs hw hP hD hS => ?_)
      have hP : va_P (dC, dI) vwCl (wF h_F h_F_firstOf h_F_lastOf h_F_jobOf h_F_machineOf h_F_duration h_F_nextOf h_F_arcs h_F_head h_F_tail h_F_kept cI F_jobs F_size F_firstOf F_lastOf F_jobOf F_machineOf F_duration F_nextOf F_arcs F_head F_tail F_kept) H := hP
      have hD : va_D A (wF h_F h_F_firstOf h_F_lastOf h_F_jobOf h_F_machineOf h_F_duration h_F_nextOf h_F_arcs h_F_head h_F_tail h_F_kept cI F_jobs F_size F_firstOf F_lastOf F_jobOf F_machineOf F_duration F_nextOf F_arcs F_head F_tail F_kept) := hD
      exact W.zret (v := r_75) hx hb hr (nar_b hw.1) (fun t ht hW => ⟨⟨r_75, (), rfl, hw.2, by rw [ht]; exact hP, va_K.moved hW.alike hK, hD⟩, hS.F ht⟩) hS.2.2 dX0_leads_78
    · have hw := hw.2 c_2
      refine lv_iload_n (pc := 27) hx hb dX0_leads_27 rfl (lv_at hl 2 rfl) ?_
      refine lv_istore (lv' := [(4, .int x3_12), (0, .ref h_F), (2, .int a1), (3, .int x3_12), (5, .int x5_12)]) (pc := 28) hx hb dX0_leads_28 hl (by decide) rfl (fun ls hl => ?_)
      refine lv_iconst (v := 0) (pc := 30) hx hb dX0_leads_30 (by decide) ?_
      refine lv_istore (lv' := [(6, .int 0), (4, .int x3_12), (0, .ref h_F), (2, .int a1), (3, .int x3_12), (5, .int x5_12)]) (pc := 31) hx hb dX0_leads_31 hl (by decide) rfl (fun ls hl => ?_)
      obtain ⟨I_33, μ_33, hI_33, hs_33⟩ := hw
      refine lp_W (I := fun z : Int32 × Int32 => I_33 z.1 z.2) (fun z => μ_33 z.1 z.2) (fun (z : Int32 × Int32) H locs ls => va_P (dC, dI) vwCl (wF h_F h_F_firstOf h_F_lastOf h_F_jobOf h_F_machineOf h_F_duration h_F_nextOf h_F_arcs h_F_head h_F_tail h_F_kept cI F_jobs F_size F_firstOf F_lastOf F_jobOf F_machineOf F_duration F_nextOf F_arcs F_head F_tail F_kept) H ∧ va_D A (wF h_F h_F_firstOf h_F_lastOf h_F_jobOf h_F_machineOf h_F_duration h_F_nextOf h_F_arcs h_F_head h_F_tail h_F_kept cI F_jobs F_size F_firstOf F_lastOf F_jobOf F_machineOf F_duration F_nextOf F_arcs F_head F_tail F_kept) ∧ va_S A s.heap H locs ∧ lv_has ls 7 [(0, .ref h_F), (2, .int a1), (3, .int z.1), (4, .int x3_12), (5, .int x5_12), (6, .int z.2)]) ?_ (x3_12, 0) _ _ _ hI_33 ⟨hP, hD, hS, (lv_sub hl [2, 3, 4, 1, 5, 0] rfl)⟩
      rintro ⟨x3_33, x6_33⟩ H locs ls hI ⟨hP, hD, hS, hl⟩ ih_33
      have hw := hs_33 x3_33 x6_33 hI
      have hP : va_P (dC, dI) vwCl (wF h_F h_F_firstOf h_F_lastOf h_F_jobOf h_F_machineOf h_F_duration h_F_nextOf h_F_arcs h_F_head h_F_tail h_F_kept cI F_jobs F_size F_firstOf F_lastOf F_jobOf F_machineOf F_duration F_nextOf F_arcs F_head F_tail F_kept) H := hP
      have hD : va_D A (wF h_F h_F_firstOf h_F_lastOf h_F_jobOf h_F_machineOf h_F_duration h_F_nextOf h_F_arcs h_F_head h_F_tail h_F_kept cI F_jobs F_size F_firstOf F_lastOf F_jobOf F_machineOf F_duration F_nextOf F_arcs F_head F_tail F_kept) := hD
      have hl : lv_has ls 7 [(0, .ref h_F), (2, .int a1), (3, .int x3_33), (4, .int x3_12), (5, .int x5_12), (6, .int x6_33)] := hl
      refine lv_iload (pc := 33) hx hb dX0_leads_33 (lv_at hl 5 rfl) ?_
      refine lv_aload_n (pc := 35) hx hb dX0_leads_35 rfl (lv_at hl 0 rfl) ?_
      refine va_get (D := (dC, dI)) (ci := 0) (v := .int F_size) (C := RX0) (T := TX0) (N := 12) (pc := 36) hx hb hts hin_X0 hown hK hP 0 rfl rfl 1 (by decide) (hts (.fieldLink RX0 46 "JobShop$Floor" "size" "I") (by decide +kernel)) (fun _ h9 => h9) rfl dX0_leads_36 ?_
      refine lv_icmp_ge (tgt := 67) (pc := 39) hx hb dX0_leads_39 (by decide) (fun c_3 => ?_) (fun c_3 => ?_)
      · have hw := hw.1 c_3
        refine lv_iinc (v := x5_12 + 1) (lv' := [(5, .int (x5_12 + 1)), (0, .ref h_F), (2, .int a1), (3, .int x3_33), (4, .int x3_12), (6, .int x6_33)]) (pc := 67) hx hb dX0_leads_67 hl (k := 4) rfl rfl (by decide) rfl (fun ls hl => ?_)
        refine lv_goto (tgt := 12) (pc := 70) hx hb dX0_leads_70 (by decide) ?_
        exact ih_12 (x3_33, x3_12, (x5_12 + 1)) _ _ _ hw.1 hw.2 ⟨hP, hD, hS, (lv_sub hl [1, 2, 3, 4, 0] rfl)⟩
      · have hw := hw.2 c_3
        refine lv_iload (pc := 42) hx hb dX0_leads_42 (lv_at hl 3 rfl) ?_
        refine lv_iload (pc := 44) hx hb dX0_leads_44 (lv_at hl 5 rfl) ?_
        have hPx : va_P (dC, dI) vwCl ([(h_F, .inr (0, [.int F_jobs, .int F_size, .ref h_F_firstOf, .ref h_F_lastOf, .ref h_F_jobOf, .ref h_F_machineOf, .ref h_F_duration, .ref h_F_nextOf, .ref h_F_arcs, .ref h_F_head, .ref h_F_tail, .ref h_F_kept])), (h_F_firstOf, .inl (cI, 4, .inl F_firstOf)), (h_F_lastOf, .inl (cI, 4, .inl F_lastOf)), (h_F_jobOf, .inl (cI, 12, .inl F_jobOf)), (h_F_machineOf, .inl (cI, 12, .inl F_machineOf)), (h_F_duration, .inl (cI, 12, .inl F_duration)), (h_F_nextOf, .inl (cI, 12, .inl F_nextOf)), (h_F_arcs, .inl (cI, 12, .inl F_arcs)), (h_F_head, .inl (cI, 12, .inl F_head)), (h_F_tail, .inl (cI, 12, .inl F_tail)), (h_F_kept, .inl (cI, 12, .inl F_kept))] ++ ([] : va_W)) H := hP
        have hDx : va_D A ([(h_F, .inr (0, [.int F_jobs, .int F_size, .ref h_F_firstOf, .ref h_F_lastOf, .ref h_F_jobOf, .ref h_F_machineOf, .ref h_F_duration, .ref h_F_nextOf, .ref h_F_arcs, .ref h_F_head, .ref h_F_tail, .ref h_F_kept])), (h_F_firstOf, .inl (cI, 4, .inl F_firstOf)), (h_F_lastOf, .inl (cI, 4, .inl F_lastOf)), (h_F_jobOf, .inl (cI, 12, .inl F_jobOf)), (h_F_machineOf, .inl (cI, 12, .inl F_machineOf)), (h_F_duration, .inl (cI, 12, .inl F_duration)), (h_F_nextOf, .inl (cI, 12, .inl F_nextOf)), (h_F_arcs, .inl (cI, 12, .inl F_arcs)), (h_F_head, .inl (cI, 12, .inl F_head)), (h_F_tail, .inl (cI, 12, .inl F_tail)), (h_F_kept, .inl (cI, 12, .inl F_kept))] ++ ([] : va_W)) := hD
        refine kc_i (pc := 46) (w1 := (fun u : Unit => ([] : va_W))) (va_runSN (As := [.int x3_12, .int x6_33]) (rest := []) ⟨hx, hb, hml, hown, hts⟩ (c_X2_isIn l dC dI H.size  x3_12 x6_33 _ hw) ⟨va_cnB 2 hts gX0_leads_X2_isIn_n56 rfl rfl rfl hN (hts (.initialized RX2) (by decide +kernel)) (by decide +kernel) ⟨Nat.le_of_ble_eq_true rfl, Nat.le_of_ble_eq_true rfl⟩, hts (.static yX2_isIn) (by decide +kernel), trivial⟩ (kc_preS hK hPx hDx [] rfl) rfl rfl hl.1 rfl (lv_room (Nat.le_of_ble_eq_true rfl)) dX0_leads_46 ⟨Nat.zero_le _, Nat.zero_le _⟩) hPx hDx hS hA (fun r_46 u H locs hw hP hD hS => ?_)
        have hP : va_P (dC, dI) vwCl (wF h_F h_F_firstOf h_F_lastOf h_F_jobOf h_F_machineOf h_F_duration h_F_nextOf h_F_arcs h_F_head h_F_tail h_F_kept cI F_jobs F_size F_firstOf F_lastOf F_jobOf F_machineOf F_duration F_nextOf F_arcs F_head F_tail F_kept) H := hP
        have hD : va_D A (wF h_F h_F_firstOf h_F_lastOf h_F_jobOf h_F_machineOf h_F_duration h_F_nextOf h_F_arcs h_F_head h_F_tail h_F_kept cI F_jobs F_size F_firstOf F_lastOf F_jobOf F_machineOf F_duration F_nextOf F_arcs F_head F_tail F_kept) := hD
        refine lv_if_eq (tgt := 61) (pc := 49) hx hb dX0_leads_49 (by decide) (fun c_4 => ?_) (fun c_4 => ?_)
        · have hw := hw.1 c_4
          refine lv_iinc (v := x6_33 + 1) (lv' := [(6, .int (x6_33 + 1)), (0, .ref h_F), (2, .int a1), (3, .int x3_33), (4, .int x3_12), (5, .int x5_12)]) (pc := 61) hx hb dX0_leads_61 hl (k := 5) rfl rfl (by decide) rfl (fun ls hl => ?_)
          refine lv_goto (tgt := 33) (pc := 64) hx hb dX0_leads_64 (by decide) ?_
          exact ih_33 (x3_33, (x6_33 + 1)) _ _ _ hw.1 hw.2 ⟨hP, hD, hS, (lv_sub hl [1, 2, 3, 4, 5, 0] rfl)⟩
        · have hw := hw.2 c_4
          refine lv_iload_n (pc := 52) hx hb dX0_leads_52 rfl (lv_at hl 2 rfl) ?_
          refine lv_aload_n (pc := 53) hx hb dX0_leads_53 rfl (lv_at hl 0 rfl) ?_
          refine lv_iload (pc := 54) hx hb dX0_leads_54 (lv_at hl 5 rfl) ?_
          have hPx : va_P (dC, dI) vwCl ([] ++ (wF h_F h_F_firstOf h_F_lastOf h_F_jobOf h_F_machineOf h_F_duration h_F_nextOf h_F_arcs h_F_head h_F_tail h_F_kept cI F_jobs F_size F_firstOf F_lastOf F_jobOf F_machineOf F_duration F_nextOf F_arcs F_head F_tail F_kept)) H := hP
          have hDx : va_D A ([] ++ (wF h_F h_F_firstOf h_F_lastOf h_F_jobOf h_F_machineOf h_F_duration h_F_nextOf h_F_arcs h_F_head h_F_tail h_F_kept cI F_jobs F_size F_firstOf F_lastOf F_jobOf F_machineOf F_duration F_nextOf F_arcs F_head F_tail F_kept)) := hD
          refine kc_i (pc := 56) (w1 := (fun u : Unit => (wF h_F h_F_firstOf h_F_lastOf h_F_jobOf h_F_machineOf h_F_duration h_F_nextOf h_F_arcs h_F_head h_F_tail h_F_kept cI F_jobs F_size F_firstOf F_lastOf F_jobOf F_machineOf F_duration F_nextOf F_arcs F_head F_tail F_kept))) (va_runV (As := [.int x6_33]) (rest := [.int x3_33]) ⟨hx, hb, hml, hown, hts⟩ (c_X0_followers l dC dI h_F h_F_firstOf h_F_lastOf h_F_jobOf h_F_machineOf h_F_duration h_F_nextOf h_F_arcs h_F_head h_F_tail h_F_kept H.size cI F_jobs F_size F_firstOf F_lastOf F_jobOf F_machineOf F_duration F_nextOf F_arcs F_head F_tail F_kept x6_33 _ hw) (cwV 1 hts gX0_leads_X0_followers rfl rfl rfl (by decide +kernel) ⟨Nat.le_of_ble_eq_true rfl, Nat.le_of_ble_eq_true rfl⟩) (kc_preV (q0 := 0) (ci := 0) hK hPx hDx [0] rfl rfl rfl hN) rfl rfl hl.1 rfl (lv_room (Nat.le_of_ble_eq_true rfl)) dX0_leads_56 ⟨Nat.zero_le _, Nat.zero_le _⟩) hPx hDx hS hA (fun r_56 u H locs hw hP hD hS => ?_)
          have hP : va_P (dC, dI) vwCl (wF h_F h_F_firstOf h_F_lastOf h_F_jobOf h_F_machineOf h_F_duration h_F_nextOf h_F_arcs h_F_head h_F_tail h_F_kept cI F_jobs F_size F_firstOf F_lastOf F_jobOf F_machineOf F_duration F_nextOf F_arcs F_head F_tail F_kept) H := hP
          have hD : va_D A (wF h_F h_F_firstOf h_F_lastOf h_F_jobOf h_F_machineOf h_F_duration h_F_nextOf h_F_arcs h_F_head h_F_tail h_F_kept cI F_jobs F_size F_firstOf F_lastOf F_jobOf F_machineOf F_duration F_nextOf F_arcs F_head F_tail F_kept) := hD
          refine lv_ior (pc := 59) hx hb dX0_leads_59 ?_
          refine lv_istore_n (lv' := [(3, .int (x3_33 ||| r_56)), (0, .ref h_F), (2, .int a1), (4, .int x3_12), (5, .int x5_12), (6, .int x6_33)]) (pc := 60) hx hb dX0_leads_60 rfl hl (by decide) rfl (fun ls hl => ?_)
          refine lv_iinc (v := x6_33 + 1) (lv' := [(6, .int (x6_33 + 1)), (3, .int (x3_33 ||| r_56)), (0, .ref h_F), (2, .int a1), (4, .int x3_12), (5, .int x5_12)]) (pc := 61) hx hb dX0_leads_61 hl (k := 5) rfl rfl (by decide) rfl (fun ls hl => ?_)
          refine lv_goto (tgt := 33) (pc := 64) hx hb dX0_leads_64 (by decide) ?_
          exact ih_33 ((x3_33 ||| r_56), (x6_33 + 1)) _ _ _ hw.1 hw.2 ⟨hP, hD, hS, (lv_sub hl [2, 3, 1, 4, 5, 0] rfl)⟩
set_option maxHeartbeats 4000000 in
set_option maxRecDepth 100000 in
theorem c_X0_through (l : Launch) (dC : Nat → ClassId) (dI : Nat → Nat → Nat) (h_F h_F_firstOf h_F_lastOf h_F_jobOf h_F_machineOf h_F_duration h_F_nextOf h_F_arcs h_F_head h_F_tail h_F_kept : Nat) (sz : Nat) (cI : ClassId) (F_jobs : Int32) (F_size : Int32) (F_firstOf : Nat → Int32) (F_lastOf : Nat → Int32) (F_jobOf : Nat → Int32) (F_machineOf : Nat → Int32) (F_duration : Nat → Int32) (F_nextOf : Nat → Int32) (F_arcs : Nat → Int32) (F_head : Nat → Int32) (F_tail : Nat → Int32) (F_kept : Nat → Int32) (a0 : Int32) (post : Int32 → Prop) (hw : wp_X0_through F_duration F_head F_tail a0 post) : Met l yX0_through wsX0_through ({ frames := 0, cells := 0, slots := 0, locals := 0 }) (va_Pc [.ref h_F, .int a0] (fun U => U.heap.size = sz ∧ va_P (dC, dI) vwCl (wF h_F h_F_firstOf h_F_lastOf h_F_jobOf h_F_machineOf h_F_duration h_F_nextOf h_F_arcs h_F_head h_F_tail h_F_kept cI F_jobs F_size F_firstOf F_lastOf F_jobOf F_machineOf F_duration F_nextOf F_arcs F_head F_tail F_kept) U.heap ∧ va_K (dC, dI) vwCl [(cI, .int)] U ∧ va_D (fun _ => True) (wF h_F h_F_firstOf h_F_lastOf h_F_jobOf h_F_machineOf h_F_duration h_F_nextOf h_F_arcs h_F_head h_F_tail h_F_kept cI F_jobs F_size F_firstOf F_lastOf F_jobOf F_machineOf F_duration F_nextOf F_arcs F_head F_tail F_kept) ∧ nw U)) (va_Qi (fun (r : Int32) (u : Unit) => post r ) (fun u t => va_P (dC, dI) vwCl (wF h_F h_F_firstOf h_F_lastOf h_F_jobOf h_F_machineOf h_F_duration h_F_nextOf h_F_arcs h_F_head h_F_tail h_F_kept cI F_jobs F_size F_firstOf F_lastOf F_jobOf F_machineOf F_duration F_nextOf F_arcs F_head F_tail F_kept) t.heap ∧ va_K (dC, dI) vwCl [(cI, .int)] t ∧ va_D (va_A (wF h_F h_F_firstOf h_F_lastOf h_F_jobOf h_F_machineOf h_F_duration h_F_nextOf h_F_arcs h_F_head h_F_tail h_F_kept cI F_jobs F_size F_firstOf F_lastOf F_jobOf F_machineOf F_duration F_nextOf F_arcs F_head F_tail F_kept) sz) (wF h_F h_F_firstOf h_F_lastOf h_F_jobOf h_F_machineOf h_F_duration h_F_nextOf h_F_arcs h_F_head h_F_tail h_F_kept cI F_jobs F_size F_firstOf F_lastOf F_jobOf F_machineOf F_duration F_nextOf F_arcs F_head F_tail F_kept)) (va_A (wF h_F h_F_firstOf h_F_lastOf h_F_jobOf h_F_machineOf h_F_duration h_F_nextOf h_F_arcs h_F_head h_F_tail h_F_kept cI F_jobs F_size F_firstOf F_lastOf F_jobOf F_machineOf F_duration F_nextOf F_arcs F_head F_tail F_kept) sz)) 0 0 (va_A (wF h_F h_F_firstOf h_F_lastOf h_F_jobOf h_F_machineOf h_F_duration h_F_nextOf h_F_arcs h_F_head h_F_tail h_F_kept cI F_jobs F_size F_firstOf F_lastOf F_jobOf F_machineOf F_duration F_nextOf F_arcs F_head F_tail F_kept) sz) := by
  refine Met.ofW (cc := cX0_through) (maxL := 2) (ret := (some .int)) (by decide) rfl ?_
  intro p e s m args below meth c s₁ B hml hv
  obtain ⟨rfl, hsz, hP, hK, hD0, hN⟩ := hv
  have hx := B.exec
  have hb := B.bytes
  have hr := B.returns
  have hts := atoms_spec (ws := wsX0_through) B.pre
  have hown : s.vm.findClass RX0 = some m.cls := findClass_of_methodNamed B.named
  have hlocks := B.notSynchronized
  subst hsz
  have hD := hD0.self (sz := s.heap.size)
  generalize hAe : va_A (wF h_F h_F_firstOf h_F_lastOf h_F_jobOf h_F_machineOf h_F_duration h_F_nextOf h_F_arcs h_F_head h_F_tail h_F_kept cI F_jobs F_size F_firstOf F_lastOf F_jobOf F_machineOf F_duration F_nextOf F_arcs F_head F_tail F_kept) s.heap.size = A at hD ⊢
  have hA : ∀ q : Nat, s.heap.size ≤ q → A q := fun q h => by rw [← hAe]; exact Or.inr h
  have hS : va_S A s.heap s.heap [] := va_S.rf
  have hP : va_P (dC, dI) vwCl (wF h_F h_F_firstOf h_F_lastOf h_F_jobOf h_F_machineOf h_F_duration h_F_nextOf h_F_arcs h_F_head h_F_tail h_F_kept cI F_jobs F_size F_firstOf F_lastOf F_jobOf F_machineOf F_duration F_nextOf F_arcs F_head F_tail F_kept) s.heap := hP
  have hl := lv_entry ([.ref h_F, .int a0]) (n := 2) (Nat.le_of_ble_eq_true rfl)
  rw [lg_entry_eq]
  generalize (lg_sl ([.ref h_F, .int a0]) ++ List.replicate (2 - (lg_sl ([.ref h_F, .int a0])).length) Slot.unset).toArray = ls at hl ⊢
  have hl : lv_has ls 2 [(0, .ref h_F), (1, .int a0)] := hl
  obtain ⟨H, hH⟩ : ∃ H, H = s.heap := ⟨_, rfl⟩
  rw [← hH] at hP
  have hS : va_S A s.heap H [] := by rw [hH]; exact hS
  refine W_heap hH ?_
  unfold wp_X0_through at hw
  have hin_X0 : ∀ w ∈ u_ws RX0 TX0 12, w ∈ wsX0_through := by decide +kernel
  refine lv_aload_n (pc := 0) hx hb dX0_through_0 rfl (lv_at hl 0 rfl) ?_
  refine va_get (D := (dC, dI)) (ci := 0) (v := .ref h_F_head) (C := RX0) (T := TX0) (N := 12) (pc := 1) hx hb hts hin_X0 hown hK hP 0 rfl rfl 9 (by decide) (hts (.fieldLink RX0 33 "JobShop$Floor" "head" "[I") (by decide +kernel)) (fun _ h9 => h9) rfl dX0_through_1 ?_
  refine lv_iload_n (pc := 4) hx hb dX0_through_4 rfl (lv_at hl 1 rfl) ?_
  obtain ⟨b_1, hw⟩ := hw
  refine va_iald (pc := 5) hx hb hK hP 8 0 rfl rfl b_1 dX0_through_5 ?_
  refine lv_aload_n (pc := 6) hx hb dX0_through_6 rfl (lv_at hl 0 rfl) ?_
  refine va_get (D := (dC, dI)) (ci := 0) (v := .ref h_F_duration) (C := RX0) (T := TX0) (N := 12) (pc := 7) hx hb hts hin_X0 hown hK hP 0 rfl rfl 6 (by decide) (hts (.fieldLink RX0 24 "JobShop$Floor" "duration" "[I") (by decide +kernel)) (fun _ h9 => h9) rfl dX0_through_7 ?_
  refine lv_iload_n (pc := 10) hx hb dX0_through_10 rfl (lv_at hl 1 rfl) ?_
  obtain ⟨b_2, hw⟩ := hw
  refine va_iald (pc := 11) hx hb hK hP 5 0 rfl rfl b_2 dX0_through_11 ?_
  refine lv_iadd (pc := 12) hx hb dX0_through_12 ?_
  refine lv_aload_n (pc := 13) hx hb dX0_through_13 rfl (lv_at hl 0 rfl) ?_
  refine va_get (D := (dC, dI)) (ci := 0) (v := .ref h_F_tail) (C := RX0) (T := TX0) (N := 12) (pc := 14) hx hb hts hin_X0 hown hK hP 0 rfl rfl 10 (by decide) (hts (.fieldLink RX0 36 "JobShop$Floor" "tail" "[I") (by decide +kernel)) (fun _ h9 => h9) rfl dX0_through_14 ?_
  refine lv_iload_n (pc := 17) hx hb dX0_through_17 rfl (lv_at hl 1 rfl) ?_
  obtain ⟨b_3, hw⟩ := hw
  refine va_iald (pc := 18) hx hb hK hP 9 0 rfl rfl b_3 dX0_through_18 ?_
  refine lv_iadd (pc := 19) hx hb dX0_through_19 ?_
  exact W.iret (v := (((F_head a0.toNatClampNeg) + (F_duration a0.toNatClampNeg)) + (F_tail a0.toNatClampNeg))) hx hb hr (fun t ht hW => ⟨⟨(((F_head a0.toNatClampNeg) + (F_duration a0.toNatClampNeg)) + (F_tail a0.toNatClampNeg)), (), rfl, hw, by rw [ht]; exact hP, va_K.moved hW.alike hK, hD⟩, hS.F ht⟩) hS.2.2 dX0_through_20
set_option maxHeartbeats 4000000 in
set_option maxRecDepth 100000 in
theorem c_X0_longest (l : Launch) (dC : Nat → ClassId) (dI : Nat → Nat → Nat) (h_F h_F_firstOf h_F_lastOf h_F_jobOf h_F_machineOf h_F_duration h_F_nextOf h_F_arcs h_F_head h_F_tail h_F_kept : Nat) (sz : Nat) (cI : ClassId) (F_jobs : Int32) (F_size : Int32) (F_firstOf : Nat → Int32) (F_lastOf : Nat → Int32) (F_jobOf : Nat → Int32) (F_machineOf : Nat → Int32) (F_duration : Nat → Int32) (F_nextOf : Nat → Int32) (F_arcs : Nat → Int32) (F_head : Nat → Int32) (F_tail : Nat → Int32) (F_kept : Nat → Int32) (post : Int32 → Prop) (hw : wp_X0_longest F_size F_duration F_head F_tail post) : Met l yX0_longest wsX0_longest ({ frames := 1, cells := 0, slots := 0, locals := 24 }) (va_Pc [.ref h_F] (fun U => U.heap.size = sz ∧ va_P (dC, dI) vwCl (wF h_F h_F_firstOf h_F_lastOf h_F_jobOf h_F_machineOf h_F_duration h_F_nextOf h_F_arcs h_F_head h_F_tail h_F_kept cI F_jobs F_size F_firstOf F_lastOf F_jobOf F_machineOf F_duration F_nextOf F_arcs F_head F_tail F_kept) U.heap ∧ va_K (dC, dI) vwCl [(cI, .int)] U ∧ va_D (fun _ => True) (wF h_F h_F_firstOf h_F_lastOf h_F_jobOf h_F_machineOf h_F_duration h_F_nextOf h_F_arcs h_F_head h_F_tail h_F_kept cI F_jobs F_size F_firstOf F_lastOf F_jobOf F_machineOf F_duration F_nextOf F_arcs F_head F_tail F_kept) ∧ nw U)) (va_Qi (fun (r : Int32) (u : Unit) => post r ) (fun u t => va_P (dC, dI) vwCl (wF h_F h_F_firstOf h_F_lastOf h_F_jobOf h_F_machineOf h_F_duration h_F_nextOf h_F_arcs h_F_head h_F_tail h_F_kept cI F_jobs F_size F_firstOf F_lastOf F_jobOf F_machineOf F_duration F_nextOf F_arcs F_head F_tail F_kept) t.heap ∧ va_K (dC, dI) vwCl [(cI, .int)] t ∧ va_D (va_A (wF h_F h_F_firstOf h_F_lastOf h_F_jobOf h_F_machineOf h_F_duration h_F_nextOf h_F_arcs h_F_head h_F_tail h_F_kept cI F_jobs F_size F_firstOf F_lastOf F_jobOf F_machineOf F_duration F_nextOf F_arcs F_head F_tail F_kept) sz) (wF h_F h_F_firstOf h_F_lastOf h_F_jobOf h_F_machineOf h_F_duration h_F_nextOf h_F_arcs h_F_head h_F_tail h_F_kept cI F_jobs F_size F_firstOf F_lastOf F_jobOf F_machineOf F_duration F_nextOf F_arcs F_head F_tail F_kept)) (va_A (wF h_F h_F_firstOf h_F_lastOf h_F_jobOf h_F_machineOf h_F_duration h_F_nextOf h_F_arcs h_F_head h_F_tail h_F_kept cI F_jobs F_size F_firstOf F_lastOf F_jobOf F_machineOf F_duration F_nextOf F_arcs F_head F_tail F_kept) sz)) 0 0 (va_A (wF h_F h_F_firstOf h_F_lastOf h_F_jobOf h_F_machineOf h_F_duration h_F_nextOf h_F_arcs h_F_head h_F_tail h_F_kept cI F_jobs F_size F_firstOf F_lastOf F_jobOf F_machineOf F_duration F_nextOf F_arcs F_head F_tail F_kept) sz) := by
  refine Met.ofW (cc := cX0_longest) (maxL := 3) (ret := (some .int)) (by decide) rfl ?_
  intro p e s m args below meth c s₁ B hml hv
  obtain ⟨rfl, hsz, hP, hK, hD0, hN⟩ := hv
  have hx := B.exec
  have hb := B.bytes
  have hr := B.returns
  have hts := atoms_spec (ws := wsX0_longest) B.pre
  have hown : s.vm.findClass RX0 = some m.cls := findClass_of_methodNamed B.named
  have hlocks := B.notSynchronized
  subst hsz
  have hD := hD0.self (sz := s.heap.size)
  generalize hAe : va_A (wF h_F h_F_firstOf h_F_lastOf h_F_jobOf h_F_machineOf h_F_duration h_F_nextOf h_F_arcs h_F_head h_F_tail h_F_kept cI F_jobs F_size F_firstOf F_lastOf F_jobOf F_machineOf F_duration F_nextOf F_arcs F_head F_tail F_kept) s.heap.size = A at hD ⊢
  have hA : ∀ q : Nat, s.heap.size ≤ q → A q := fun q h => by rw [← hAe]; exact Or.inr h
  have hS : va_S A s.heap s.heap [] := va_S.rf
  have hP : va_P (dC, dI) vwCl (wF h_F h_F_firstOf h_F_lastOf h_F_jobOf h_F_machineOf h_F_duration h_F_nextOf h_F_arcs h_F_head h_F_tail h_F_kept cI F_jobs F_size F_firstOf F_lastOf F_jobOf F_machineOf F_duration F_nextOf F_arcs F_head F_tail F_kept) s.heap := hP
  have hl := lv_entry ([.ref h_F]) (n := 3) (Nat.le_of_ble_eq_true rfl)
  rw [lg_entry_eq]
  generalize (lg_sl ([.ref h_F]) ++ List.replicate (3 - (lg_sl ([.ref h_F])).length) Slot.unset).toArray = ls at hl ⊢
  have hl : lv_has ls 3 [(0, .ref h_F)] := hl
  obtain ⟨H, hH⟩ : ∃ H, H = s.heap := ⟨_, rfl⟩
  rw [← hH] at hP
  have hS : va_S A s.heap H [] := by rw [hH]; exact hS
  refine W_heap hH ?_
  unfold wp_X0_longest at hw
  have hin_X0 : ∀ w ∈ u_ws RX0 TX0 12, w ∈ wsX0_longest := by decide +kernel
  refine lv_iconst (v := 0) (pc := 0) hx hb dX0_longest_0 (by decide) ?_
  refine lv_istore_n (lv' := [(1, .int 0), (0, .ref h_F)]) (pc := 1) hx hb dX0_longest_1 rfl hl (by decide) rfl (fun ls hl => ?_)
  refine lv_iconst (v := 0) (pc := 2) hx hb dX0_longest_2 (by decide) ?_
  refine lv_istore_n (lv' := [(2, .int 0), (1, .int 0), (0, .ref h_F)]) (pc := 3) hx hb dX0_longest_3 rfl hl (by decide) rfl (fun ls hl => ?_)
  obtain ⟨I_4, μ_4, hI_4, hs_4⟩ := hw
  refine lp_W (I := fun z : Int32 × Int32 => I_4 z.1 z.2) (fun z => μ_4 z.1 z.2) (fun (z : Int32 × Int32) H locs ls => va_P (dC, dI) vwCl (wF h_F h_F_firstOf h_F_lastOf h_F_jobOf h_F_machineOf h_F_duration h_F_nextOf h_F_arcs h_F_head h_F_tail h_F_kept cI F_jobs F_size F_firstOf F_lastOf F_jobOf F_machineOf F_duration F_nextOf F_arcs F_head F_tail F_kept) H ∧ va_D A (wF h_F h_F_firstOf h_F_lastOf h_F_jobOf h_F_machineOf h_F_duration h_F_nextOf h_F_arcs h_F_head h_F_tail h_F_kept cI F_jobs F_size F_firstOf F_lastOf F_jobOf F_machineOf F_duration F_nextOf F_arcs F_head F_tail F_kept) ∧ va_S A s.heap H locs ∧ lv_has ls 3 [(0, .ref h_F), (1, .int z.1), (2, .int z.2)]) ?_ (0, 0) _ _ _ hI_4 ⟨hP, hD, hS, (lv_sub hl [2, 1, 0] rfl)⟩
  rintro ⟨x1_4, x2_4⟩ H locs ls hI ⟨hP, hD, hS, hl⟩ ih_4
  have hw := hs_4 x1_4 x2_4 hI
  have hP : va_P (dC, dI) vwCl (wF h_F h_F_firstOf h_F_lastOf h_F_jobOf h_F_machineOf h_F_duration h_F_nextOf h_F_arcs h_F_head h_F_tail h_F_kept cI F_jobs F_size F_firstOf F_lastOf F_jobOf F_machineOf F_duration F_nextOf F_arcs F_head F_tail F_kept) H := hP
  have hD : va_D A (wF h_F h_F_firstOf h_F_lastOf h_F_jobOf h_F_machineOf h_F_duration h_F_nextOf h_F_arcs h_F_head h_F_tail h_F_kept cI F_jobs F_size F_firstOf F_lastOf F_jobOf F_machineOf F_duration F_nextOf F_arcs F_head F_tail F_kept) := hD
  have hl : lv_has ls 3 [(0, .ref h_F), (1, .int x1_4), (2, .int x2_4)] := hl
  refine lv_iload_n (pc := 4) hx hb dX0_longest_4 rfl (lv_at hl 2 rfl) ?_
  refine lv_aload_n (pc := 5) hx hb dX0_longest_5 rfl (lv_at hl 0 rfl) ?_
  refine va_get (D := (dC, dI)) (ci := 0) (v := .int F_size) (C := RX0) (T := TX0) (N := 12) (pc := 6) hx hb hts hin_X0 hown hK hP 0 rfl rfl 1 (by decide) (hts (.fieldLink RX0 46 "JobShop$Floor" "size" "I") (by decide +kernel)) (fun _ h9 => h9) rfl dX0_longest_6 ?_
  refine lv_icmp_ge (tgt := 28) (pc := 9) hx hb dX0_longest_9 (by decide) (fun c_1 => ?_) (fun c_1 => ?_)
  · have hw := hw.1 c_1
    refine lv_iload_n (pc := 28) hx hb dX0_longest_28 rfl (lv_at hl 1 rfl) ?_
    exact W.iret (v := x1_4) hx hb hr (fun t ht hW => ⟨⟨x1_4, (), rfl, hw, by rw [ht]; exact hP, va_K.moved hW.alike hK, hD⟩, hS.F ht⟩) hS.2.2 dX0_longest_29
  · have hw := hw.2 c_1
    refine lv_iload_n (pc := 12) hx hb dX0_longest_12 rfl (lv_at hl 1 rfl) ?_
    refine lv_aload_n (pc := 13) hx hb dX0_longest_13 rfl (lv_at hl 0 rfl) ?_
    refine lv_iload_n (pc := 14) hx hb dX0_longest_14 rfl (lv_at hl 2 rfl) ?_
    have hPx : va_P (dC, dI) vwCl ([] ++ (wF h_F h_F_firstOf h_F_lastOf h_F_jobOf h_F_machineOf h_F_duration h_F_nextOf h_F_arcs h_F_head h_F_tail h_F_kept cI F_jobs F_size F_firstOf F_lastOf F_jobOf F_machineOf F_duration F_nextOf F_arcs F_head F_tail F_kept)) H := hP
    have hDx : va_D A ([] ++ (wF h_F h_F_firstOf h_F_lastOf h_F_jobOf h_F_machineOf h_F_duration h_F_nextOf h_F_arcs h_F_head h_F_tail h_F_kept cI F_jobs F_size F_firstOf F_lastOf F_jobOf F_machineOf F_duration F_nextOf F_arcs F_head F_tail F_kept)) := hD
    refine kc_i (pc := 15) (w1 := (fun u : Unit => (wF h_F h_F_firstOf h_F_lastOf h_F_jobOf h_F_machineOf h_F_duration h_F_nextOf h_F_arcs h_F_head h_F_tail h_F_kept cI F_jobs F_size F_firstOf F_lastOf F_jobOf F_machineOf F_duration F_nextOf F_arcs F_head F_tail F_kept))) (va_runV (As := [.int x2_4]) (rest := [.int x1_4]) ⟨hx, hb, hml, hown, hts⟩ (c_X0_through l dC dI h_F h_F_firstOf h_F_lastOf h_F_jobOf h_F_machineOf h_F_duration h_F_nextOf h_F_arcs h_F_head h_F_tail h_F_kept H.size cI F_jobs F_size F_firstOf F_lastOf F_jobOf F_machineOf F_duration F_nextOf F_arcs F_head F_tail F_kept x2_4 _ hw) (cwV 1 hts gX0_longest_X0_through rfl rfl rfl (by decide +kernel) ⟨Nat.le_of_ble_eq_true rfl, Nat.le_of_ble_eq_true rfl⟩) (kc_preV (q0 := 0) (ci := 0) hK hPx hDx [0] rfl rfl rfl hN) rfl rfl hl.1 rfl (lv_room (Nat.le_of_ble_eq_true rfl)) dX0_longest_15 ⟨Nat.zero_le _, Nat.zero_le _⟩) hPx hDx hS hA (fun r_15 u H locs hw hP hD hS => ?_)
    have hP : va_P (dC, dI) vwCl (wF h_F h_F_firstOf h_F_lastOf h_F_jobOf h_F_machineOf h_F_duration h_F_nextOf h_F_arcs h_F_head h_F_tail h_F_kept cI F_jobs F_size F_firstOf F_lastOf F_jobOf F_machineOf F_duration F_nextOf F_arcs F_head F_tail F_kept) H := hP
    have hD : va_D A (wF h_F h_F_firstOf h_F_lastOf h_F_jobOf h_F_machineOf h_F_duration h_F_nextOf h_F_arcs h_F_head h_F_tail h_F_kept cI F_jobs F_size F_firstOf F_lastOf F_jobOf F_machineOf F_duration F_nextOf F_arcs F_head F_tail F_kept) := hD
    refine va_mmax (pc := 18) hx hb (hml.trans hl.1.symm) hown (hts (.methodLink RX0 73 Lib.Math.max.name) (by decide +kernel)) (hts (.static Lib.Math.max.name) (by decide +kernel)) (hts (.initialized "java/lang/Math") (by decide +kernel)) (hts (.code Lib.Math.max.name Lib.Math.max.code 2 (some .int)) (by decide +kernel)) (Nat.le_of_ble_eq_true rfl) (Nat.le_of_ble_eq_true rfl) (Nat.zero_le _) (Nat.zero_le _) dX0_longest_18 ?_
    refine lv_istore_n (lv' := [(1, .int (if x1_4 < r_15 then r_15 else x1_4)), (0, .ref h_F), (2, .int x2_4)]) (pc := 21) hx hb dX0_longest_21 rfl hl (by decide) rfl (fun ls hl => ?_)
    refine lv_iinc (v := x2_4 + 1) (lv' := [(2, .int (x2_4 + 1)), (1, .int (if x1_4 < r_15 then r_15 else x1_4)), (0, .ref h_F)]) (pc := 22) hx hb dX0_longest_22 hl (k := 2) rfl rfl (by decide) rfl (fun ls hl => ?_)
    refine lv_goto (tgt := 4) (pc := 25) hx hb dX0_longest_25 (by decide) ?_
    exact ih_4 ((if x1_4 < r_15 then r_15 else x1_4), (x2_4 + 1)) _ _ _ hw.1 hw.2 ⟨hP, hD, hS, (lv_sub hl [2, 1, 0] rfl)⟩
set_option maxHeartbeats 4000000 in
set_option maxRecDepth 100000 in
theorem c_X0_workFrom (l : Launch) (dC : Nat → ClassId) (dI : Nat → Nat → Nat) (h_F h_F_firstOf h_F_lastOf h_F_jobOf h_F_machineOf h_F_duration h_F_nextOf h_F_arcs h_F_head h_F_tail h_F_kept : Nat) (sz : Nat) (cI : ClassId) (F_jobs : Int32) (F_size : Int32) (F_firstOf : Nat → Int32) (F_lastOf : Nat → Int32) (F_jobOf : Nat → Int32) (F_machineOf : Nat → Int32) (F_duration : Nat → Int32) (F_nextOf : Nat → Int32) (F_arcs : Nat → Int32) (F_head : Nat → Int32) (F_tail : Nat → Int32) (F_kept : Nat → Int32) (a0 a1 a2 : Int32) (post : Int32 → Prop) (hw : wp_X0_workFrom F_size F_machineOf F_duration F_head F_tail a0 a1 a2 post) : Met l yX0_workFrom wsX0_workFrom ({ frames := 0, cells := 0, slots := 0, locals := 0 }) (va_Pc [.ref h_F, .int a0, .int a1, .int a2] (fun U => U.heap.size = sz ∧ va_P (dC, dI) vwCl (wF h_F h_F_firstOf h_F_lastOf h_F_jobOf h_F_machineOf h_F_duration h_F_nextOf h_F_arcs h_F_head h_F_tail h_F_kept cI F_jobs F_size F_firstOf F_lastOf F_jobOf F_machineOf F_duration F_nextOf F_arcs F_head F_tail F_kept) U.heap ∧ va_K (dC, dI) vwCl [(cI, .int)] U ∧ va_D (fun _ => True) (wF h_F h_F_firstOf h_F_lastOf h_F_jobOf h_F_machineOf h_F_duration h_F_nextOf h_F_arcs h_F_head h_F_tail h_F_kept cI F_jobs F_size F_firstOf F_lastOf F_jobOf F_machineOf F_duration F_nextOf F_arcs F_head F_tail F_kept) ∧ nw U)) (va_Qi (fun (r : Int32) (u : Unit) => post r ) (fun u t => va_P (dC, dI) vwCl (wF h_F h_F_firstOf h_F_lastOf h_F_jobOf h_F_machineOf h_F_duration h_F_nextOf h_F_arcs h_F_head h_F_tail h_F_kept cI F_jobs F_size F_firstOf F_lastOf F_jobOf F_machineOf F_duration F_nextOf F_arcs F_head F_tail F_kept) t.heap ∧ va_K (dC, dI) vwCl [(cI, .int)] t ∧ va_D (va_A (wF h_F h_F_firstOf h_F_lastOf h_F_jobOf h_F_machineOf h_F_duration h_F_nextOf h_F_arcs h_F_head h_F_tail h_F_kept cI F_jobs F_size F_firstOf F_lastOf F_jobOf F_machineOf F_duration F_nextOf F_arcs F_head F_tail F_kept) sz) (wF h_F h_F_firstOf h_F_lastOf h_F_jobOf h_F_machineOf h_F_duration h_F_nextOf h_F_arcs h_F_head h_F_tail h_F_kept cI F_jobs F_size F_firstOf F_lastOf F_jobOf F_machineOf F_duration F_nextOf F_arcs F_head F_tail F_kept)) (va_A (wF h_F h_F_firstOf h_F_lastOf h_F_jobOf h_F_machineOf h_F_duration h_F_nextOf h_F_arcs h_F_head h_F_tail h_F_kept cI F_jobs F_size F_firstOf F_lastOf F_jobOf F_machineOf F_duration F_nextOf F_arcs F_head F_tail F_kept) sz)) 0 0 (va_A (wF h_F h_F_firstOf h_F_lastOf h_F_jobOf h_F_machineOf h_F_duration h_F_nextOf h_F_arcs h_F_head h_F_tail h_F_kept cI F_jobs F_size F_firstOf F_lastOf F_jobOf F_machineOf F_duration F_nextOf F_arcs F_head F_tail F_kept) sz) := by
  refine Met.ofW (cc := cX0_workFrom) (maxL := 6) (ret := (some .int)) (by decide) rfl ?_
  intro p e s m args below meth c s₁ B hml hv
  obtain ⟨rfl, hsz, hP, hK, hD0, hN⟩ := hv
  have hx := B.exec
  have hb := B.bytes
  have hr := B.returns
  have hts := atoms_spec (ws := wsX0_workFrom) B.pre
  have hown : s.vm.findClass RX0 = some m.cls := findClass_of_methodNamed B.named
  have hlocks := B.notSynchronized
  subst hsz
  have hD := hD0.self (sz := s.heap.size)
  generalize hAe : va_A (wF h_F h_F_firstOf h_F_lastOf h_F_jobOf h_F_machineOf h_F_duration h_F_nextOf h_F_arcs h_F_head h_F_tail h_F_kept cI F_jobs F_size F_firstOf F_lastOf F_jobOf F_machineOf F_duration F_nextOf F_arcs F_head F_tail F_kept) s.heap.size = A at hD ⊢
  have hA : ∀ q : Nat, s.heap.size ≤ q → A q := fun q h => by rw [← hAe]; exact Or.inr h
  have hS : va_S A s.heap s.heap [] := va_S.rf
  have hP : va_P (dC, dI) vwCl (wF h_F h_F_firstOf h_F_lastOf h_F_jobOf h_F_machineOf h_F_duration h_F_nextOf h_F_arcs h_F_head h_F_tail h_F_kept cI F_jobs F_size F_firstOf F_lastOf F_jobOf F_machineOf F_duration F_nextOf F_arcs F_head F_tail F_kept) s.heap := hP
  have hl := lv_entry ([.ref h_F, .int a0, .int a1, .int a2]) (n := 6) (Nat.le_of_ble_eq_true rfl)
  rw [lg_entry_eq]
  generalize (lg_sl ([.ref h_F, .int a0, .int a1, .int a2]) ++ List.replicate (6 - (lg_sl ([.ref h_F, .int a0, .int a1, .int a2])).length) Slot.unset).toArray = ls at hl ⊢
  have hl : lv_has ls 6 [(0, .ref h_F), (1, .int a0), (2, .int a1), (3, .int a2)] := hl
  obtain ⟨H, hH⟩ : ∃ H, H = s.heap := ⟨_, rfl⟩
  rw [← hH] at hP
  have hS : va_S A s.heap H [] := by rw [hH]; exact hS
  refine W_heap hH ?_
  unfold wp_X0_workFrom at hw
  have hin_X0 : ∀ w ∈ u_ws RX0 TX0 12, w ∈ wsX0_workFrom := by decide +kernel
  refine lv_iconst (v := 0) (pc := 0) hx hb dX0_workFrom_0 (by decide) ?_
  refine lv_istore (lv' := [(4, .int 0), (0, .ref h_F), (1, .int a0), (2, .int a1), (3, .int a2)]) (pc := 1) hx hb dX0_workFrom_1 hl (by decide) rfl (fun ls hl => ?_)
  refine lv_iconst (v := 0) (pc := 3) hx hb dX0_workFrom_3 (by decide) ?_
  refine lv_istore (lv' := [(5, .int 0), (4, .int 0), (0, .ref h_F), (1, .int a0), (2, .int a1), (3, .int a2)]) (pc := 4) hx hb dX0_workFrom_4 hl (by decide) rfl (fun ls hl => ?_)
  obtain ⟨I_6, μ_6, hI_6, hs_6⟩ := hw
  refine lp_W (I := fun z : Int32 × Int32 => I_6 z.1 z.2) (fun z => μ_6 z.1 z.2) (fun (z : Int32 × Int32) H locs ls => va_P (dC, dI) vwCl (wF h_F h_F_firstOf h_F_lastOf h_F_jobOf h_F_machineOf h_F_duration h_F_nextOf h_F_arcs h_F_head h_F_tail h_F_kept cI F_jobs F_size F_firstOf F_lastOf F_jobOf F_machineOf F_duration F_nextOf F_arcs F_head F_tail F_kept) H ∧ va_D A (wF h_F h_F_firstOf h_F_lastOf h_F_jobOf h_F_machineOf h_F_duration h_F_nextOf h_F_arcs h_F_head h_F_tail h_F_kept cI F_jobs F_size F_firstOf F_lastOf F_jobOf F_machineOf F_duration F_nextOf F_arcs F_head F_tail F_kept) ∧ va_S A s.heap H locs ∧ lv_has ls 6 [(0, .ref h_F), (1, .int a0), (2, .int a1), (3, .int a2), (4, .int z.1), (5, .int z.2)]) ?_ (0, 0) _ _ _ hI_6 ⟨hP, hD, hS, (lv_sub hl [2, 3, 4, 5, 1, 0] rfl)⟩
  rintro ⟨x4_6, x5_6⟩ H locs ls hI ⟨hP, hD, hS, hl⟩ ih_6
  have hw := hs_6 x4_6 x5_6 hI
  have hP : va_P (dC, dI) vwCl (wF h_F h_F_firstOf h_F_lastOf h_F_jobOf h_F_machineOf h_F_duration h_F_nextOf h_F_arcs h_F_head h_F_tail h_F_kept cI F_jobs F_size F_firstOf F_lastOf F_jobOf F_machineOf F_duration F_nextOf F_arcs F_head F_tail F_kept) H := hP
  have hD : va_D A (wF h_F h_F_firstOf h_F_lastOf h_F_jobOf h_F_machineOf h_F_duration h_F_nextOf h_F_arcs h_F_head h_F_tail h_F_kept cI F_jobs F_size F_firstOf F_lastOf F_jobOf F_machineOf F_duration F_nextOf F_arcs F_head F_tail F_kept) := hD
  have hl : lv_has ls 6 [(0, .ref h_F), (1, .int a0), (2, .int a1), (3, .int a2), (4, .int x4_6), (5, .int x5_6)] := hl
  refine lv_iload (pc := 6) hx hb dX0_workFrom_6 (lv_at hl 5 rfl) ?_
  refine lv_aload_n (pc := 8) hx hb dX0_workFrom_8 rfl (lv_at hl 0 rfl) ?_
  refine va_get (D := (dC, dI)) (ci := 0) (v := .int F_size) (C := RX0) (T := TX0) (N := 12) (pc := 9) hx hb hts hin_X0 hown hK hP 0 rfl rfl 1 (by decide) (hts (.fieldLink RX0 46 "JobShop$Floor" "size" "I") (by decide +kernel)) (fun _ h9 => h9) rfl dX0_workFrom_9 ?_
  refine lv_icmp_ge (tgt := 66) (pc := 12) hx hb dX0_workFrom_12 (by decide) (fun c_1 => ?_) (fun c_1 => ?_)
  · have hw := hw.1 c_1
    refine lv_iload (pc := 66) hx hb dX0_workFrom_66 (lv_at hl 4 rfl) ?_
    exact W.iret (v := x4_6) hx hb hr (fun t ht hW => ⟨⟨x4_6, (), rfl, hw, by rw [ht]; exact hP, va_K.moved hW.alike hK, hD⟩, hS.F ht⟩) hS.2.2 dX0_workFrom_68
  · have hw := hw.2 c_1
    refine lv_aload_n (pc := 15) hx hb dX0_workFrom_15 rfl (lv_at hl 0 rfl) ?_
    refine va_get (D := (dC, dI)) (ci := 0) (v := .ref h_F_machineOf) (C := RX0) (T := TX0) (N := 12) (pc := 16) hx hb hts hin_X0 hown hK hP 0 rfl rfl 5 (by decide) (hts (.fieldLink RX0 21 "JobShop$Floor" "machineOf" "[I") (by decide +kernel)) (fun _ h9 => h9) rfl dX0_workFrom_16 ?_
    refine lv_iload (pc := 19) hx hb dX0_workFrom_19 (lv_at hl 5 rfl) ?_
    obtain ⟨b_2, hw⟩ := hw
    refine va_iald (pc := 21) hx hb hK hP 4 0 rfl rfl b_2 dX0_workFrom_21 ?_
    refine lv_iload_n (pc := 22) hx hb dX0_workFrom_22 rfl (lv_at hl 1 rfl) ?_
    refine lv_icmp_ne (tgt := 60) (pc := 23) hx hb dX0_workFrom_23 (by decide) (fun c_3 => ?_) (fun c_3 => ?_)
    · have hw := hw.1 c_3
      refine lv_iinc (v := x5_6 + 1) (lv' := [(5, .int (x5_6 + 1)), (0, .ref h_F), (1, .int a0), (2, .int a1), (3, .int a2), (4, .int x4_6)]) (pc := 60) hx hb dX0_workFrom_60 hl (k := 5) rfl rfl (by decide) rfl (fun ls hl => ?_)
      refine lv_goto (tgt := 6) (pc := 63) hx hb dX0_workFrom_63 (by decide) ?_
      exact ih_6 (x4_6, (x5_6 + 1)) _ _ _ hw.1 hw.2 ⟨hP, hD, hS, (lv_sub hl [1, 2, 3, 4, 5, 0] rfl)⟩
    · have hw := hw.2 c_3
      refine lv_aload_n (pc := 26) hx hb dX0_workFrom_26 rfl (lv_at hl 0 rfl) ?_
      refine va_get (D := (dC, dI)) (ci := 0) (v := .ref h_F_head) (C := RX0) (T := TX0) (N := 12) (pc := 27) hx hb hts hin_X0 hown hK hP 0 rfl rfl 9 (by decide) (hts (.fieldLink RX0 33 "JobShop$Floor" "head" "[I") (by decide +kernel)) (fun _ h9 => h9) rfl dX0_workFrom_27 ?_
      refine lv_iload (pc := 30) hx hb dX0_workFrom_30 (lv_at hl 5 rfl) ?_
      obtain ⟨b_4, hw⟩ := hw
      refine va_iald (pc := 32) hx hb hK hP 8 0 rfl rfl b_4 dX0_workFrom_32 ?_
      refine lv_iload_n (pc := 33) hx hb dX0_workFrom_33 rfl (lv_at hl 2 rfl) ?_
      refine lv_icmp_lt (tgt := 60) (pc := 34) hx hb dX0_workFrom_34 (by decide) (fun c_5 => ?_) (fun c_5 => ?_)
      · have hw := hw.1 c_5
        refine lv_iinc (v := x5_6 + 1) (lv' := [(5, .int (x5_6 + 1)), (0, .ref h_F), (1, .int a0), (2, .int a1), (3, .int a2), (4, .int x4_6)]) (pc := 60) hx hb dX0_workFrom_60 hl (k := 5) rfl rfl (by decide) rfl (fun ls hl => ?_)
        refine lv_goto (tgt := 6) (pc := 63) hx hb dX0_workFrom_63 (by decide) ?_
        exact ih_6 (x4_6, (x5_6 + 1)) _ _ _ hw.1 hw.2 ⟨hP, hD, hS, (lv_sub hl [1, 2, 3, 4, 5, 0] rfl)⟩
      · have hw := hw.2 c_5
        refine lv_aload_n (pc := 37) hx hb dX0_workFrom_37 rfl (lv_at hl 0 rfl) ?_
        refine va_get (D := (dC, dI)) (ci := 0) (v := .ref h_F_tail) (C := RX0) (T := TX0) (N := 12) (pc := 38) hx hb hts hin_X0 hown hK hP 0 rfl rfl 10 (by decide) (hts (.fieldLink RX0 36 "JobShop$Floor" "tail" "[I") (by decide +kernel)) (fun _ h9 => h9) rfl dX0_workFrom_38 ?_
        refine lv_iload (pc := 41) hx hb dX0_workFrom_41 (lv_at hl 5 rfl) ?_
        obtain ⟨b_6, hw⟩ := hw
        refine va_iald (pc := 43) hx hb hK hP 9 0 rfl rfl b_6 dX0_workFrom_43 ?_
        refine lv_iload_n (pc := 44) hx hb dX0_workFrom_44 rfl (lv_at hl 3 rfl) ?_
        refine lv_icmp_lt (tgt := 60) (pc := 45) hx hb dX0_workFrom_45 (by decide) (fun c_7 => ?_) (fun c_7 => ?_)
        · have hw := hw.1 c_7
          refine lv_iinc (v := x5_6 + 1) (lv' := [(5, .int (x5_6 + 1)), (0, .ref h_F), (1, .int a0), (2, .int a1), (3, .int a2), (4, .int x4_6)]) (pc := 60) hx hb dX0_workFrom_60 hl (k := 5) rfl rfl (by decide) rfl (fun ls hl => ?_)
          refine lv_goto (tgt := 6) (pc := 63) hx hb dX0_workFrom_63 (by decide) ?_
          exact ih_6 (x4_6, (x5_6 + 1)) _ _ _ hw.1 hw.2 ⟨hP, hD, hS, (lv_sub hl [1, 2, 3, 4, 5, 0] rfl)⟩
        · have hw := hw.2 c_7
          refine lv_iload (pc := 48) hx hb dX0_workFrom_48 (lv_at hl 4 rfl) ?_
          refine lv_aload_n (pc := 50) hx hb dX0_workFrom_50 rfl (lv_at hl 0 rfl) ?_
          refine va_get (D := (dC, dI)) (ci := 0) (v := .ref h_F_duration) (C := RX0) (T := TX0) (N := 12) (pc := 51) hx hb hts hin_X0 hown hK hP 0 rfl rfl 6 (by decide) (hts (.fieldLink RX0 24 "JobShop$Floor" "duration" "[I") (by decide +kernel)) (fun _ h9 => h9) rfl dX0_workFrom_51 ?_
          refine lv_iload (pc := 54) hx hb dX0_workFrom_54 (lv_at hl 5 rfl) ?_
          obtain ⟨b_8, hw⟩ := hw
          refine va_iald (pc := 56) hx hb hK hP 5 0 rfl rfl b_8 dX0_workFrom_56 ?_
          refine lv_iadd (pc := 57) hx hb dX0_workFrom_57 ?_
          refine lv_istore (lv' := [(4, .int (x4_6 + (F_duration x5_6.toNatClampNeg))), (0, .ref h_F), (1, .int a0), (2, .int a1), (3, .int a2), (5, .int x5_6)]) (pc := 58) hx hb dX0_workFrom_58 hl (by decide) rfl (fun ls hl => ?_)
          refine lv_iinc (v := x5_6 + 1) (lv' := [(5, .int (x5_6 + 1)), (4, .int (x4_6 + (F_duration x5_6.toNatClampNeg))), (0, .ref h_F), (1, .int a0), (2, .int a1), (3, .int a2)]) (pc := 60) hx hb dX0_workFrom_60 hl (k := 5) rfl rfl (by decide) rfl (fun ls hl => ?_)
          refine lv_goto (tgt := 6) (pc := 63) hx hb dX0_workFrom_63 (by decide) ?_
          exact ih_6 ((x4_6 + (F_duration x5_6.toNatClampNeg)), (x5_6 + 1)) _ _ _ hw.1 hw.2 ⟨hP, hD, hS, (lv_sub hl [2, 3, 4, 5, 1, 0] rfl)⟩
set_option maxHeartbeats 4000000 in
set_option maxRecDepth 100000 in
theorem c_X0_burden (l : Launch) (dC : Nat → ClassId) (dI : Nat → Nat → Nat) (h_F h_F_firstOf h_F_lastOf h_F_jobOf h_F_machineOf h_F_duration h_F_nextOf h_F_arcs h_F_head h_F_tail h_F_kept : Nat) (sz : Nat) (cI : ClassId) (F_jobs : Int32) (F_size : Int32) (F_firstOf : Nat → Int32) (F_lastOf : Nat → Int32) (F_jobOf : Nat → Int32) (F_machineOf : Nat → Int32) (F_duration : Nat → Int32) (F_nextOf : Nat → Int32) (F_arcs : Nat → Int32) (F_head : Nat → Int32) (F_tail : Nat → Int32) (F_kept : Nat → Int32) (a0 : Int32) (post : Int32 → Prop) (hw : wp_X0_burden F_size F_machineOf F_duration F_head F_tail a0 post) : Met l yX0_burden wsX0_burden ({ frames := 1, cells := 0, slots := 0, locals := 25 }) (va_Pc [.ref h_F, .int a0] (fun U => U.heap.size = sz ∧ va_P (dC, dI) vwCl (wF h_F h_F_firstOf h_F_lastOf h_F_jobOf h_F_machineOf h_F_duration h_F_nextOf h_F_arcs h_F_head h_F_tail h_F_kept cI F_jobs F_size F_firstOf F_lastOf F_jobOf F_machineOf F_duration F_nextOf F_arcs F_head F_tail F_kept) U.heap ∧ va_K (dC, dI) vwCl [(cI, .int)] U ∧ va_D (fun _ => True) (wF h_F h_F_firstOf h_F_lastOf h_F_jobOf h_F_machineOf h_F_duration h_F_nextOf h_F_arcs h_F_head h_F_tail h_F_kept cI F_jobs F_size F_firstOf F_lastOf F_jobOf F_machineOf F_duration F_nextOf F_arcs F_head F_tail F_kept) ∧ nw U)) (va_Qi (fun (r : Int32) (u : Unit) => post r ) (fun u t => va_P (dC, dI) vwCl (wF h_F h_F_firstOf h_F_lastOf h_F_jobOf h_F_machineOf h_F_duration h_F_nextOf h_F_arcs h_F_head h_F_tail h_F_kept cI F_jobs F_size F_firstOf F_lastOf F_jobOf F_machineOf F_duration F_nextOf F_arcs F_head F_tail F_kept) t.heap ∧ va_K (dC, dI) vwCl [(cI, .int)] t ∧ va_D (va_A (wF h_F h_F_firstOf h_F_lastOf h_F_jobOf h_F_machineOf h_F_duration h_F_nextOf h_F_arcs h_F_head h_F_tail h_F_kept cI F_jobs F_size F_firstOf F_lastOf F_jobOf F_machineOf F_duration F_nextOf F_arcs F_head F_tail F_kept) sz) (wF h_F h_F_firstOf h_F_lastOf h_F_jobOf h_F_machineOf h_F_duration h_F_nextOf h_F_arcs h_F_head h_F_tail h_F_kept cI F_jobs F_size F_firstOf F_lastOf F_jobOf F_machineOf F_duration F_nextOf F_arcs F_head F_tail F_kept)) (va_A (wF h_F h_F_firstOf h_F_lastOf h_F_jobOf h_F_machineOf h_F_duration h_F_nextOf h_F_arcs h_F_head h_F_tail h_F_kept cI F_jobs F_size F_firstOf F_lastOf F_jobOf F_machineOf F_duration F_nextOf F_arcs F_head F_tail F_kept) sz)) 0 0 (va_A (wF h_F h_F_firstOf h_F_lastOf h_F_jobOf h_F_machineOf h_F_duration h_F_nextOf h_F_arcs h_F_head h_F_tail h_F_kept cI F_jobs F_size F_firstOf F_lastOf F_jobOf F_machineOf F_duration F_nextOf F_arcs F_head F_tail F_kept) sz) := by
  refine Met.ofW (cc := cX0_burden) (maxL := 6) (ret := (some .int)) (by decide) rfl ?_
  intro p e s m args below meth c s₁ B hml hv
  obtain ⟨rfl, hsz, hP, hK, hD0, hN⟩ := hv
  have hx := B.exec
  have hb := B.bytes
  have hr := B.returns
  have hts := atoms_spec (ws := wsX0_burden) B.pre
  have hown : s.vm.findClass RX0 = some m.cls := findClass_of_methodNamed B.named
  have hlocks := B.notSynchronized
  subst hsz
  have hD := hD0.self (sz := s.heap.size)
  generalize hAe : va_A (wF h_F h_F_firstOf h_F_lastOf h_F_jobOf h_F_machineOf h_F_duration h_F_nextOf h_F_arcs h_F_head h_F_tail h_F_kept cI F_jobs F_size F_firstOf F_lastOf F_jobOf F_machineOf F_duration F_nextOf F_arcs F_head F_tail F_kept) s.heap.size = A at hD ⊢
  have hA : ∀ q : Nat, s.heap.size ≤ q → A q := fun q h => by rw [← hAe]; exact Or.inr h
  have hS : va_S A s.heap s.heap [] := va_S.rf
  have hP : va_P (dC, dI) vwCl (wF h_F h_F_firstOf h_F_lastOf h_F_jobOf h_F_machineOf h_F_duration h_F_nextOf h_F_arcs h_F_head h_F_tail h_F_kept cI F_jobs F_size F_firstOf F_lastOf F_jobOf F_machineOf F_duration F_nextOf F_arcs F_head F_tail F_kept) s.heap := hP
  have hl := lv_entry ([.ref h_F, .int a0]) (n := 6) (Nat.le_of_ble_eq_true rfl)
  rw [lg_entry_eq]
  generalize (lg_sl ([.ref h_F, .int a0]) ++ List.replicate (6 - (lg_sl ([.ref h_F, .int a0])).length) Slot.unset).toArray = ls at hl ⊢
  have hl : lv_has ls 6 [(0, .ref h_F), (1, .int a0)] := hl
  obtain ⟨H, hH⟩ : ∃ H, H = s.heap := ⟨_, rfl⟩
  rw [← hH] at hP
  have hS : va_S A s.heap H [] := by rw [hH]; exact hS
  refine W_heap hH ?_
  unfold wp_X0_burden at hw
  have hin_X0 : ∀ w ∈ u_ws RX0 TX0 12, w ∈ wsX0_burden := by decide +kernel
  refine lv_iconst (v := 0) (pc := 0) hx hb dX0_burden_0 (by decide) ?_
  refine lv_istore_n (lv' := [(2, .int 0), (0, .ref h_F), (1, .int a0)]) (pc := 1) hx hb dX0_burden_1 rfl hl (by decide) rfl (fun ls hl => ?_)
  refine lv_iconst (v := 0) (pc := 2) hx hb dX0_burden_2 (by decide) ?_
  refine lv_istore_n (lv' := [(3, .int 0), (2, .int 0), (0, .ref h_F), (1, .int a0)]) (pc := 3) hx hb dX0_burden_3 rfl hl (by decide) rfl (fun ls hl => ?_)
  obtain ⟨I_4, μ_4, hI_4, hs_4⟩ := hw
  refine lp_W (I := fun z : Int32 × Int32 => I_4 z.1 z.2) (fun z => μ_4 z.1 z.2) (fun (z : Int32 × Int32) H locs ls => va_P (dC, dI) vwCl (wF h_F h_F_firstOf h_F_lastOf h_F_jobOf h_F_machineOf h_F_duration h_F_nextOf h_F_arcs h_F_head h_F_tail h_F_kept cI F_jobs F_size F_firstOf F_lastOf F_jobOf F_machineOf F_duration F_nextOf F_arcs F_head F_tail F_kept) H ∧ va_D A (wF h_F h_F_firstOf h_F_lastOf h_F_jobOf h_F_machineOf h_F_duration h_F_nextOf h_F_arcs h_F_head h_F_tail h_F_kept cI F_jobs F_size F_firstOf F_lastOf F_jobOf F_machineOf F_duration F_nextOf F_arcs F_head F_tail F_kept) ∧ va_S A s.heap H locs ∧ lv_has ls 6 [(0, .ref h_F), (1, .int a0), (2, .int z.1), (3, .int z.2)]) ?_ (0, 0) _ _ _ hI_4 ⟨hP, hD, hS, (lv_sub hl [2, 3, 1, 0] rfl)⟩
  rintro ⟨x2_4, x3_4⟩ H locs ls hI ⟨hP, hD, hS, hl⟩ ih_4
  have hw := hs_4 x2_4 x3_4 hI
  have hP : va_P (dC, dI) vwCl (wF h_F h_F_firstOf h_F_lastOf h_F_jobOf h_F_machineOf h_F_duration h_F_nextOf h_F_arcs h_F_head h_F_tail h_F_kept cI F_jobs F_size F_firstOf F_lastOf F_jobOf F_machineOf F_duration F_nextOf F_arcs F_head F_tail F_kept) H := hP
  have hD : va_D A (wF h_F h_F_firstOf h_F_lastOf h_F_jobOf h_F_machineOf h_F_duration h_F_nextOf h_F_arcs h_F_head h_F_tail h_F_kept cI F_jobs F_size F_firstOf F_lastOf F_jobOf F_machineOf F_duration F_nextOf F_arcs F_head F_tail F_kept) := hD
  have hl : lv_has ls 6 [(0, .ref h_F), (1, .int a0), (2, .int x2_4), (3, .int x3_4)] := hl
  refine lv_iload_n (pc := 4) hx hb dX0_burden_4 rfl (lv_at hl 3 rfl) ?_
  refine lv_aload_n (pc := 5) hx hb dX0_burden_5 rfl (lv_at hl 0 rfl) ?_
  refine va_get (D := (dC, dI)) (ci := 0) (v := .int F_size) (C := RX0) (T := TX0) (N := 12) (pc := 6) hx hb hts hin_X0 hown hK hP 0 rfl rfl 1 (by decide) (hts (.fieldLink RX0 46 "JobShop$Floor" "size" "I") (by decide +kernel)) (fun _ h9 => h9) rfl dX0_burden_6 ?_
  refine lv_icmp_ge (tgt := 104) (pc := 9) hx hb dX0_burden_9 (by decide) (fun c_1 => ?_) (fun c_1 => ?_)
  · have hw := hw.1 c_1
    refine lv_iload_n (pc := 104) hx hb dX0_burden_104 rfl (lv_at hl 2 rfl) ?_
    exact W.iret (v := x2_4) hx hb hr (fun t ht hW => ⟨⟨x2_4, (), rfl, hw, by rw [ht]; exact hP, va_K.moved hW.alike hK, hD⟩, hS.F ht⟩) hS.2.2 dX0_burden_105
  · have hw := hw.2 c_1
    refine lv_iconst (v := 0) (pc := 12) hx hb dX0_burden_12 (by decide) ?_
    refine lv_istore (lv' := [(4, .int 0), (0, .ref h_F), (1, .int a0), (2, .int x2_4), (3, .int x3_4)]) (pc := 13) hx hb dX0_burden_13 hl (by decide) rfl (fun ls hl => ?_)
    obtain ⟨I_15, μ_15, hI_15, hs_15⟩ := hw
    refine lp_W (I := fun z : Int32 × Int32 => I_15 z.1 z.2) (fun z => μ_15 z.1 z.2) (fun (z : Int32 × Int32) H locs ls => va_P (dC, dI) vwCl (wF h_F h_F_firstOf h_F_lastOf h_F_jobOf h_F_machineOf h_F_duration h_F_nextOf h_F_arcs h_F_head h_F_tail h_F_kept cI F_jobs F_size F_firstOf F_lastOf F_jobOf F_machineOf F_duration F_nextOf F_arcs F_head F_tail F_kept) H ∧ va_D A (wF h_F h_F_firstOf h_F_lastOf h_F_jobOf h_F_machineOf h_F_duration h_F_nextOf h_F_arcs h_F_head h_F_tail h_F_kept cI F_jobs F_size F_firstOf F_lastOf F_jobOf F_machineOf F_duration F_nextOf F_arcs F_head F_tail F_kept) ∧ va_S A s.heap H locs ∧ lv_has ls 6 [(0, .ref h_F), (1, .int a0), (2, .int z.1), (3, .int x3_4), (4, .int z.2)]) ?_ (x2_4, 0) _ _ _ hI_15 ⟨hP, hD, hS, (lv_sub hl [1, 2, 3, 4, 0] rfl)⟩
    rintro ⟨x2_15, x4_15⟩ H locs ls hI ⟨hP, hD, hS, hl⟩ ih_15
    have hw := hs_15 x2_15 x4_15 hI
    have hP : va_P (dC, dI) vwCl (wF h_F h_F_firstOf h_F_lastOf h_F_jobOf h_F_machineOf h_F_duration h_F_nextOf h_F_arcs h_F_head h_F_tail h_F_kept cI F_jobs F_size F_firstOf F_lastOf F_jobOf F_machineOf F_duration F_nextOf F_arcs F_head F_tail F_kept) H := hP
    have hD : va_D A (wF h_F h_F_firstOf h_F_lastOf h_F_jobOf h_F_machineOf h_F_duration h_F_nextOf h_F_arcs h_F_head h_F_tail h_F_kept cI F_jobs F_size F_firstOf F_lastOf F_jobOf F_machineOf F_duration F_nextOf F_arcs F_head F_tail F_kept) := hD
    have hl : lv_has ls 6 [(0, .ref h_F), (1, .int a0), (2, .int x2_15), (3, .int x3_4), (4, .int x4_15)] := hl
    refine lv_iload (pc := 15) hx hb dX0_burden_15 (lv_at hl 4 rfl) ?_
    refine lv_aload_n (pc := 17) hx hb dX0_burden_17 rfl (lv_at hl 0 rfl) ?_
    refine va_get (D := (dC, dI)) (ci := 0) (v := .int F_size) (C := RX0) (T := TX0) (N := 12) (pc := 18) hx hb hts hin_X0 hown hK hP 0 rfl rfl 1 (by decide) (hts (.fieldLink RX0 46 "JobShop$Floor" "size" "I") (by decide +kernel)) (fun _ h9 => h9) rfl dX0_burden_18 ?_
    refine lv_icmp_ge (tgt := 98) (pc := 21) hx hb dX0_burden_21 (by decide) (fun c_2 => ?_) (fun c_2 => ?_)
    · have hw := hw.1 c_2
      refine lv_iinc (v := x3_4 + 1) (lv' := [(3, .int (x3_4 + 1)), (0, .ref h_F), (1, .int a0), (2, .int x2_15), (4, .int x4_15)]) (pc := 98) hx hb dX0_burden_98 hl (k := 3) rfl rfl (by decide) rfl (fun ls hl => ?_)
      refine lv_goto (tgt := 4) (pc := 101) hx hb dX0_burden_101 (by decide) ?_
      exact ih_4 (x2_15, (x3_4 + 1)) _ _ _ hw.1 hw.2 ⟨hP, hD, hS, (lv_sub hl [1, 2, 3, 0] rfl)⟩
    · have hw := hw.2 c_2
      refine lv_aload_n (pc := 24) hx hb dX0_burden_24 rfl (lv_at hl 0 rfl) ?_
      refine va_get (D := (dC, dI)) (ci := 0) (v := .ref h_F_machineOf) (C := RX0) (T := TX0) (N := 12) (pc := 25) hx hb hts hin_X0 hown hK hP 0 rfl rfl 5 (by decide) (hts (.fieldLink RX0 21 "JobShop$Floor" "machineOf" "[I") (by decide +kernel)) (fun _ h9 => h9) rfl dX0_burden_25 ?_
      refine lv_iload_n (pc := 28) hx hb dX0_burden_28 rfl (lv_at hl 3 rfl) ?_
      obtain ⟨b_3, hw⟩ := hw
      refine va_iald (pc := 29) hx hb hK hP 4 0 rfl rfl b_3 dX0_burden_29 ?_
      refine lv_iload_n (pc := 30) hx hb dX0_burden_30 rfl (lv_at hl 1 rfl) ?_
      refine lv_icmp_ne (tgt := 92) (pc := 31) hx hb dX0_burden_31 (by decide) (fun c_4 => ?_) (fun c_4 => ?_)
      · have hw := hw.1 c_4
        refine lv_iinc (v := x4_15 + 1) (lv' := [(4, .int (x4_15 + 1)), (0, .ref h_F), (1, .int a0), (2, .int x2_15), (3, .int x3_4)]) (pc := 92) hx hb dX0_burden_92 hl (k := 4) rfl rfl (by decide) rfl (fun ls hl => ?_)
        refine lv_goto (tgt := 15) (pc := 95) hx hb dX0_burden_95 (by decide) ?_
        exact ih_15 (x2_15, (x4_15 + 1)) _ _ _ hw.1 hw.2 ⟨hP, hD, hS, (lv_sub hl [1, 2, 3, 4, 0] rfl)⟩
      · have hw := hw.2 c_4
        refine lv_aload_n (pc := 34) hx hb dX0_burden_34 rfl (lv_at hl 0 rfl) ?_
        refine va_get (D := (dC, dI)) (ci := 0) (v := .ref h_F_machineOf) (C := RX0) (T := TX0) (N := 12) (pc := 35) hx hb hts hin_X0 hown hK hP 0 rfl rfl 5 (by decide) (hts (.fieldLink RX0 21 "JobShop$Floor" "machineOf" "[I") (by decide +kernel)) (fun _ h9 => h9) rfl dX0_burden_35 ?_
        refine lv_iload (pc := 38) hx hb dX0_burden_38 (lv_at hl 4 rfl) ?_
        obtain ⟨b_5, hw⟩ := hw
        refine va_iald (pc := 40) hx hb hK hP 4 0 rfl rfl b_5 dX0_burden_40 ?_
        refine lv_iload_n (pc := 41) hx hb dX0_burden_41 rfl (lv_at hl 1 rfl) ?_
        refine lv_icmp_ne (tgt := 92) (pc := 42) hx hb dX0_burden_42 (by decide) (fun c_6 => ?_) (fun c_6 => ?_)
        · have hw := hw.1 c_6
          refine lv_iinc (v := x4_15 + 1) (lv' := [(4, .int (x4_15 + 1)), (0, .ref h_F), (1, .int a0), (2, .int x2_15), (3, .int x3_4)]) (pc := 92) hx hb dX0_burden_92 hl (k := 4) rfl rfl (by decide) rfl (fun ls hl => ?_)
          refine lv_goto (tgt := 15) (pc := 95) hx hb dX0_burden_95 (by decide) ?_
          exact ih_15 (x2_15, (x4_15 + 1)) _ _ _ hw.1 hw.2 ⟨hP, hD, hS, (lv_sub hl [1, 2, 3, 4, 0] rfl)⟩
        · have hw := hw.2 c_6
          refine lv_aload_n (pc := 45) hx hb dX0_burden_45 rfl (lv_at hl 0 rfl) ?_
          refine lv_iload_n (pc := 46) hx hb dX0_burden_46 rfl (lv_at hl 1 rfl) ?_
          refine lv_aload_n (pc := 47) hx hb dX0_burden_47 rfl (lv_at hl 0 rfl) ?_
          refine va_get (D := (dC, dI)) (ci := 0) (v := .ref h_F_head) (C := RX0) (T := TX0) (N := 12) (pc := 48) hx hb hts hin_X0 hown hK hP 0 rfl rfl 9 (by decide) (hts (.fieldLink RX0 33 "JobShop$Floor" "head" "[I") (by decide +kernel)) (fun _ h9 => h9) rfl dX0_burden_48 ?_
          refine lv_iload_n (pc := 51) hx hb dX0_burden_51 rfl (lv_at hl 3 rfl) ?_
          obtain ⟨b_7, hw⟩ := hw
          refine va_iald (pc := 52) hx hb hK hP 8 0 rfl rfl b_7 dX0_burden_52 ?_
          refine lv_aload_n (pc := 53) hx hb dX0_burden_53 rfl (lv_at hl 0 rfl) ?_
          refine va_get (D := (dC, dI)) (ci := 0) (v := .ref h_F_tail) (C := RX0) (T := TX0) (N := 12) (pc := 54) hx hb hts hin_X0 hown hK hP 0 rfl rfl 10 (by decide) (hts (.fieldLink RX0 36 "JobShop$Floor" "tail" "[I") (by decide +kernel)) (fun _ h9 => h9) rfl dX0_burden_54 ?_
          refine lv_iload (pc := 57) hx hb dX0_burden_57 (lv_at hl 4 rfl) ?_
          obtain ⟨b_8, hw⟩ := hw
          refine va_iald (pc := 59) hx hb hK hP 9 0 rfl rfl b_8 dX0_burden_59 ?_
          have hPx : va_P (dC, dI) vwCl ([] ++ (wF h_F h_F_firstOf h_F_lastOf h_F_jobOf h_F_machineOf h_F_duration h_F_nextOf h_F_arcs h_F_head h_F_tail h_F_kept cI F_jobs F_size F_firstOf F_lastOf F_jobOf F_machineOf F_duration F_nextOf F_arcs F_head F_tail F_kept)) H := hP
          have hDx : va_D A ([] ++ (wF h_F h_F_firstOf h_F_lastOf h_F_jobOf h_F_machineOf h_F_duration h_F_nextOf h_F_arcs h_F_head h_F_tail h_F_kept cI F_jobs F_size F_firstOf F_lastOf F_jobOf F_machineOf F_duration F_nextOf F_arcs F_head F_tail F_kept)) := hD
          refine kc_i (pc := 60) (w1 := (fun u : Unit => (wF h_F h_F_firstOf h_F_lastOf h_F_jobOf h_F_machineOf h_F_duration h_F_nextOf h_F_arcs h_F_head h_F_tail h_F_kept cI F_jobs F_size F_firstOf F_lastOf F_jobOf F_machineOf F_duration F_nextOf F_arcs F_head F_tail F_kept))) (va_runV (As := [.int a0, .int (F_head x3_4.toNatClampNeg), .int (F_tail x4_15.toNatClampNeg)]) (rest := []) ⟨hx, hb, hml, hown, hts⟩ (c_X0_workFrom l dC dI h_F h_F_firstOf h_F_lastOf h_F_jobOf h_F_machineOf h_F_duration h_F_nextOf h_F_arcs h_F_head h_F_tail h_F_kept H.size cI F_jobs F_size F_firstOf F_lastOf F_jobOf F_machineOf F_duration F_nextOf F_arcs F_head F_tail F_kept a0 (F_head x3_4.toNatClampNeg) (F_tail x4_15.toNatClampNeg) _ hw) (cwV 3 hts gX0_burden_X0_workFrom rfl rfl rfl (by decide +kernel) ⟨Nat.le_of_ble_eq_true rfl, Nat.le_of_ble_eq_true rfl⟩) (kc_preV (q0 := 0) (ci := 0) hK hPx hDx [0] rfl rfl rfl hN) rfl rfl hl.1 rfl (lv_room (Nat.le_of_ble_eq_true rfl)) dX0_burden_60 ⟨Nat.zero_le _, Nat.zero_le _⟩) hPx hDx hS hA (fun r_60 u H locs hw hP hD hS => ?_)
          have hP : va_P (dC, dI) vwCl (wF h_F h_F_firstOf h_F_lastOf h_F_jobOf h_F_machineOf h_F_duration h_F_nextOf h_F_arcs h_F_head h_F_tail h_F_kept cI F_jobs F_size F_firstOf F_lastOf F_jobOf F_machineOf F_duration F_nextOf F_arcs F_head F_tail F_kept) H := hP
          have hD : va_D A (wF h_F h_F_firstOf h_F_lastOf h_F_jobOf h_F_machineOf h_F_duration h_F_nextOf h_F_arcs h_F_head h_F_tail h_F_kept cI F_jobs F_size F_firstOf F_lastOf F_jobOf F_machineOf F_duration F_nextOf F_arcs F_head F_tail F_kept) := hD
          refine lv_istore (lv' := [(5, .int r_60), (0, .ref h_F), (1, .int a0), (2, .int x2_15), (3, .int x3_4), (4, .int x4_15)]) (pc := 63) hx hb dX0_burden_63 hl (by decide) rfl (fun ls hl => ?_)
          refine lv_iload (pc := 65) hx hb dX0_burden_65 (lv_at hl 0 rfl) ?_
          refine lv_if_le (tgt := 92) (pc := 67) hx hb dX0_burden_67 (by decide) (fun c_9 => ?_) (fun c_9 => ?_)
          · have hw := hw.1 c_9
            refine lv_iinc (v := x4_15 + 1) (lv' := [(4, .int (x4_15 + 1)), (5, .int r_60), (0, .ref h_F), (1, .int a0), (2, .int x2_15), (3, .int x3_4)]) (pc := 92) hx hb dX0_burden_92 hl (k := 5) rfl rfl (by decide) rfl (fun ls hl => ?_)
            refine lv_goto (tgt := 15) (pc := 95) hx hb dX0_burden_95 (by decide) ?_
            exact ih_15 (x2_15, (x4_15 + 1)) _ _ _ hw.1 hw.2 ⟨hP, hD, hS, (lv_sub hl [2, 3, 4, 5, 0] rfl)⟩
          · have hw := hw.2 c_9
            refine lv_iload_n (pc := 70) hx hb dX0_burden_70 rfl (lv_at hl 3 rfl) ?_
            refine lv_aload_n (pc := 71) hx hb dX0_burden_71 rfl (lv_at hl 1 rfl) ?_
            refine va_get (D := (dC, dI)) (ci := 0) (v := .ref h_F_head) (C := RX0) (T := TX0) (N := 12) (pc := 72) hx hb hts hin_X0 hown hK hP 0 rfl rfl 9 (by decide) (hts (.fieldLink RX0 33 "JobShop$Floor" "head" "[I") (by decide +kernel)) (fun _ h9 => h9) rfl dX0_burden_72 ?_
            refine lv_iload_n (pc := 75) hx hb dX0_burden_75 rfl (lv_at hl 4 rfl) ?_
            obtain ⟨b_10, hw⟩ := hw
            refine va_iald (pc := 76) hx hb hK hP 8 0 rfl rfl b_10 dX0_burden_76 ?_
            refine lv_iload (pc := 77) hx hb dX0_burden_77 (lv_at hl 0 rfl) ?_
            refine lv_iadd (pc := 79) hx hb dX0_burden_79 ?_
            refine lv_aload_n (pc := 80) hx hb dX0_burden_80 rfl (lv_at hl 1 rfl) ?_
            refine va_get (D := (dC, dI)) (ci := 0) (v := .ref h_F_tail) (C := RX0) (T := TX0) (N := 12) (pc := 81) hx hb hts hin_X0 hown hK hP 0 rfl rfl 10 (by decide) (hts (.fieldLink RX0 36 "JobShop$Floor" "tail" "[I") (by decide +kernel)) (fun _ h9 => h9) rfl dX0_burden_81 ?_
            refine lv_iload (pc := 84) hx hb dX0_burden_84 (lv_at hl 5 rfl) ?_
            obtain ⟨b_11, hw⟩ := hw
            refine va_iald (pc := 86) hx hb hK hP 9 0 rfl rfl b_11 dX0_burden_86 ?_
            refine lv_iadd (pc := 87) hx hb dX0_burden_87 ?_
            refine va_mmax (pc := 88) hx hb (hml.trans hl.1.symm) hown (hts (.methodLink RX0 73 Lib.Math.max.name) (by decide +kernel)) (hts (.static Lib.Math.max.name) (by decide +kernel)) (hts (.initialized "java/lang/Math") (by decide +kernel)) (hts (.code Lib.Math.max.name Lib.Math.max.code 2 (some .int)) (by decide +kernel)) (Nat.le_of_ble_eq_true rfl) (Nat.le_of_ble_eq_true rfl) (Nat.zero_le _) (Nat.zero_le _) dX0_burden_88 ?_
            refine lv_istore_n (lv' := [(2, .int (if x2_15 < (((F_head x3_4.toNatClampNeg) + r_60) + (F_tail x4_15.toNatClampNeg)) then (((F_head x3_4.toNatClampNeg) + r_60) + (F_tail x4_15.toNatClampNeg)) else x2_15)), (5, .int r_60), (0, .ref h_F), (1, .int a0), (3, .int x3_4), (4, .int x4_15)]) (pc := 91) hx hb dX0_burden_91 rfl hl (by decide) rfl (fun ls hl => ?_)
            refine lv_iinc (v := x4_15 + 1) (lv' := [(4, .int (x4_15 + 1)), (2, .int (if x2_15 < (((F_head x3_4.toNatClampNeg) + r_60) + (F_tail x4_15.toNatClampNeg)) then (((F_head x3_4.toNatClampNeg) + r_60) + (F_tail x4_15.toNatClampNeg)) else x2_15)), (5, .int r_60), (0, .ref h_F), (1, .int a0), (3, .int x3_4)]) (pc := 92) hx hb dX0_burden_92 hl (k := 5) rfl rfl (by decide) rfl (fun ls hl => ?_)
            refine lv_goto (tgt := 15) (pc := 95) hx hb dX0_burden_95 (by decide) ?_
            exact ih_15 ((if x2_15 < (((F_head x3_4.toNatClampNeg) + r_60) + (F_tail x4_15.toNatClampNeg)) then (((F_head x3_4.toNatClampNeg) + r_60) + (F_tail x4_15.toNatClampNeg)) else x2_15), (x4_15 + 1)) _ _ _ hw.1 hw.2 ⟨hP, hD, hS, (lv_sub hl [3, 4, 1, 5, 0] rfl)⟩
set_option maxHeartbeats 4000000 in
set_option maxRecDepth 100000 in
theorem c_X0_bound (l : Launch) (dC : Nat → ClassId) (dI : Nat → Nat → Nat) (h_F h_F_firstOf h_F_lastOf h_F_jobOf h_F_machineOf h_F_duration h_F_nextOf h_F_arcs h_F_head h_F_tail h_F_kept : Nat) (sz : Nat) (cI : ClassId) (F_jobs : Int32) (F_size : Int32) (F_firstOf : Nat → Int32) (F_lastOf : Nat → Int32) (F_jobOf : Nat → Int32) (F_machineOf : Nat → Int32) (F_duration : Nat → Int32) (F_nextOf : Nat → Int32) (F_arcs : Nat → Int32) (F_head : Nat → Int32) (F_tail : Nat → Int32) (F_kept : Nat → Int32) (post : Int32 → Prop) (hw : wp_X0_bound F_size F_machineOf F_duration F_head F_tail post) : Met l yX0_bound wsX0_bound ({ frames := 2, cells := 0, slots := 0, locals := 50 }) (va_Pc [.ref h_F] (fun U => U.heap.size = sz ∧ va_P (dC, dI) vwCl (wF h_F h_F_firstOf h_F_lastOf h_F_jobOf h_F_machineOf h_F_duration h_F_nextOf h_F_arcs h_F_head h_F_tail h_F_kept cI F_jobs F_size F_firstOf F_lastOf F_jobOf F_machineOf F_duration F_nextOf F_arcs F_head F_tail F_kept) U.heap ∧ va_K (dC, dI) vwCl [(cI, .int)] U ∧ va_D (fun _ => True) (wF h_F h_F_firstOf h_F_lastOf h_F_jobOf h_F_machineOf h_F_duration h_F_nextOf h_F_arcs h_F_head h_F_tail h_F_kept cI F_jobs F_size F_firstOf F_lastOf F_jobOf F_machineOf F_duration F_nextOf F_arcs F_head F_tail F_kept) ∧ nw U)) (va_Qi (fun (r : Int32) (u : Unit) => post r ) (fun u t => va_P (dC, dI) vwCl (wF h_F h_F_firstOf h_F_lastOf h_F_jobOf h_F_machineOf h_F_duration h_F_nextOf h_F_arcs h_F_head h_F_tail h_F_kept cI F_jobs F_size F_firstOf F_lastOf F_jobOf F_machineOf F_duration F_nextOf F_arcs F_head F_tail F_kept) t.heap ∧ va_K (dC, dI) vwCl [(cI, .int)] t ∧ va_D (va_A (wF h_F h_F_firstOf h_F_lastOf h_F_jobOf h_F_machineOf h_F_duration h_F_nextOf h_F_arcs h_F_head h_F_tail h_F_kept cI F_jobs F_size F_firstOf F_lastOf F_jobOf F_machineOf F_duration F_nextOf F_arcs F_head F_tail F_kept) sz) (wF h_F h_F_firstOf h_F_lastOf h_F_jobOf h_F_machineOf h_F_duration h_F_nextOf h_F_arcs h_F_head h_F_tail h_F_kept cI F_jobs F_size F_firstOf F_lastOf F_jobOf F_machineOf F_duration F_nextOf F_arcs F_head F_tail F_kept)) (va_A (wF h_F h_F_firstOf h_F_lastOf h_F_jobOf h_F_machineOf h_F_duration h_F_nextOf h_F_arcs h_F_head h_F_tail h_F_kept cI F_jobs F_size F_firstOf F_lastOf F_jobOf F_machineOf F_duration F_nextOf F_arcs F_head F_tail F_kept) sz)) 0 0 (va_A (wF h_F h_F_firstOf h_F_lastOf h_F_jobOf h_F_machineOf h_F_duration h_F_nextOf h_F_arcs h_F_head h_F_tail h_F_kept cI F_jobs F_size F_firstOf F_lastOf F_jobOf F_machineOf F_duration F_nextOf F_arcs F_head F_tail F_kept) sz) := by
  refine Met.ofW (cc := cX0_bound) (maxL := 3) (ret := (some .int)) (by decide) rfl ?_
  intro p e s m args below meth c s₁ B hml hv
  obtain ⟨rfl, hsz, hP, hK, hD0, hN⟩ := hv
  have hx := B.exec
  have hb := B.bytes
  have hr := B.returns
  have hts := atoms_spec (ws := wsX0_bound) B.pre
  have hown : s.vm.findClass RX0 = some m.cls := findClass_of_methodNamed B.named
  have hlocks := B.notSynchronized
  subst hsz
  have hD := hD0.self (sz := s.heap.size)
  generalize hAe : va_A (wF h_F h_F_firstOf h_F_lastOf h_F_jobOf h_F_machineOf h_F_duration h_F_nextOf h_F_arcs h_F_head h_F_tail h_F_kept cI F_jobs F_size F_firstOf F_lastOf F_jobOf F_machineOf F_duration F_nextOf F_arcs F_head F_tail F_kept) s.heap.size = A at hD ⊢
  have hA : ∀ q : Nat, s.heap.size ≤ q → A q := fun q h => by rw [← hAe]; exact Or.inr h
  have hS : va_S A s.heap s.heap [] := va_S.rf
  have hP : va_P (dC, dI) vwCl (wF h_F h_F_firstOf h_F_lastOf h_F_jobOf h_F_machineOf h_F_duration h_F_nextOf h_F_arcs h_F_head h_F_tail h_F_kept cI F_jobs F_size F_firstOf F_lastOf F_jobOf F_machineOf F_duration F_nextOf F_arcs F_head F_tail F_kept) s.heap := hP
  have hl := lv_entry ([.ref h_F]) (n := 3) (Nat.le_of_ble_eq_true rfl)
  rw [lg_entry_eq]
  generalize (lg_sl ([.ref h_F]) ++ List.replicate (3 - (lg_sl ([.ref h_F])).length) Slot.unset).toArray = ls at hl ⊢
  have hl : lv_has ls 3 [(0, .ref h_F)] := hl
  obtain ⟨H, hH⟩ : ∃ H, H = s.heap := ⟨_, rfl⟩
  rw [← hH] at hP
  have hS : va_S A s.heap H [] := by rw [hH]; exact hS
  refine W_heap hH ?_
  unfold wp_X0_bound at hw
  refine lv_aload_n (pc := 0) hx hb dX0_bound_0 rfl (lv_at hl 0 rfl) ?_
  have hPx : va_P (dC, dI) vwCl ([] ++ (wF h_F h_F_firstOf h_F_lastOf h_F_jobOf h_F_machineOf h_F_duration h_F_nextOf h_F_arcs h_F_head h_F_tail h_F_kept cI F_jobs F_size F_firstOf F_lastOf F_jobOf F_machineOf F_duration F_nextOf F_arcs F_head F_tail F_kept)) H := hP
  have hDx : va_D A ([] ++ (wF h_F h_F_firstOf h_F_lastOf h_F_jobOf h_F_machineOf h_F_duration h_F_nextOf h_F_arcs h_F_head h_F_tail h_F_kept cI F_jobs F_size F_firstOf F_lastOf F_jobOf F_machineOf F_duration F_nextOf F_arcs F_head F_tail F_kept)) := hD
  refine kc_i (pc := 1) (w1 := (fun u : Unit => (wF h_F h_F_firstOf h_F_lastOf h_F_jobOf h_F_machineOf h_F_duration h_F_nextOf h_F_arcs h_F_head h_F_tail h_F_kept cI F_jobs F_size F_firstOf F_lastOf F_jobOf F_machineOf F_duration F_nextOf F_arcs F_head F_tail F_kept))) (va_runV (As := []) (rest := []) ⟨hx, hb, hml, hown, hts⟩ (c_X0_longest l dC dI h_F h_F_firstOf h_F_lastOf h_F_jobOf h_F_machineOf h_F_duration h_F_nextOf h_F_arcs h_F_head h_F_tail h_F_kept H.size cI F_jobs F_size F_firstOf F_lastOf F_jobOf F_machineOf F_duration F_nextOf F_arcs F_head F_tail F_kept _ hw) (cwV 0 hts gX0_bound_X0_longest rfl rfl rfl (by decide +kernel) ⟨Nat.le_of_ble_eq_true rfl, Nat.le_of_ble_eq_true rfl⟩) (kc_preV (q0 := 0) (ci := 0) hK hPx hDx [0] rfl rfl rfl hN) rfl rfl hl.1 rfl (lv_room (Nat.le_of_ble_eq_true rfl)) dX0_bound_1 ⟨Nat.zero_le _, Nat.zero_le _⟩) hPx hDx hS hA (fun r_1 u H locs hw hP hD hS => ?_)
  have hP : va_P (dC, dI) vwCl (wF h_F h_F_firstOf h_F_lastOf h_F_jobOf h_F_machineOf h_F_duration h_F_nextOf h_F_arcs h_F_head h_F_tail h_F_kept cI F_jobs F_size F_firstOf F_lastOf F_jobOf F_machineOf F_duration F_nextOf F_arcs F_head F_tail F_kept) H := hP
  have hD : va_D A (wF h_F h_F_firstOf h_F_lastOf h_F_jobOf h_F_machineOf h_F_duration h_F_nextOf h_F_arcs h_F_head h_F_tail h_F_kept cI F_jobs F_size F_firstOf F_lastOf F_jobOf F_machineOf F_duration F_nextOf F_arcs F_head F_tail F_kept) := hD
  refine lv_istore_n (lv' := [(1, .int r_1), (0, .ref h_F)]) (pc := 4) hx hb dX0_bound_4 rfl hl (by decide) rfl (fun ls hl => ?_)
  refine lv_iconst (v := 0) (pc := 5) hx hb dX0_bound_5 (by decide) ?_
  refine lv_istore_n (lv' := [(2, .int 0), (1, .int r_1), (0, .ref h_F)]) (pc := 6) hx hb dX0_bound_6 rfl hl (by decide) rfl (fun ls hl => ?_)
  obtain ⟨I_7, μ_7, hI_7, hs_7⟩ := hw
  refine lp_W (I := fun z : Int32 × Int32 => I_7 z.1 z.2) (fun z => μ_7 z.1 z.2) (fun (z : Int32 × Int32) H locs ls => va_P (dC, dI) vwCl (wF h_F h_F_firstOf h_F_lastOf h_F_jobOf h_F_machineOf h_F_duration h_F_nextOf h_F_arcs h_F_head h_F_tail h_F_kept cI F_jobs F_size F_firstOf F_lastOf F_jobOf F_machineOf F_duration F_nextOf F_arcs F_head F_tail F_kept) H ∧ va_D A (wF h_F h_F_firstOf h_F_lastOf h_F_jobOf h_F_machineOf h_F_duration h_F_nextOf h_F_arcs h_F_head h_F_tail h_F_kept cI F_jobs F_size F_firstOf F_lastOf F_jobOf F_machineOf F_duration F_nextOf F_arcs F_head F_tail F_kept) ∧ va_S A s.heap H locs ∧ lv_has ls 3 [(0, .ref h_F), (1, .int z.1), (2, .int z.2)]) ?_ (r_1, 0) _ _ _ hI_7 ⟨hP, hD, hS, (lv_sub hl [2, 1, 0] rfl)⟩
  rintro ⟨x1_7, x2_7⟩ H locs ls hI ⟨hP, hD, hS, hl⟩ ih_7
  have hw := hs_7 x1_7 x2_7 hI
  have hP : va_P (dC, dI) vwCl (wF h_F h_F_firstOf h_F_lastOf h_F_jobOf h_F_machineOf h_F_duration h_F_nextOf h_F_arcs h_F_head h_F_tail h_F_kept cI F_jobs F_size F_firstOf F_lastOf F_jobOf F_machineOf F_duration F_nextOf F_arcs F_head F_tail F_kept) H := hP
  have hD : va_D A (wF h_F h_F_firstOf h_F_lastOf h_F_jobOf h_F_machineOf h_F_duration h_F_nextOf h_F_arcs h_F_head h_F_tail h_F_kept cI F_jobs F_size F_firstOf F_lastOf F_jobOf F_machineOf F_duration F_nextOf F_arcs F_head F_tail F_kept) := hD
  have hl : lv_has ls 3 [(0, .ref h_F), (1, .int x1_7), (2, .int x2_7)] := hl
  refine lv_iload_n (pc := 7) hx hb dX0_bound_7 rfl (lv_at hl 2 rfl) ?_
  refine lv_iconst (v := 4) (pc := 8) hx hb dX0_bound_8 (by decide) ?_
  refine lv_icmp_ge (tgt := 28) (pc := 9) hx hb dX0_bound_9 (by decide) (fun c_1 => ?_) (fun c_1 => ?_)
  · have hw := hw.1 c_1
    refine lv_iload_n (pc := 28) hx hb dX0_bound_28 rfl (lv_at hl 1 rfl) ?_
    exact W.iret (v := x1_7) hx hb hr (fun t ht hW => ⟨⟨x1_7, (), rfl, hw, by rw [ht]; exact hP, va_K.moved hW.alike hK, hD⟩, hS.F ht⟩) hS.2.2 dX0_bound_29
  · have hw := hw.2 c_1
    refine lv_iload_n (pc := 12) hx hb dX0_bound_12 rfl (lv_at hl 1 rfl) ?_
    refine lv_aload_n (pc := 13) hx hb dX0_bound_13 rfl (lv_at hl 0 rfl) ?_
    refine lv_iload_n (pc := 14) hx hb dX0_bound_14 rfl (lv_at hl 2 rfl) ?_
    have hPx : va_P (dC, dI) vwCl ([] ++ (wF h_F h_F_firstOf h_F_lastOf h_F_jobOf h_F_machineOf h_F_duration h_F_nextOf h_F_arcs h_F_head h_F_tail h_F_kept cI F_jobs F_size F_firstOf F_lastOf F_jobOf F_machineOf F_duration F_nextOf F_arcs F_head F_tail F_kept)) H := hP
    have hDx : va_D A ([] ++ (wF h_F h_F_firstOf h_F_lastOf h_F_jobOf h_F_machineOf h_F_duration h_F_nextOf h_F_arcs h_F_head h_F_tail h_F_kept cI F_jobs F_size F_firstOf F_lastOf F_jobOf F_machineOf F_duration F_nextOf F_arcs F_head F_tail F_kept)) := hD
    refine kc_i (pc := 15) (w1 := (fun u : Unit => (wF h_F h_F_firstOf h_F_lastOf h_F_jobOf h_F_machineOf h_F_duration h_F_nextOf h_F_arcs h_F_head h_F_tail h_F_kept cI F_jobs F_size F_firstOf F_lastOf F_jobOf F_machineOf F_duration F_nextOf F_arcs F_head F_tail F_kept))) (va_runV (As := [.int x2_7]) (rest := [.int x1_7]) ⟨hx, hb, hml, hown, hts⟩ (c_X0_burden l dC dI h_F h_F_firstOf h_F_lastOf h_F_jobOf h_F_machineOf h_F_duration h_F_nextOf h_F_arcs h_F_head h_F_tail h_F_kept H.size cI F_jobs F_size F_firstOf F_lastOf F_jobOf F_machineOf F_duration F_nextOf F_arcs F_head F_tail F_kept x2_7 _ hw) (cwV 1 hts gX0_bound_X0_burden rfl rfl rfl (by decide +kernel) ⟨Nat.le_of_ble_eq_true rfl, Nat.le_of_ble_eq_true rfl⟩) (kc_preV (q0 := 0) (ci := 0) hK hPx hDx [0] rfl rfl rfl hN) rfl rfl hl.1 rfl (lv_room (Nat.le_of_ble_eq_true rfl)) dX0_bound_15 ⟨Nat.zero_le _, Nat.zero_le _⟩) hPx hDx hS hA (fun r_15 u H locs hw hP hD hS => ?_)
    have hP : va_P (dC, dI) vwCl (wF h_F h_F_firstOf h_F_lastOf h_F_jobOf h_F_machineOf h_F_duration h_F_nextOf h_F_arcs h_F_head h_F_tail h_F_kept cI F_jobs F_size F_firstOf F_lastOf F_jobOf F_machineOf F_duration F_nextOf F_arcs F_head F_tail F_kept) H := hP
    have hD : va_D A (wF h_F h_F_firstOf h_F_lastOf h_F_jobOf h_F_machineOf h_F_duration h_F_nextOf h_F_arcs h_F_head h_F_tail h_F_kept cI F_jobs F_size F_firstOf F_lastOf F_jobOf F_machineOf F_duration F_nextOf F_arcs F_head F_tail F_kept) := hD
    refine va_mmax (pc := 18) hx hb (hml.trans hl.1.symm) hown (hts (.methodLink RX0 73 Lib.Math.max.name) (by decide +kernel)) (hts (.static Lib.Math.max.name) (by decide +kernel)) (hts (.initialized "java/lang/Math") (by decide +kernel)) (hts (.code Lib.Math.max.name Lib.Math.max.code 2 (some .int)) (by decide +kernel)) (Nat.le_of_ble_eq_true rfl) (Nat.le_of_ble_eq_true rfl) (Nat.zero_le _) (Nat.zero_le _) dX0_bound_18 ?_
    refine lv_istore_n (lv' := [(1, .int (if x1_7 < r_15 then r_15 else x1_7)), (0, .ref h_F), (2, .int x2_7)]) (pc := 21) hx hb dX0_bound_21 rfl hl (by decide) rfl (fun ls hl => ?_)
    refine lv_iinc (v := x2_7 + 1) (lv' := [(2, .int (x2_7 + 1)), (1, .int (if x1_7 < r_15 then r_15 else x1_7)), (0, .ref h_F)]) (pc := 22) hx hb dX0_bound_22 hl (k := 2) rfl rfl (by decide) rfl (fun ls hl => ?_)
    refine lv_goto (tgt := 7) (pc := 25) hx hb dX0_bound_25 (by decide) ?_
    exact ih_7 ((if x1_7 < r_15 then r_15 else x1_7), (x2_7 + 1)) _ _ _ hw.1 hw.2 ⟨hP, hD, hS, (lv_sub hl [2, 1, 0] rfl)⟩
set_option maxHeartbeats 4000000 in
set_option maxRecDepth 100000 in
theorem c_X0_pairs (l : Launch) (dC : Nat → ClassId) (dI : Nat → Nat → Nat) (h_F h_F_firstOf h_F_lastOf h_F_jobOf h_F_machineOf h_F_duration h_F_nextOf h_F_arcs h_F_head h_F_tail h_F_kept : Nat) (sz : Nat) (cI : ClassId) (F_jobs : Int32) (F_size : Int32) (F_firstOf : Nat → Int32) (F_lastOf : Nat → Int32) (F_jobOf : Nat → Int32) (F_machineOf : Nat → Int32) (F_duration : Nat → Int32) (F_nextOf : Nat → Int32) (F_arcs : Nat → Int32) (F_head : Nat → Int32) (F_tail : Nat → Int32) (F_kept : Nat → Int32) (post : Int32 → Prop) (hw : wp_X0_pairs F_size F_machineOf post) : Met l yX0_pairs wsX0_pairs ({ frames := 0, cells := 0, slots := 0, locals := 0 }) (va_Pc [.ref h_F] (fun U => U.heap.size = sz ∧ va_P (dC, dI) vwCl (wF h_F h_F_firstOf h_F_lastOf h_F_jobOf h_F_machineOf h_F_duration h_F_nextOf h_F_arcs h_F_head h_F_tail h_F_kept cI F_jobs F_size F_firstOf F_lastOf F_jobOf F_machineOf F_duration F_nextOf F_arcs F_head F_tail F_kept) U.heap ∧ va_K (dC, dI) vwCl [(cI, .int)] U ∧ va_D (fun _ => True) (wF h_F h_F_firstOf h_F_lastOf h_F_jobOf h_F_machineOf h_F_duration h_F_nextOf h_F_arcs h_F_head h_F_tail h_F_kept cI F_jobs F_size F_firstOf F_lastOf F_jobOf F_machineOf F_duration F_nextOf F_arcs F_head F_tail F_kept) ∧ nw U)) (va_Qi (fun (r : Int32) (u : Unit) => post r ) (fun u t => va_P (dC, dI) vwCl (wF h_F h_F_firstOf h_F_lastOf h_F_jobOf h_F_machineOf h_F_duration h_F_nextOf h_F_arcs h_F_head h_F_tail h_F_kept cI F_jobs F_size F_firstOf F_lastOf F_jobOf F_machineOf F_duration F_nextOf F_arcs F_head F_tail F_kept) t.heap ∧ va_K (dC, dI) vwCl [(cI, .int)] t ∧ va_D (va_A (wF h_F h_F_firstOf h_F_lastOf h_F_jobOf h_F_machineOf h_F_duration h_F_nextOf h_F_arcs h_F_head h_F_tail h_F_kept cI F_jobs F_size F_firstOf F_lastOf F_jobOf F_machineOf F_duration F_nextOf F_arcs F_head F_tail F_kept) sz) (wF h_F h_F_firstOf h_F_lastOf h_F_jobOf h_F_machineOf h_F_duration h_F_nextOf h_F_arcs h_F_head h_F_tail h_F_kept cI F_jobs F_size F_firstOf F_lastOf F_jobOf F_machineOf F_duration F_nextOf F_arcs F_head F_tail F_kept)) (va_A (wF h_F h_F_firstOf h_F_lastOf h_F_jobOf h_F_machineOf h_F_duration h_F_nextOf h_F_arcs h_F_head h_F_tail h_F_kept cI F_jobs F_size F_firstOf F_lastOf F_jobOf F_machineOf F_duration F_nextOf F_arcs F_head F_tail F_kept) sz)) 0 0 (va_A (wF h_F h_F_firstOf h_F_lastOf h_F_jobOf h_F_machineOf h_F_duration h_F_nextOf h_F_arcs h_F_head h_F_tail h_F_kept cI F_jobs F_size F_firstOf F_lastOf F_jobOf F_machineOf F_duration F_nextOf F_arcs F_head F_tail F_kept) sz) := by
  refine Met.ofW (cc := cX0_pairs) (maxL := 4) (ret := (some .int)) (by decide) rfl ?_
  intro p e s m args below meth c s₁ B hml hv
  obtain ⟨rfl, hsz, hP, hK, hD0, hN⟩ := hv
  have hx := B.exec
  have hb := B.bytes
  have hr := B.returns
  have hts := atoms_spec (ws := wsX0_pairs) B.pre
  have hown : s.vm.findClass RX0 = some m.cls := findClass_of_methodNamed B.named
  have hlocks := B.notSynchronized
  subst hsz
  have hD := hD0.self (sz := s.heap.size)
  generalize hAe : va_A (wF h_F h_F_firstOf h_F_lastOf h_F_jobOf h_F_machineOf h_F_duration h_F_nextOf h_F_arcs h_F_head h_F_tail h_F_kept cI F_jobs F_size F_firstOf F_lastOf F_jobOf F_machineOf F_duration F_nextOf F_arcs F_head F_tail F_kept) s.heap.size = A at hD ⊢
  have hA : ∀ q : Nat, s.heap.size ≤ q → A q := fun q h => by rw [← hAe]; exact Or.inr h
  have hS : va_S A s.heap s.heap [] := va_S.rf
  have hP : va_P (dC, dI) vwCl (wF h_F h_F_firstOf h_F_lastOf h_F_jobOf h_F_machineOf h_F_duration h_F_nextOf h_F_arcs h_F_head h_F_tail h_F_kept cI F_jobs F_size F_firstOf F_lastOf F_jobOf F_machineOf F_duration F_nextOf F_arcs F_head F_tail F_kept) s.heap := hP
  have hl := lv_entry ([.ref h_F]) (n := 4) (Nat.le_of_ble_eq_true rfl)
  rw [lg_entry_eq]
  generalize (lg_sl ([.ref h_F]) ++ List.replicate (4 - (lg_sl ([.ref h_F])).length) Slot.unset).toArray = ls at hl ⊢
  have hl : lv_has ls 4 [(0, .ref h_F)] := hl
  obtain ⟨H, hH⟩ : ∃ H, H = s.heap := ⟨_, rfl⟩
  rw [← hH] at hP
  have hS : va_S A s.heap H [] := by rw [hH]; exact hS
  refine W_heap hH ?_
  unfold wp_X0_pairs at hw
  have hin_X0 : ∀ w ∈ u_ws RX0 TX0 12, w ∈ wsX0_pairs := by decide +kernel
  refine lv_iconst (v := 0) (pc := 0) hx hb dX0_pairs_0 (by decide) ?_
  refine lv_istore_n (lv' := [(1, .int 0), (0, .ref h_F)]) (pc := 1) hx hb dX0_pairs_1 rfl hl (by decide) rfl (fun ls hl => ?_)
  refine lv_iconst (v := 0) (pc := 2) hx hb dX0_pairs_2 (by decide) ?_
  refine lv_istore_n (lv' := [(2, .int 0), (1, .int 0), (0, .ref h_F)]) (pc := 3) hx hb dX0_pairs_3 rfl hl (by decide) rfl (fun ls hl => ?_)
  obtain ⟨I_4, μ_4, hI_4, hs_4⟩ := hw
  refine lp_W (I := fun z : Int32 × Int32 => I_4 z.1 z.2) (fun z => μ_4 z.1 z.2) (fun (z : Int32 × Int32) H locs ls => va_P (dC, dI) vwCl (wF h_F h_F_firstOf h_F_lastOf h_F_jobOf h_F_machineOf h_F_duration h_F_nextOf h_F_arcs h_F_head h_F_tail h_F_kept cI F_jobs F_size F_firstOf F_lastOf F_jobOf F_machineOf F_duration F_nextOf F_arcs F_head F_tail F_kept) H ∧ va_D A (wF h_F h_F_firstOf h_F_lastOf h_F_jobOf h_F_machineOf h_F_duration h_F_nextOf h_F_arcs h_F_head h_F_tail h_F_kept cI F_jobs F_size F_firstOf F_lastOf F_jobOf F_machineOf F_duration F_nextOf F_arcs F_head F_tail F_kept) ∧ va_S A s.heap H locs ∧ lv_has ls 4 [(0, .ref h_F), (1, .int z.1), (2, .int z.2)]) ?_ (0, 0) _ _ _ hI_4 ⟨hP, hD, hS, (lv_sub hl [2, 1, 0] rfl)⟩
  rintro ⟨x1_4, x2_4⟩ H locs ls hI ⟨hP, hD, hS, hl⟩ ih_4
  have hw := hs_4 x1_4 x2_4 hI
  have hP : va_P (dC, dI) vwCl (wF h_F h_F_firstOf h_F_lastOf h_F_jobOf h_F_machineOf h_F_duration h_F_nextOf h_F_arcs h_F_head h_F_tail h_F_kept cI F_jobs F_size F_firstOf F_lastOf F_jobOf F_machineOf F_duration F_nextOf F_arcs F_head F_tail F_kept) H := hP
  have hD : va_D A (wF h_F h_F_firstOf h_F_lastOf h_F_jobOf h_F_machineOf h_F_duration h_F_nextOf h_F_arcs h_F_head h_F_tail h_F_kept cI F_jobs F_size F_firstOf F_lastOf F_jobOf F_machineOf F_duration F_nextOf F_arcs F_head F_tail F_kept) := hD
  have hl : lv_has ls 4 [(0, .ref h_F), (1, .int x1_4), (2, .int x2_4)] := hl
  refine lv_iload_n (pc := 4) hx hb dX0_pairs_4 rfl (lv_at hl 2 rfl) ?_
  refine lv_aload_n (pc := 5) hx hb dX0_pairs_5 rfl (lv_at hl 0 rfl) ?_
  refine va_get (D := (dC, dI)) (ci := 0) (v := .int F_size) (C := RX0) (T := TX0) (N := 12) (pc := 6) hx hb hts hin_X0 hown hK hP 0 rfl rfl 1 (by decide) (hts (.fieldLink RX0 46 "JobShop$Floor" "size" "I") (by decide +kernel)) (fun _ h9 => h9) rfl dX0_pairs_6 ?_
  refine lv_icmp_ge (tgt := 54) (pc := 9) hx hb dX0_pairs_9 (by decide) (fun c_1 => ?_) (fun c_1 => ?_)
  · have hw := hw.1 c_1
    refine lv_iload_n (pc := 54) hx hb dX0_pairs_54 rfl (lv_at hl 1 rfl) ?_
    exact W.iret (v := x1_4) hx hb hr (fun t ht hW => ⟨⟨x1_4, (), rfl, hw, by rw [ht]; exact hP, va_K.moved hW.alike hK, hD⟩, hS.F ht⟩) hS.2.2 dX0_pairs_55
  · have hw := hw.2 c_1
    refine lv_iload_n (pc := 12) hx hb dX0_pairs_12 rfl (lv_at hl 2 rfl) ?_
    refine lv_iconst (v := 1) (pc := 13) hx hb dX0_pairs_13 (by decide) ?_
    refine lv_iadd (pc := 14) hx hb dX0_pairs_14 ?_
    refine lv_istore_n (lv' := [(3, .int (x2_4 + 1)), (0, .ref h_F), (1, .int x1_4), (2, .int x2_4)]) (pc := 15) hx hb dX0_pairs_15 rfl hl (by decide) rfl (fun ls hl => ?_)
    obtain ⟨I_16, μ_16, hI_16, hs_16⟩ := hw
    refine lp_W (I := fun z : Int32 × Int32 => I_16 z.1 z.2) (fun z => μ_16 z.1 z.2) (fun (z : Int32 × Int32) H locs ls => va_P (dC, dI) vwCl (wF h_F h_F_firstOf h_F_lastOf h_F_jobOf h_F_machineOf h_F_duration h_F_nextOf h_F_arcs h_F_head h_F_tail h_F_kept cI F_jobs F_size F_firstOf F_lastOf F_jobOf F_machineOf F_duration F_nextOf F_arcs F_head F_tail F_kept) H ∧ va_D A (wF h_F h_F_firstOf h_F_lastOf h_F_jobOf h_F_machineOf h_F_duration h_F_nextOf h_F_arcs h_F_head h_F_tail h_F_kept cI F_jobs F_size F_firstOf F_lastOf F_jobOf F_machineOf F_duration F_nextOf F_arcs F_head F_tail F_kept) ∧ va_S A s.heap H locs ∧ lv_has ls 4 [(0, .ref h_F), (1, .int z.1), (2, .int x2_4), (3, .int z.2)]) ?_ (x1_4, (x2_4 + 1)) _ _ _ hI_16 ⟨hP, hD, hS, (lv_sub hl [1, 2, 3, 0] rfl)⟩
    rintro ⟨x1_16, x3_16⟩ H locs ls hI ⟨hP, hD, hS, hl⟩ ih_16
    have hw := hs_16 x1_16 x3_16 hI
    have hP : va_P (dC, dI) vwCl (wF h_F h_F_firstOf h_F_lastOf h_F_jobOf h_F_machineOf h_F_duration h_F_nextOf h_F_arcs h_F_head h_F_tail h_F_kept cI F_jobs F_size F_firstOf F_lastOf F_jobOf F_machineOf F_duration F_nextOf F_arcs F_head F_tail F_kept) H := hP
    have hD : va_D A (wF h_F h_F_firstOf h_F_lastOf h_F_jobOf h_F_machineOf h_F_duration h_F_nextOf h_F_arcs h_F_head h_F_tail h_F_kept cI F_jobs F_size F_firstOf F_lastOf F_jobOf F_machineOf F_duration F_nextOf F_arcs F_head F_tail F_kept) := hD
    have hl : lv_has ls 4 [(0, .ref h_F), (1, .int x1_16), (2, .int x2_4), (3, .int x3_16)] := hl
    refine lv_iload_n (pc := 16) hx hb dX0_pairs_16 rfl (lv_at hl 3 rfl) ?_
    refine lv_aload_n (pc := 17) hx hb dX0_pairs_17 rfl (lv_at hl 0 rfl) ?_
    refine va_get (D := (dC, dI)) (ci := 0) (v := .int F_size) (C := RX0) (T := TX0) (N := 12) (pc := 18) hx hb hts hin_X0 hown hK hP 0 rfl rfl 1 (by decide) (hts (.fieldLink RX0 46 "JobShop$Floor" "size" "I") (by decide +kernel)) (fun _ h9 => h9) rfl dX0_pairs_18 ?_
    refine lv_icmp_ge (tgt := 48) (pc := 21) hx hb dX0_pairs_21 (by decide) (fun c_2 => ?_) (fun c_2 => ?_)
    · have hw := hw.1 c_2
      refine lv_iinc (v := x2_4 + 1) (lv' := [(2, .int (x2_4 + 1)), (0, .ref h_F), (1, .int x1_16), (3, .int x3_16)]) (pc := 48) hx hb dX0_pairs_48 hl (k := 2) rfl rfl (by decide) rfl (fun ls hl => ?_)
      refine lv_goto (tgt := 4) (pc := 51) hx hb dX0_pairs_51 (by decide) ?_
      exact ih_4 (x1_16, (x2_4 + 1)) _ _ _ hw.1 hw.2 ⟨hP, hD, hS, (lv_sub hl [1, 2, 0] rfl)⟩
    · have hw := hw.2 c_2
      refine lv_aload_n (pc := 24) hx hb dX0_pairs_24 rfl (lv_at hl 0 rfl) ?_
      refine va_get (D := (dC, dI)) (ci := 0) (v := .ref h_F_machineOf) (C := RX0) (T := TX0) (N := 12) (pc := 25) hx hb hts hin_X0 hown hK hP 0 rfl rfl 5 (by decide) (hts (.fieldLink RX0 21 "JobShop$Floor" "machineOf" "[I") (by decide +kernel)) (fun _ h9 => h9) rfl dX0_pairs_25 ?_
      refine lv_iload_n (pc := 28) hx hb dX0_pairs_28 rfl (lv_at hl 2 rfl) ?_
      obtain ⟨b_3, hw⟩ := hw
      refine va_iald (pc := 29) hx hb hK hP 4 0 rfl rfl b_3 dX0_pairs_29 ?_
      refine lv_aload_n (pc := 30) hx hb dX0_pairs_30 rfl (lv_at hl 0 rfl) ?_
      refine va_get (D := (dC, dI)) (ci := 0) (v := .ref h_F_machineOf) (C := RX0) (T := TX0) (N := 12) (pc := 31) hx hb hts hin_X0 hown hK hP 0 rfl rfl 5 (by decide) (hts (.fieldLink RX0 21 "JobShop$Floor" "machineOf" "[I") (by decide +kernel)) (fun _ h9 => h9) rfl dX0_pairs_31 ?_
      refine lv_iload_n (pc := 34) hx hb dX0_pairs_34 rfl (lv_at hl 3 rfl) ?_
      obtain ⟨b_4, hw⟩ := hw
      refine va_iald (pc := 35) hx hb hK hP 4 0 rfl rfl b_4 dX0_pairs_35 ?_
      refine lv_icmp_ne (tgt := 42) (pc := 36) hx hb dX0_pairs_36 (by decide) (fun c_5 => ?_) (fun c_5 => ?_)
      · have hw := hw.1 c_5
        refine lv_iinc (v := x3_16 + 1) (lv' := [(3, .int (x3_16 + 1)), (0, .ref h_F), (1, .int x1_16), (2, .int x2_4)]) (pc := 42) hx hb dX0_pairs_42 hl (k := 3) rfl rfl (by decide) rfl (fun ls hl => ?_)
        refine lv_goto (tgt := 16) (pc := 45) hx hb dX0_pairs_45 (by decide) ?_
        exact ih_16 (x1_16, (x3_16 + 1)) _ _ _ hw.1 hw.2 ⟨hP, hD, hS, (lv_sub hl [1, 2, 3, 0] rfl)⟩
      · have hw := hw.2 c_5
        refine lv_iinc (v := x1_16 + 1) (lv' := [(1, .int (x1_16 + 1)), (0, .ref h_F), (2, .int x2_4), (3, .int x3_16)]) (pc := 39) hx hb dX0_pairs_39 hl (k := 1) rfl rfl (by decide) rfl (fun ls hl => ?_)
        refine lv_iinc (v := x3_16 + 1) (lv' := [(3, .int (x3_16 + 1)), (1, .int (x1_16 + 1)), (0, .ref h_F), (2, .int x2_4)]) (pc := 42) hx hb dX0_pairs_42 hl (k := 3) rfl rfl (by decide) rfl (fun ls hl => ?_)
        refine lv_goto (tgt := 16) (pc := 45) hx hb dX0_pairs_45 (by decide) ?_
        exact ih_16 ((x1_16 + 1), (x3_16 + 1)) _ _ _ hw.1 hw.2 ⟨hP, hD, hS, (lv_sub hl [2, 1, 3, 0] rfl)⟩
set_option maxHeartbeats 4000000 in
set_option maxRecDepth 100000 in
theorem c_J6_bitCount_0f7a4 (l : Launch) (dC : Nat → ClassId) (dI : Nat → Nat → Nat) (sz : Nat)  (a0 : Int32) (post : Int32 → Prop) (hw : wp_J6_bitCount_0f7a4 a0 post) : Met l yJ6_bitCount_0f7a4 wsJ6_bitCount_0f7a4 ({ frames := 0, cells := 0, slots := 0, locals := 0 }) (va_Pc [.int a0] (fun U => U.heap.size = sz ∧ va_P (dC, dI) vwCl ([] : va_W) U.heap ∧ va_K (dC, dI) vwCl [] U ∧ va_D (fun _ => True) ([] : va_W))) (va_Qi (fun (r : Int32) (u : Unit) => post r ) (fun u t => va_P (dC, dI) vwCl ([] : va_W) t.heap ∧ va_K (dC, dI) vwCl [] t ∧ va_D (va_A ([] : va_W) sz) ([] : va_W)) (va_A ([] : va_W) sz)) 0 0 (va_A ([] : va_W) sz) := by
  refine Met.ofW (cc := cJ6_bitCount_0f7a4) (maxL := 1) (ret := (some .int)) (by decide) rfl ?_
  intro p e s m args below meth c s₁ B hml hv
  obtain ⟨rfl, hsz, hP, hK, hD0⟩ := hv
  have hx := B.exec
  have hb := B.bytes
  have hr := B.returns
  have hts := atoms_spec (ws := wsJ6_bitCount_0f7a4) B.pre
  have hown : s.vm.findClass RJ6 = some m.cls := findClass_of_methodNamed B.named
  have hlocks := B.notSynchronized
  subst hsz
  have hD := hD0.self (sz := s.heap.size)
  generalize hAe : va_A ([] : va_W) s.heap.size = A at hD ⊢
  have hA : ∀ q : Nat, s.heap.size ≤ q → A q := fun q h => by rw [← hAe]; exact Or.inr h
  have hS : va_S A s.heap s.heap [] := va_S.rf
  have hP : va_P (dC, dI) vwCl ([] : va_W) s.heap := hP
  have hl := lv_entry ([.int a0]) (n := 1) (Nat.le_of_ble_eq_true rfl)
  rw [lg_entry_eq]
  generalize (lg_sl ([.int a0]) ++ List.replicate (1 - (lg_sl ([.int a0])).length) Slot.unset).toArray = ls at hl ⊢
  have hl : lv_has ls 1 [(0, .int a0)] := hl
  obtain ⟨H, hH⟩ : ∃ H, H = s.heap := ⟨_, rfl⟩
  rw [← hH] at hP
  have hS : va_S A s.heap H [] := by rw [hH]; exact hS
  refine W_heap hH ?_
  unfold wp_J6_bitCount_0f7a4 at hw
  refine lv_iload_n (pc := 0) hx hb dJ6_bitCount_0f7a4_0 rfl (lv_at hl 0 rfl) ?_
  refine lv_iload_n (pc := 1) hx hb dJ6_bitCount_0f7a4_1 rfl (lv_at hl 0 rfl) ?_
  refine lv_iconst (v := 1) (pc := 2) hx hb dJ6_bitCount_0f7a4_2 (by decide) ?_
  refine lv_iushr (v := (a0.toUInt32 >>> ((1 : Int32).toUInt32 &&& Int32.toUInt32 31)).toInt32) (pc := 3) hx hb dJ6_bitCount_0f7a4_3 rfl ?_
  refine lv_ldcw (v := 1431655765) (pc := 4) hx hb hown (hts (.constant RJ6 265 1431655765) (by decide +kernel)) dJ6_bitCount_0f7a4_4 ?_
  refine lv_iand (pc := 7) hx hb dJ6_bitCount_0f7a4_7 ?_
  refine lv_isub (pc := 8) hx hb dJ6_bitCount_0f7a4_8 ?_
  refine lv_istore_n (lv' := [(0, .int (a0 - (((a0.toUInt32 >>> ((1 : Int32).toUInt32 &&& Int32.toUInt32 31)).toInt32) &&& 1431655765)))]) (pc := 9) hx hb dJ6_bitCount_0f7a4_9 rfl hl (by decide) rfl (fun ls hl => ?_)
  refine lv_iload_n (pc := 10) hx hb dJ6_bitCount_0f7a4_10 rfl (lv_at hl 0 rfl) ?_
  refine lv_ldcw (v := 858993459) (pc := 11) hx hb hown (hts (.constant RJ6 266 858993459) (by decide +kernel)) dJ6_bitCount_0f7a4_11 ?_
  refine lv_iand (pc := 14) hx hb dJ6_bitCount_0f7a4_14 ?_
  refine lv_iload_n (pc := 15) hx hb dJ6_bitCount_0f7a4_15 rfl (lv_at hl 0 rfl) ?_
  refine lv_iconst (v := 2) (pc := 16) hx hb dJ6_bitCount_0f7a4_16 (by decide) ?_
  refine lv_iushr (v := ((a0 - (((a0.toUInt32 >>> ((1 : Int32).toUInt32 &&& Int32.toUInt32 31)).toInt32) &&& 1431655765)).toUInt32 >>> ((2 : Int32).toUInt32 &&& Int32.toUInt32 31)).toInt32) (pc := 17) hx hb dJ6_bitCount_0f7a4_17 rfl ?_
  refine lv_ldcw (v := 858993459) (pc := 18) hx hb hown (hts (.constant RJ6 266 858993459) (by decide +kernel)) dJ6_bitCount_0f7a4_18 ?_
  refine lv_iand (pc := 21) hx hb dJ6_bitCount_0f7a4_21 ?_
  refine lv_iadd (pc := 22) hx hb dJ6_bitCount_0f7a4_22 ?_
  refine lv_istore_n (lv' := [(0, .int (((a0 - (((a0.toUInt32 >>> ((1 : Int32).toUInt32 &&& Int32.toUInt32 31)).toInt32) &&& 1431655765)) &&& 858993459) + ((((a0 - (((a0.toUInt32 >>> ((1 : Int32).toUInt32 &&& Int32.toUInt32 31)).toInt32) &&& 1431655765)).toUInt32 >>> ((2 : Int32).toUInt32 &&& Int32.toUInt32 31)).toInt32) &&& 858993459)))]) (pc := 23) hx hb dJ6_bitCount_0f7a4_23 rfl hl (by decide) rfl (fun ls hl => ?_)
  refine lv_iload_n (pc := 24) hx hb dJ6_bitCount_0f7a4_24 rfl (lv_at hl 0 rfl) ?_
  refine lv_iload_n (pc := 25) hx hb dJ6_bitCount_0f7a4_25 rfl (lv_at hl 0 rfl) ?_
  refine lv_iconst (v := 4) (pc := 26) hx hb dJ6_bitCount_0f7a4_26 (by decide) ?_
  refine lv_iushr (v := ((((a0 - (((a0.toUInt32 >>> ((1 : Int32).toUInt32 &&& Int32.toUInt32 31)).toInt32) &&& 1431655765)) &&& 858993459) + ((((a0 - (((a0.toUInt32 >>> ((1 : Int32).toUInt32 &&& Int32.toUInt32 31)).toInt32) &&& 1431655765)).toUInt32 >>> ((2 : Int32).toUInt32 &&& Int32.toUInt32 31)).toInt32) &&& 858993459)).toUInt32 >>> ((4 : Int32).toUInt32 &&& Int32.toUInt32 31)).toInt32) (pc := 27) hx hb dJ6_bitCount_0f7a4_27 rfl ?_
  refine lv_iadd (pc := 28) hx hb dJ6_bitCount_0f7a4_28 ?_
  refine lv_ldcw (v := 252645135) (pc := 29) hx hb hown (hts (.constant RJ6 267 252645135) (by decide +kernel)) dJ6_bitCount_0f7a4_29 ?_
  refine lv_iand (pc := 32) hx hb dJ6_bitCount_0f7a4_32 ?_
  refine lv_istore_n (lv' := [(0, .int (((((a0 - (((a0.toUInt32 >>> ((1 : Int32).toUInt32 &&& Int32.toUInt32 31)).toInt32) &&& 1431655765)) &&& 858993459) + ((((a0 - (((a0.toUInt32 >>> ((1 : Int32).toUInt32 &&& Int32.toUInt32 31)).toInt32) &&& 1431655765)).toUInt32 >>> ((2 : Int32).toUInt32 &&& Int32.toUInt32 31)).toInt32) &&& 858993459)) + (((((a0 - (((a0.toUInt32 >>> ((1 : Int32).toUInt32 &&& Int32.toUInt32 31)).toInt32) &&& 1431655765)) &&& 858993459) + ((((a0 - (((a0.toUInt32 >>> ((1 : Int32).toUInt32 &&& Int32.toUInt32 31)).toInt32) &&& 1431655765)).toUInt32 >>> ((2 : Int32).toUInt32 &&& Int32.toUInt32 31)).toInt32) &&& 858993459)).toUInt32 >>> ((4 : Int32).toUInt32 &&& Int32.toUInt32 31)).toInt32)) &&& 252645135))]) (pc := 33) hx hb dJ6_bitCount_0f7a4_33 rfl hl (by decide) rfl (fun ls hl => ?_)
  refine lv_iload_n (pc := 34) hx hb dJ6_bitCount_0f7a4_34 rfl (lv_at hl 0 rfl) ?_
  refine lv_iload_n (pc := 35) hx hb dJ6_bitCount_0f7a4_35 rfl (lv_at hl 0 rfl) ?_
  refine lv_bipush (v := 8) (pc := 36) hx hb dJ6_bitCount_0f7a4_36 (by decide) ?_
  refine lv_iushr (v := ((((((a0 - (((a0.toUInt32 >>> ((1 : Int32).toUInt32 &&& Int32.toUInt32 31)).toInt32) &&& 1431655765)) &&& 858993459) + ((((a0 - (((a0.toUInt32 >>> ((1 : Int32).toUInt32 &&& Int32.toUInt32 31)).toInt32) &&& 1431655765)).toUInt32 >>> ((2 : Int32).toUInt32 &&& Int32.toUInt32 31)).toInt32) &&& 858993459)) + (((((a0 - (((a0.toUInt32 >>> ((1 : Int32).toUInt32 &&& Int32.toUInt32 31)).toInt32) &&& 1431655765)) &&& 858993459) + ((((a0 - (((a0.toUInt32 >>> ((1 : Int32).toUInt32 &&& Int32.toUInt32 31)).toInt32) &&& 1431655765)).toUInt32 >>> ((2 : Int32).toUInt32 &&& Int32.toUInt32 31)).toInt32) &&& 858993459)).toUInt32 >>> ((4 : Int32).toUInt32 &&& Int32.toUInt32 31)).toInt32)) &&& 252645135).toUInt32 >>> ((8 : Int32).toUInt32 &&& Int32.toUInt32 31)).toInt32) (pc := 38) hx hb dJ6_bitCount_0f7a4_38 rfl ?_
  refine lv_iadd (pc := 39) hx hb dJ6_bitCount_0f7a4_39 ?_
  refine lv_istore_n (lv' := [(0, .int ((((((a0 - (((a0.toUInt32 >>> ((1 : Int32).toUInt32 &&& Int32.toUInt32 31)).toInt32) &&& 1431655765)) &&& 858993459) + ((((a0 - (((a0.toUInt32 >>> ((1 : Int32).toUInt32 &&& Int32.toUInt32 31)).toInt32) &&& 1431655765)).toUInt32 >>> ((2 : Int32).toUInt32 &&& Int32.toUInt32 31)).toInt32) &&& 858993459)) + (((((a0 - (((a0.toUInt32 >>> ((1 : Int32).toUInt32 &&& Int32.toUInt32 31)).toInt32) &&& 1431655765)) &&& 858993459) + ((((a0 - (((a0.toUInt32 >>> ((1 : Int32).toUInt32 &&& Int32.toUInt32 31)).toInt32) &&& 1431655765)).toUInt32 >>> ((2 : Int32).toUInt32 &&& Int32.toUInt32 31)).toInt32) &&& 858993459)).toUInt32 >>> ((4 : Int32).toUInt32 &&& Int32.toUInt32 31)).toInt32)) &&& 252645135) + (((((((a0 - (((a0.toUInt32 >>> ((1 : Int32).toUInt32 &&& Int32.toUInt32 31)).toInt32) &&& 1431655765)) &&& 858993459) + ((((a0 - (((a0.toUInt32 >>> ((1 : Int32).toUInt32 &&& Int32.toUInt32 31)).toInt32) &&& 1431655765)).toUInt32 >>> ((2 : Int32).toUInt32 &&& Int32.toUInt32 31)).toInt32) &&& 858993459)) + (((((a0 - (((a0.toUInt32 >>> ((1 : Int32).toUInt32 &&& Int32.toUInt32 31)).toInt32) &&& 1431655765)) &&& 858993459) + ((((a0 - (((a0.toUInt32 >>> ((1 : Int32).toUInt32 &&& Int32.toUInt32 31)).toInt32) &&& 1431655765)).toUInt32 >>> ((2 : Int32).toUInt32 &&& Int32.toUInt32 31)).toInt32) &&& 858993459)).toUInt32 >>> ((4 : Int32).toUInt32 &&& Int32.toUInt32 31)).toInt32)) &&& 252645135).toUInt32 >>> ((8 : Int32).toUInt32 &&& Int32.toUInt32 31)).toInt32)))]) (pc := 40) hx hb dJ6_bitCount_0f7a4_40 rfl hl (by decide) rfl (fun ls hl => ?_)
  refine lv_iload_n (pc := 41) hx hb dJ6_bitCount_0f7a4_41 rfl (lv_at hl 0 rfl) ?_
  refine lv_iload_n (pc := 42) hx hb dJ6_bitCount_0f7a4_42 rfl (lv_at hl 0 rfl) ?_
  refine lv_bipush (v := 16) (pc := 43) hx hb dJ6_bitCount_0f7a4_43 (by decide) ?_
  refine lv_iushr (v := (((((((a0 - (((a0.toUInt32 >>> ((1 : Int32).toUInt32 &&& Int32.toUInt32 31)).toInt32) &&& 1431655765)) &&& 858993459) + ((((a0 - (((a0.toUInt32 >>> ((1 : Int32).toUInt32 &&& Int32.toUInt32 31)).toInt32) &&& 1431655765)).toUInt32 >>> ((2 : Int32).toUInt32 &&& Int32.toUInt32 31)).toInt32) &&& 858993459)) + (((((a0 - (((a0.toUInt32 >>> ((1 : Int32).toUInt32 &&& Int32.toUInt32 31)).toInt32) &&& 1431655765)) &&& 858993459) + ((((a0 - (((a0.toUInt32 >>> ((1 : Int32).toUInt32 &&& Int32.toUInt32 31)).toInt32) &&& 1431655765)).toUInt32 >>> ((2 : Int32).toUInt32 &&& Int32.toUInt32 31)).toInt32) &&& 858993459)).toUInt32 >>> ((4 : Int32).toUInt32 &&& Int32.toUInt32 31)).toInt32)) &&& 252645135) + (((((((a0 - (((a0.toUInt32 >>> ((1 : Int32).toUInt32 &&& Int32.toUInt32 31)).toInt32) &&& 1431655765)) &&& 858993459) + ((((a0 - (((a0.toUInt32 >>> ((1 : Int32).toUInt32 &&& Int32.toUInt32 31)).toInt32) &&& 1431655765)).toUInt32 >>> ((2 : Int32).toUInt32 &&& Int32.toUInt32 31)).toInt32) &&& 858993459)) + (((((a0 - (((a0.toUInt32 >>> ((1 : Int32).toUInt32 &&& Int32.toUInt32 31)).toInt32) &&& 1431655765)) &&& 858993459) + ((((a0 - (((a0.toUInt32 >>> ((1 : Int32).toUInt32 &&& Int32.toUInt32 31)).toInt32) &&& 1431655765)).toUInt32 >>> ((2 : Int32).toUInt32 &&& Int32.toUInt32 31)).toInt32) &&& 858993459)).toUInt32 >>> ((4 : Int32).toUInt32 &&& Int32.toUInt32 31)).toInt32)) &&& 252645135).toUInt32 >>> ((8 : Int32).toUInt32 &&& Int32.toUInt32 31)).toInt32)).toUInt32 >>> ((16 : Int32).toUInt32 &&& Int32.toUInt32 31)).toInt32) (pc := 45) hx hb dJ6_bitCount_0f7a4_45 rfl ?_
  refine lv_iadd (pc := 46) hx hb dJ6_bitCount_0f7a4_46 ?_
  refine lv_istore_n (lv' := [(0, .int (((((((a0 - (((a0.toUInt32 >>> ((1 : Int32).toUInt32 &&& Int32.toUInt32 31)).toInt32) &&& 1431655765)) &&& 858993459) + ((((a0 - (((a0.toUInt32 >>> ((1 : Int32).toUInt32 &&& Int32.toUInt32 31)).toInt32) &&& 1431655765)).toUInt32 >>> ((2 : Int32).toUInt32 &&& Int32.toUInt32 31)).toInt32) &&& 858993459)) + (((((a0 - (((a0.toUInt32 >>> ((1 : Int32).toUInt32 &&& Int32.toUInt32 31)).toInt32) &&& 1431655765)) &&& 858993459) + ((((a0 - (((a0.toUInt32 >>> ((1 : Int32).toUInt32 &&& Int32.toUInt32 31)).toInt32) &&& 1431655765)).toUInt32 >>> ((2 : Int32).toUInt32 &&& Int32.toUInt32 31)).toInt32) &&& 858993459)).toUInt32 >>> ((4 : Int32).toUInt32 &&& Int32.toUInt32 31)).toInt32)) &&& 252645135) + (((((((a0 - (((a0.toUInt32 >>> ((1 : Int32).toUInt32 &&& Int32.toUInt32 31)).toInt32) &&& 1431655765)) &&& 858993459) + ((((a0 - (((a0.toUInt32 >>> ((1 : Int32).toUInt32 &&& Int32.toUInt32 31)).toInt32) &&& 1431655765)).toUInt32 >>> ((2 : Int32).toUInt32 &&& Int32.toUInt32 31)).toInt32) &&& 858993459)) + (((((a0 - (((a0.toUInt32 >>> ((1 : Int32).toUInt32 &&& Int32.toUInt32 31)).toInt32) &&& 1431655765)) &&& 858993459) + ((((a0 - (((a0.toUInt32 >>> ((1 : Int32).toUInt32 &&& Int32.toUInt32 31)).toInt32) &&& 1431655765)).toUInt32 >>> ((2 : Int32).toUInt32 &&& Int32.toUInt32 31)).toInt32) &&& 858993459)).toUInt32 >>> ((4 : Int32).toUInt32 &&& Int32.toUInt32 31)).toInt32)) &&& 252645135).toUInt32 >>> ((8 : Int32).toUInt32 &&& Int32.toUInt32 31)).toInt32)) + ((((((((a0 - (((a0.toUInt32 >>> ((1 : Int32).toUInt32 &&& Int32.toUInt32 31)).toInt32) &&& 1431655765)) &&& 858993459) + ((((a0 - (((a0.toUInt32 >>> ((1 : Int32).toUInt32 &&& Int32.toUInt32 31)).toInt32) &&& 1431655765)).toUInt32 >>> ((2 : Int32).toUInt32 &&& Int32.toUInt32 31)).toInt32) &&& 858993459)) + (((((a0 - (((a0.toUInt32 >>> ((1 : Int32).toUInt32 &&& Int32.toUInt32 31)).toInt32) &&& 1431655765)) &&& 858993459) + ((((a0 - (((a0.toUInt32 >>> ((1 : Int32).toUInt32 &&& Int32.toUInt32 31)).toInt32) &&& 1431655765)).toUInt32 >>> ((2 : Int32).toUInt32 &&& Int32.toUInt32 31)).toInt32) &&& 858993459)).toUInt32 >>> ((4 : Int32).toUInt32 &&& Int32.toUInt32 31)).toInt32)) &&& 252645135) + (((((((a0 - (((a0.toUInt32 >>> ((1 : Int32).toUInt32 &&& Int32.toUInt32 31)).toInt32) &&& 1431655765)) &&& 858993459) + ((((a0 - (((a0.toUInt32 >>> ((1 : Int32).toUInt32 &&& Int32.toUInt32 31)).toInt32) &&& 1431655765)).toUInt32 >>> ((2 : Int32).toUInt32 &&& Int32.toUInt32 31)).toInt32) &&& 858993459)) + (((((a0 - (((a0.toUInt32 >>> ((1 : Int32).toUInt32 &&& Int32.toUInt32 31)).toInt32) &&& 1431655765)) &&& 858993459) + ((((a0 - (((a0.toUInt32 >>> ((1 : Int32).toUInt32 &&& Int32.toUInt32 31)).toInt32) &&& 1431655765)).toUInt32 >>> ((2 : Int32).toUInt32 &&& Int32.toUInt32 31)).toInt32) &&& 858993459)).toUInt32 >>> ((4 : Int32).toUInt32 &&& Int32.toUInt32 31)).toInt32)) &&& 252645135).toUInt32 >>> ((8 : Int32).toUInt32 &&& Int32.toUInt32 31)).toInt32)).toUInt32 >>> ((16 : Int32).toUInt32 &&& Int32.toUInt32 31)).toInt32)))]) (pc := 47) hx hb dJ6_bitCount_0f7a4_47 rfl hl (by decide) rfl (fun ls hl => ?_)
  refine lv_iload_n (pc := 48) hx hb dJ6_bitCount_0f7a4_48 rfl (lv_at hl 0 rfl) ?_
  refine lv_bipush (v := 63) (pc := 49) hx hb dJ6_bitCount_0f7a4_49 (by decide) ?_
  refine lv_iand (pc := 51) hx hb dJ6_bitCount_0f7a4_51 ?_
  exact W.iret (v := ((((((((a0 - (((a0.toUInt32 >>> ((1 : Int32).toUInt32 &&& Int32.toUInt32 31)).toInt32) &&& 1431655765)) &&& 858993459) + ((((a0 - (((a0.toUInt32 >>> ((1 : Int32).toUInt32 &&& Int32.toUInt32 31)).toInt32) &&& 1431655765)).toUInt32 >>> ((2 : Int32).toUInt32 &&& Int32.toUInt32 31)).toInt32) &&& 858993459)) + (((((a0 - (((a0.toUInt32 >>> ((1 : Int32).toUInt32 &&& Int32.toUInt32 31)).toInt32) &&& 1431655765)) &&& 858993459) + ((((a0 - (((a0.toUInt32 >>> ((1 : Int32).toUInt32 &&& Int32.toUInt32 31)).toInt32) &&& 1431655765)).toUInt32 >>> ((2 : Int32).toUInt32 &&& Int32.toUInt32 31)).toInt32) &&& 858993459)).toUInt32 >>> ((4 : Int32).toUInt32 &&& Int32.toUInt32 31)).toInt32)) &&& 252645135) + (((((((a0 - (((a0.toUInt32 >>> ((1 : Int32).toUInt32 &&& Int32.toUInt32 31)).toInt32) &&& 1431655765)) &&& 858993459) + ((((a0 - (((a0.toUInt32 >>> ((1 : Int32).toUInt32 &&& Int32.toUInt32 31)).toInt32) &&& 1431655765)).toUInt32 >>> ((2 : Int32).toUInt32 &&& Int32.toUInt32 31)).toInt32) &&& 858993459)) + (((((a0 - (((a0.toUInt32 >>> ((1 : Int32).toUInt32 &&& Int32.toUInt32 31)).toInt32) &&& 1431655765)) &&& 858993459) + ((((a0 - (((a0.toUInt32 >>> ((1 : Int32).toUInt32 &&& Int32.toUInt32 31)).toInt32) &&& 1431655765)).toUInt32 >>> ((2 : Int32).toUInt32 &&& Int32.toUInt32 31)).toInt32) &&& 858993459)).toUInt32 >>> ((4 : Int32).toUInt32 &&& Int32.toUInt32 31)).toInt32)) &&& 252645135).toUInt32 >>> ((8 : Int32).toUInt32 &&& Int32.toUInt32 31)).toInt32)) + ((((((((a0 - (((a0.toUInt32 >>> ((1 : Int32).toUInt32 &&& Int32.toUInt32 31)).toInt32) &&& 1431655765)) &&& 858993459) + ((((a0 - (((a0.toUInt32 >>> ((1 : Int32).toUInt32 &&& Int32.toUInt32 31)).toInt32) &&& 1431655765)).toUInt32 >>> ((2 : Int32).toUInt32 &&& Int32.toUInt32 31)).toInt32) &&& 858993459)) + (((((a0 - (((a0.toUInt32 >>> ((1 : Int32).toUInt32 &&& Int32.toUInt32 31)).toInt32) &&& 1431655765)) &&& 858993459) + ((((a0 - (((a0.toUInt32 >>> ((1 : Int32).toUInt32 &&& Int32.toUInt32 31)).toInt32) &&& 1431655765)).toUInt32 >>> ((2 : Int32).toUInt32 &&& Int32.toUInt32 31)).toInt32) &&& 858993459)).toUInt32 >>> ((4 : Int32).toUInt32 &&& Int32.toUInt32 31)).toInt32)) &&& 252645135) + (((((((a0 - (((a0.toUInt32 >>> ((1 : Int32).toUInt32 &&& Int32.toUInt32 31)).toInt32) &&& 1431655765)) &&& 858993459) + ((((a0 - (((a0.toUInt32 >>> ((1 : Int32).toUInt32 &&& Int32.toUInt32 31)).toInt32) &&& 1431655765)).toUInt32 >>> ((2 : Int32).toUInt32 &&& Int32.toUInt32 31)).toInt32) &&& 858993459)) + (((((a0 - (((a0.toUInt32 >>> ((1 : Int32).toUInt32 &&& Int32.toUInt32 31)).toInt32) &&& 1431655765)) &&& 858993459) + ((((a0 - (((a0.toUInt32 >>> ((1 : Int32).toUInt32 &&& Int32.toUInt32 31)).toInt32) &&& 1431655765)).toUInt32 >>> ((2 : Int32).toUInt32 &&& Int32.toUInt32 31)).toInt32) &&& 858993459)).toUInt32 >>> ((4 : Int32).toUInt32 &&& Int32.toUInt32 31)).toInt32)) &&& 252645135).toUInt32 >>> ((8 : Int32).toUInt32 &&& Int32.toUInt32 31)).toInt32)).toUInt32 >>> ((16 : Int32).toUInt32 &&& Int32.toUInt32 31)).toInt32)) &&& 63)) hx hb hr (fun t ht hW => ⟨⟨((((((((a0 - (((a0.toUInt32 >>> ((1 : Int32).toUInt32 &&& Int32.toUInt32 31)).toInt32) &&& 1431655765)) &&& 858993459) + ((((a0 - (((a0.toUInt32 >>> ((1 : Int32).toUInt32 &&& Int32.toUInt32 31)).toInt32) &&& 1431655765)).toUInt32 >>> ((2 : Int32).toUInt32 &&& Int32.toUInt32 31)).toInt32) &&& 858993459)) + (((((a0 - (((a0.toUInt32 >>> ((1 : Int32).toUInt32 &&& Int32.toUInt32 31)).toInt32) &&& 1431655765)) &&& 858993459) + ((((a0 - (((a0.toUInt32 >>> ((1 : Int32).toUInt32 &&& Int32.toUInt32 31)).toInt32) &&& 1431655765)).toUInt32 >>> ((2 : Int32).toUInt32 &&& Int32.toUInt32 31)).toInt32) &&& 858993459)).toUInt32 >>> ((4 : Int32).toUInt32 &&& Int32.toUInt32 31)).toInt32)) &&& 252645135) + (((((((a0 - (((a0.toUInt32 >>> ((1 : Int32).toUInt32 &&& Int32.toUInt32 31)).toInt32) &&& 1431655765)) &&& 858993459) + ((((a0 - (((a0.toUInt32 >>> ((1 : Int32).toUInt32 &&& Int32.toUInt32 31)).toInt32) &&& 1431655765)).toUInt32 >>> ((2 : Int32).toUInt32 &&& Int32.toUInt32 31)).toInt32) &&& 858993459)) + (((((a0 - (((a0.toUInt32 >>> ((1 : Int32).toUInt32 &&& Int32.toUInt32 31)).toInt32) &&& 1431655765)) &&& 858993459) + ((((a0 - (((a0.toUInt32 >>> ((1 : Int32).toUInt32 &&& Int32.toUInt32 31)).toInt32) &&& 1431655765)).toUInt32 >>> ((2 : Int32).toUInt32 &&& Int32.toUInt32 31)).toInt32) &&& 858993459)).toUInt32 >>> ((4 : Int32).toUInt32 &&& Int32.toUInt32 31)).toInt32)) &&& 252645135).toUInt32 >>> ((8 : Int32).toUInt32 &&& Int32.toUInt32 31)).toInt32)) + ((((((((a0 - (((a0.toUInt32 >>> ((1 : Int32).toUInt32 &&& Int32.toUInt32 31)).toInt32) &&& 1431655765)) &&& 858993459) + ((((a0 - (((a0.toUInt32 >>> ((1 : Int32).toUInt32 &&& Int32.toUInt32 31)).toInt32) &&& 1431655765)).toUInt32 >>> ((2 : Int32).toUInt32 &&& Int32.toUInt32 31)).toInt32) &&& 858993459)) + (((((a0 - (((a0.toUInt32 >>> ((1 : Int32).toUInt32 &&& Int32.toUInt32 31)).toInt32) &&& 1431655765)) &&& 858993459) + ((((a0 - (((a0.toUInt32 >>> ((1 : Int32).toUInt32 &&& Int32.toUInt32 31)).toInt32) &&& 1431655765)).toUInt32 >>> ((2 : Int32).toUInt32 &&& Int32.toUInt32 31)).toInt32) &&& 858993459)).toUInt32 >>> ((4 : Int32).toUInt32 &&& Int32.toUInt32 31)).toInt32)) &&& 252645135) + (((((((a0 - (((a0.toUInt32 >>> ((1 : Int32).toUInt32 &&& Int32.toUInt32 31)).toInt32) &&& 1431655765)) &&& 858993459) + ((((a0 - (((a0.toUInt32 >>> ((1 : Int32).toUInt32 &&& Int32.toUInt32 31)).toInt32) &&& 1431655765)).toUInt32 >>> ((2 : Int32).toUInt32 &&& Int32.toUInt32 31)).toInt32) &&& 858993459)) + (((((a0 - (((a0.toUInt32 >>> ((1 : Int32).toUInt32 &&& Int32.toUInt32 31)).toInt32) &&& 1431655765)) &&& 858993459) + ((((a0 - (((a0.toUInt32 >>> ((1 : Int32).toUInt32 &&& Int32.toUInt32 31)).toInt32) &&& 1431655765)).toUInt32 >>> ((2 : Int32).toUInt32 &&& Int32.toUInt32 31)).toInt32) &&& 858993459)).toUInt32 >>> ((4 : Int32).toUInt32 &&& Int32.toUInt32 31)).toInt32)) &&& 252645135).toUInt32 >>> ((8 : Int32).toUInt32 &&& Int32.toUInt32 31)).toInt32)).toUInt32 >>> ((16 : Int32).toUInt32 &&& Int32.toUInt32 31)).toInt32)) &&& 63), (), rfl, hw, by rw [ht]; exact hP, va_K.moved hW.alike hK, hD⟩, hS.F ht⟩) hS.2.2 dJ6_bitCount_0f7a4_52
set_option maxHeartbeats 4000000 in
set_option maxRecDepth 100000 in
theorem c_X0_tiedPairs (l : Launch) (dC : Nat → ClassId) (dI : Nat → Nat → Nat) (h_F h_F_firstOf h_F_lastOf h_F_jobOf h_F_machineOf h_F_duration h_F_nextOf h_F_arcs h_F_head h_F_tail h_F_kept : Nat) (sz : Nat) (cI : ClassId) (F_jobs : Int32) (F_size : Int32) (F_firstOf : Nat → Int32) (F_lastOf : Nat → Int32) (F_jobOf : Nat → Int32) (F_machineOf : Nat → Int32) (F_duration : Nat → Int32) (F_nextOf : Nat → Int32) (F_arcs : Nat → Int32) (F_head : Nat → Int32) (F_tail : Nat → Int32) (F_kept : Nat → Int32) (post : Int32 → Prop) (hw : wp_X0_tiedPairs F_size F_arcs post) : Met l yX0_tiedPairs wsX0_tiedPairs ({ frames := 1, cells := 0, slots := 0, locals := 20 }) (va_Pc [.ref h_F] (fun U => U.heap.size = sz ∧ va_P (dC, dI) vwCl (wF h_F h_F_firstOf h_F_lastOf h_F_jobOf h_F_machineOf h_F_duration h_F_nextOf h_F_arcs h_F_head h_F_tail h_F_kept cI F_jobs F_size F_firstOf F_lastOf F_jobOf F_machineOf F_duration F_nextOf F_arcs F_head F_tail F_kept) U.heap ∧ va_K (dC, dI) vwCl [(cI, .int)] U ∧ va_D (fun _ => True) (wF h_F h_F_firstOf h_F_lastOf h_F_jobOf h_F_machineOf h_F_duration h_F_nextOf h_F_arcs h_F_head h_F_tail h_F_kept cI F_jobs F_size F_firstOf F_lastOf F_jobOf F_machineOf F_duration F_nextOf F_arcs F_head F_tail F_kept) ∧ nw U)) (va_Qi (fun (r : Int32) (u : Unit) => post r ) (fun u t => va_P (dC, dI) vwCl (wF h_F h_F_firstOf h_F_lastOf h_F_jobOf h_F_machineOf h_F_duration h_F_nextOf h_F_arcs h_F_head h_F_tail h_F_kept cI F_jobs F_size F_firstOf F_lastOf F_jobOf F_machineOf F_duration F_nextOf F_arcs F_head F_tail F_kept) t.heap ∧ va_K (dC, dI) vwCl [(cI, .int)] t ∧ va_D (va_A (wF h_F h_F_firstOf h_F_lastOf h_F_jobOf h_F_machineOf h_F_duration h_F_nextOf h_F_arcs h_F_head h_F_tail h_F_kept cI F_jobs F_size F_firstOf F_lastOf F_jobOf F_machineOf F_duration F_nextOf F_arcs F_head F_tail F_kept) sz) (wF h_F h_F_firstOf h_F_lastOf h_F_jobOf h_F_machineOf h_F_duration h_F_nextOf h_F_arcs h_F_head h_F_tail h_F_kept cI F_jobs F_size F_firstOf F_lastOf F_jobOf F_machineOf F_duration F_nextOf F_arcs F_head F_tail F_kept)) (va_A (wF h_F h_F_firstOf h_F_lastOf h_F_jobOf h_F_machineOf h_F_duration h_F_nextOf h_F_arcs h_F_head h_F_tail h_F_kept cI F_jobs F_size F_firstOf F_lastOf F_jobOf F_machineOf F_duration F_nextOf F_arcs F_head F_tail F_kept) sz)) 0 0 (va_A (wF h_F h_F_firstOf h_F_lastOf h_F_jobOf h_F_machineOf h_F_duration h_F_nextOf h_F_arcs h_F_head h_F_tail h_F_kept cI F_jobs F_size F_firstOf F_lastOf F_jobOf F_machineOf F_duration F_nextOf F_arcs F_head F_tail F_kept) sz) := by
  refine Met.ofW (cc := cX0_tiedPairs) (maxL := 3) (ret := (some .int)) (by decide) rfl ?_
  intro p e s m args below meth c s₁ B hml hv
  obtain ⟨rfl, hsz, hP, hK, hD0, hN⟩ := hv
  have hx := B.exec
  have hb := B.bytes
  have hr := B.returns
  have hts := atoms_spec (ws := wsX0_tiedPairs) B.pre
  have hown : s.vm.findClass RX0 = some m.cls := findClass_of_methodNamed B.named
  have hlocks := B.notSynchronized
  subst hsz
  have hD := hD0.self (sz := s.heap.size)
  generalize hAe : va_A (wF h_F h_F_firstOf h_F_lastOf h_F_jobOf h_F_machineOf h_F_duration h_F_nextOf h_F_arcs h_F_head h_F_tail h_F_kept cI F_jobs F_size F_firstOf F_lastOf F_jobOf F_machineOf F_duration F_nextOf F_arcs F_head F_tail F_kept) s.heap.size = A at hD ⊢
  have hA : ∀ q : Nat, s.heap.size ≤ q → A q := fun q h => by rw [← hAe]; exact Or.inr h
  have hS : va_S A s.heap s.heap [] := va_S.rf
  have hP : va_P (dC, dI) vwCl (wF h_F h_F_firstOf h_F_lastOf h_F_jobOf h_F_machineOf h_F_duration h_F_nextOf h_F_arcs h_F_head h_F_tail h_F_kept cI F_jobs F_size F_firstOf F_lastOf F_jobOf F_machineOf F_duration F_nextOf F_arcs F_head F_tail F_kept) s.heap := hP
  have hl := lv_entry ([.ref h_F]) (n := 3) (Nat.le_of_ble_eq_true rfl)
  rw [lg_entry_eq]
  generalize (lg_sl ([.ref h_F]) ++ List.replicate (3 - (lg_sl ([.ref h_F])).length) Slot.unset).toArray = ls at hl ⊢
  have hl : lv_has ls 3 [(0, .ref h_F)] := hl
  obtain ⟨H, hH⟩ : ∃ H, H = s.heap := ⟨_, rfl⟩
  rw [← hH] at hP
  have hS : va_S A s.heap H [] := by rw [hH]; exact hS
  refine W_heap hH ?_
  unfold wp_X0_tiedPairs at hw
  have hin_X0 : ∀ w ∈ u_ws RX0 TX0 12, w ∈ wsX0_tiedPairs := by decide +kernel
  refine lv_iconst (v := 0) (pc := 0) hx hb dX0_tiedPairs_0 (by decide) ?_
  refine lv_istore_n (lv' := [(1, .int 0), (0, .ref h_F)]) (pc := 1) hx hb dX0_tiedPairs_1 rfl hl (by decide) rfl (fun ls hl => ?_)
  refine lv_iconst (v := 0) (pc := 2) hx hb dX0_tiedPairs_2 (by decide) ?_
  refine lv_istore_n (lv' := [(2, .int 0), (1, .int 0), (0, .ref h_F)]) (pc := 3) hx hb dX0_tiedPairs_3 rfl hl (by decide) rfl (fun ls hl => ?_)
  obtain ⟨I_4, μ_4, hI_4, hs_4⟩ := hw
  refine lp_W (I := fun z : Int32 × Int32 => I_4 z.1 z.2) (fun z => μ_4 z.1 z.2) (fun (z : Int32 × Int32) H locs ls => va_P (dC, dI) vwCl (wF h_F h_F_firstOf h_F_lastOf h_F_jobOf h_F_machineOf h_F_duration h_F_nextOf h_F_arcs h_F_head h_F_tail h_F_kept cI F_jobs F_size F_firstOf F_lastOf F_jobOf F_machineOf F_duration F_nextOf F_arcs F_head F_tail F_kept) H ∧ va_D A (wF h_F h_F_firstOf h_F_lastOf h_F_jobOf h_F_machineOf h_F_duration h_F_nextOf h_F_arcs h_F_head h_F_tail h_F_kept cI F_jobs F_size F_firstOf F_lastOf F_jobOf F_machineOf F_duration F_nextOf F_arcs F_head F_tail F_kept) ∧ va_S A s.heap H locs ∧ lv_has ls 3 [(0, .ref h_F), (1, .int z.1), (2, .int z.2)]) ?_ (0, 0) _ _ _ hI_4 ⟨hP, hD, hS, (lv_sub hl [2, 1, 0] rfl)⟩
  rintro ⟨x1_4, x2_4⟩ H locs ls hI ⟨hP, hD, hS, hl⟩ ih_4
  have hw := hs_4 x1_4 x2_4 hI
  have hP : va_P (dC, dI) vwCl (wF h_F h_F_firstOf h_F_lastOf h_F_jobOf h_F_machineOf h_F_duration h_F_nextOf h_F_arcs h_F_head h_F_tail h_F_kept cI F_jobs F_size F_firstOf F_lastOf F_jobOf F_machineOf F_duration F_nextOf F_arcs F_head F_tail F_kept) H := hP
  have hD : va_D A (wF h_F h_F_firstOf h_F_lastOf h_F_jobOf h_F_machineOf h_F_duration h_F_nextOf h_F_arcs h_F_head h_F_tail h_F_kept cI F_jobs F_size F_firstOf F_lastOf F_jobOf F_machineOf F_duration F_nextOf F_arcs F_head F_tail F_kept) := hD
  have hl : lv_has ls 3 [(0, .ref h_F), (1, .int x1_4), (2, .int x2_4)] := hl
  refine lv_iload_n (pc := 4) hx hb dX0_tiedPairs_4 rfl (lv_at hl 2 rfl) ?_
  refine lv_aload_n (pc := 5) hx hb dX0_tiedPairs_5 rfl (lv_at hl 0 rfl) ?_
  refine va_get (D := (dC, dI)) (ci := 0) (v := .int F_size) (C := RX0) (T := TX0) (N := 12) (pc := 6) hx hb hts hin_X0 hown hK hP 0 rfl rfl 1 (by decide) (hts (.fieldLink RX0 46 "JobShop$Floor" "size" "I") (by decide +kernel)) (fun _ h9 => h9) rfl dX0_tiedPairs_6 ?_
  refine lv_icmp_ge (tgt := 30) (pc := 9) hx hb dX0_tiedPairs_9 (by decide) (fun c_1 => ?_) (fun c_1 => ?_)
  · have hw := hw.1 c_1
    refine lv_iload_n (pc := 30) hx hb dX0_tiedPairs_30 rfl (lv_at hl 1 rfl) ?_
    exact W.iret (v := x1_4) hx hb hr (fun t ht hW => ⟨⟨x1_4, (), rfl, hw, by rw [ht]; exact hP, va_K.moved hW.alike hK, hD⟩, hS.F ht⟩) hS.2.2 dX0_tiedPairs_31
  · have hw := hw.2 c_1
    refine lv_iload_n (pc := 12) hx hb dX0_tiedPairs_12 rfl (lv_at hl 1 rfl) ?_
    refine lv_aload_n (pc := 13) hx hb dX0_tiedPairs_13 rfl (lv_at hl 0 rfl) ?_
    refine va_get (D := (dC, dI)) (ci := 0) (v := .ref h_F_arcs) (C := RX0) (T := TX0) (N := 12) (pc := 14) hx hb hts hin_X0 hown hK hP 0 rfl rfl 8 (by decide) (hts (.fieldLink RX0 30 "JobShop$Floor" "arcs" "[I") (by decide +kernel)) (fun _ h9 => h9) rfl dX0_tiedPairs_14 ?_
    refine lv_iload_n (pc := 17) hx hb dX0_tiedPairs_17 rfl (lv_at hl 2 rfl) ?_
    obtain ⟨b_2, hw⟩ := hw
    refine va_iald (pc := 18) hx hb hK hP 7 0 rfl rfl b_2 dX0_tiedPairs_18 ?_
    have hPx : va_P (dC, dI) vwCl ([(h_F, .inr (0, [.int F_jobs, .int F_size, .ref h_F_firstOf, .ref h_F_lastOf, .ref h_F_jobOf, .ref h_F_machineOf, .ref h_F_duration, .ref h_F_nextOf, .ref h_F_arcs, .ref h_F_head, .ref h_F_tail, .ref h_F_kept])), (h_F_firstOf, .inl (cI, 4, .inl F_firstOf)), (h_F_lastOf, .inl (cI, 4, .inl F_lastOf)), (h_F_jobOf, .inl (cI, 12, .inl F_jobOf)), (h_F_machineOf, .inl (cI, 12, .inl F_machineOf)), (h_F_duration, .inl (cI, 12, .inl F_duration)), (h_F_nextOf, .inl (cI, 12, .inl F_nextOf)), (h_F_arcs, .inl (cI, 12, .inl F_arcs)), (h_F_head, .inl (cI, 12, .inl F_head)), (h_F_tail, .inl (cI, 12, .inl F_tail)), (h_F_kept, .inl (cI, 12, .inl F_kept))] ++ ([] : va_W)) H := hP
    have hDx : va_D A ([(h_F, .inr (0, [.int F_jobs, .int F_size, .ref h_F_firstOf, .ref h_F_lastOf, .ref h_F_jobOf, .ref h_F_machineOf, .ref h_F_duration, .ref h_F_nextOf, .ref h_F_arcs, .ref h_F_head, .ref h_F_tail, .ref h_F_kept])), (h_F_firstOf, .inl (cI, 4, .inl F_firstOf)), (h_F_lastOf, .inl (cI, 4, .inl F_lastOf)), (h_F_jobOf, .inl (cI, 12, .inl F_jobOf)), (h_F_machineOf, .inl (cI, 12, .inl F_machineOf)), (h_F_duration, .inl (cI, 12, .inl F_duration)), (h_F_nextOf, .inl (cI, 12, .inl F_nextOf)), (h_F_arcs, .inl (cI, 12, .inl F_arcs)), (h_F_head, .inl (cI, 12, .inl F_head)), (h_F_tail, .inl (cI, 12, .inl F_tail)), (h_F_kept, .inl (cI, 12, .inl F_kept))] ++ ([] : va_W)) := hD
    refine kc_i (pc := 19) (w1 := (fun u : Unit => ([] : va_W))) (va_runS (As := [.int (F_arcs x2_4.toNatClampNeg)]) (rest := [.int x1_4]) ⟨hx, hb, hml, hown, hts⟩ (c_J6_bitCount_0f7a4 l dC dI H.size  (F_arcs x2_4.toNatClampNeg) _ hw) (va_cwS 1 hts gX0_tiedPairs_J6_bitCount_0f7a4 rfl rfl rfl (by decide +kernel) ⟨Nat.le_of_ble_eq_true rfl, Nat.le_of_ble_eq_true rfl⟩) (kc_preS hK hPx hDx [] rfl) rfl rfl hl.1 rfl (lv_room (Nat.le_of_ble_eq_true rfl)) dX0_tiedPairs_19 ⟨Nat.zero_le _, Nat.zero_le _⟩) hPx hDx hS hA (fun r_19 u H locs hw hP hD hS => ?_)
    have hP : va_P (dC, dI) vwCl (wF h_F h_F_firstOf h_F_lastOf h_F_jobOf h_F_machineOf h_F_duration h_F_nextOf h_F_arcs h_F_head h_F_tail h_F_kept cI F_jobs F_size F_firstOf F_lastOf F_jobOf F_machineOf F_duration F_nextOf F_arcs F_head F_tail F_kept) H := hP
    have hD : va_D A (wF h_F h_F_firstOf h_F_lastOf h_F_jobOf h_F_machineOf h_F_duration h_F_nextOf h_F_arcs h_F_head h_F_tail h_F_kept cI F_jobs F_size F_firstOf F_lastOf F_jobOf F_machineOf F_duration F_nextOf F_arcs F_head F_tail F_kept) := hD
    refine lv_iadd (pc := 22) hx hb dX0_tiedPairs_22 ?_
    refine lv_istore_n (lv' := [(1, .int (x1_4 + r_19)), (0, .ref h_F), (2, .int x2_4)]) (pc := 23) hx hb dX0_tiedPairs_23 rfl hl (by decide) rfl (fun ls hl => ?_)
    refine lv_iinc (v := x2_4 + 1) (lv' := [(2, .int (x2_4 + 1)), (1, .int (x1_4 + r_19)), (0, .ref h_F)]) (pc := 24) hx hb dX0_tiedPairs_24 hl (k := 2) rfl rfl (by decide) rfl (fun ls hl => ?_)
    refine lv_goto (tgt := 4) (pc := 27) hx hb dX0_tiedPairs_27 (by decide) ?_
    exact ih_4 ((x1_4 + r_19), (x2_4 + 1)) _ _ _ hw.1 hw.2 ⟨hP, hD, hS, (lv_sub hl [2, 1, 0] rfl)⟩
set_option maxHeartbeats 4000000 in
set_option maxRecDepth 100000 in
theorem c_X0_mustPrecede (l : Launch) (dC : Nat → ClassId) (dI : Nat → Nat → Nat) (h_F h_F_firstOf h_F_lastOf h_F_jobOf h_F_machineOf h_F_duration h_F_nextOf h_F_arcs h_F_head h_F_tail h_F_kept : Nat) (sz : Nat) (cI : ClassId) (F_jobs : Int32) (F_size : Int32) (F_firstOf : Nat → Int32) (F_lastOf : Nat → Int32) (F_jobOf : Nat → Int32) (F_machineOf : Nat → Int32) (F_duration : Nat → Int32) (F_nextOf : Nat → Int32) (F_arcs : Nat → Int32) (F_head : Nat → Int32) (F_tail : Nat → Int32) (F_kept : Nat → Int32) (a0 a1 a2 : Int32) (post : Int32 → Prop) (hw : wp_X0_mustPrecede F_duration F_head F_tail a0 a1 a2 post) : Met l yX0_mustPrecede wsX0_mustPrecede ({ frames := 0, cells := 0, slots := 0, locals := 0 }) (va_Pc [.ref h_F, .int a0, .int a1, .int a2] (fun U => U.heap.size = sz ∧ va_P (dC, dI) vwCl (wF h_F h_F_firstOf h_F_lastOf h_F_jobOf h_F_machineOf h_F_duration h_F_nextOf h_F_arcs h_F_head h_F_tail h_F_kept cI F_jobs F_size F_firstOf F_lastOf F_jobOf F_machineOf F_duration F_nextOf F_arcs F_head F_tail F_kept) U.heap ∧ va_K (dC, dI) vwCl [(cI, .int)] U ∧ va_D (fun _ => True) (wF h_F h_F_firstOf h_F_lastOf h_F_jobOf h_F_machineOf h_F_duration h_F_nextOf h_F_arcs h_F_head h_F_tail h_F_kept cI F_jobs F_size F_firstOf F_lastOf F_jobOf F_machineOf F_duration F_nextOf F_arcs F_head F_tail F_kept) ∧ nw U)) (va_Qi (fun (r : Int32) (u : Unit) => post r ) (fun u t => va_P (dC, dI) vwCl (wF h_F h_F_firstOf h_F_lastOf h_F_jobOf h_F_machineOf h_F_duration h_F_nextOf h_F_arcs h_F_head h_F_tail h_F_kept cI F_jobs F_size F_firstOf F_lastOf F_jobOf F_machineOf F_duration F_nextOf F_arcs F_head F_tail F_kept) t.heap ∧ va_K (dC, dI) vwCl [(cI, .int)] t ∧ va_D (va_A (wF h_F h_F_firstOf h_F_lastOf h_F_jobOf h_F_machineOf h_F_duration h_F_nextOf h_F_arcs h_F_head h_F_tail h_F_kept cI F_jobs F_size F_firstOf F_lastOf F_jobOf F_machineOf F_duration F_nextOf F_arcs F_head F_tail F_kept) sz) (wF h_F h_F_firstOf h_F_lastOf h_F_jobOf h_F_machineOf h_F_duration h_F_nextOf h_F_arcs h_F_head h_F_tail h_F_kept cI F_jobs F_size F_firstOf F_lastOf F_jobOf F_machineOf F_duration F_nextOf F_arcs F_head F_tail F_kept)) (va_A (wF h_F h_F_firstOf h_F_lastOf h_F_jobOf h_F_machineOf h_F_duration h_F_nextOf h_F_arcs h_F_head h_F_tail h_F_kept cI F_jobs F_size F_firstOf F_lastOf F_jobOf F_machineOf F_duration F_nextOf F_arcs F_head F_tail F_kept) sz)) 0 0 (va_A (wF h_F h_F_firstOf h_F_lastOf h_F_jobOf h_F_machineOf h_F_duration h_F_nextOf h_F_arcs h_F_head h_F_tail h_F_kept cI F_jobs F_size F_firstOf F_lastOf F_jobOf F_machineOf F_duration F_nextOf F_arcs F_head F_tail F_kept) sz) := by
  refine Met.ofW (cc := cX0_mustPrecede) (maxL := 4) (ret := (some .boolean)) (by decide) rfl ?_
  intro p e s m args below meth c s₁ B hml hv
  obtain ⟨rfl, hsz, hP, hK, hD0, hN⟩ := hv
  have hx := B.exec
  have hb := B.bytes
  have hr := B.returns
  have hts := atoms_spec (ws := wsX0_mustPrecede) B.pre
  have hown : s.vm.findClass RX0 = some m.cls := findClass_of_methodNamed B.named
  have hlocks := B.notSynchronized
  subst hsz
  have hD := hD0.self (sz := s.heap.size)
  generalize hAe : va_A (wF h_F h_F_firstOf h_F_lastOf h_F_jobOf h_F_machineOf h_F_duration h_F_nextOf h_F_arcs h_F_head h_F_tail h_F_kept cI F_jobs F_size F_firstOf F_lastOf F_jobOf F_machineOf F_duration F_nextOf F_arcs F_head F_tail F_kept) s.heap.size = A at hD ⊢
  have hA : ∀ q : Nat, s.heap.size ≤ q → A q := fun q h => by rw [← hAe]; exact Or.inr h
  have hS : va_S A s.heap s.heap [] := va_S.rf
  have hP : va_P (dC, dI) vwCl (wF h_F h_F_firstOf h_F_lastOf h_F_jobOf h_F_machineOf h_F_duration h_F_nextOf h_F_arcs h_F_head h_F_tail h_F_kept cI F_jobs F_size F_firstOf F_lastOf F_jobOf F_machineOf F_duration F_nextOf F_arcs F_head F_tail F_kept) s.heap := hP
  have hl := lv_entry ([.ref h_F, .int a0, .int a1, .int a2]) (n := 4) (Nat.le_of_ble_eq_true rfl)
  rw [lg_entry_eq]
  generalize (lg_sl ([.ref h_F, .int a0, .int a1, .int a2]) ++ List.replicate (4 - (lg_sl ([.ref h_F, .int a0, .int a1, .int a2])).length) Slot.unset).toArray = ls at hl ⊢
  have hl : lv_has ls 4 [(0, .ref h_F), (1, .int a0), (2, .int a1), (3, .int a2)] := hl
  obtain ⟨H, hH⟩ : ∃ H, H = s.heap := ⟨_, rfl⟩
  rw [← hH] at hP
  have hS : va_S A s.heap H [] := by rw [hH]; exact hS
  refine W_heap hH ?_
  unfold wp_X0_mustPrecede at hw
  have hin_X0 : ∀ w ∈ u_ws RX0 TX0 12, w ∈ wsX0_mustPrecede := by decide +kernel
  refine lv_aload_n (pc := 0) hx hb dX0_mustPrecede_0 rfl (lv_at hl 0 rfl) ?_
  refine va_get (D := (dC, dI)) (ci := 0) (v := .ref h_F_head) (C := RX0) (T := TX0) (N := 12) (pc := 1) hx hb hts hin_X0 hown hK hP 0 rfl rfl 9 (by decide) (hts (.fieldLink RX0 33 "JobShop$Floor" "head" "[I") (by decide +kernel)) (fun _ h9 => h9) rfl dX0_mustPrecede_1 ?_
  refine lv_iload_n (pc := 4) hx hb dX0_mustPrecede_4 rfl (lv_at hl 2 rfl) ?_
  obtain ⟨b_1, hw⟩ := hw
  refine va_iald (pc := 5) hx hb hK hP 8 0 rfl rfl b_1 dX0_mustPrecede_5 ?_
  refine lv_aload_n (pc := 6) hx hb dX0_mustPrecede_6 rfl (lv_at hl 0 rfl) ?_
  refine va_get (D := (dC, dI)) (ci := 0) (v := .ref h_F_duration) (C := RX0) (T := TX0) (N := 12) (pc := 7) hx hb hts hin_X0 hown hK hP 0 rfl rfl 6 (by decide) (hts (.fieldLink RX0 24 "JobShop$Floor" "duration" "[I") (by decide +kernel)) (fun _ h9 => h9) rfl dX0_mustPrecede_7 ?_
  refine lv_iload_n (pc := 10) hx hb dX0_mustPrecede_10 rfl (lv_at hl 2 rfl) ?_
  obtain ⟨b_2, hw⟩ := hw
  refine va_iald (pc := 11) hx hb hK hP 5 0 rfl rfl b_2 dX0_mustPrecede_11 ?_
  refine lv_iadd (pc := 12) hx hb dX0_mustPrecede_12 ?_
  refine lv_aload_n (pc := 13) hx hb dX0_mustPrecede_13 rfl (lv_at hl 0 rfl) ?_
  refine va_get (D := (dC, dI)) (ci := 0) (v := .ref h_F_duration) (C := RX0) (T := TX0) (N := 12) (pc := 14) hx hb hts hin_X0 hown hK hP 0 rfl rfl 6 (by decide) (hts (.fieldLink RX0 24 "JobShop$Floor" "duration" "[I") (by decide +kernel)) (fun _ h9 => h9) rfl dX0_mustPrecede_14 ?_
  refine lv_iload_n (pc := 17) hx hb dX0_mustPrecede_17 rfl (lv_at hl 1 rfl) ?_
  obtain ⟨b_3, hw⟩ := hw
  refine va_iald (pc := 18) hx hb hK hP 5 0 rfl rfl b_3 dX0_mustPrecede_18 ?_
  refine lv_iadd (pc := 19) hx hb dX0_mustPrecede_19 ?_
  refine lv_aload_n (pc := 20) hx hb dX0_mustPrecede_20 rfl (lv_at hl 0 rfl) ?_
  refine va_get (D := (dC, dI)) (ci := 0) (v := .ref h_F_tail) (C := RX0) (T := TX0) (N := 12) (pc := 21) hx hb hts hin_X0 hown hK hP 0 rfl rfl 10 (by decide) (hts (.fieldLink RX0 36 "JobShop$Floor" "tail" "[I") (by decide +kernel)) (fun _ h9 => h9) rfl dX0_mustPrecede_21 ?_
  refine lv_iload_n (pc := 24) hx hb dX0_mustPrecede_24 rfl (lv_at hl 1 rfl) ?_
  obtain ⟨b_4, hw⟩ := hw
  refine va_iald (pc := 25) hx hb hK hP 9 0 rfl rfl b_4 dX0_mustPrecede_25 ?_
  refine lv_iadd (pc := 26) hx hb dX0_mustPrecede_26 ?_
  refine lv_iload_n (pc := 27) hx hb dX0_mustPrecede_27 rfl (lv_at hl 3 rfl) ?_
  refine lv_icmp_lt (tgt := 35) (pc := 28) hx hb dX0_mustPrecede_28 (by decide) (fun c_5 => ?_) (fun c_5 => ?_)
  · have hw := hw.1 c_5
    refine lv_iconst (v := 0) (pc := 35) hx hb dX0_mustPrecede_35 (by decide) ?_
    exact W.zret (v := 0) hx hb hr rfl (fun t ht hW => ⟨⟨0, (), rfl, hw, by rw [ht]; exact hP, va_K.moved hW.alike hK, hD⟩, hS.F ht⟩) hS.2.2 dX0_mustPrecede_36
  · have hw := hw.2 c_5
    refine lv_iconst (v := 1) (pc := 31) hx hb dX0_mustPrecede_31 (by decide) ?_
    refine lv_goto (tgt := 36) (pc := 32) hx hb dX0_mustPrecede_32 (by decide) ?_
    exact W.zret (v := 1) hx hb hr rfl (fun t ht hW => ⟨⟨1, (), rfl, hw, by rw [ht]; exact hP, va_K.moved hW.alike hK, hD⟩, hS.F ht⟩) hS.2.2 dX0_mustPrecede_36
set_option maxHeartbeats 4000000 in
set_option maxRecDepth 100000 in
theorem c_X0_forceFrom (l : Launch) (dC : Nat → ClassId) (dI : Nat → Nat → Nat) (h_F h_F_firstOf h_F_lastOf h_F_jobOf h_F_machineOf h_F_duration h_F_nextOf h_F_arcs h_F_head h_F_tail h_F_kept : Nat) (sz : Nat) (cI : ClassId) (F_jobs : Int32) (F_size : Int32) (F_firstOf : Nat → Int32) (F_lastOf : Nat → Int32) (F_jobOf : Nat → Int32) (F_machineOf : Nat → Int32) (F_duration : Nat → Int32) (F_nextOf : Nat → Int32) (F_arcs : Nat → Int32) (F_head : Nat → Int32) (F_tail : Nat → Int32) (F_kept : Nat → Int32) (a0 a1 : Int32) (post : Int32 → (Nat → Int32) → (Nat → Int32) → (Nat → Int32) → Prop) (hw : wp_X0_forceFrom F_size F_machineOf F_duration F_nextOf F_arcs F_head F_tail a0 a1 post) : Met l yX0_forceFrom wsX0_forceFrom ({ frames := 4, cells := 0, slots := 0, locals := 90 }) (va_Pc [.ref h_F, .int a0, .int a1] (fun U => U.heap.size = sz ∧ va_P (dC, dI) vwCl (wF h_F h_F_firstOf h_F_lastOf h_F_jobOf h_F_machineOf h_F_duration h_F_nextOf h_F_arcs h_F_head h_F_tail h_F_kept cI F_jobs F_size F_firstOf F_lastOf F_jobOf F_machineOf F_duration F_nextOf F_arcs F_head F_tail F_kept) U.heap ∧ va_K (dC, dI) vwCl [(cI, .int)] U ∧ va_D (fun _ => True) (wF h_F h_F_firstOf h_F_lastOf h_F_jobOf h_F_machineOf h_F_duration h_F_nextOf h_F_arcs h_F_head h_F_tail h_F_kept cI F_jobs F_size F_firstOf F_lastOf F_jobOf F_machineOf F_duration F_nextOf F_arcs F_head F_tail F_kept) ∧ nw U)) (va_Qi (fun (r : Int32) (u : (Nat → Int32) × (Nat → Int32) × (Nat → Int32)) => post r u.1 u.2.1 u.2.2) (fun u t => va_P (dC, dI) vwCl (wF h_F h_F_firstOf h_F_lastOf h_F_jobOf h_F_machineOf h_F_duration h_F_nextOf h_F_arcs h_F_head h_F_tail h_F_kept cI F_jobs F_size F_firstOf F_lastOf F_jobOf F_machineOf F_duration F_nextOf u.1 u.2.1 u.2.2 F_kept) t.heap ∧ va_K (dC, dI) vwCl [(cI, .int)] t ∧ va_D (va_A (wF h_F h_F_firstOf h_F_lastOf h_F_jobOf h_F_machineOf h_F_duration h_F_nextOf h_F_arcs h_F_head h_F_tail h_F_kept cI F_jobs F_size F_firstOf F_lastOf F_jobOf F_machineOf F_duration F_nextOf F_arcs F_head F_tail F_kept) sz) (wF h_F h_F_firstOf h_F_lastOf h_F_jobOf h_F_machineOf h_F_duration h_F_nextOf h_F_arcs h_F_head h_F_tail h_F_kept cI F_jobs F_size F_firstOf F_lastOf F_jobOf F_machineOf F_duration F_nextOf u.1 u.2.1 u.2.2 F_kept)) (va_A (wF h_F h_F_firstOf h_F_lastOf h_F_jobOf h_F_machineOf h_F_duration h_F_nextOf h_F_arcs h_F_head h_F_tail h_F_kept cI F_jobs F_size F_firstOf F_lastOf F_jobOf F_machineOf F_duration F_nextOf F_arcs F_head F_tail F_kept) sz)) 0 0 (va_A (wF h_F h_F_firstOf h_F_lastOf h_F_jobOf h_F_machineOf h_F_duration h_F_nextOf h_F_arcs h_F_head h_F_tail h_F_kept cI F_jobs F_size F_firstOf F_lastOf F_jobOf F_machineOf F_duration F_nextOf F_arcs F_head F_tail F_kept) sz) := by
  refine Met.ofW (cc := cX0_forceFrom) (maxL := 4) (ret := (some .boolean)) (by decide) rfl ?_
  intro p e s m args below meth c s₁ B hml hv
  obtain ⟨rfl, hsz, hP, hK, hD0, hN⟩ := hv
  have hx := B.exec
  have hb := B.bytes
  have hr := B.returns
  have hts := atoms_spec (ws := wsX0_forceFrom) B.pre
  have hown : s.vm.findClass RX0 = some m.cls := findClass_of_methodNamed B.named
  have hlocks := B.notSynchronized
  subst hsz
  have hD := hD0.self (sz := s.heap.size)
  generalize hAe : va_A (wF h_F h_F_firstOf h_F_lastOf h_F_jobOf h_F_machineOf h_F_duration h_F_nextOf h_F_arcs h_F_head h_F_tail h_F_kept cI F_jobs F_size F_firstOf F_lastOf F_jobOf F_machineOf F_duration F_nextOf F_arcs F_head F_tail F_kept) s.heap.size = A at hD ⊢
  have hA : ∀ q : Nat, s.heap.size ≤ q → A q := fun q h => by rw [← hAe]; exact Or.inr h
  have hS : va_S A s.heap s.heap [] := va_S.rf
  have hP : va_P (dC, dI) vwCl (wF h_F h_F_firstOf h_F_lastOf h_F_jobOf h_F_machineOf h_F_duration h_F_nextOf h_F_arcs h_F_head h_F_tail h_F_kept cI F_jobs F_size F_firstOf F_lastOf F_jobOf F_machineOf F_duration F_nextOf F_arcs F_head F_tail F_kept) s.heap := hP
  have hl := lv_entry ([.ref h_F, .int a0, .int a1]) (n := 4) (Nat.le_of_ble_eq_true rfl)
  rw [lg_entry_eq]
  generalize (lg_sl ([.ref h_F, .int a0, .int a1]) ++ List.replicate (4 - (lg_sl ([.ref h_F, .int a0, .int a1])).length) Slot.unset).toArray = ls at hl ⊢
  have hl : lv_has ls 4 [(0, .ref h_F), (1, .int a0), (2, .int a1)] := hl
  obtain ⟨H, hH⟩ : ∃ H, H = s.heap := ⟨_, rfl⟩
  rw [← hH] at hP
  have hS : va_S A s.heap H [] := by rw [hH]; exact hS
  refine W_heap hH ?_
  unfold wp_X0_forceFrom at hw
  have hin_X0 : ∀ w ∈ u_ws RX0 TX0 12, w ∈ wsX0_forceFrom := by decide +kernel
  refine lv_iconst (v := 0) (pc := 0) hx hb dX0_forceFrom_0 (by decide) ?_
  refine lv_istore_n (lv' := [(3, .int 0), (0, .ref h_F), (1, .int a0), (2, .int a1)]) (pc := 1) hx hb dX0_forceFrom_1 rfl hl (by decide) rfl (fun ls hl => ?_)
  obtain ⟨I_2, μ_2, hI_2, hs_2⟩ := hw
  refine lp_W (I := fun z : Int32 × (Nat → Int32) × (Nat → Int32) × (Nat → Int32) => I_2 z.1 z.2.1 z.2.2.1 z.2.2.2) (fun z => μ_2 z.1 z.2.1 z.2.2.1 z.2.2.2) (fun (z : Int32 × (Nat → Int32) × (Nat → Int32) × (Nat → Int32)) H locs ls => va_P (dC, dI) vwCl (wF h_F h_F_firstOf h_F_lastOf h_F_jobOf h_F_machineOf h_F_duration h_F_nextOf h_F_arcs h_F_head h_F_tail h_F_kept cI F_jobs F_size F_firstOf F_lastOf F_jobOf F_machineOf F_duration F_nextOf z.2.1 z.2.2.1 z.2.2.2 F_kept) H ∧ va_D A (wF h_F h_F_firstOf h_F_lastOf h_F_jobOf h_F_machineOf h_F_duration h_F_nextOf h_F_arcs h_F_head h_F_tail h_F_kept cI F_jobs F_size F_firstOf F_lastOf F_jobOf F_machineOf F_duration F_nextOf z.2.1 z.2.2.1 z.2.2.2 F_kept) ∧ va_S A s.heap H locs ∧ lv_has ls 4 [(0, .ref h_F), (1, .int a0), (2, .int a1), (3, .int z.1)]) ?_ (0, F_arcs, F_head, F_tail) _ _ _ hI_2 ⟨hP, hD, hS, (lv_sub hl [1, 2, 3, 0] rfl)⟩
  rintro ⟨x3_2, F_arcs_2, F_head_2, F_tail_2⟩ H locs ls hI ⟨hP, hD, hS, hl⟩ ih_2
  have hw := hs_2 x3_2 F_arcs_2 F_head_2 F_tail_2 hI
  have hP : va_P (dC, dI) vwCl (wF h_F h_F_firstOf h_F_lastOf h_F_jobOf h_F_machineOf h_F_duration h_F_nextOf h_F_arcs h_F_head h_F_tail h_F_kept cI F_jobs F_size F_firstOf F_lastOf F_jobOf F_machineOf F_duration F_nextOf F_arcs_2 F_head_2 F_tail_2 F_kept) H := hP
  have hD : va_D A (wF h_F h_F_firstOf h_F_lastOf h_F_jobOf h_F_machineOf h_F_duration h_F_nextOf h_F_arcs h_F_head h_F_tail h_F_kept cI F_jobs F_size F_firstOf F_lastOf F_jobOf F_machineOf F_duration F_nextOf F_arcs_2 F_head_2 F_tail_2 F_kept) := hD
  have hl : lv_has ls 4 [(0, .ref h_F), (1, .int a0), (2, .int a1), (3, .int x3_2)] := hl
  refine lv_iload_n (pc := 2) hx hb dX0_forceFrom_2 rfl (lv_at hl 3 rfl) ?_
  refine lv_aload_n (pc := 3) hx hb dX0_forceFrom_3 rfl (lv_at hl 0 rfl) ?_
  refine va_get (D := (dC, dI)) (ci := 0) (v := .int F_size) (C := RX0) (T := TX0) (N := 12) (pc := 4) hx hb hts hin_X0 hown hK hP 0 rfl rfl 1 (by decide) (hts (.fieldLink RX0 46 "JobShop$Floor" "size" "I") (by decide +kernel)) (fun _ h9 => h9) rfl dX0_forceFrom_4 ?_
  refine lv_icmp_ge (tgt := 71) (pc := 7) hx hb dX0_forceFrom_7 (by decide) (fun c_1 => ?_) (fun c_1 => ?_)
  · have hw := hw.1 c_1
    refine lv_iconst (v := 1) (pc := 71) hx hb dX0_forceFrom_71 (by decide) ?_
    exact W.zret (v := 1) hx hb hr rfl (fun t ht hW => ⟨⟨1, (F_arcs_2, F_head_2, F_tail_2), rfl, hw, by rw [ht]; exact hP, va_K.moved hW.alike hK, hD⟩, hS.F ht⟩) hS.2.2 dX0_forceFrom_72
  · have hw := hw.2 c_1
    refine lv_aload_n (pc := 10) hx hb dX0_forceFrom_10 rfl (lv_at hl 0 rfl) ?_
    refine lv_iload_n (pc := 11) hx hb dX0_forceFrom_11 rfl (lv_at hl 1 rfl) ?_
    refine lv_iload_n (pc := 12) hx hb dX0_forceFrom_12 rfl (lv_at hl 3 rfl) ?_
    have hPx : va_P (dC, dI) vwCl ([] ++ (wF h_F h_F_firstOf h_F_lastOf h_F_jobOf h_F_machineOf h_F_duration h_F_nextOf h_F_arcs h_F_head h_F_tail h_F_kept cI F_jobs F_size F_firstOf F_lastOf F_jobOf F_machineOf F_duration F_nextOf F_arcs_2 F_head_2 F_tail_2 F_kept)) H := hP
    have hDx : va_D A ([] ++ (wF h_F h_F_firstOf h_F_lastOf h_F_jobOf h_F_machineOf h_F_duration h_F_nextOf h_F_arcs h_F_head h_F_tail h_F_kept cI F_jobs F_size F_firstOf F_lastOf F_jobOf F_machineOf F_duration F_nextOf F_arcs_2 F_head_2 F_tail_2 F_kept)) := hD
    refine kc_i (pc := 13) (w1 := (fun u : Unit => (wF h_F h_F_firstOf h_F_lastOf h_F_jobOf h_F_machineOf h_F_duration h_F_nextOf h_F_arcs h_F_head h_F_tail h_F_kept cI F_jobs F_size F_firstOf F_lastOf F_jobOf F_machineOf F_duration F_nextOf F_arcs_2 F_head_2 F_tail_2 F_kept))) (va_runV (As := [.int a0, .int x3_2]) (rest := []) ⟨hx, hb, hml, hown, hts⟩ (c_X0_isPair l dC dI h_F h_F_firstOf h_F_lastOf h_F_jobOf h_F_machineOf h_F_duration h_F_nextOf h_F_arcs h_F_head h_F_tail h_F_kept H.size cI F_jobs F_size F_firstOf F_lastOf F_jobOf F_machineOf F_duration F_nextOf F_arcs_2 F_head_2 F_tail_2 F_kept a0 x3_2 _ hw) (cwV 2 hts gX0_forceFrom_X0_isPair rfl rfl rfl (by decide +kernel) ⟨Nat.le_of_ble_eq_true rfl, Nat.le_of_ble_eq_true rfl⟩) (kc_preV (q0 := 0) (ci := 0) hK hPx hDx [0] rfl rfl rfl hN) rfl rfl hl.1 rfl (lv_room (Nat.le_of_ble_eq_true rfl)) dX0_forceFrom_13 ⟨Nat.zero_le _, Nat.zero_le _⟩) hPx hDx hS hA (fun r_13 u H locs hw hP hD hS => ?_)
    have hP : va_P (dC, dI) vwCl (wF h_F h_F_firstOf h_F_lastOf h_F_jobOf h_F_machineOf h_F_duration h_F_nextOf h_F_arcs h_F_head h_F_tail h_F_kept cI F_jobs F_size F_firstOf F_lastOf F_jobOf F_machineOf F_duration F_nextOf F_arcs_2 F_head_2 F_tail_2 F_kept) H := hP
    have hD : va_D A (wF h_F h_F_firstOf h_F_lastOf h_F_jobOf h_F_machineOf h_F_duration h_F_nextOf h_F_arcs h_F_head h_F_tail h_F_kept cI F_jobs F_size F_firstOf F_lastOf F_jobOf F_machineOf F_duration F_nextOf F_arcs_2 F_head_2 F_tail_2 F_kept) := hD
    refine lv_if_eq (tgt := 65) (pc := 16) hx hb dX0_forceFrom_16 (by decide) (fun c_2 => ?_) (fun c_2 => ?_)
    · have hw := hw.1 c_2
      refine lv_iinc (v := x3_2 + 1) (lv' := [(3, .int (x3_2 + 1)), (0, .ref h_F), (1, .int a0), (2, .int a1)]) (pc := 65) hx hb dX0_forceFrom_65 hl (k := 3) rfl rfl (by decide) rfl (fun ls hl => ?_)
      refine lv_goto (tgt := 2) (pc := 68) hx hb dX0_forceFrom_68 (by decide) ?_
      exact ih_2 ((x3_2 + 1), F_arcs_2, F_head_2, F_tail_2) _ _ _ hw.1 hw.2 ⟨hP, hD, hS, (lv_sub hl [1, 2, 3, 0] rfl)⟩
    · have hw := hw.2 c_2
      refine lv_aload_n (pc := 19) hx hb dX0_forceFrom_19 rfl (lv_at hl 0 rfl) ?_
      refine lv_iload_n (pc := 20) hx hb dX0_forceFrom_20 rfl (lv_at hl 1 rfl) ?_
      refine lv_iload_n (pc := 21) hx hb dX0_forceFrom_21 rfl (lv_at hl 3 rfl) ?_
      have hPx : va_P (dC, dI) vwCl ([] ++ (wF h_F h_F_firstOf h_F_lastOf h_F_jobOf h_F_machineOf h_F_duration h_F_nextOf h_F_arcs h_F_head h_F_tail h_F_kept cI F_jobs F_size F_firstOf F_lastOf F_jobOf F_machineOf F_duration F_nextOf F_arcs_2 F_head_2 F_tail_2 F_kept)) H := hP
      have hDx : va_D A ([] ++ (wF h_F h_F_firstOf h_F_lastOf h_F_jobOf h_F_machineOf h_F_duration h_F_nextOf h_F_arcs h_F_head h_F_tail h_F_kept cI F_jobs F_size F_firstOf F_lastOf F_jobOf F_machineOf F_duration F_nextOf F_arcs_2 F_head_2 F_tail_2 F_kept)) := hD
      refine kc_i (pc := 22) (w1 := (fun u : Unit => (wF h_F h_F_firstOf h_F_lastOf h_F_jobOf h_F_machineOf h_F_duration h_F_nextOf h_F_arcs h_F_head h_F_tail h_F_kept cI F_jobs F_size F_firstOf F_lastOf F_jobOf F_machineOf F_duration F_nextOf F_arcs_2 F_head_2 F_tail_2 F_kept))) (va_runV (As := [.int a0, .int x3_2]) (rest := []) ⟨hx, hb, hml, hown, hts⟩ (c_X0_isTied l dC dI h_F h_F_firstOf h_F_lastOf h_F_jobOf h_F_machineOf h_F_duration h_F_nextOf h_F_arcs h_F_head h_F_tail h_F_kept H.size cI F_jobs F_size F_firstOf F_lastOf F_jobOf F_machineOf F_duration F_nextOf F_arcs_2 F_head_2 F_tail_2 F_kept a0 x3_2 _ hw) (cwV 2 hts gX0_forceFrom_X0_isTied rfl rfl rfl (by decide +kernel) ⟨Nat.le_of_ble_eq_true rfl, Nat.le_of_ble_eq_true rfl⟩) (kc_preV (q0 := 0) (ci := 0) hK hPx hDx [0] rfl rfl rfl hN) rfl rfl hl.1 rfl (lv_room (Nat.le_of_ble_eq_true rfl)) dX0_forceFrom_22 ⟨Nat.zero_le _, Nat.zero_le _⟩) hPx hDx hS hA (fun r_22 u H locs hw hP hD hS => ?_)
      have hP : va_P (dC, dI) vwCl (wF h_F h_F_firstOf h_F_lastOf h_F_jobOf h_F_machineOf h_F_duration h_F_nextOf h_F_arcs h_F_head h_F_tail h_F_kept cI F_jobs F_size F_firstOf F_lastOf F_jobOf F_machineOf F_duration F_nextOf F_arcs_2 F_head_2 F_tail_2 F_kept) H := hP
      have hD : va_D A (wF h_F h_F_firstOf h_F_lastOf h_F_jobOf h_F_machineOf h_F_duration h_F_nextOf h_F_arcs h_F_head h_F_tail h_F_kept cI F_jobs F_size F_firstOf F_lastOf F_jobOf F_machineOf F_duration F_nextOf F_arcs_2 F_head_2 F_tail_2 F_kept) := hD
      refine lv_if_ne (tgt := 65) (pc := 25) hx hb dX0_forceFrom_25 (by decide) (fun c_3 => ?_) (fun c_3 => ?_)
      · have hw := hw.1 c_3
        refine lv_iinc (v := x3_2 + 1) (lv' := [(3, .int (x3_2 + 1)), (0, .ref h_F), (1, .int a0), (2, .int a1)]) (pc := 65) hx hb dX0_forceFrom_65 hl (k := 3) rfl rfl (by decide) rfl (fun ls hl => ?_)
        refine lv_goto (tgt := 2) (pc := 68) hx hb dX0_forceFrom_68 (by decide) ?_
        exact ih_2 ((x3_2 + 1), F_arcs_2, F_head_2, F_tail_2) _ _ _ hw.1 hw.2 ⟨hP, hD, hS, (lv_sub hl [1, 2, 3, 0] rfl)⟩
      · have hw := hw.2 c_3
        refine lv_aload_n (pc := 28) hx hb dX0_forceFrom_28 rfl (lv_at hl 0 rfl) ?_
        refine lv_iload_n (pc := 29) hx hb dX0_forceFrom_29 rfl (lv_at hl 1 rfl) ?_
        refine lv_iload_n (pc := 30) hx hb dX0_forceFrom_30 rfl (lv_at hl 3 rfl) ?_
        refine lv_iload_n (pc := 31) hx hb dX0_forceFrom_31 rfl (lv_at hl 2 rfl) ?_
        have hPx : va_P (dC, dI) vwCl ([] ++ (wF h_F h_F_firstOf h_F_lastOf h_F_jobOf h_F_machineOf h_F_duration h_F_nextOf h_F_arcs h_F_head h_F_tail h_F_kept cI F_jobs F_size F_firstOf F_lastOf F_jobOf F_machineOf F_duration F_nextOf F_arcs_2 F_head_2 F_tail_2 F_kept)) H := hP
        have hDx : va_D A ([] ++ (wF h_F h_F_firstOf h_F_lastOf h_F_jobOf h_F_machineOf h_F_duration h_F_nextOf h_F_arcs h_F_head h_F_tail h_F_kept cI F_jobs F_size F_firstOf F_lastOf F_jobOf F_machineOf F_duration F_nextOf F_arcs_2 F_head_2 F_tail_2 F_kept)) := hD
        refine kc_i (pc := 32) (w1 := (fun u : Unit => (wF h_F h_F_firstOf h_F_lastOf h_F_jobOf h_F_machineOf h_F_duration h_F_nextOf h_F_arcs h_F_head h_F_tail h_F_kept cI F_jobs F_size F_firstOf F_lastOf F_jobOf F_machineOf F_duration F_nextOf F_arcs_2 F_head_2 F_tail_2 F_kept))) (va_runV (As := [.int a0, .int x3_2, .int a1]) (rest := []) ⟨hx, hb, hml, hown, hts⟩ (c_X0_mustPrecede l dC dI h_F h_F_firstOf h_F_lastOf h_F_jobOf h_F_machineOf h_F_duration h_F_nextOf h_F_arcs h_F_head h_F_tail h_F_kept H.size cI F_jobs F_size F_firstOf F_lastOf F_jobOf F_machineOf F_duration F_nextOf F_arcs_2 F_head_2 F_tail_2 F_kept a0 x3_2 a1 _ hw) (cwV 3 hts gX0_forceFrom_X0_mustPrecede rfl rfl rfl (by decide +kernel) ⟨Nat.le_of_ble_eq_true rfl, Nat.le_of_ble_eq_true rfl⟩) (kc_preV (q0 := 0) (ci := 0) hK hPx hDx [0] rfl rfl rfl hN) rfl rfl hl.1 rfl (lv_room (Nat.le_of_ble_eq_true rfl)) dX0_forceFrom_32 ⟨Nat.zero_le _, Nat.zero_le _⟩) hPx hDx hS hA (fun r_32 u H locs hw hP hD hS => ?_)
        have hP : va_P (dC, dI) vwCl (wF h_F h_F_firstOf h_F_lastOf h_F_jobOf h_F_machineOf h_F_duration h_F_nextOf h_F_arcs h_F_head h_F_tail h_F_kept cI F_jobs F_size F_firstOf F_lastOf F_jobOf F_machineOf F_duration F_nextOf F_arcs_2 F_head_2 F_tail_2 F_kept) H := hP
        have hD : va_D A (wF h_F h_F_firstOf h_F_lastOf h_F_jobOf h_F_machineOf h_F_duration h_F_nextOf h_F_arcs h_F_head h_F_tail h_F_kept cI F_jobs F_size F_firstOf F_lastOf F_jobOf F_machineOf F_duration F_nextOf F_arcs_2 F_head_2 F_tail_2 F_kept) := hD
        refine lv_if_eq (tgt := 65) (pc := 35) hx hb dX0_forceFrom_35 (by decide) (fun c_4 => ?_) (fun c_4 => ?_)
        · have hw := hw.1 c_4
          refine lv_iinc (v := x3_2 + 1) (lv' := [(3, .int (x3_2 + 1)), (0, .ref h_F), (1, .int a0), (2, .int a1)]) (pc := 65) hx hb dX0_forceFrom_65 hl (k := 3) rfl rfl (by decide) rfl (fun ls hl => ?_)
          refine lv_goto (tgt := 2) (pc := 68) hx hb dX0_forceFrom_68 (by decide) ?_
          exact ih_2 ((x3_2 + 1), F_arcs_2, F_head_2, F_tail_2) _ _ _ hw.1 hw.2 ⟨hP, hD, hS, (lv_sub hl [1, 2, 3, 0] rfl)⟩
        · have hw := hw.2 c_4
          refine lv_aload_n (pc := 38) hx hb dX0_forceFrom_38 rfl (lv_at hl 0 rfl) ?_
          refine lv_iload_n (pc := 39) hx hb dX0_forceFrom_39 rfl (lv_at hl 3 rfl) ?_
          refine lv_iload_n (pc := 40) hx hb dX0_forceFrom_40 rfl (lv_at hl 1 rfl) ?_
          refine lv_iload_n (pc := 41) hx hb dX0_forceFrom_41 rfl (lv_at hl 2 rfl) ?_
          have hPx : va_P (dC, dI) vwCl ([] ++ (wF h_F h_F_firstOf h_F_lastOf h_F_jobOf h_F_machineOf h_F_duration h_F_nextOf h_F_arcs h_F_head h_F_tail h_F_kept cI F_jobs F_size F_firstOf F_lastOf F_jobOf F_machineOf F_duration F_nextOf F_arcs_2 F_head_2 F_tail_2 F_kept)) H := hP
          have hDx : va_D A ([] ++ (wF h_F h_F_firstOf h_F_lastOf h_F_jobOf h_F_machineOf h_F_duration h_F_nextOf h_F_arcs h_F_head h_F_tail h_F_kept cI F_jobs F_size F_firstOf F_lastOf F_jobOf F_machineOf F_duration F_nextOf F_arcs_2 F_head_2 F_tail_2 F_kept)) := hD
          refine kc_i (pc := 42) (w1 := (fun u : Unit => (wF h_F h_F_firstOf h_F_lastOf h_F_jobOf h_F_machineOf h_F_duration h_F_nextOf h_F_arcs h_F_head h_F_tail h_F_kept cI F_jobs F_size F_firstOf F_lastOf F_jobOf F_machineOf F_duration F_nextOf F_arcs_2 F_head_2 F_tail_2 F_kept))) (va_runV (As := [.int x3_2, .int a0, .int a1]) (rest := []) ⟨hx, hb, hml, hown, hts⟩ (c_X0_mustPrecede l dC dI h_F h_F_firstOf h_F_lastOf h_F_jobOf h_F_machineOf h_F_duration h_F_nextOf h_F_arcs h_F_head h_F_tail h_F_kept H.size cI F_jobs F_size F_firstOf F_lastOf F_jobOf F_machineOf F_duration F_nextOf F_arcs_2 F_head_2 F_tail_2 F_kept x3_2 a0 a1 _ hw) (cwV 3 hts gX0_forceFrom_X0_mustPrecede rfl rfl rfl (by decide +kernel) ⟨Nat.le_of_ble_eq_true rfl, Nat.le_of_ble_eq_true rfl⟩) (kc_preV (q0 := 0) (ci := 0) hK hPx hDx [0] rfl rfl rfl hN) rfl rfl hl.1 rfl (lv_room (Nat.le_of_ble_eq_true rfl)) dX0_forceFrom_42 ⟨Nat.zero_le _, Nat.zero_le _⟩) hPx hDx hS hA (fun r_42 u H locs hw hP hD hS => ?_)
          have hP : va_P (dC, dI) vwCl (wF h_F h_F_firstOf h_F_lastOf h_F_jobOf h_F_machineOf h_F_duration h_F_nextOf h_F_arcs h_F_head h_F_tail h_F_kept cI F_jobs F_size F_firstOf F_lastOf F_jobOf F_machineOf F_duration F_nextOf F_arcs_2 F_head_2 F_tail_2 F_kept) H := hP
          have hD : va_D A (wF h_F h_F_firstOf h_F_lastOf h_F_jobOf h_F_machineOf h_F_duration h_F_nextOf h_F_arcs h_F_head h_F_tail h_F_kept cI F_jobs F_size F_firstOf F_lastOf F_jobOf F_machineOf F_duration F_nextOf F_arcs_2 F_head_2 F_tail_2 F_kept) := hD
          refine lv_if_ne (tgt := 57) (pc := 45) hx hb dX0_forceFrom_45 (by decide) (fun c_5 => ?_) (fun c_5 => ?_)
          · have hw := hw.1 c_5
            refine lv_iconst (v := 0) (pc := 57) hx hb dX0_forceFrom_57 (by decide) ?_
            exact W.zret (v := 0) hx hb hr rfl (fun t ht hW => ⟨⟨0, (F_arcs_2, F_head_2, F_tail_2), rfl, hw, by rw [ht]; exact hP, va_K.moved hW.alike hK, hD⟩, hS.F ht⟩) hS.2.2 dX0_forceFrom_58
          · have hw := hw.2 c_5
            refine lv_aload_n (pc := 48) hx hb dX0_forceFrom_48 rfl (lv_at hl 0 rfl) ?_
            refine lv_iload_n (pc := 49) hx hb dX0_forceFrom_49 rfl (lv_at hl 3 rfl) ?_
            refine lv_iload_n (pc := 50) hx hb dX0_forceFrom_50 rfl (lv_at hl 1 rfl) ?_
            have hPx : va_P (dC, dI) vwCl ([] ++ (wF h_F h_F_firstOf h_F_lastOf h_F_jobOf h_F_machineOf h_F_duration h_F_nextOf h_F_arcs h_F_head h_F_tail h_F_kept cI F_jobs F_size F_firstOf F_lastOf F_jobOf F_machineOf F_duration F_nextOf F_arcs_2 F_head_2 F_tail_2 F_kept)) H := hP
            have hDx : va_D A ([] ++ (wF h_F h_F_firstOf h_F_lastOf h_F_jobOf h_F_machineOf h_F_duration h_F_nextOf h_F_arcs h_F_head h_F_tail h_F_kept cI F_jobs F_size F_firstOf F_lastOf F_jobOf F_machineOf F_duration F_nextOf F_arcs_2 F_head_2 F_tail_2 F_kept)) := hD
            refine kc_i (pc := 51) (w1 := (fun u : Unit => (wF h_F h_F_firstOf h_F_lastOf h_F_jobOf h_F_machineOf h_F_duration h_F_nextOf h_F_arcs h_F_head h_F_tail h_F_kept cI F_jobs F_size F_firstOf F_lastOf F_jobOf F_machineOf F_duration F_nextOf F_arcs_2 F_head_2 F_tail_2 F_kept))) (va_runV (As := [.int x3_2, .int a0]) (rest := []) ⟨hx, hb, hml, hown, hts⟩ (c_X0_leads l dC dI h_F h_F_firstOf h_F_lastOf h_F_jobOf h_F_machineOf h_F_duration h_F_nextOf h_F_arcs h_F_head h_F_tail h_F_kept H.size cI F_jobs F_size F_firstOf F_lastOf F_jobOf F_machineOf F_duration F_nextOf F_arcs_2 F_head_2 F_tail_2 F_kept x3_2 a0 _ hw) (cwV 2 hts gX0_forceFrom_X0_leads rfl rfl rfl (by decide +kernel) ⟨Nat.le_of_ble_eq_true rfl, Nat.le_of_ble_eq_true rfl⟩) (kc_preV (q0 := 0) (ci := 0) hK hPx hDx [0] rfl rfl rfl hN) rfl rfl hl.1 rfl (lv_room (Nat.le_of_ble_eq_true rfl)) dX0_forceFrom_51 ⟨Nat.zero_le _, Nat.zero_le _⟩) hPx hDx hS hA (fun r_51 u H locs hw hP hD hS => ?_)
            have hP : va_P (dC, dI) vwCl (wF h_F h_F_firstOf h_F_lastOf h_F_jobOf h_F_machineOf h_F_duration h_F_nextOf h_F_arcs h_F_head h_F_tail h_F_kept cI F_jobs F_size F_firstOf F_lastOf F_jobOf F_machineOf F_duration F_nextOf F_arcs_2 F_head_2 F_tail_2 F_kept) H := hP
            have hD : va_D A (wF h_F h_F_firstOf h_F_lastOf h_F_jobOf h_F_machineOf h_F_duration h_F_nextOf h_F_arcs h_F_head h_F_tail h_F_kept cI F_jobs F_size F_firstOf F_lastOf F_jobOf F_machineOf F_duration F_nextOf F_arcs_2 F_head_2 F_tail_2 F_kept) := hD
            refine lv_if_eq (tgt := 59) (pc := 54) hx hb dX0_forceFrom_54 (by decide) (fun c_6 => ?_) (fun c_6 => ?_)
            · have hw := hw.1 c_6
              refine lv_aload_n (pc := 59) hx hb dX0_forceFrom_59 rfl (lv_at hl 0 rfl) ?_
              refine lv_iload_n (pc := 60) hx hb dX0_forceFrom_60 rfl (lv_at hl 1 rfl) ?_
              refine lv_iload_n (pc := 61) hx hb dX0_forceFrom_61 rfl (lv_at hl 3 rfl) ?_
              have hPx : va_P (dC, dI) vwCl ([] ++ (wF h_F h_F_firstOf h_F_lastOf h_F_jobOf h_F_machineOf h_F_duration h_F_nextOf h_F_arcs h_F_head h_F_tail h_F_kept cI F_jobs F_size F_firstOf F_lastOf F_jobOf F_machineOf F_duration F_nextOf F_arcs_2 F_head_2 F_tail_2 F_kept)) H := hP
              have hDx : va_D A ([] ++ (wF h_F h_F_firstOf h_F_lastOf h_F_jobOf h_F_machineOf h_F_duration h_F_nextOf h_F_arcs h_F_head h_F_tail h_F_kept cI F_jobs F_size F_firstOf F_lastOf F_jobOf F_machineOf F_duration F_nextOf F_arcs_2 F_head_2 F_tail_2 F_kept)) := hD
              refine kc_v (pc := 62) (w1 := (fun u : (Nat → Int32) × (Nat → Int32) × (Nat → Int32) => (wF h_F h_F_firstOf h_F_lastOf h_F_jobOf h_F_machineOf h_F_duration h_F_nextOf h_F_arcs h_F_head h_F_tail h_F_kept cI F_jobs F_size F_firstOf F_lastOf F_jobOf F_machineOf F_duration F_nextOf u.1 u.2.1 u.2.2 F_kept))) (va_runV (As := [.int a0, .int x3_2]) (rest := []) ⟨hx, hb, hml, hown, hts⟩ (c_X0_putArc l dC dI h_F h_F_firstOf h_F_lastOf h_F_jobOf h_F_machineOf h_F_duration h_F_nextOf h_F_arcs h_F_head h_F_tail h_F_kept H.size cI F_jobs F_size F_firstOf F_lastOf F_jobOf F_machineOf F_duration F_nextOf F_arcs_2 F_head_2 F_tail_2 F_kept a0 x3_2 _ hw) (cwV 2 hts gX0_forceFrom_X0_putArc rfl rfl rfl (by decide +kernel) ⟨Nat.le_of_ble_eq_true rfl, Nat.le_of_ble_eq_true rfl⟩) (kc_preV (q0 := 0) (ci := 0) hK hPx hDx [0] rfl rfl rfl hN) rfl rfl hl.1 rfl (lv_room (Nat.le_of_ble_eq_true rfl)) dX0_forceFrom_62 ⟨Nat.zero_le _, Nat.zero_le _⟩) hPx hDx hS hA (fun u H locs hw hP hD hS => ?_)
              obtain ⟨F_arcs_62, F_head_62, F_tail_62⟩ := u
              have hP : va_P (dC, dI) vwCl (wF h_F h_F_firstOf h_F_lastOf h_F_jobOf h_F_machineOf h_F_duration h_F_nextOf h_F_arcs h_F_head h_F_tail h_F_kept cI F_jobs F_size F_firstOf F_lastOf F_jobOf F_machineOf F_duration F_nextOf F_arcs_62 F_head_62 F_tail_62 F_kept) H := hP
              have hD : va_D A (wF h_F h_F_firstOf h_F_lastOf h_F_jobOf h_F_machineOf h_F_duration h_F_nextOf h_F_arcs h_F_head h_F_tail h_F_kept cI F_jobs F_size F_firstOf F_lastOf F_jobOf F_machineOf F_duration F_nextOf F_arcs_62 F_head_62 F_tail_62 F_kept) := hD
              refine lv_iinc (v := x3_2 + 1) (lv' := [(3, .int (x3_2 + 1)), (0, .ref h_F), (1, .int a0), (2, .int a1)]) (pc := 65) hx hb dX0_forceFrom_65 hl (k := 3) rfl rfl (by decide) rfl (fun ls hl => ?_)
              refine lv_goto (tgt := 2) (pc := 68) hx hb dX0_forceFrom_68 (by decide) ?_
              exact ih_2 ((x3_2 + 1), F_arcs_62, F_head_62, F_tail_62) _ _ _ hw.1 hw.2 ⟨hP, hD, hS, (lv_sub hl [1, 2, 3, 0] rfl)⟩
            · have hw := hw.2 c_6
              refine lv_iconst (v := 0) (pc := 57) hx hb dX0_forceFrom_57 (by decide) ?_
              exact W.zret (v := 0) hx hb hr rfl (fun t ht hW => ⟨⟨0, (F_arcs_2, F_head_2, F_tail_2), rfl, hw, by rw [ht]; exact hP, va_K.moved hW.alike hK, hD⟩, hS.F ht⟩) hS.2.2 dX0_forceFrom_58
set_option maxHeartbeats 4000000 in
set_option maxRecDepth 100000 in
theorem c_X0_force (l : Launch) (dC : Nat → ClassId) (dI : Nat → Nat → Nat) (h_F h_F_firstOf h_F_lastOf h_F_jobOf h_F_machineOf h_F_duration h_F_nextOf h_F_arcs h_F_head h_F_tail h_F_kept : Nat) (sz : Nat) (cI : ClassId) (F_jobs : Int32) (F_size : Int32) (F_firstOf : Nat → Int32) (F_lastOf : Nat → Int32) (F_jobOf : Nat → Int32) (F_machineOf : Nat → Int32) (F_duration : Nat → Int32) (F_nextOf : Nat → Int32) (F_arcs : Nat → Int32) (F_head : Nat → Int32) (F_tail : Nat → Int32) (F_kept : Nat → Int32) (a0 : Int32) (post : Int32 → (Nat → Int32) → (Nat → Int32) → (Nat → Int32) → (Nat → Int32) → Prop) (hw : wp_X0_force F_size F_machineOf F_duration F_nextOf F_arcs F_head F_tail F_kept a0 post) : Met l yX0_force wsX0_force ({ frames := 5, cells := 0, slots := 0, locals := 113 }) (va_Pc [.ref h_F, .int a0] (fun U => U.heap.size = sz ∧ va_P (dC, dI) vwCl (wF h_F h_F_firstOf h_F_lastOf h_F_jobOf h_F_machineOf h_F_duration h_F_nextOf h_F_arcs h_F_head h_F_tail h_F_kept cI F_jobs F_size F_firstOf F_lastOf F_jobOf F_machineOf F_duration F_nextOf F_arcs F_head F_tail F_kept) U.heap ∧ va_K (dC, dI) vwCl [(cI, .int)] U ∧ va_D (fun _ => True) (wF h_F h_F_firstOf h_F_lastOf h_F_jobOf h_F_machineOf h_F_duration h_F_nextOf h_F_arcs h_F_head h_F_tail h_F_kept cI F_jobs F_size F_firstOf F_lastOf F_jobOf F_machineOf F_duration F_nextOf F_arcs F_head F_tail F_kept) ∧ nw U)) (va_Qi (fun (r : Int32) (u : (Nat → Int32) × (Nat → Int32) × (Nat → Int32) × (Nat → Int32)) => post r u.1 u.2.1 u.2.2.1 u.2.2.2) (fun u t => va_P (dC, dI) vwCl (wF h_F h_F_firstOf h_F_lastOf h_F_jobOf h_F_machineOf h_F_duration h_F_nextOf h_F_arcs h_F_head h_F_tail h_F_kept cI F_jobs F_size F_firstOf F_lastOf F_jobOf F_machineOf F_duration F_nextOf u.1 u.2.1 u.2.2.1 u.2.2.2) t.heap ∧ va_K (dC, dI) vwCl [(cI, .int)] t ∧ va_D (va_A (wF h_F h_F_firstOf h_F_lastOf h_F_jobOf h_F_machineOf h_F_duration h_F_nextOf h_F_arcs h_F_head h_F_tail h_F_kept cI F_jobs F_size F_firstOf F_lastOf F_jobOf F_machineOf F_duration F_nextOf F_arcs F_head F_tail F_kept) sz) (wF h_F h_F_firstOf h_F_lastOf h_F_jobOf h_F_machineOf h_F_duration h_F_nextOf h_F_arcs h_F_head h_F_tail h_F_kept cI F_jobs F_size F_firstOf F_lastOf F_jobOf F_machineOf F_duration F_nextOf u.1 u.2.1 u.2.2.1 u.2.2.2)) (va_A (wF h_F h_F_firstOf h_F_lastOf h_F_jobOf h_F_machineOf h_F_duration h_F_nextOf h_F_arcs h_F_head h_F_tail h_F_kept cI F_jobs F_size F_firstOf F_lastOf F_jobOf F_machineOf F_duration F_nextOf F_arcs F_head F_tail F_kept) sz)) 0 0 (va_A (wF h_F h_F_firstOf h_F_lastOf h_F_jobOf h_F_machineOf h_F_duration h_F_nextOf h_F_arcs h_F_head h_F_tail h_F_kept cI F_jobs F_size F_firstOf F_lastOf F_jobOf F_machineOf F_duration F_nextOf F_arcs F_head F_tail F_kept) sz) := by
  refine Met.ofW (cc := cX0_force) (maxL := 7) (ret := (some .int)) (by decide) rfl ?_
  intro p e s m args below meth c s₁ B hml hv
  obtain ⟨rfl, hsz, hP, hK, hD0, hN⟩ := hv
  have hx := B.exec
  have hb := B.bytes
  have hr := B.returns
  have hts := atoms_spec (ws := wsX0_force) B.pre
  have hown : s.vm.findClass RX0 = some m.cls := findClass_of_methodNamed B.named
  have hlocks := B.notSynchronized
  subst hsz
  have hD := hD0.self (sz := s.heap.size)
  generalize hAe : va_A (wF h_F h_F_firstOf h_F_lastOf h_F_jobOf h_F_machineOf h_F_duration h_F_nextOf h_F_arcs h_F_head h_F_tail h_F_kept cI F_jobs F_size F_firstOf F_lastOf F_jobOf F_machineOf F_duration F_nextOf F_arcs F_head F_tail F_kept) s.heap.size = A at hD ⊢
  have hA : ∀ q : Nat, s.heap.size ≤ q → A q := fun q h => by rw [← hAe]; exact Or.inr h
  have hS : va_S A s.heap s.heap [] := va_S.rf
  have hP : va_P (dC, dI) vwCl (wF h_F h_F_firstOf h_F_lastOf h_F_jobOf h_F_machineOf h_F_duration h_F_nextOf h_F_arcs h_F_head h_F_tail h_F_kept cI F_jobs F_size F_firstOf F_lastOf F_jobOf F_machineOf F_duration F_nextOf F_arcs F_head F_tail F_kept) s.heap := hP
  have hl := lv_entry ([.ref h_F, .int a0]) (n := 7) (Nat.le_of_ble_eq_true rfl)
  rw [lg_entry_eq]
  generalize (lg_sl ([.ref h_F, .int a0]) ++ List.replicate (7 - (lg_sl ([.ref h_F, .int a0])).length) Slot.unset).toArray = ls at hl ⊢
  have hl : lv_has ls 7 [(0, .ref h_F), (1, .int a0)] := hl
  obtain ⟨H, hH⟩ : ∃ H, H = s.heap := ⟨_, rfl⟩
  rw [← hH] at hP
  have hS : va_S A s.heap H [] := by rw [hH]; exact hS
  refine W_heap hH ?_
  unfold wp_X0_force at hw
  have hin_X0 : ∀ w ∈ u_ws RX0 TX0 12, w ∈ wsX0_force := by decide +kernel
  refine lv_aload_n (pc := 0) hx hb dX0_force_0 rfl (lv_at hl 0 rfl) ?_
  refine va_get (D := (dC, dI)) (ci := 0) (v := .ref h_F_arcs) (C := RX0) (T := TX0) (N := 12) (pc := 1) hx hb hts hin_X0 hown hK hP 0 rfl rfl 8 (by decide) (hts (.fieldLink RX0 30 "JobShop$Floor" "arcs" "[I") (by decide +kernel)) (fun _ h9 => h9) rfl dX0_force_1 ?_
  refine lv_iconst (v := 0) (pc := 4) hx hb dX0_force_4 (by decide) ?_
  refine lv_aload_n (pc := 5) hx hb dX0_force_5 rfl (lv_at hl 0 rfl) ?_
  refine va_get (D := (dC, dI)) (ci := 0) (v := .ref h_F_kept) (C := RX0) (T := TX0) (N := 12) (pc := 6) hx hb hts hin_X0 hown hK hP 0 rfl rfl 11 (by decide) (hts (.fieldLink RX0 39 "JobShop$Floor" "kept" "[I") (by decide +kernel)) (fun _ h9 => h9) rfl dX0_force_6 ?_
  refine lv_iconst (v := 0) (pc := 9) hx hb dX0_force_9 (by decide) ?_
  refine lv_aload_n (pc := 10) hx hb dX0_force_10 rfl (lv_at hl 0 rfl) ?_
  refine va_get (D := (dC, dI)) (ci := 0) (v := .int F_size) (C := RX0) (T := TX0) (N := 12) (pc := 11) hx hb hts hin_X0 hown hK hP 0 rfl rfl 1 (by decide) (hts (.fieldLink RX0 46 "JobShop$Floor" "size" "I") (by decide +kernel)) (fun _ h9 => h9) rfl dX0_force_11 ?_
  obtain ⟨n1, n2, n3, hw⟩ := hw
  refine va_copyi (pc := 14) hx hb (hml.trans hl.1.symm) hown (hts (.methodLink RX0 95 arraycopyName) (by decide +kernel)) (hts (.native arraycopyName) (by decide +kernel)) (hts (.static arraycopyName) (by decide +kernel)) (hts (.initialized "java/lang/System") (by decide +kernel)) hK hP hD hS 7 10 0 0 rfl rfl rfl rfl rfl (by decide) (by decide) n1 (cp_le n2) (cp_le n3) (fun _ _ => rfl) (Nat.le_of_ble_eq_true rfl) (by decide +kernel) dX0_force_14 (fun H locs hP hD hS => ?_)
  have hP : va_P (dC, dI) vwCl (wF h_F h_F_firstOf h_F_lastOf h_F_jobOf h_F_machineOf h_F_duration h_F_nextOf h_F_arcs h_F_head h_F_tail h_F_kept cI F_jobs F_size F_firstOf F_lastOf F_jobOf F_machineOf F_duration F_nextOf F_arcs F_head F_tail (va_cpy F_arcs F_kept (0 : Int32).toNatClampNeg (0 : Int32).toNatClampNeg F_size.toNatClampNeg)) H := hP
  have hD : va_D A (wF h_F h_F_firstOf h_F_lastOf h_F_jobOf h_F_machineOf h_F_duration h_F_nextOf h_F_arcs h_F_head h_F_tail h_F_kept cI F_jobs F_size F_firstOf F_lastOf F_jobOf F_machineOf F_duration F_nextOf F_arcs F_head F_tail (va_cpy F_arcs F_kept (0 : Int32).toNatClampNeg (0 : Int32).toNatClampNeg F_size.toNatClampNeg)) := hD
  refine lv_aload_n (pc := 17) hx hb dX0_force_17 rfl (lv_at hl 0 rfl) ?_
  have hPx : va_P (dC, dI) vwCl ([] ++ (wF h_F h_F_firstOf h_F_lastOf h_F_jobOf h_F_machineOf h_F_duration h_F_nextOf h_F_arcs h_F_head h_F_tail h_F_kept cI F_jobs F_size F_firstOf F_lastOf F_jobOf F_machineOf F_duration F_nextOf F_arcs F_head F_tail (va_cpy F_arcs F_kept (0 : Int32).toNatClampNeg (0 : Int32).toNatClampNeg F_size.toNatClampNeg))) H := hP
  have hDx : va_D A ([] ++ (wF h_F h_F_firstOf h_F_lastOf h_F_jobOf h_F_machineOf h_F_duration h_F_nextOf h_F_arcs h_F_head h_F_tail h_F_kept cI F_jobs F_size F_firstOf F_lastOf F_jobOf F_machineOf F_duration F_nextOf F_arcs F_head F_tail (va_cpy F_arcs F_kept (0 : Int32).toNatClampNeg (0 : Int32).toNatClampNeg F_size.toNatClampNeg))) := hD
  refine kc_i (pc := 18) (w1 := (fun u : Unit => (wF h_F h_F_firstOf h_F_lastOf h_F_jobOf h_F_machineOf h_F_duration h_F_nextOf h_F_arcs h_F_head h_F_tail h_F_kept cI F_jobs F_size F_firstOf F_lastOf F_jobOf F_machineOf F_duration F_nextOf F_arcs F_head F_tail (va_cpy F_arcs F_kept (0 : Int32).toNatClampNeg (0 : Int32).toNatClampNeg F_size.toNatClampNeg)))) (va_runV (As := []) (rest := []) ⟨hx, hb, hml, hown, hts⟩ (c_X0_tiedPairs l dC dI h_F h_F_firstOf h_F_lastOf h_F_jobOf h_F_machineOf h_F_duration h_F_nextOf h_F_arcs h_F_head h_F_tail h_F_kept H.size cI F_jobs F_size F_firstOf F_lastOf F_jobOf F_machineOf F_duration F_nextOf F_arcs F_head F_tail (va_cpy F_arcs F_kept (0 : Int32).toNatClampNeg (0 : Int32).toNatClampNeg F_size.toNatClampNeg) _ hw) (cwV 0 hts gX0_force_X0_tiedPairs rfl rfl rfl (by decide +kernel) ⟨Nat.le_of_ble_eq_true rfl, Nat.le_of_ble_eq_true rfl⟩) (kc_preV (q0 := 0) (ci := 0) hK hPx hDx [0] rfl rfl rfl hN) rfl rfl hl.1 rfl (lv_room (Nat.le_of_ble_eq_true rfl)) dX0_force_18 ⟨Nat.zero_le _, Nat.zero_le _⟩) hPx hDx hS hA (fun r_18 u H locs hw hP hD hS => ?_)
  have hP : va_P (dC, dI) vwCl (wF h_F h_F_firstOf h_F_lastOf h_F_jobOf h_F_machineOf h_F_duration h_F_nextOf h_F_arcs h_F_head h_F_tail h_F_kept cI F_jobs F_size F_firstOf F_lastOf F_jobOf F_machineOf F_duration F_nextOf F_arcs F_head F_tail (va_cpy F_arcs F_kept (0 : Int32).toNatClampNeg (0 : Int32).toNatClampNeg F_size.toNatClampNeg)) H := hP
  have hD : va_D A (wF h_F h_F_firstOf h_F_lastOf h_F_jobOf h_F_machineOf h_F_duration h_F_nextOf h_F_arcs h_F_head h_F_tail h_F_kept cI F_jobs F_size F_firstOf F_lastOf F_jobOf F_machineOf F_duration F_nextOf F_arcs F_head F_tail (va_cpy F_arcs F_kept (0 : Int32).toNatClampNeg (0 : Int32).toNatClampNeg F_size.toNatClampNeg)) := hD
  refine lv_istore_n (lv' := [(2, .int r_18), (0, .ref h_F), (1, .int a0)]) (pc := 21) hx hb dX0_force_21 rfl hl (by decide) rfl (fun ls hl => ?_)
  refine lv_iconst (v := (-1)) (pc := 22) hx hb dX0_force_22 (by decide) ?_
  refine lv_istore_n (lv' := [(3, .int (-1)), (2, .int r_18), (0, .ref h_F), (1, .int a0)]) (pc := 23) hx hb dX0_force_23 rfl hl (by decide) rfl (fun ls hl => ?_)
  refine lv_iconst (v := 1) (pc := 24) hx hb dX0_force_24 (by decide) ?_
  refine lv_istore (lv' := [(4, .int 1), (3, .int (-1)), (2, .int r_18), (0, .ref h_F), (1, .int a0)]) (pc := 25) hx hb dX0_force_25 hl (by decide) rfl (fun ls hl => ?_)
  refine lv_iconst (v := 0) (pc := 27) hx hb dX0_force_27 (by decide) ?_
  refine lv_istore (lv' := [(5, .int 0), (4, .int 1), (3, .int (-1)), (2, .int r_18), (0, .ref h_F), (1, .int a0)]) (pc := 28) hx hb dX0_force_28 hl (by decide) rfl (fun ls hl => ?_)
  obtain ⟨I_30, μ_30, hI_30, hs_30⟩ := hw
  refine lp_W (I := fun z : Int32 × Int32 × Int32 × (Nat → Int32) × (Nat → Int32) × (Nat → Int32) => I_30 z.1 z.2.1 z.2.2.1 z.2.2.2.1 z.2.2.2.2.1 z.2.2.2.2.2) (fun z => μ_30 z.1 z.2.1 z.2.2.1 z.2.2.2.1 z.2.2.2.2.1 z.2.2.2.2.2) (fun (z : Int32 × Int32 × Int32 × (Nat → Int32) × (Nat → Int32) × (Nat → Int32)) H locs ls => va_P (dC, dI) vwCl (wF h_F h_F_firstOf h_F_lastOf h_F_jobOf h_F_machineOf h_F_duration h_F_nextOf h_F_arcs h_F_head h_F_tail h_F_kept cI F_jobs F_size F_firstOf F_lastOf F_jobOf F_machineOf F_duration F_nextOf z.2.2.2.1 z.2.2.2.2.1 z.2.2.2.2.2 (va_cpy F_arcs F_kept (0 : Int32).toNatClampNeg (0 : Int32).toNatClampNeg F_size.toNatClampNeg)) H ∧ va_D A (wF h_F h_F_firstOf h_F_lastOf h_F_jobOf h_F_machineOf h_F_duration h_F_nextOf h_F_arcs h_F_head h_F_tail h_F_kept cI F_jobs F_size F_firstOf F_lastOf F_jobOf F_machineOf F_duration F_nextOf z.2.2.2.1 z.2.2.2.2.1 z.2.2.2.2.2 (va_cpy F_arcs F_kept (0 : Int32).toNatClampNeg (0 : Int32).toNatClampNeg F_size.toNatClampNeg)) ∧ va_S A s.heap H locs ∧ lv_has ls 7 [(0, .ref h_F), (1, .int a0), (2, .int r_18), (3, .int z.1), (4, .int z.2.1), (5, .int z.2.2.1)]) ?_ ((-1), 1, 0, F_arcs, F_head, F_tail) _ _ _ hI_30 ⟨hP, hD, hS, (lv_sub hl [4, 5, 3, 2, 1, 0] rfl)⟩
  rintro ⟨x3_30, x4_30, x5_30, F_arcs_30, F_head_30, F_tail_30⟩ H locs ls hI ⟨hP, hD, hS, hl⟩ ih_30
  have hw := hs_30 x3_30 x4_30 x5_30 F_arcs_30 F_head_30 F_tail_30 hI
  have hP : va_P (dC, dI) vwCl (wF h_F h_F_firstOf h_F_lastOf h_F_jobOf h_F_machineOf h_F_duration h_F_nextOf h_F_arcs h_F_head h_F_tail h_F_kept cI F_jobs F_size F_firstOf F_lastOf F_jobOf F_machineOf F_duration F_nextOf F_arcs_30 F_head_30 F_tail_30 (va_cpy F_arcs F_kept (0 : Int32).toNatClampNeg (0 : Int32).toNatClampNeg F_size.toNatClampNeg)) H := hP
  have hD : va_D A (wF h_F h_F_firstOf h_F_lastOf h_F_jobOf h_F_machineOf h_F_duration h_F_nextOf h_F_arcs h_F_head h_F_tail h_F_kept cI F_jobs F_size F_firstOf F_lastOf F_jobOf F_machineOf F_duration F_nextOf F_arcs_30 F_head_30 F_tail_30 (va_cpy F_arcs F_kept (0 : Int32).toNatClampNeg (0 : Int32).toNatClampNeg F_size.toNatClampNeg)) := hD
  have hl : lv_has ls 7 [(0, .ref h_F), (1, .int a0), (2, .int r_18), (3, .int x3_30), (4, .int x4_30), (5, .int x5_30)] := hl
  refine lv_iload (pc := 30) hx hb dX0_force_30 (lv_at hl 5 rfl) ?_
  refine lv_sipush (v := 144) (pc := 32) hx hb dX0_force_32 (by decide) ?_
  obtain ⟨J_94, hs_94, hw⟩ := hw
  refine jn_W (J := fun z : Unit => J_94 ) 94 (fun z => []) (fun (z : Unit) H locs ls => va_P (dC, dI) vwCl (wF h_F h_F_firstOf h_F_lastOf h_F_jobOf h_F_machineOf h_F_duration h_F_nextOf h_F_arcs h_F_head h_F_tail h_F_kept cI F_jobs F_size F_firstOf F_lastOf F_jobOf F_machineOf F_duration F_nextOf F_arcs_30 F_head_30 F_tail_30 (va_cpy F_arcs F_kept (0 : Int32).toNatClampNeg (0 : Int32).toNatClampNeg F_size.toNatClampNeg)) H ∧ va_D A (wF h_F h_F_firstOf h_F_lastOf h_F_jobOf h_F_machineOf h_F_duration h_F_nextOf h_F_arcs h_F_head h_F_tail h_F_kept cI F_jobs F_size F_firstOf F_lastOf F_jobOf F_machineOf F_duration F_nextOf F_arcs_30 F_head_30 F_tail_30 (va_cpy F_arcs F_kept (0 : Int32).toNatClampNeg (0 : Int32).toNatClampNeg F_size.toNatClampNeg)) ∧ va_S A s.heap H locs ∧ lv_has ls 7 [(0, .ref h_F), (1, .int a0), (2, .int r_18), (3, .int x3_30), (4, .int x4_30)]) ?_ ?_
  · rintro _ H locs ls hI ⟨hP, hD, hS, hl⟩
    have hw := hs_94  hI
    have hP : va_P (dC, dI) vwCl (wF h_F h_F_firstOf h_F_lastOf h_F_jobOf h_F_machineOf h_F_duration h_F_nextOf h_F_arcs h_F_head h_F_tail h_F_kept cI F_jobs F_size F_firstOf F_lastOf F_jobOf F_machineOf F_duration F_nextOf F_arcs_30 F_head_30 F_tail_30 (va_cpy F_arcs F_kept (0 : Int32).toNatClampNeg (0 : Int32).toNatClampNeg F_size.toNatClampNeg)) H := hP
    have hD : va_D A (wF h_F h_F_firstOf h_F_lastOf h_F_jobOf h_F_machineOf h_F_duration h_F_nextOf h_F_arcs h_F_head h_F_tail h_F_kept cI F_jobs F_size F_firstOf F_lastOf F_jobOf F_machineOf F_duration F_nextOf F_arcs_30 F_head_30 F_tail_30 (va_cpy F_arcs F_kept (0 : Int32).toNatClampNeg (0 : Int32).toNatClampNeg F_size.toNatClampNeg)) := hD
    have hl : lv_has ls 7 [(0, .ref h_F), (1, .int a0), (2, .int r_18), (3, .int x3_30), (4, .int x4_30)] := hl
    refine W.eq (g2 := F0 m 94 ls []) rfl ?_
    refine lv_iload (pc := 94) hx hb dX0_force_94 (lv_at hl 4 rfl) ?_
    refine lv_if_eq (tgt := 111) (pc := 96) hx hb dX0_force_96 (by decide) (fun c_1 => ?_) (fun c_1 => ?_)
    · have hw := hw.1 c_1
      refine lv_aload_n (pc := 111) hx hb dX0_force_111 rfl (lv_at hl 0 rfl) ?_
      refine va_get (D := (dC, dI)) (ci := 0) (v := .ref h_F_kept) (C := RX0) (T := TX0) (N := 12) (pc := 112) hx hb hts hin_X0 hown hK hP 0 rfl rfl 11 (by decide) (hts (.fieldLink RX0 39 "JobShop$Floor" "kept" "[I") (by decide +kernel)) (fun _ h9 => h9) rfl dX0_force_112 ?_
      refine lv_iconst (v := 0) (pc := 115) hx hb dX0_force_115 (by decide) ?_
      refine lv_aload_n (pc := 116) hx hb dX0_force_116 rfl (lv_at hl 0 rfl) ?_
      refine va_get (D := (dC, dI)) (ci := 0) (v := .ref h_F_arcs) (C := RX0) (T := TX0) (N := 12) (pc := 117) hx hb hts hin_X0 hown hK hP 0 rfl rfl 8 (by decide) (hts (.fieldLink RX0 30 "JobShop$Floor" "arcs" "[I") (by decide +kernel)) (fun _ h9 => h9) rfl dX0_force_117 ?_
      refine lv_iconst (v := 0) (pc := 120) hx hb dX0_force_120 (by decide) ?_
      refine lv_aload_n (pc := 121) hx hb dX0_force_121 rfl (lv_at hl 0 rfl) ?_
      refine va_get (D := (dC, dI)) (ci := 0) (v := .int F_size) (C := RX0) (T := TX0) (N := 12) (pc := 122) hx hb hts hin_X0 hown hK hP 0 rfl rfl 1 (by decide) (hts (.fieldLink RX0 46 "JobShop$Floor" "size" "I") (by decide +kernel)) (fun _ h9 => h9) rfl dX0_force_122 ?_
      obtain ⟨n1, n2, n3, hw⟩ := hw
      refine va_copyi (pc := 125) hx hb (hml.trans hl.1.symm) hown (hts (.methodLink RX0 95 arraycopyName) (by decide +kernel)) (hts (.native arraycopyName) (by decide +kernel)) (hts (.static arraycopyName) (by decide +kernel)) (hts (.initialized "java/lang/System") (by decide +kernel)) hK hP hD hS 10 7 0 0 rfl rfl rfl rfl rfl (by decide) (by decide) n1 (cp_le n2) (cp_le n3) (fun _ _ => rfl) (Nat.le_of_ble_eq_true rfl) (by decide +kernel) dX0_force_125 (fun H locs hP hD hS => ?_)
      have hP : va_P (dC, dI) vwCl (wF h_F h_F_firstOf h_F_lastOf h_F_jobOf h_F_machineOf h_F_duration h_F_nextOf h_F_arcs h_F_head h_F_tail h_F_kept cI F_jobs F_size F_firstOf F_lastOf F_jobOf F_machineOf F_duration F_nextOf (va_cpy (va_cpy F_arcs F_kept (0 : Int32).toNatClampNeg (0 : Int32).toNatClampNeg F_size.toNatClampNeg) F_arcs_30 (0 : Int32).toNatClampNeg (0 : Int32).toNatClampNeg F_size.toNatClampNeg) F_head_30 F_tail_30 (va_cpy F_arcs F_kept (0 : Int32).toNatClampNeg (0 : Int32).toNatClampNeg F_size.toNatClampNeg)) H := hP
      have hD : va_D A (wF h_F h_F_firstOf h_F_lastOf h_F_jobOf h_F_machineOf h_F_duration h_F_nextOf h_F_arcs h_F_head h_F_tail h_F_kept cI F_jobs F_size F_firstOf F_lastOf F_jobOf F_machineOf F_duration F_nextOf (va_cpy (va_cpy F_arcs F_kept (0 : Int32).toNatClampNeg (0 : Int32).toNatClampNeg F_size.toNatClampNeg) F_arcs_30 (0 : Int32).toNatClampNeg (0 : Int32).toNatClampNeg F_size.toNatClampNeg) F_head_30 F_tail_30 (va_cpy F_arcs F_kept (0 : Int32).toNatClampNeg (0 : Int32).toNatClampNeg F_size.toNatClampNeg)) := hD
      refine lv_aload_n (pc := 128) hx hb dX0_force_128 rfl (lv_at hl 0 rfl) ?_
      have hPx : va_P (dC, dI) vwCl ([] ++ (wF h_F h_F_firstOf h_F_lastOf h_F_jobOf h_F_machineOf h_F_duration h_F_nextOf h_F_arcs h_F_head h_F_tail h_F_kept cI F_jobs F_size F_firstOf F_lastOf F_jobOf F_machineOf F_duration F_nextOf (va_cpy (va_cpy F_arcs F_kept (0 : Int32).toNatClampNeg (0 : Int32).toNatClampNeg F_size.toNatClampNeg) F_arcs_30 (0 : Int32).toNatClampNeg (0 : Int32).toNatClampNeg F_size.toNatClampNeg) F_head_30 F_tail_30 (va_cpy F_arcs F_kept (0 : Int32).toNatClampNeg (0 : Int32).toNatClampNeg F_size.toNatClampNeg))) H := hP
      have hDx : va_D A ([] ++ (wF h_F h_F_firstOf h_F_lastOf h_F_jobOf h_F_machineOf h_F_duration h_F_nextOf h_F_arcs h_F_head h_F_tail h_F_kept cI F_jobs F_size F_firstOf F_lastOf F_jobOf F_machineOf F_duration F_nextOf (va_cpy (va_cpy F_arcs F_kept (0 : Int32).toNatClampNeg (0 : Int32).toNatClampNeg F_size.toNatClampNeg) F_arcs_30 (0 : Int32).toNatClampNeg (0 : Int32).toNatClampNeg F_size.toNatClampNeg) F_head_30 F_tail_30 (va_cpy F_arcs F_kept (0 : Int32).toNatClampNeg (0 : Int32).toNatClampNeg F_size.toNatClampNeg))) := hD
      refine kc_v (pc := 129) (w1 := (fun u : (Nat → Int32) × (Nat → Int32) => (wF h_F h_F_firstOf h_F_lastOf h_F_jobOf h_F_machineOf h_F_duration h_F_nextOf h_F_arcs h_F_head h_F_tail h_F_kept cI F_jobs F_size F_firstOf F_lastOf F_jobOf F_machineOf F_duration F_nextOf (va_cpy (va_cpy F_arcs F_kept (0 : Int32).toNatClampNeg (0 : Int32).toNatClampNeg F_size.toNatClampNeg) F_arcs_30 (0 : Int32).toNatClampNeg (0 : Int32).toNatClampNeg F_size.toNatClampNeg) u.1 u.2 (va_cpy F_arcs F_kept (0 : Int32).toNatClampNeg (0 : Int32).toNatClampNeg F_size.toNatClampNeg)))) (va_runV (As := []) (rest := []) ⟨hx, hb, hml, hown, hts⟩ (c_X0_measure l dC dI h_F h_F_firstOf h_F_lastOf h_F_jobOf h_F_machineOf h_F_duration h_F_nextOf h_F_arcs h_F_head h_F_tail h_F_kept H.size cI F_jobs F_size F_firstOf F_lastOf F_jobOf F_machineOf F_duration F_nextOf (va_cpy (va_cpy F_arcs F_kept (0 : Int32).toNatClampNeg (0 : Int32).toNatClampNeg F_size.toNatClampNeg) F_arcs_30 (0 : Int32).toNatClampNeg (0 : Int32).toNatClampNeg F_size.toNatClampNeg) F_head_30 F_tail_30 (va_cpy F_arcs F_kept (0 : Int32).toNatClampNeg (0 : Int32).toNatClampNeg F_size.toNatClampNeg) _ hw) (cwV 0 hts gX0_force_X0_measure rfl rfl rfl (by decide +kernel) ⟨Nat.le_of_ble_eq_true rfl, Nat.le_of_ble_eq_true rfl⟩) (kc_preV (q0 := 0) (ci := 0) hK hPx hDx [0] rfl rfl rfl hN) rfl rfl hl.1 rfl (lv_room (Nat.le_of_ble_eq_true rfl)) dX0_force_129 ⟨Nat.zero_le _, Nat.zero_le _⟩) hPx hDx hS hA (fun u H locs hw hP hD hS => ?_)
      obtain ⟨F_head_129, F_tail_129⟩ := u
      have hP : va_P (dC, dI) vwCl (wF h_F h_F_firstOf h_F_lastOf h_F_jobOf h_F_machineOf h_F_duration h_F_nextOf h_F_arcs h_F_head h_F_tail h_F_kept cI F_jobs F_size F_firstOf F_lastOf F_jobOf F_machineOf F_duration F_nextOf (va_cpy (va_cpy F_arcs F_kept (0 : Int32).toNatClampNeg (0 : Int32).toNatClampNeg F_size.toNatClampNeg) F_arcs_30 (0 : Int32).toNatClampNeg (0 : Int32).toNatClampNeg F_size.toNatClampNeg) F_head_129 F_tail_129 (va_cpy F_arcs F_kept (0 : Int32).toNatClampNeg (0 : Int32).toNatClampNeg F_size.toNatClampNeg)) H := hP
      have hD : va_D A (wF h_F h_F_firstOf h_F_lastOf h_F_jobOf h_F_machineOf h_F_duration h_F_nextOf h_F_arcs h_F_head h_F_tail h_F_kept cI F_jobs F_size F_firstOf F_lastOf F_jobOf F_machineOf F_duration F_nextOf (va_cpy (va_cpy F_arcs F_kept (0 : Int32).toNatClampNeg (0 : Int32).toNatClampNeg F_size.toNatClampNeg) F_arcs_30 (0 : Int32).toNatClampNeg (0 : Int32).toNatClampNeg F_size.toNatClampNeg) F_head_129 F_tail_129 (va_cpy F_arcs F_kept (0 : Int32).toNatClampNeg (0 : Int32).toNatClampNeg F_size.toNatClampNeg)) := hD
      refine lv_bipush (v := (-5)) (pc := 132) hx hb dX0_force_132 (by decide) ?_
      exact W.iret (v := (-5)) hx hb hr (fun t ht hW => ⟨⟨(-5), ((va_cpy (va_cpy F_arcs F_kept (0 : Int32).toNatClampNeg (0 : Int32).toNatClampNeg F_size.toNatClampNeg) F_arcs_30 (0 : Int32).toNatClampNeg (0 : Int32).toNatClampNeg F_size.toNatClampNeg), F_head_129, F_tail_129, (va_cpy F_arcs F_kept (0 : Int32).toNatClampNeg (0 : Int32).toNatClampNeg F_size.toNatClampNeg)), rfl, hw, by rw [ht]; exact hP, va_K.moved hW.alike hK, hD⟩, hS.F ht⟩) hS.2.2 dX0_force_134
    · have hw := hw.2 c_1
      refine lv_aload_n (pc := 99) hx hb dX0_force_99 rfl (lv_at hl 0 rfl) ?_
      have hPx : va_P (dC, dI) vwCl ([] ++ (wF h_F h_F_firstOf h_F_lastOf h_F_jobOf h_F_machineOf h_F_duration h_F_nextOf h_F_arcs h_F_head h_F_tail h_F_kept cI F_jobs F_size F_firstOf F_lastOf F_jobOf F_machineOf F_duration F_nextOf F_arcs_30 F_head_30 F_tail_30 (va_cpy F_arcs F_kept (0 : Int32).toNatClampNeg (0 : Int32).toNatClampNeg F_size.toNatClampNeg))) H := hP
      have hDx : va_D A ([] ++ (wF h_F h_F_firstOf h_F_lastOf h_F_jobOf h_F_machineOf h_F_duration h_F_nextOf h_F_arcs h_F_head h_F_tail h_F_kept cI F_jobs F_size F_firstOf F_lastOf F_jobOf F_machineOf F_duration F_nextOf F_arcs_30 F_head_30 F_tail_30 (va_cpy F_arcs F_kept (0 : Int32).toNatClampNeg (0 : Int32).toNatClampNeg F_size.toNatClampNeg))) := hD
      refine kc_i (pc := 100) (w1 := (fun u : Unit => (wF h_F h_F_firstOf h_F_lastOf h_F_jobOf h_F_machineOf h_F_duration h_F_nextOf h_F_arcs h_F_head h_F_tail h_F_kept cI F_jobs F_size F_firstOf F_lastOf F_jobOf F_machineOf F_duration F_nextOf F_arcs_30 F_head_30 F_tail_30 (va_cpy F_arcs F_kept (0 : Int32).toNatClampNeg (0 : Int32).toNatClampNeg F_size.toNatClampNeg)))) (va_runV (As := []) (rest := []) ⟨hx, hb, hml, hown, hts⟩ (c_X0_longest l dC dI h_F h_F_firstOf h_F_lastOf h_F_jobOf h_F_machineOf h_F_duration h_F_nextOf h_F_arcs h_F_head h_F_tail h_F_kept H.size cI F_jobs F_size F_firstOf F_lastOf F_jobOf F_machineOf F_duration F_nextOf F_arcs_30 F_head_30 F_tail_30 (va_cpy F_arcs F_kept (0 : Int32).toNatClampNeg (0 : Int32).toNatClampNeg F_size.toNatClampNeg) _ hw) (cwV 0 hts gX0_force_X0_longest rfl rfl rfl (by decide +kernel) ⟨Nat.le_of_ble_eq_true rfl, Nat.le_of_ble_eq_true rfl⟩) (kc_preV (q0 := 0) (ci := 0) hK hPx hDx [0] rfl rfl rfl hN) rfl rfl hl.1 rfl (lv_room (Nat.le_of_ble_eq_true rfl)) dX0_force_100 ⟨Nat.zero_le _, Nat.zero_le _⟩) hPx hDx hS hA (fun r_100 u H locs hw hP hD hS => ?_)
      have hP : va_P (dC, dI) vwCl (wF h_F h_F_firstOf h_F_lastOf h_F_jobOf h_F_machineOf h_F_duration h_F_nextOf h_F_arcs h_F_head h_F_tail h_F_kept cI F_jobs F_size F_firstOf F_lastOf F_jobOf F_machineOf F_duration F_nextOf F_arcs_30 F_head_30 F_tail_30 (va_cpy F_arcs F_kept (0 : Int32).toNatClampNeg (0 : Int32).toNatClampNeg F_size.toNatClampNeg)) H := hP
      have hD : va_D A (wF h_F h_F_firstOf h_F_lastOf h_F_jobOf h_F_machineOf h_F_duration h_F_nextOf h_F_arcs h_F_head h_F_tail h_F_kept cI F_jobs F_size F_firstOf F_lastOf F_jobOf F_machineOf F_duration F_nextOf F_arcs_30 F_head_30 F_tail_30 (va_cpy F_arcs F_kept (0 : Int32).toNatClampNeg (0 : Int32).toNatClampNeg F_size.toNatClampNeg)) := hD
      refine lv_iload_n (pc := 103) hx hb dX0_force_103 rfl (lv_at hl 1 rfl) ?_
      refine lv_icmp_ge (tgt := 111) (pc := 104) hx hb dX0_force_104 (by decide) (fun c_2 => ?_) (fun c_2 => ?_)
      · have hw := hw.1 c_2
        refine lv_aload_n (pc := 111) hx hb dX0_force_111 rfl (lv_at hl 0 rfl) ?_
        refine va_get (D := (dC, dI)) (ci := 0) (v := .ref h_F_kept) (C := RX0) (T := TX0) (N := 12) (pc := 112) hx hb hts hin_X0 hown hK hP 0 rfl rfl 11 (by decide) (hts (.fieldLink RX0 39 "JobShop$Floor" "kept" "[I") (by decide +kernel)) (fun _ h9 => h9) rfl dX0_force_112 ?_
        refine lv_iconst (v := 0) (pc := 115) hx hb dX0_force_115 (by decide) ?_
        refine lv_aload_n (pc := 116) hx hb dX0_force_116 rfl (lv_at hl 0 rfl) ?_
        refine va_get (D := (dC, dI)) (ci := 0) (v := .ref h_F_arcs) (C := RX0) (T := TX0) (N := 12) (pc := 117) hx hb hts hin_X0 hown hK hP 0 rfl rfl 8 (by decide) (hts (.fieldLink RX0 30 "JobShop$Floor" "arcs" "[I") (by decide +kernel)) (fun _ h9 => h9) rfl dX0_force_117 ?_
        refine lv_iconst (v := 0) (pc := 120) hx hb dX0_force_120 (by decide) ?_
        refine lv_aload_n (pc := 121) hx hb dX0_force_121 rfl (lv_at hl 0 rfl) ?_
        refine va_get (D := (dC, dI)) (ci := 0) (v := .int F_size) (C := RX0) (T := TX0) (N := 12) (pc := 122) hx hb hts hin_X0 hown hK hP 0 rfl rfl 1 (by decide) (hts (.fieldLink RX0 46 "JobShop$Floor" "size" "I") (by decide +kernel)) (fun _ h9 => h9) rfl dX0_force_122 ?_
        obtain ⟨n1, n2, n3, hw⟩ := hw
        refine va_copyi (pc := 125) hx hb (hml.trans hl.1.symm) hown (hts (.methodLink RX0 95 arraycopyName) (by decide +kernel)) (hts (.native arraycopyName) (by decide +kernel)) (hts (.static arraycopyName) (by decide +kernel)) (hts (.initialized "java/lang/System") (by decide +kernel)) hK hP hD hS 10 7 0 0 rfl rfl rfl rfl rfl (by decide) (by decide) n1 (cp_le n2) (cp_le n3) (fun _ _ => rfl) (Nat.le_of_ble_eq_true rfl) (by decide +kernel) dX0_force_125 (fun H locs hP hD hS => ?_)
        have hP : va_P (dC, dI) vwCl (wF h_F h_F_firstOf h_F_lastOf h_F_jobOf h_F_machineOf h_F_duration h_F_nextOf h_F_arcs h_F_head h_F_tail h_F_kept cI F_jobs F_size F_firstOf F_lastOf F_jobOf F_machineOf F_duration F_nextOf (va_cpy (va_cpy F_arcs F_kept (0 : Int32).toNatClampNeg (0 : Int32).toNatClampNeg F_size.toNatClampNeg) F_arcs_30 (0 : Int32).toNatClampNeg (0 : Int32).toNatClampNeg F_size.toNatClampNeg) F_head_30 F_tail_30 (va_cpy F_arcs F_kept (0 : Int32).toNatClampNeg (0 : Int32).toNatClampNeg F_size.toNatClampNeg)) H := hP
        have hD : va_D A (wF h_F h_F_firstOf h_F_lastOf h_F_jobOf h_F_machineOf h_F_duration h_F_nextOf h_F_arcs h_F_head h_F_tail h_F_kept cI F_jobs F_size F_firstOf F_lastOf F_jobOf F_machineOf F_duration F_nextOf (va_cpy (va_cpy F_arcs F_kept (0 : Int32).toNatClampNeg (0 : Int32).toNatClampNeg F_size.toNatClampNeg) F_arcs_30 (0 : Int32).toNatClampNeg (0 : Int32).toNatClampNeg F_size.toNatClampNeg) F_head_30 F_tail_30 (va_cpy F_arcs F_kept (0 : Int32).toNatClampNeg (0 : Int32).toNatClampNeg F_size.toNatClampNeg)) := hD
        refine lv_aload_n (pc := 128) hx hb dX0_force_128 rfl (lv_at hl 0 rfl) ?_
        have hPx : va_P (dC, dI) vwCl ([] ++ (wF h_F h_F_firstOf h_F_lastOf h_F_jobOf h_F_machineOf h_F_duration h_F_nextOf h_F_arcs h_F_head h_F_tail h_F_kept cI F_jobs F_size F_firstOf F_lastOf F_jobOf F_machineOf F_duration F_nextOf (va_cpy (va_cpy F_arcs F_kept (0 : Int32).toNatClampNeg (0 : Int32).toNatClampNeg F_size.toNatClampNeg) F_arcs_30 (0 : Int32).toNatClampNeg (0 : Int32).toNatClampNeg F_size.toNatClampNeg) F_head_30 F_tail_30 (va_cpy F_arcs F_kept (0 : Int32).toNatClampNeg (0 : Int32).toNatClampNeg F_size.toNatClampNeg))) H := hP
        have hDx : va_D A ([] ++ (wF h_F h_F_firstOf h_F_lastOf h_F_jobOf h_F_machineOf h_F_duration h_F_nextOf h_F_arcs h_F_head h_F_tail h_F_kept cI F_jobs F_size F_firstOf F_lastOf F_jobOf F_machineOf F_duration F_nextOf (va_cpy (va_cpy F_arcs F_kept (0 : Int32).toNatClampNeg (0 : Int32).toNatClampNeg F_size.toNatClampNeg) F_arcs_30 (0 : Int32).toNatClampNeg (0 : Int32).toNatClampNeg F_size.toNatClampNeg) F_head_30 F_tail_30 (va_cpy F_arcs F_kept (0 : Int32).toNatClampNeg (0 : Int32).toNatClampNeg F_size.toNatClampNeg))) := hD
        refine kc_v (pc := 129) (w1 := (fun u : (Nat → Int32) × (Nat → Int32) => (wF h_F h_F_firstOf h_F_lastOf h_F_jobOf h_F_machineOf h_F_duration h_F_nextOf h_F_arcs h_F_head h_F_tail h_F_kept cI F_jobs F_size F_firstOf F_lastOf F_jobOf F_machineOf F_duration F_nextOf (va_cpy (va_cpy F_arcs F_kept (0 : Int32).toNatClampNeg (0 : Int32).toNatClampNeg F_size.toNatClampNeg) F_arcs_30 (0 : Int32).toNatClampNeg (0 : Int32).toNatClampNeg F_size.toNatClampNeg) u.1 u.2 (va_cpy F_arcs F_kept (0 : Int32).toNatClampNeg (0 : Int32).toNatClampNeg F_size.toNatClampNeg)))) (va_runV (As := []) (rest := []) ⟨hx, hb, hml, hown, hts⟩ (c_X0_measure l dC dI h_F h_F_firstOf h_F_lastOf h_F_jobOf h_F_machineOf h_F_duration h_F_nextOf h_F_arcs h_F_head h_F_tail h_F_kept H.size cI F_jobs F_size F_firstOf F_lastOf F_jobOf F_machineOf F_duration F_nextOf (va_cpy (va_cpy F_arcs F_kept (0 : Int32).toNatClampNeg (0 : Int32).toNatClampNeg F_size.toNatClampNeg) F_arcs_30 (0 : Int32).toNatClampNeg (0 : Int32).toNatClampNeg F_size.toNatClampNeg) F_head_30 F_tail_30 (va_cpy F_arcs F_kept (0 : Int32).toNatClampNeg (0 : Int32).toNatClampNeg F_size.toNatClampNeg) _ hw) (cwV 0 hts gX0_force_X0_measure rfl rfl rfl (by decide +kernel) ⟨Nat.le_of_ble_eq_true rfl, Nat.le_of_ble_eq_true rfl⟩) (kc_preV (q0 := 0) (ci := 0) hK hPx hDx [0] rfl rfl rfl hN) rfl rfl hl.1 rfl (lv_room (Nat.le_of_ble_eq_true rfl)) dX0_force_129 ⟨Nat.zero_le _, Nat.zero_le _⟩) hPx hDx hS hA (fun u H locs hw hP hD hS => ?_)
        obtain ⟨F_head_129, F_tail_129⟩ := u
        have hP : va_P (dC, dI) vwCl (wF h_F h_F_firstOf h_F_lastOf h_F_jobOf h_F_machineOf h_F_duration h_F_nextOf h_F_arcs h_F_head h_F_tail h_F_kept cI F_jobs F_size F_firstOf F_lastOf F_jobOf F_machineOf F_duration F_nextOf (va_cpy (va_cpy F_arcs F_kept (0 : Int32).toNatClampNeg (0 : Int32).toNatClampNeg F_size.toNatClampNeg) F_arcs_30 (0 : Int32).toNatClampNeg (0 : Int32).toNatClampNeg F_size.toNatClampNeg) F_head_129 F_tail_129 (va_cpy F_arcs F_kept (0 : Int32).toNatClampNeg (0 : Int32).toNatClampNeg F_size.toNatClampNeg)) H := hP
        have hD : va_D A (wF h_F h_F_firstOf h_F_lastOf h_F_jobOf h_F_machineOf h_F_duration h_F_nextOf h_F_arcs h_F_head h_F_tail h_F_kept cI F_jobs F_size F_firstOf F_lastOf F_jobOf F_machineOf F_duration F_nextOf (va_cpy (va_cpy F_arcs F_kept (0 : Int32).toNatClampNeg (0 : Int32).toNatClampNeg F_size.toNatClampNeg) F_arcs_30 (0 : Int32).toNatClampNeg (0 : Int32).toNatClampNeg F_size.toNatClampNeg) F_head_129 F_tail_129 (va_cpy F_arcs F_kept (0 : Int32).toNatClampNeg (0 : Int32).toNatClampNeg F_size.toNatClampNeg)) := hD
        refine lv_bipush (v := (-5)) (pc := 132) hx hb dX0_force_132 (by decide) ?_
        exact W.iret (v := (-5)) hx hb hr (fun t ht hW => ⟨⟨(-5), ((va_cpy (va_cpy F_arcs F_kept (0 : Int32).toNatClampNeg (0 : Int32).toNatClampNeg F_size.toNatClampNeg) F_arcs_30 (0 : Int32).toNatClampNeg (0 : Int32).toNatClampNeg F_size.toNatClampNeg), F_head_129, F_tail_129, (va_cpy F_arcs F_kept (0 : Int32).toNatClampNeg (0 : Int32).toNatClampNeg F_size.toNatClampNeg)), rfl, hw, by rw [ht]; exact hP, va_K.moved hW.alike hK, hD⟩, hS.F ht⟩) hS.2.2 dX0_force_134
      · have hw := hw.2 c_2
        refine lv_iload_n (pc := 107) hx hb dX0_force_107 rfl (lv_at hl 3 rfl) ?_
        refine lv_iload_n (pc := 108) hx hb dX0_force_108 rfl (lv_at hl 2 rfl) ?_
        refine lv_isub (pc := 109) hx hb dX0_force_109 ?_
        exact W.iret (v := (x3_30 - r_18)) hx hb hr (fun t ht hW => ⟨⟨(x3_30 - r_18), (F_arcs_30, F_head_30, F_tail_30, (va_cpy F_arcs F_kept (0 : Int32).toNatClampNeg (0 : Int32).toNatClampNeg F_size.toNatClampNeg)), rfl, hw, by rw [ht]; exact hP, va_K.moved hW.alike hK, hD⟩, hS.F ht⟩) hS.2.2 dX0_force_110
  · intro hj_94
    refine lv_icmp_ge (tgt := 94) (pc := 35) hx hb dX0_force_35 (by decide) (fun c_3 => ?_) (fun c_3 => ?_)
    · have hw := hw.1 c_3
      exact hj_94 () _ _ _ hw ⟨hP, hD, hS, (lv_sub hl [0, 1, 2, 3, 4] rfl)⟩
    · have hw := hw.2 c_3
      refine lv_iload (pc := 38) hx hb dX0_force_38 (lv_at hl 4 rfl) ?_
      refine lv_if_eq (tgt := 94) (pc := 40) hx hb dX0_force_40 (by decide) (fun c_4 => ?_) (fun c_4 => ?_)
      · have hw := hw.1 c_4
        exact hj_94 () _ _ _ hw ⟨hP, hD, hS, (lv_sub hl [0, 1, 2, 3, 4] rfl)⟩
      · have hw := hw.2 c_4
        refine lv_iload_n (pc := 43) hx hb dX0_force_43 rfl (lv_at hl 3 rfl) ?_
        refine lv_aload_n (pc := 44) hx hb dX0_force_44 rfl (lv_at hl 0 rfl) ?_
        have hPx : va_P (dC, dI) vwCl ([] ++ (wF h_F h_F_firstOf h_F_lastOf h_F_jobOf h_F_machineOf h_F_duration h_F_nextOf h_F_arcs h_F_head h_F_tail h_F_kept cI F_jobs F_size F_firstOf F_lastOf F_jobOf F_machineOf F_duration F_nextOf F_arcs_30 F_head_30 F_tail_30 (va_cpy F_arcs F_kept (0 : Int32).toNatClampNeg (0 : Int32).toNatClampNeg F_size.toNatClampNeg))) H := hP
        have hDx : va_D A ([] ++ (wF h_F h_F_firstOf h_F_lastOf h_F_jobOf h_F_machineOf h_F_duration h_F_nextOf h_F_arcs h_F_head h_F_tail h_F_kept cI F_jobs F_size F_firstOf F_lastOf F_jobOf F_machineOf F_duration F_nextOf F_arcs_30 F_head_30 F_tail_30 (va_cpy F_arcs F_kept (0 : Int32).toNatClampNeg (0 : Int32).toNatClampNeg F_size.toNatClampNeg))) := hD
        refine kc_i (pc := 45) (w1 := (fun u : Unit => (wF h_F h_F_firstOf h_F_lastOf h_F_jobOf h_F_machineOf h_F_duration h_F_nextOf h_F_arcs h_F_head h_F_tail h_F_kept cI F_jobs F_size F_firstOf F_lastOf F_jobOf F_machineOf F_duration F_nextOf F_arcs_30 F_head_30 F_tail_30 (va_cpy F_arcs F_kept (0 : Int32).toNatClampNeg (0 : Int32).toNatClampNeg F_size.toNatClampNeg)))) (va_runV (As := []) (rest := [.int x3_30]) ⟨hx, hb, hml, hown, hts⟩ (c_X0_tiedPairs l dC dI h_F h_F_firstOf h_F_lastOf h_F_jobOf h_F_machineOf h_F_duration h_F_nextOf h_F_arcs h_F_head h_F_tail h_F_kept H.size cI F_jobs F_size F_firstOf F_lastOf F_jobOf F_machineOf F_duration F_nextOf F_arcs_30 F_head_30 F_tail_30 (va_cpy F_arcs F_kept (0 : Int32).toNatClampNeg (0 : Int32).toNatClampNeg F_size.toNatClampNeg) _ hw) (cwV 0 hts gX0_force_X0_tiedPairs rfl rfl rfl (by decide +kernel) ⟨Nat.le_of_ble_eq_true rfl, Nat.le_of_ble_eq_true rfl⟩) (kc_preV (q0 := 0) (ci := 0) hK hPx hDx [0] rfl rfl rfl hN) rfl rfl hl.1 rfl (lv_room (Nat.le_of_ble_eq_true rfl)) dX0_force_45 ⟨Nat.zero_le _, Nat.zero_le _⟩) hPx hDx hS hA (fun r_45 u H locs hw hP hD hS => ?_)
        have hP : va_P (dC, dI) vwCl (wF h_F h_F_firstOf h_F_lastOf h_F_jobOf h_F_machineOf h_F_duration h_F_nextOf h_F_arcs h_F_head h_F_tail h_F_kept cI F_jobs F_size F_firstOf F_lastOf F_jobOf F_machineOf F_duration F_nextOf F_arcs_30 F_head_30 F_tail_30 (va_cpy F_arcs F_kept (0 : Int32).toNatClampNeg (0 : Int32).toNatClampNeg F_size.toNatClampNeg)) H := hP
        have hD : va_D A (wF h_F h_F_firstOf h_F_lastOf h_F_jobOf h_F_machineOf h_F_duration h_F_nextOf h_F_arcs h_F_head h_F_tail h_F_kept cI F_jobs F_size F_firstOf F_lastOf F_jobOf F_machineOf F_duration F_nextOf F_arcs_30 F_head_30 F_tail_30 (va_cpy F_arcs F_kept (0 : Int32).toNatClampNeg (0 : Int32).toNatClampNeg F_size.toNatClampNeg)) := hD
        refine lv_icmp_eq (tgt := 94) (pc := 48) hx hb dX0_force_48 (by decide) (fun c_5 => ?_) (fun c_5 => ?_)
        · have hw := hw.1 c_5
          exact hj_94 () _ _ _ hw ⟨hP, hD, hS, (lv_sub hl [0, 1, 2, 3, 4] rfl)⟩
        · have hw := hw.2 c_5
          refine lv_aload_n (pc := 51) hx hb dX0_force_51 rfl (lv_at hl 0 rfl) ?_
          have hPx : va_P (dC, dI) vwCl ([] ++ (wF h_F h_F_firstOf h_F_lastOf h_F_jobOf h_F_machineOf h_F_duration h_F_nextOf h_F_arcs h_F_head h_F_tail h_F_kept cI F_jobs F_size F_firstOf F_lastOf F_jobOf F_machineOf F_duration F_nextOf F_arcs_30 F_head_30 F_tail_30 (va_cpy F_arcs F_kept (0 : Int32).toNatClampNeg (0 : Int32).toNatClampNeg F_size.toNatClampNeg))) H := hP
          have hDx : va_D A ([] ++ (wF h_F h_F_firstOf h_F_lastOf h_F_jobOf h_F_machineOf h_F_duration h_F_nextOf h_F_arcs h_F_head h_F_tail h_F_kept cI F_jobs F_size F_firstOf F_lastOf F_jobOf F_machineOf F_duration F_nextOf F_arcs_30 F_head_30 F_tail_30 (va_cpy F_arcs F_kept (0 : Int32).toNatClampNeg (0 : Int32).toNatClampNeg F_size.toNatClampNeg))) := hD
          refine kc_i (pc := 52) (w1 := (fun u : Unit => (wF h_F h_F_firstOf h_F_lastOf h_F_jobOf h_F_machineOf h_F_duration h_F_nextOf h_F_arcs h_F_head h_F_tail h_F_kept cI F_jobs F_size F_firstOf F_lastOf F_jobOf F_machineOf F_duration F_nextOf F_arcs_30 F_head_30 F_tail_30 (va_cpy F_arcs F_kept (0 : Int32).toNatClampNeg (0 : Int32).toNatClampNeg F_size.toNatClampNeg)))) (va_runV (As := []) (rest := []) ⟨hx, hb, hml, hown, hts⟩ (c_X0_tiedPairs l dC dI h_F h_F_firstOf h_F_lastOf h_F_jobOf h_F_machineOf h_F_duration h_F_nextOf h_F_arcs h_F_head h_F_tail h_F_kept H.size cI F_jobs F_size F_firstOf F_lastOf F_jobOf F_machineOf F_duration F_nextOf F_arcs_30 F_head_30 F_tail_30 (va_cpy F_arcs F_kept (0 : Int32).toNatClampNeg (0 : Int32).toNatClampNeg F_size.toNatClampNeg) _ hw) (cwV 0 hts gX0_force_X0_tiedPairs rfl rfl rfl (by decide +kernel) ⟨Nat.le_of_ble_eq_true rfl, Nat.le_of_ble_eq_true rfl⟩) (kc_preV (q0 := 0) (ci := 0) hK hPx hDx [0] rfl rfl rfl hN) rfl rfl hl.1 rfl (lv_room (Nat.le_of_ble_eq_true rfl)) dX0_force_52 ⟨Nat.zero_le _, Nat.zero_le _⟩) hPx hDx hS hA (fun r_52 u H locs hw hP hD hS => ?_)
          have hP : va_P (dC, dI) vwCl (wF h_F h_F_firstOf h_F_lastOf h_F_jobOf h_F_machineOf h_F_duration h_F_nextOf h_F_arcs h_F_head h_F_tail h_F_kept cI F_jobs F_size F_firstOf F_lastOf F_jobOf F_machineOf F_duration F_nextOf F_arcs_30 F_head_30 F_tail_30 (va_cpy F_arcs F_kept (0 : Int32).toNatClampNeg (0 : Int32).toNatClampNeg F_size.toNatClampNeg)) H := hP
          have hD : va_D A (wF h_F h_F_firstOf h_F_lastOf h_F_jobOf h_F_machineOf h_F_duration h_F_nextOf h_F_arcs h_F_head h_F_tail h_F_kept cI F_jobs F_size F_firstOf F_lastOf F_jobOf F_machineOf F_duration F_nextOf F_arcs_30 F_head_30 F_tail_30 (va_cpy F_arcs F_kept (0 : Int32).toNatClampNeg (0 : Int32).toNatClampNeg F_size.toNatClampNeg)) := hD
          refine lv_istore_n (lv' := [(3, .int r_52), (0, .ref h_F), (1, .int a0), (2, .int r_18), (4, .int x4_30), (5, .int x5_30)]) (pc := 55) hx hb dX0_force_55 rfl hl (by decide) rfl (fun ls hl => ?_)
          refine lv_iconst (v := 0) (pc := 56) hx hb dX0_force_56 (by decide) ?_
          refine lv_istore (lv' := [(6, .int 0), (3, .int r_52), (0, .ref h_F), (1, .int a0), (2, .int r_18), (4, .int x4_30), (5, .int x5_30)]) (pc := 57) hx hb dX0_force_57 hl (by decide) rfl (fun ls hl => ?_)
          obtain ⟨I_59, μ_59, hI_59, hs_59⟩ := hw
          refine lp_W (I := fun z : Int32 × Int32 × (Nat → Int32) × (Nat → Int32) × (Nat → Int32) => I_59 z.1 z.2.1 z.2.2.1 z.2.2.2.1 z.2.2.2.2) (fun z => μ_59 z.1 z.2.1 z.2.2.1 z.2.2.2.1 z.2.2.2.2) (fun (z : Int32 × Int32 × (Nat → Int32) × (Nat → Int32) × (Nat → Int32)) H locs ls => va_P (dC, dI) vwCl (wF h_F h_F_firstOf h_F_lastOf h_F_jobOf h_F_machineOf h_F_duration h_F_nextOf h_F_arcs h_F_head h_F_tail h_F_kept cI F_jobs F_size F_firstOf F_lastOf F_jobOf F_machineOf F_duration F_nextOf z.2.2.1 z.2.2.2.1 z.2.2.2.2 (va_cpy F_arcs F_kept (0 : Int32).toNatClampNeg (0 : Int32).toNatClampNeg F_size.toNatClampNeg)) H ∧ va_D A (wF h_F h_F_firstOf h_F_lastOf h_F_jobOf h_F_machineOf h_F_duration h_F_nextOf h_F_arcs h_F_head h_F_tail h_F_kept cI F_jobs F_size F_firstOf F_lastOf F_jobOf F_machineOf F_duration F_nextOf z.2.2.1 z.2.2.2.1 z.2.2.2.2 (va_cpy F_arcs F_kept (0 : Int32).toNatClampNeg (0 : Int32).toNatClampNeg F_size.toNatClampNeg)) ∧ va_S A s.heap H locs ∧ lv_has ls 7 [(0, .ref h_F), (1, .int a0), (2, .int r_18), (3, .int r_52), (4, .int z.1), (5, .int x5_30), (6, .int z.2.1)]) ?_ (x4_30, 0, F_arcs_30, F_head_30, F_tail_30) _ _ _ hI_59 ⟨hP, hD, hS, (lv_sub hl [2, 3, 4, 1, 5, 6, 0] rfl)⟩
          rintro ⟨x4_59, x6_59, F_arcs_59, F_head_59, F_tail_59⟩ H locs ls hI ⟨hP, hD, hS, hl⟩ ih_59
          have hw := hs_59 x4_59 x6_59 F_arcs_59 F_head_59 F_tail_59 hI
          have hP : va_P (dC, dI) vwCl (wF h_F h_F_firstOf h_F_lastOf h_F_jobOf h_F_machineOf h_F_duration h_F_nextOf h_F_arcs h_F_head h_F_tail h_F_kept cI F_jobs F_size F_firstOf F_lastOf F_jobOf F_machineOf F_duration F_nextOf F_arcs_59 F_head_59 F_tail_59 (va_cpy F_arcs F_kept (0 : Int32).toNatClampNeg (0 : Int32).toNatClampNeg F_size.toNatClampNeg)) H := hP
          have hD : va_D A (wF h_F h_F_firstOf h_F_lastOf h_F_jobOf h_F_machineOf h_F_duration h_F_nextOf h_F_arcs h_F_head h_F_tail h_F_kept cI F_jobs F_size F_firstOf F_lastOf F_jobOf F_machineOf F_duration F_nextOf F_arcs_59 F_head_59 F_tail_59 (va_cpy F_arcs F_kept (0 : Int32).toNatClampNeg (0 : Int32).toNatClampNeg F_size.toNatClampNeg)) := hD
          have hl : lv_has ls 7 [(0, .ref h_F), (1, .int a0), (2, .int r_18), (3, .int r_52), (4, .int x4_59), (5, .int x5_30), (6, .int x6_59)] := hl
          refine lv_iload (pc := 59) hx hb dX0_force_59 (lv_at hl 6 rfl) ?_
          refine lv_aload_n (pc := 61) hx hb dX0_force_61 rfl (lv_at hl 0 rfl) ?_
          refine va_get (D := (dC, dI)) (ci := 0) (v := .int F_size) (C := RX0) (T := TX0) (N := 12) (pc := 62) hx hb hts hin_X0 hown hK hP 0 rfl rfl 1 (by decide) (hts (.fieldLink RX0 46 "JobShop$Floor" "size" "I") (by decide +kernel)) (fun _ h9 => h9) rfl dX0_force_62 ?_
          refine lv_icmp_ge (tgt := 88) (pc := 65) hx hb dX0_force_65 (by decide) (fun c_6 => ?_) (fun c_6 => ?_)
          · have hw := hw.1 c_6
            refine lv_iinc (v := x5_30 + 1) (lv' := [(5, .int (x5_30 + 1)), (0, .ref h_F), (1, .int a0), (2, .int r_18), (3, .int r_52), (4, .int x4_59), (6, .int x6_59)]) (pc := 88) hx hb dX0_force_88 hl (k := 5) rfl rfl (by decide) rfl (fun ls hl => ?_)
            refine lv_goto (tgt := 30) (pc := 91) hx hb dX0_force_91 (by decide) ?_
            exact ih_30 (r_52, x4_59, (x5_30 + 1), F_arcs_59, F_head_59, F_tail_59) _ _ _ hw.1 hw.2 ⟨hP, hD, hS, (lv_sub hl [1, 2, 3, 4, 5, 0] rfl)⟩
          · have hw := hw.2 c_6
            refine lv_iload (pc := 68) hx hb dX0_force_68 (lv_at hl 4 rfl) ?_
            refine lv_if_eq (tgt := 88) (pc := 70) hx hb dX0_force_70 (by decide) (fun c_7 => ?_) (fun c_7 => ?_)
            · have hw := hw.1 c_7
              refine lv_iinc (v := x5_30 + 1) (lv' := [(5, .int (x5_30 + 1)), (0, .ref h_F), (1, .int a0), (2, .int r_18), (3, .int r_52), (4, .int x4_59), (6, .int x6_59)]) (pc := 88) hx hb dX0_force_88 hl (k := 5) rfl rfl (by decide) rfl (fun ls hl => ?_)
              refine lv_goto (tgt := 30) (pc := 91) hx hb dX0_force_91 (by decide) ?_
              exact ih_30 (r_52, x4_59, (x5_30 + 1), F_arcs_59, F_head_59, F_tail_59) _ _ _ hw.1 hw.2 ⟨hP, hD, hS, (lv_sub hl [1, 2, 3, 4, 5, 0] rfl)⟩
            · have hw := hw.2 c_7
              refine lv_aload_n (pc := 73) hx hb dX0_force_73 rfl (lv_at hl 0 rfl) ?_
              refine lv_iload (pc := 74) hx hb dX0_force_74 (lv_at hl 6 rfl) ?_
              refine lv_iload_n (pc := 76) hx hb dX0_force_76 rfl (lv_at hl 1 rfl) ?_
              have hPx : va_P (dC, dI) vwCl ([] ++ (wF h_F h_F_firstOf h_F_lastOf h_F_jobOf h_F_machineOf h_F_duration h_F_nextOf h_F_arcs h_F_head h_F_tail h_F_kept cI F_jobs F_size F_firstOf F_lastOf F_jobOf F_machineOf F_duration F_nextOf F_arcs_59 F_head_59 F_tail_59 (va_cpy F_arcs F_kept (0 : Int32).toNatClampNeg (0 : Int32).toNatClampNeg F_size.toNatClampNeg))) H := hP
              have hDx : va_D A ([] ++ (wF h_F h_F_firstOf h_F_lastOf h_F_jobOf h_F_machineOf h_F_duration h_F_nextOf h_F_arcs h_F_head h_F_tail h_F_kept cI F_jobs F_size F_firstOf F_lastOf F_jobOf F_machineOf F_duration F_nextOf F_arcs_59 F_head_59 F_tail_59 (va_cpy F_arcs F_kept (0 : Int32).toNatClampNeg (0 : Int32).toNatClampNeg F_size.toNatClampNeg))) := hD
              refine kc_i (pc := 77) (w1 := (fun u : (Nat → Int32) × (Nat → Int32) × (Nat → Int32) => (wF h_F h_F_firstOf h_F_lastOf h_F_jobOf h_F_machineOf h_F_duration h_F_nextOf h_F_arcs h_F_head h_F_tail h_F_kept cI F_jobs F_size F_firstOf F_lastOf F_jobOf F_machineOf F_duration F_nextOf u.1 u.2.1 u.2.2 (va_cpy F_arcs F_kept (0 : Int32).toNatClampNeg (0 : Int32).toNatClampNeg F_size.toNatClampNeg)))) (va_runV (As := [.int x6_59, .int a0]) (rest := []) ⟨hx, hb, hml, hown, hts⟩ (c_X0_forceFrom l dC dI h_F h_F_firstOf h_F_lastOf h_F_jobOf h_F_machineOf h_F_duration h_F_nextOf h_F_arcs h_F_head h_F_tail h_F_kept H.size cI F_jobs F_size F_firstOf F_lastOf F_jobOf F_machineOf F_duration F_nextOf F_arcs_59 F_head_59 F_tail_59 (va_cpy F_arcs F_kept (0 : Int32).toNatClampNeg (0 : Int32).toNatClampNeg F_size.toNatClampNeg) x6_59 a0 _ hw) (cwV 2 hts gX0_force_X0_forceFrom rfl rfl rfl (by decide +kernel) ⟨Nat.le_of_ble_eq_true rfl, Nat.le_of_ble_eq_true rfl⟩) (kc_preV (q0 := 0) (ci := 0) hK hPx hDx [0] rfl rfl rfl hN) rfl rfl hl.1 rfl (lv_room (Nat.le_of_ble_eq_true rfl)) dX0_force_77 ⟨Nat.zero_le _, Nat.zero_le _⟩) hPx hDx hS hA (fun r_77 u H locs hw hP hD hS => ?_)
              obtain ⟨F_arcs_77, F_head_77, F_tail_77⟩ := u
              have hP : va_P (dC, dI) vwCl (wF h_F h_F_firstOf h_F_lastOf h_F_jobOf h_F_machineOf h_F_duration h_F_nextOf h_F_arcs h_F_head h_F_tail h_F_kept cI F_jobs F_size F_firstOf F_lastOf F_jobOf F_machineOf F_duration F_nextOf F_arcs_77 F_head_77 F_tail_77 (va_cpy F_arcs F_kept (0 : Int32).toNatClampNeg (0 : Int32).toNatClampNeg F_size.toNatClampNeg)) H := hP
              have hD : va_D A (wF h_F h_F_firstOf h_F_lastOf h_F_jobOf h_F_machineOf h_F_duration h_F_nextOf h_F_arcs h_F_head h_F_tail h_F_kept cI F_jobs F_size F_firstOf F_lastOf F_jobOf F_machineOf F_duration F_nextOf F_arcs_77 F_head_77 F_tail_77 (va_cpy F_arcs F_kept (0 : Int32).toNatClampNeg (0 : Int32).toNatClampNeg F_size.toNatClampNeg)) := hD
              refine lv_istore (lv' := [(4, .int r_77), (0, .ref h_F), (1, .int a0), (2, .int r_18), (3, .int r_52), (5, .int x5_30), (6, .int x6_59)]) (pc := 80) hx hb dX0_force_80 hl (by decide) rfl (fun ls hl => ?_)
              refine lv_iinc (v := x6_59 + 1) (lv' := [(6, .int (x6_59 + 1)), (4, .int r_77), (0, .ref h_F), (1, .int a0), (2, .int r_18), (3, .int r_52), (5, .int x5_30)]) (pc := 82) hx hb dX0_force_82 hl (k := 6) rfl rfl (by decide) rfl (fun ls hl => ?_)
              refine lv_goto (tgt := 59) (pc := 85) hx hb dX0_force_85 (by decide) ?_
              exact ih_59 (r_77, (x6_59 + 1), F_arcs_77, F_head_77, F_tail_77) _ _ _ hw.1 hw.2 ⟨hP, hD, hS, (lv_sub hl [2, 3, 4, 5, 1, 6, 0] rfl)⟩
