set_option maxHeartbeats 4000000 in
set_option maxRecDepth 100000 in
theorem c_X3_layFirst (l : Launch) (dC : Nat → ClassId) (dI : Nat → Nat → Nat) (h_M h_M_jobOf h_M_machineOf h_M_durations h_M_arcs h_M_drafts h_M_starts h_M_heads h_M_tails h_M_chosen h_M_orders h_M_sizes : Nat) (sz : Nat) (cI cZ : ClassId) (M_jobs : Int32) (M_many : Int32) (M_isPlanned : Int32) (M_least : Int32) (M_optima : Int32) (M_jobOf : Nat → Int32) (M_machineOf : Nat → Int32) (M_durations : Nat → Int32) (M_arcs : Nat → Int32) (M_drafts : Nat → Int32) (M_starts : Nat → Int32) (M_heads : Nat → Int32) (M_tails : Nat → Int32) (M_chosen : Nat → Int32) (M_orders : Nat → Int32) (M_sizes : Nat → Int32) (a0 : Int32) (post : (Nat → Int32) → (Nat → Int32) → Prop) (hw : wp_X3_layFirst M_many M_machineOf M_orders M_sizes a0 post) : Met l yX3_layFirst wsX3_layFirst ({ frames := 0, cells := 0, slots := 0, locals := 0 }) (va_Pc [.ref h_M, .int a0] (fun U => U.heap.size = sz ∧ va_P (dC, dI) vwCl (wM h_M h_M_jobOf h_M_machineOf h_M_durations h_M_arcs h_M_drafts h_M_starts h_M_heads h_M_tails h_M_chosen h_M_orders h_M_sizes cI cZ M_jobs M_many M_isPlanned M_least M_optima M_jobOf M_machineOf M_durations M_arcs M_drafts M_starts M_heads M_tails M_chosen M_orders M_sizes) U.heap ∧ va_K (dC, dI) vwCl [(cI, .int), (cZ, .boolean)] U ∧ va_D (fun _ => True) (wM h_M h_M_jobOf h_M_machineOf h_M_durations h_M_arcs h_M_drafts h_M_starts h_M_heads h_M_tails h_M_chosen h_M_orders h_M_sizes cI cZ M_jobs M_many M_isPlanned M_least M_optima M_jobOf M_machineOf M_durations M_arcs M_drafts M_starts M_heads M_tails M_chosen M_orders M_sizes))) (va_Qv (fun (u : (Nat → Int32) × (Nat → Int32)) => post u.1 u.2) (fun u t => va_P (dC, dI) vwCl (wM h_M h_M_jobOf h_M_machineOf h_M_durations h_M_arcs h_M_drafts h_M_starts h_M_heads h_M_tails h_M_chosen h_M_orders h_M_sizes cI cZ M_jobs M_many M_isPlanned M_least M_optima M_jobOf M_machineOf M_durations M_arcs M_drafts M_starts M_heads M_tails M_chosen u.1 u.2) t.heap ∧ va_K (dC, dI) vwCl [(cI, .int), (cZ, .boolean)] t ∧ va_D (va_A (wM h_M h_M_jobOf h_M_machineOf h_M_durations h_M_arcs h_M_drafts h_M_starts h_M_heads h_M_tails h_M_chosen h_M_orders h_M_sizes cI cZ M_jobs M_many M_isPlanned M_least M_optima M_jobOf M_machineOf M_durations M_arcs M_drafts M_starts M_heads M_tails M_chosen M_orders M_sizes) sz) (wM h_M h_M_jobOf h_M_machineOf h_M_durations h_M_arcs h_M_drafts h_M_starts h_M_heads h_M_tails h_M_chosen h_M_orders h_M_sizes cI cZ M_jobs M_many M_isPlanned M_least M_optima M_jobOf M_machineOf M_durations M_arcs M_drafts M_starts M_heads M_tails M_chosen u.1 u.2)) (va_A (wM h_M h_M_jobOf h_M_machineOf h_M_durations h_M_arcs h_M_drafts h_M_starts h_M_heads h_M_tails h_M_chosen h_M_orders h_M_sizes cI cZ M_jobs M_many M_isPlanned M_least M_optima M_jobOf M_machineOf M_durations M_arcs M_drafts M_starts M_heads M_tails M_chosen M_orders M_sizes) sz)) 0 0 (va_A (wM h_M h_M_jobOf h_M_machineOf h_M_durations h_M_arcs h_M_drafts h_M_starts h_M_heads h_M_tails h_M_chosen h_M_orders h_M_sizes cI cZ M_jobs M_many M_isPlanned M_least M_optima M_jobOf M_machineOf M_durations M_arcs M_drafts M_starts M_heads M_tails M_chosen M_orders M_sizes) sz) := by
  refine Met.ofW (cc := cX3_layFirst) (maxL := 3) (ret := none) (by decide) rfl ?_
  intro p e s m args below meth c s₁ B hml hv
  obtain ⟨rfl, hsz, hP, hK, hD0⟩ := hv
  have hx := B.exec
  have hb := B.bytes
  have hr := B.returns
  have hts := atoms_spec (ws := wsX3_layFirst) B.pre
  have hown : s.vm.findClass RX3 = some m.cls := findClass_of_methodNamed B.named
  have hlocks := B.notSynchronized
  subst hsz
  have hD := hD0.self (sz := s.heap.size)
  generalize hAe : va_A (wM h_M h_M_jobOf h_M_machineOf h_M_durations h_M_arcs h_M_drafts h_M_starts h_M_heads h_M_tails h_M_chosen h_M_orders h_M_sizes cI cZ M_jobs M_many M_isPlanned M_least M_optima M_jobOf M_machineOf M_durations M_arcs M_drafts M_starts M_heads M_tails M_chosen M_orders M_sizes) s.heap.size = A at hD ⊢
  have hA : ∀ q : Nat, s.heap.size ≤ q → A q := fun q h => by rw [← hAe]; exact Or.inr h
  have hS : va_S A s.heap s.heap [] := va_S.rf
  have hP : va_P (dC, dI) vwCl (wM h_M h_M_jobOf h_M_machineOf h_M_durations h_M_arcs h_M_drafts h_M_starts h_M_heads h_M_tails h_M_chosen h_M_orders h_M_sizes cI cZ M_jobs M_many M_isPlanned M_least M_optima M_jobOf M_machineOf M_durations M_arcs M_drafts M_starts M_heads M_tails M_chosen M_orders M_sizes) s.heap := hP
  have hl := lv_entry ([.ref h_M, .int a0]) (n := 3) (Nat.le_of_ble_eq_true rfl)
  rw [lg_entry_eq]
  generalize (lg_sl ([.ref h_M, .int a0]) ++ List.replicate (3 - (lg_sl ([.ref h_M, .int a0])).length) Slot.unset).toArray = ls at hl ⊢
  have hl : lv_has ls 3 [(0, .ref h_M), (1, .int a0)] := hl
  obtain ⟨H, hH⟩ : ∃ H, H = s.heap := ⟨_, rfl⟩
  rw [← hH] at hP
  have hS : va_S A s.heap H [] := by rw [hH]; exact hS
  refine W_heap hH ?_
  unfold wp_X3_layFirst at hw
  have hin_X3 : ∀ w ∈ u_ws RX3 TX3 16, w ∈ wsX3_layFirst := by decide +kernel
  refine lv_aload_n (pc := 0) hx hb dX3_layFirst_0 rfl (lv_at hl 0 rfl) ?_
  refine va_get (D := (dC, dI)) (ci := 3) (v := .ref h_M_sizes) (C := RX3) (T := TX3) (N := 16) (pc := 1) hx hb hts hin_X3 hown hK hP 0 rfl rfl 15 (by decide) (hts (.fieldLink RX3 41 "JobShopModel" "sizes" "[I") (by decide +kernel)) (fun _ h9 => h9) rfl dX3_layFirst_1 ?_
  refine lv_iload_n (pc := 4) hx hb dX3_layFirst_4 rfl (lv_at hl 1 rfl) ?_
  refine lv_iconst (v := 0) (pc := 5) hx hb dX3_layFirst_5 (by decide) ?_
  obtain ⟨b_1, hw⟩ := hw
  refine va_iast (pc := 6) hx hb hK hP hD hS 11 0 rfl rfl b_1 dX3_layFirst_6 (fun H locs hP hD hS => ?_)
  have hP : va_P (dC, dI) vwCl (wM h_M h_M_jobOf h_M_machineOf h_M_durations h_M_arcs h_M_drafts h_M_starts h_M_heads h_M_tails h_M_chosen h_M_orders h_M_sizes cI cZ M_jobs M_many M_isPlanned M_least M_optima M_jobOf M_machineOf M_durations M_arcs M_drafts M_starts M_heads M_tails M_chosen M_orders (upd M_sizes a0.toNatClampNeg 0)) H := hP
  have hD : va_D A (wM h_M h_M_jobOf h_M_machineOf h_M_durations h_M_arcs h_M_drafts h_M_starts h_M_heads h_M_tails h_M_chosen h_M_orders h_M_sizes cI cZ M_jobs M_many M_isPlanned M_least M_optima M_jobOf M_machineOf M_durations M_arcs M_drafts M_starts M_heads M_tails M_chosen M_orders (upd M_sizes a0.toNatClampNeg 0)) := hD
  refine lv_iconst (v := 0) (pc := 7) hx hb dX3_layFirst_7 (by decide) ?_
  refine lv_istore_n (lv' := [(2, .int 0), (0, .ref h_M), (1, .int a0)]) (pc := 8) hx hb dX3_layFirst_8 rfl hl (by decide) rfl (fun ls hl => ?_)
  obtain ⟨I_9, μ_9, hI_9, hs_9⟩ := hw
  refine lp_W (I := fun z : Int32 × (Nat → Int32) × (Nat → Int32) => I_9 z.1 z.2.1 z.2.2) (fun z => μ_9 z.1 z.2.1 z.2.2) (fun (z : Int32 × (Nat → Int32) × (Nat → Int32)) H locs ls => va_P (dC, dI) vwCl (wM h_M h_M_jobOf h_M_machineOf h_M_durations h_M_arcs h_M_drafts h_M_starts h_M_heads h_M_tails h_M_chosen h_M_orders h_M_sizes cI cZ M_jobs M_many M_isPlanned M_least M_optima M_jobOf M_machineOf M_durations M_arcs M_drafts M_starts M_heads M_tails M_chosen z.2.1 z.2.2) H ∧ va_D A (wM h_M h_M_jobOf h_M_machineOf h_M_durations h_M_arcs h_M_drafts h_M_starts h_M_heads h_M_tails h_M_chosen h_M_orders h_M_sizes cI cZ M_jobs M_many M_isPlanned M_least M_optima M_jobOf M_machineOf M_durations M_arcs M_drafts M_starts M_heads M_tails M_chosen z.2.1 z.2.2) ∧ va_S A s.heap H locs ∧ lv_has ls 3 [(0, .ref h_M), (1, .int a0), (2, .int z.1)]) ?_ (0, M_orders, (upd M_sizes a0.toNatClampNeg 0)) _ _ _ hI_9 ⟨hP, hD, hS, (lv_sub hl [1, 2, 0] rfl)⟩
  rintro ⟨x2_9, M_orders_9, M_sizes_9⟩ H locs ls hI ⟨hP, hD, hS, hl⟩ ih_9
  have hw := hs_9 x2_9 M_orders_9 M_sizes_9 hI
  have hP : va_P (dC, dI) vwCl (wM h_M h_M_jobOf h_M_machineOf h_M_durations h_M_arcs h_M_drafts h_M_starts h_M_heads h_M_tails h_M_chosen h_M_orders h_M_sizes cI cZ M_jobs M_many M_isPlanned M_least M_optima M_jobOf M_machineOf M_durations M_arcs M_drafts M_starts M_heads M_tails M_chosen M_orders_9 M_sizes_9) H := hP
  have hD : va_D A (wM h_M h_M_jobOf h_M_machineOf h_M_durations h_M_arcs h_M_drafts h_M_starts h_M_heads h_M_tails h_M_chosen h_M_orders h_M_sizes cI cZ M_jobs M_many M_isPlanned M_least M_optima M_jobOf M_machineOf M_durations M_arcs M_drafts M_starts M_heads M_tails M_chosen M_orders_9 M_sizes_9) := hD
  have hl : lv_has ls 3 [(0, .ref h_M), (1, .int a0), (2, .int x2_9)] := hl
  refine lv_iload_n (pc := 9) hx hb dX3_layFirst_9 rfl (lv_at hl 2 rfl) ?_
  refine lv_aload_n (pc := 10) hx hb dX3_layFirst_10 rfl (lv_at hl 0 rfl) ?_
  refine va_get (D := (dC, dI)) (ci := 3) (v := .int M_many) (C := RX3) (T := TX3) (N := 16) (pc := 11) hx hb hts hin_X3 hown hK hP 0 rfl rfl 1 (by decide) (hts (.fieldLink RX3 48 "JobShopModel" "many" "I") (by decide +kernel)) (fun _ h9 => h9) rfl dX3_layFirst_11 ?_
  refine lv_icmp_ge (tgt := 59) (pc := 14) hx hb dX3_layFirst_14 (by decide) (fun c_2 => ?_) (fun c_2 => ?_)
  · have hw := hw.1 c_2
    exact W.vret hx hb hr (fun t ht hW => ⟨⟨(M_orders_9, M_sizes_9), rfl, hw, by rw [ht]; exact hP, va_K.moved hW.alike hK, hD⟩, hS.F ht⟩) hS.2.2 dX3_layFirst_59
  · have hw := hw.2 c_2
    refine lv_aload_n (pc := 17) hx hb dX3_layFirst_17 rfl (lv_at hl 0 rfl) ?_
    refine va_get (D := (dC, dI)) (ci := 3) (v := .ref h_M_machineOf) (C := RX3) (T := TX3) (N := 16) (pc := 18) hx hb hts hin_X3 hown hK hP 0 rfl rfl 3 (by decide) (hts (.fieldLink RX3 13 "JobShopModel" "machineOf" "[I") (by decide +kernel)) (fun _ h9 => h9) rfl dX3_layFirst_18 ?_
    refine lv_iload_n (pc := 21) hx hb dX3_layFirst_21 rfl (lv_at hl 2 rfl) ?_
    obtain ⟨b_3, hw⟩ := hw
    refine va_iald (pc := 22) hx hb hK hP 2 0 rfl rfl b_3 dX3_layFirst_22 ?_
    refine lv_iload_n (pc := 23) hx hb dX3_layFirst_23 rfl (lv_at hl 1 rfl) ?_
    refine lv_icmp_ne (tgt := 53) (pc := 24) hx hb dX3_layFirst_24 (by decide) (fun c_4 => ?_) (fun c_4 => ?_)
    · have hw := hw.1 c_4
      refine lv_iinc (v := x2_9 + 1) (lv' := [(2, .int (x2_9 + 1)), (0, .ref h_M), (1, .int a0)]) (pc := 53) hx hb dX3_layFirst_53 hl (k := 2) rfl rfl (by decide) rfl (fun ls hl => ?_)
      refine lv_goto (tgt := 9) (pc := 56) hx hb dX3_layFirst_56 (by decide) ?_
      exact ih_9 ((x2_9 + 1), M_orders_9, M_sizes_9) _ _ _ hw.1 hw.2 ⟨hP, hD, hS, (lv_sub hl [1, 2, 0] rfl)⟩
    · have hw := hw.2 c_4
      refine lv_aload_n (pc := 27) hx hb dX3_layFirst_27 rfl (lv_at hl 0 rfl) ?_
      refine va_get (D := (dC, dI)) (ci := 3) (v := .ref h_M_orders) (C := RX3) (T := TX3) (N := 16) (pc := 28) hx hb hts hin_X3 hown hK hP 0 rfl rfl 14 (by decide) (hts (.fieldLink RX3 38 "JobShopModel" "orders" "[I") (by decide +kernel)) (fun _ h9 => h9) rfl dX3_layFirst_28 ?_
      refine lv_iconst (v := 4) (pc := 31) hx hb dX3_layFirst_31 (by decide) ?_
      refine lv_iload_n (pc := 32) hx hb dX3_layFirst_32 rfl (lv_at hl 1 rfl) ?_
      refine lv_imul (pc := 33) hx hb dX3_layFirst_33 ?_
      refine lv_aload_n (pc := 34) hx hb dX3_layFirst_34 rfl (lv_at hl 0 rfl) ?_
      refine va_get (D := (dC, dI)) (ci := 3) (v := .ref h_M_sizes) (C := RX3) (T := TX3) (N := 16) (pc := 35) hx hb hts hin_X3 hown hK hP 0 rfl rfl 15 (by decide) (hts (.fieldLink RX3 41 "JobShopModel" "sizes" "[I") (by decide +kernel)) (fun _ h9 => h9) rfl dX3_layFirst_35 ?_
      refine lv_iload_n (pc := 38) hx hb dX3_layFirst_38 rfl (lv_at hl 1 rfl) ?_
      obtain ⟨b_5, hw⟩ := hw
      refine va_iald (pc := 39) hx hb hK hP 11 0 rfl rfl b_5 dX3_layFirst_39 ?_
      refine lv_iadd (pc := 40) hx hb dX3_layFirst_40 ?_
      refine lv_iload_n (pc := 41) hx hb dX3_layFirst_41 rfl (lv_at hl 2 rfl) ?_
      obtain ⟨b_6, hw⟩ := hw
      refine va_iast (pc := 42) hx hb hK hP hD hS 10 0 rfl rfl b_6 dX3_layFirst_42 (fun H locs hP hD hS => ?_)
      have hP : va_P (dC, dI) vwCl (wM h_M h_M_jobOf h_M_machineOf h_M_durations h_M_arcs h_M_drafts h_M_starts h_M_heads h_M_tails h_M_chosen h_M_orders h_M_sizes cI cZ M_jobs M_many M_isPlanned M_least M_optima M_jobOf M_machineOf M_durations M_arcs M_drafts M_starts M_heads M_tails M_chosen (upd M_orders_9 ((4 * a0) + (M_sizes_9 a0.toNatClampNeg)).toNatClampNeg x2_9) M_sizes_9) H := hP
      have hD : va_D A (wM h_M h_M_jobOf h_M_machineOf h_M_durations h_M_arcs h_M_drafts h_M_starts h_M_heads h_M_tails h_M_chosen h_M_orders h_M_sizes cI cZ M_jobs M_many M_isPlanned M_least M_optima M_jobOf M_machineOf M_durations M_arcs M_drafts M_starts M_heads M_tails M_chosen (upd M_orders_9 ((4 * a0) + (M_sizes_9 a0.toNatClampNeg)).toNatClampNeg x2_9) M_sizes_9) := hD
      refine lv_aload_n (pc := 43) hx hb dX3_layFirst_43 rfl (lv_at hl 0 rfl) ?_
      refine va_get (D := (dC, dI)) (ci := 3) (v := .ref h_M_sizes) (C := RX3) (T := TX3) (N := 16) (pc := 44) hx hb hts hin_X3 hown hK hP 0 rfl rfl 15 (by decide) (hts (.fieldLink RX3 41 "JobShopModel" "sizes" "[I") (by decide +kernel)) (fun _ h9 => h9) rfl dX3_layFirst_44 ?_
      refine lv_iload_n (pc := 47) hx hb dX3_layFirst_47 rfl (lv_at hl 1 rfl) ?_
      refine lv_dup2_11 (pc := 48) hx hb dX3_layFirst_48 rfl rfl ?_
      obtain ⟨b_7, hw⟩ := hw
      refine va_iald (pc := 49) hx hb hK hP 11 0 rfl rfl b_7 dX3_layFirst_49 ?_
      refine lv_iconst (v := 1) (pc := 50) hx hb dX3_layFirst_50 (by decide) ?_
      refine lv_iadd (pc := 51) hx hb dX3_layFirst_51 ?_
      obtain ⟨b_8, hw⟩ := hw
      refine va_iast (pc := 52) hx hb hK hP hD hS 11 0 rfl rfl b_8 dX3_layFirst_52 (fun H locs hP hD hS => ?_)
      have hP : va_P (dC, dI) vwCl (wM h_M h_M_jobOf h_M_machineOf h_M_durations h_M_arcs h_M_drafts h_M_starts h_M_heads h_M_tails h_M_chosen h_M_orders h_M_sizes cI cZ M_jobs M_many M_isPlanned M_least M_optima M_jobOf M_machineOf M_durations M_arcs M_drafts M_starts M_heads M_tails M_chosen (upd M_orders_9 ((4 * a0) + (M_sizes_9 a0.toNatClampNeg)).toNatClampNeg x2_9) (upd M_sizes_9 a0.toNatClampNeg ((M_sizes_9 a0.toNatClampNeg) + 1))) H := hP
      have hD : va_D A (wM h_M h_M_jobOf h_M_machineOf h_M_durations h_M_arcs h_M_drafts h_M_starts h_M_heads h_M_tails h_M_chosen h_M_orders h_M_sizes cI cZ M_jobs M_many M_isPlanned M_least M_optima M_jobOf M_machineOf M_durations M_arcs M_drafts M_starts M_heads M_tails M_chosen (upd M_orders_9 ((4 * a0) + (M_sizes_9 a0.toNatClampNeg)).toNatClampNeg x2_9) (upd M_sizes_9 a0.toNatClampNeg ((M_sizes_9 a0.toNatClampNeg) + 1))) := hD
      refine lv_iinc (v := x2_9 + 1) (lv' := [(2, .int (x2_9 + 1)), (0, .ref h_M), (1, .int a0)]) (pc := 53) hx hb dX3_layFirst_53 hl (k := 2) rfl rfl (by decide) rfl (fun ls hl => ?_)
      refine lv_goto (tgt := 9) (pc := 56) hx hb dX3_layFirst_56 (by decide) ?_
      exact ih_9 ((x2_9 + 1), (upd M_orders_9 ((4 * a0) + (M_sizes_9 a0.toNatClampNeg)).toNatClampNeg x2_9), (upd M_sizes_9 a0.toNatClampNeg ((M_sizes_9 a0.toNatClampNeg) + 1))) _ _ _ hw.1 hw.2 ⟨hP, hD, hS, (lv_sub hl [1, 2, 0] rfl)⟩
set_option maxHeartbeats 4000000 in
set_option maxRecDepth 100000 in
theorem c_X3_nextOrder (l : Launch) (dC : Nat → ClassId) (dI : Nat → Nat → Nat) (h_M h_M_jobOf h_M_machineOf h_M_durations h_M_arcs h_M_drafts h_M_starts h_M_heads h_M_tails h_M_chosen h_M_orders h_M_sizes : Nat) (sz : Nat) (cI cZ : ClassId) (M_jobs : Int32) (M_many : Int32) (M_isPlanned : Int32) (M_least : Int32) (M_optima : Int32) (M_jobOf : Nat → Int32) (M_machineOf : Nat → Int32) (M_durations : Nat → Int32) (M_arcs : Nat → Int32) (M_drafts : Nat → Int32) (M_starts : Nat → Int32) (M_heads : Nat → Int32) (M_tails : Nat → Int32) (M_chosen : Nat → Int32) (M_orders : Nat → Int32) (M_sizes : Nat → Int32) (a0 : Int32) (post : Int32 → (Nat → Int32) → (Nat → Int32) → Prop) (hw : wp_X3_nextOrder M_many M_machineOf M_orders M_sizes a0 post) : Met l yX3_nextOrder wsX3_nextOrder ({ frames := 1, cells := 0, slots := 0, locals := 22 }) (va_Pc [.ref h_M, .int a0] (fun U => U.heap.size = sz ∧ va_P (dC, dI) vwCl (wM h_M h_M_jobOf h_M_machineOf h_M_durations h_M_arcs h_M_drafts h_M_starts h_M_heads h_M_tails h_M_chosen h_M_orders h_M_sizes cI cZ M_jobs M_many M_isPlanned M_least M_optima M_jobOf M_machineOf M_durations M_arcs M_drafts M_starts M_heads M_tails M_chosen M_orders M_sizes) U.heap ∧ va_K (dC, dI) vwCl [(cI, .int), (cZ, .boolean)] U ∧ va_D (fun _ => True) (wM h_M h_M_jobOf h_M_machineOf h_M_durations h_M_arcs h_M_drafts h_M_starts h_M_heads h_M_tails h_M_chosen h_M_orders h_M_sizes cI cZ M_jobs M_many M_isPlanned M_least M_optima M_jobOf M_machineOf M_durations M_arcs M_drafts M_starts M_heads M_tails M_chosen M_orders M_sizes))) (va_Qi (fun (r : Int32) (u : (Nat → Int32) × (Nat → Int32)) => post r u.1 u.2) (fun u t => va_P (dC, dI) vwCl (wM h_M h_M_jobOf h_M_machineOf h_M_durations h_M_arcs h_M_drafts h_M_starts h_M_heads h_M_tails h_M_chosen h_M_orders h_M_sizes cI cZ M_jobs M_many M_isPlanned M_least M_optima M_jobOf M_machineOf M_durations M_arcs M_drafts M_starts M_heads M_tails M_chosen u.1 u.2) t.heap ∧ va_K (dC, dI) vwCl [(cI, .int), (cZ, .boolean)] t ∧ va_D (va_A (wM h_M h_M_jobOf h_M_machineOf h_M_durations h_M_arcs h_M_drafts h_M_starts h_M_heads h_M_tails h_M_chosen h_M_orders h_M_sizes cI cZ M_jobs M_many M_isPlanned M_least M_optima M_jobOf M_machineOf M_durations M_arcs M_drafts M_starts M_heads M_tails M_chosen M_orders M_sizes) sz) (wM h_M h_M_jobOf h_M_machineOf h_M_durations h_M_arcs h_M_drafts h_M_starts h_M_heads h_M_tails h_M_chosen h_M_orders h_M_sizes cI cZ M_jobs M_many M_isPlanned M_least M_optima M_jobOf M_machineOf M_durations M_arcs M_drafts M_starts M_heads M_tails M_chosen u.1 u.2)) (va_A (wM h_M h_M_jobOf h_M_machineOf h_M_durations h_M_arcs h_M_drafts h_M_starts h_M_heads h_M_tails h_M_chosen h_M_orders h_M_sizes cI cZ M_jobs M_many M_isPlanned M_least M_optima M_jobOf M_machineOf M_durations M_arcs M_drafts M_starts M_heads M_tails M_chosen M_orders M_sizes) sz)) 0 0 (va_A (wM h_M h_M_jobOf h_M_machineOf h_M_durations h_M_arcs h_M_drafts h_M_starts h_M_heads h_M_tails h_M_chosen h_M_orders h_M_sizes cI cZ M_jobs M_many M_isPlanned M_least M_optima M_jobOf M_machineOf M_durations M_arcs M_drafts M_starts M_heads M_tails M_chosen M_orders M_sizes) sz) := by
  refine Met.ofW (cc := cX3_nextOrder) (maxL := 9) (ret := (some .boolean)) (by decide) rfl ?_
  intro p e s m args below meth c s₁ B hml hv
  obtain ⟨rfl, hsz, hP, hK, hD0⟩ := hv
  have hx := B.exec
  have hb := B.bytes
  have hr := B.returns
  have hts := atoms_spec (ws := wsX3_nextOrder) B.pre
  have hown : s.vm.findClass RX3 = some m.cls := findClass_of_methodNamed B.named
  have hlocks := B.notSynchronized
  subst hsz
  have hD := hD0.self (sz := s.heap.size)
  generalize hAe : va_A (wM h_M h_M_jobOf h_M_machineOf h_M_durations h_M_arcs h_M_drafts h_M_starts h_M_heads h_M_tails h_M_chosen h_M_orders h_M_sizes cI cZ M_jobs M_many M_isPlanned M_least M_optima M_jobOf M_machineOf M_durations M_arcs M_drafts M_starts M_heads M_tails M_chosen M_orders M_sizes) s.heap.size = A at hD ⊢
  have hA : ∀ q : Nat, s.heap.size ≤ q → A q := fun q h => by rw [← hAe]; exact Or.inr h
  have hS : va_S A s.heap s.heap [] := va_S.rf
  have hP : va_P (dC, dI) vwCl (wM h_M h_M_jobOf h_M_machineOf h_M_durations h_M_arcs h_M_drafts h_M_starts h_M_heads h_M_tails h_M_chosen h_M_orders h_M_sizes cI cZ M_jobs M_many M_isPlanned M_least M_optima M_jobOf M_machineOf M_durations M_arcs M_drafts M_starts M_heads M_tails M_chosen M_orders M_sizes) s.heap := hP
  have hl := lv_entry ([.ref h_M, .int a0]) (n := 9) (Nat.le_of_ble_eq_true rfl)
  rw [lg_entry_eq]
  generalize (lg_sl ([.ref h_M, .int a0]) ++ List.replicate (9 - (lg_sl ([.ref h_M, .int a0])).length) Slot.unset).toArray = ls at hl ⊢
  have hl : lv_has ls 9 [(0, .ref h_M), (1, .int a0)] := hl
  obtain ⟨H, hH⟩ : ∃ H, H = s.heap := ⟨_, rfl⟩
  rw [← hH] at hP
  have hS : va_S A s.heap H [] := by rw [hH]; exact hS
  refine W_heap hH ?_
  unfold wp_X3_nextOrder at hw
  have hin_X3 : ∀ w ∈ u_ws RX3 TX3 16, w ∈ wsX3_nextOrder := by decide +kernel
  refine lv_iconst (v := 4) (pc := 0) hx hb dX3_nextOrder_0 (by decide) ?_
  refine lv_iload_n (pc := 1) hx hb dX3_nextOrder_1 rfl (lv_at hl 1 rfl) ?_
  refine lv_imul (pc := 2) hx hb dX3_nextOrder_2 ?_
  refine lv_istore_n (lv' := [(2, .int (4 * a0)), (0, .ref h_M), (1, .int a0)]) (pc := 3) hx hb dX3_nextOrder_3 rfl hl (by decide) rfl (fun ls hl => ?_)
  refine lv_aload_n (pc := 4) hx hb dX3_nextOrder_4 rfl (lv_at hl 1 rfl) ?_
  refine va_get (D := (dC, dI)) (ci := 3) (v := .ref h_M_sizes) (C := RX3) (T := TX3) (N := 16) (pc := 5) hx hb hts hin_X3 hown hK hP 0 rfl rfl 15 (by decide) (hts (.fieldLink RX3 41 "JobShopModel" "sizes" "[I") (by decide +kernel)) (fun _ h9 => h9) rfl dX3_nextOrder_5 ?_
  refine lv_iload_n (pc := 8) hx hb dX3_nextOrder_8 rfl (lv_at hl 2 rfl) ?_
  obtain ⟨b_1, hw⟩ := hw
  refine va_iald (pc := 9) hx hb hK hP 11 0 rfl rfl b_1 dX3_nextOrder_9 ?_
  refine lv_iconst (v := 2) (pc := 10) hx hb dX3_nextOrder_10 (by decide) ?_
  refine lv_isub (pc := 11) hx hb dX3_nextOrder_11 ?_
  refine lv_istore_n (lv' := [(3, .int ((M_sizes a0.toNatClampNeg) - 2)), (2, .int (4 * a0)), (0, .ref h_M), (1, .int a0)]) (pc := 12) hx hb dX3_nextOrder_12 rfl hl (by decide) rfl (fun ls hl => ?_)
  obtain ⟨I_13, μ_13, hI_13, hs_13⟩ := hw
  refine lp_W (I := fun z : Int32 => I_13 z) (fun z => μ_13 z) (fun (z : Int32) H locs ls => va_P (dC, dI) vwCl (wM h_M h_M_jobOf h_M_machineOf h_M_durations h_M_arcs h_M_drafts h_M_starts h_M_heads h_M_tails h_M_chosen h_M_orders h_M_sizes cI cZ M_jobs M_many M_isPlanned M_least M_optima M_jobOf M_machineOf M_durations M_arcs M_drafts M_starts M_heads M_tails M_chosen M_orders M_sizes) H ∧ va_D A (wM h_M h_M_jobOf h_M_machineOf h_M_durations h_M_arcs h_M_drafts h_M_starts h_M_heads h_M_tails h_M_chosen h_M_orders h_M_sizes cI cZ M_jobs M_many M_isPlanned M_least M_optima M_jobOf M_machineOf M_durations M_arcs M_drafts M_starts M_heads M_tails M_chosen M_orders M_sizes) ∧ va_S A s.heap H locs ∧ lv_has ls 9 [(0, .ref h_M), (1, .int a0), (2, .int (4 * a0)), (3, .int z)]) ?_ ((M_sizes a0.toNatClampNeg) - 2) _ _ _ hI_13 ⟨hP, hD, hS, (lv_sub hl [2, 3, 1, 0] rfl)⟩
  rintro x3_13 H locs ls hI ⟨hP, hD, hS, hl⟩ ih_13
  have hw := hs_13 x3_13 hI
  have hP : va_P (dC, dI) vwCl (wM h_M h_M_jobOf h_M_machineOf h_M_durations h_M_arcs h_M_drafts h_M_starts h_M_heads h_M_tails h_M_chosen h_M_orders h_M_sizes cI cZ M_jobs M_many M_isPlanned M_least M_optima M_jobOf M_machineOf M_durations M_arcs M_drafts M_starts M_heads M_tails M_chosen M_orders M_sizes) H := hP
  have hD : va_D A (wM h_M h_M_jobOf h_M_machineOf h_M_durations h_M_arcs h_M_drafts h_M_starts h_M_heads h_M_tails h_M_chosen h_M_orders h_M_sizes cI cZ M_jobs M_many M_isPlanned M_least M_optima M_jobOf M_machineOf M_durations M_arcs M_drafts M_starts M_heads M_tails M_chosen M_orders M_sizes) := hD
  have hl : lv_has ls 9 [(0, .ref h_M), (1, .int a0), (2, .int (4 * a0)), (3, .int x3_13)] := hl
  refine lv_iload_n (pc := 13) hx hb dX3_nextOrder_13 rfl (lv_at hl 3 rfl) ?_
  obtain ⟨J_44, hs_44, hw⟩ := hw
  refine jn_W (J := fun z : Unit => J_44 ) 44 (fun z => []) (fun (z : Unit) H locs ls => va_P (dC, dI) vwCl (wM h_M h_M_jobOf h_M_machineOf h_M_durations h_M_arcs h_M_drafts h_M_starts h_M_heads h_M_tails h_M_chosen h_M_orders h_M_sizes cI cZ M_jobs M_many M_isPlanned M_least M_optima M_jobOf M_machineOf M_durations M_arcs M_drafts M_starts M_heads M_tails M_chosen M_orders M_sizes) H ∧ va_D A (wM h_M h_M_jobOf h_M_machineOf h_M_durations h_M_arcs h_M_drafts h_M_starts h_M_heads h_M_tails h_M_chosen h_M_orders h_M_sizes cI cZ M_jobs M_many M_isPlanned M_least M_optima M_jobOf M_machineOf M_durations M_arcs M_drafts M_starts M_heads M_tails M_chosen M_orders M_sizes) ∧ va_S A s.heap H locs ∧ lv_has ls 9 [(0, .ref h_M), (1, .int a0), (2, .int (4 * a0)), (3, .int x3_13)]) ?_ ?_
  · rintro _ H locs ls hI ⟨hP, hD, hS, hl⟩
    have hw := hs_44  hI
    have hP : va_P (dC, dI) vwCl (wM h_M h_M_jobOf h_M_machineOf h_M_durations h_M_arcs h_M_drafts h_M_starts h_M_heads h_M_tails h_M_chosen h_M_orders h_M_sizes cI cZ M_jobs M_many M_isPlanned M_least M_optima M_jobOf M_machineOf M_durations M_arcs M_drafts M_starts M_heads M_tails M_chosen M_orders M_sizes) H := hP
    have hD : va_D A (wM h_M h_M_jobOf h_M_machineOf h_M_durations h_M_arcs h_M_drafts h_M_starts h_M_heads h_M_tails h_M_chosen h_M_orders h_M_sizes cI cZ M_jobs M_many M_isPlanned M_least M_optima M_jobOf M_machineOf M_durations M_arcs M_drafts M_starts M_heads M_tails M_chosen M_orders M_sizes) := hD
    have hl : lv_has ls 9 [(0, .ref h_M), (1, .int a0), (2, .int (4 * a0)), (3, .int x3_13)] := hl
    refine W.eq (g2 := F0 m 44 ls []) rfl ?_
    refine lv_iload_n (pc := 44) hx hb dX3_nextOrder_44 rfl (lv_at hl 3 rfl) ?_
    refine lv_if_ge (tgt := 55) (pc := 45) hx hb dX3_nextOrder_45 (by decide) (fun c_2 => ?_) (fun c_2 => ?_)
    · have hw := hw.1 c_2
      refine lv_aload_n (pc := 55) hx hb dX3_nextOrder_55 rfl (lv_at hl 0 rfl) ?_
      refine va_get (D := (dC, dI)) (ci := 3) (v := .ref h_M_sizes) (C := RX3) (T := TX3) (N := 16) (pc := 56) hx hb hts hin_X3 hown hK hP 0 rfl rfl 15 (by decide) (hts (.fieldLink RX3 41 "JobShopModel" "sizes" "[I") (by decide +kernel)) (fun _ h9 => h9) rfl dX3_nextOrder_56 ?_
      refine lv_iload_n (pc := 59) hx hb dX3_nextOrder_59 rfl (lv_at hl 1 rfl) ?_
      obtain ⟨b_3, hw⟩ := hw
      refine va_iald (pc := 60) hx hb hK hP 11 0 rfl rfl b_3 dX3_nextOrder_60 ?_
      refine lv_iconst (v := 1) (pc := 61) hx hb dX3_nextOrder_61 (by decide) ?_
      refine lv_isub (pc := 62) hx hb dX3_nextOrder_62 ?_
      refine lv_istore (lv' := [(4, .int ((M_sizes a0.toNatClampNeg) - 1)), (0, .ref h_M), (1, .int a0), (2, .int (4 * a0)), (3, .int x3_13)]) (pc := 63) hx hb dX3_nextOrder_63 hl (by decide) rfl (fun ls hl => ?_)
      obtain ⟨I_65, μ_65, hI_65, hs_65⟩ := hw
      refine lp_W (I := fun z : Int32 => I_65 z) (fun z => μ_65 z) (fun (z : Int32) H locs ls => va_P (dC, dI) vwCl (wM h_M h_M_jobOf h_M_machineOf h_M_durations h_M_arcs h_M_drafts h_M_starts h_M_heads h_M_tails h_M_chosen h_M_orders h_M_sizes cI cZ M_jobs M_many M_isPlanned M_least M_optima M_jobOf M_machineOf M_durations M_arcs M_drafts M_starts M_heads M_tails M_chosen M_orders M_sizes) H ∧ va_D A (wM h_M h_M_jobOf h_M_machineOf h_M_durations h_M_arcs h_M_drafts h_M_starts h_M_heads h_M_tails h_M_chosen h_M_orders h_M_sizes cI cZ M_jobs M_many M_isPlanned M_least M_optima M_jobOf M_machineOf M_durations M_arcs M_drafts M_starts M_heads M_tails M_chosen M_orders M_sizes) ∧ va_S A s.heap H locs ∧ lv_has ls 9 [(0, .ref h_M), (1, .int a0), (2, .int (4 * a0)), (3, .int x3_13), (4, .int z)]) ?_ ((M_sizes a0.toNatClampNeg) - 1) _ _ _ hI_65 ⟨hP, hD, hS, (lv_sub hl [1, 2, 3, 4, 0] rfl)⟩
      rintro x4_65 H locs ls hI ⟨hP, hD, hS, hl⟩ ih_65
      have hw := hs_65 x4_65 hI
      have hP : va_P (dC, dI) vwCl (wM h_M h_M_jobOf h_M_machineOf h_M_durations h_M_arcs h_M_drafts h_M_starts h_M_heads h_M_tails h_M_chosen h_M_orders h_M_sizes cI cZ M_jobs M_many M_isPlanned M_least M_optima M_jobOf M_machineOf M_durations M_arcs M_drafts M_starts M_heads M_tails M_chosen M_orders M_sizes) H := hP
      have hD : va_D A (wM h_M h_M_jobOf h_M_machineOf h_M_durations h_M_arcs h_M_drafts h_M_starts h_M_heads h_M_tails h_M_chosen h_M_orders h_M_sizes cI cZ M_jobs M_many M_isPlanned M_least M_optima M_jobOf M_machineOf M_durations M_arcs M_drafts M_starts M_heads M_tails M_chosen M_orders M_sizes) := hD
      have hl : lv_has ls 9 [(0, .ref h_M), (1, .int a0), (2, .int (4 * a0)), (3, .int x3_13), (4, .int x4_65)] := hl
      refine lv_aload_n (pc := 65) hx hb dX3_nextOrder_65 rfl (lv_at hl 0 rfl) ?_
      refine va_get (D := (dC, dI)) (ci := 3) (v := .ref h_M_orders) (C := RX3) (T := TX3) (N := 16) (pc := 66) hx hb hts hin_X3 hown hK hP 0 rfl rfl 14 (by decide) (hts (.fieldLink RX3 38 "JobShopModel" "orders" "[I") (by decide +kernel)) (fun _ h9 => h9) rfl dX3_nextOrder_66 ?_
      refine lv_iload_n (pc := 69) hx hb dX3_nextOrder_69 rfl (lv_at hl 2 rfl) ?_
      refine lv_iload (pc := 70) hx hb dX3_nextOrder_70 (lv_at hl 4 rfl) ?_
      refine lv_iadd (pc := 72) hx hb dX3_nextOrder_72 ?_
      obtain ⟨b_4, hw⟩ := hw
      refine va_iald (pc := 73) hx hb hK hP 10 0 rfl rfl b_4 dX3_nextOrder_73 ?_
      refine lv_aload_n (pc := 74) hx hb dX3_nextOrder_74 rfl (lv_at hl 0 rfl) ?_
      refine va_get (D := (dC, dI)) (ci := 3) (v := .ref h_M_orders) (C := RX3) (T := TX3) (N := 16) (pc := 75) hx hb hts hin_X3 hown hK hP 0 rfl rfl 14 (by decide) (hts (.fieldLink RX3 38 "JobShopModel" "orders" "[I") (by decide +kernel)) (fun _ h9 => h9) rfl dX3_nextOrder_75 ?_
      refine lv_iload_n (pc := 78) hx hb dX3_nextOrder_78 rfl (lv_at hl 2 rfl) ?_
      refine lv_iload_n (pc := 79) hx hb dX3_nextOrder_79 rfl (lv_at hl 3 rfl) ?_
      refine lv_iadd (pc := 80) hx hb dX3_nextOrder_80 ?_
      obtain ⟨b_5, hw⟩ := hw
      refine va_iald (pc := 81) hx hb hK hP 10 0 rfl rfl b_5 dX3_nextOrder_81 ?_
      refine lv_icmp_ge (tgt := 91) (pc := 82) hx hb dX3_nextOrder_82 (by decide) (fun c_6 => ?_) (fun c_6 => ?_)
      · have hw := hw.1 c_6
        refine lv_aload_n (pc := 91) hx hb dX3_nextOrder_91 rfl (lv_at hl 0 rfl) ?_
        refine va_get (D := (dC, dI)) (ci := 3) (v := .ref h_M_orders) (C := RX3) (T := TX3) (N := 16) (pc := 92) hx hb hts hin_X3 hown hK hP 0 rfl rfl 14 (by decide) (hts (.fieldLink RX3 38 "JobShopModel" "orders" "[I") (by decide +kernel)) (fun _ h9 => h9) rfl dX3_nextOrder_92 ?_
        refine lv_iload_n (pc := 95) hx hb dX3_nextOrder_95 rfl (lv_at hl 2 rfl) ?_
        refine lv_iload_n (pc := 96) hx hb dX3_nextOrder_96 rfl (lv_at hl 3 rfl) ?_
        refine lv_iadd (pc := 97) hx hb dX3_nextOrder_97 ?_
        obtain ⟨b_7, hw⟩ := hw
        refine va_iald (pc := 98) hx hb hK hP 10 0 rfl rfl b_7 dX3_nextOrder_98 ?_
        refine lv_istore (lv' := [(5, .int (M_orders ((4 * a0) + x3_13).toNatClampNeg)), (0, .ref h_M), (1, .int a0), (2, .int (4 * a0)), (3, .int x3_13), (4, .int x4_65)]) (pc := 99) hx hb dX3_nextOrder_99 hl (by decide) rfl (fun ls hl => ?_)
        refine lv_aload_n (pc := 101) hx hb dX3_nextOrder_101 rfl (lv_at hl 1 rfl) ?_
        refine va_get (D := (dC, dI)) (ci := 3) (v := .ref h_M_orders) (C := RX3) (T := TX3) (N := 16) (pc := 102) hx hb hts hin_X3 hown hK hP 0 rfl rfl 14 (by decide) (hts (.fieldLink RX3 38 "JobShopModel" "orders" "[I") (by decide +kernel)) (fun _ h9 => h9) rfl dX3_nextOrder_102 ?_
        refine lv_iload_n (pc := 105) hx hb dX3_nextOrder_105 rfl (lv_at hl 3 rfl) ?_
        refine lv_iload_n (pc := 106) hx hb dX3_nextOrder_106 rfl (lv_at hl 4 rfl) ?_
        refine lv_iadd (pc := 107) hx hb dX3_nextOrder_107 ?_
        refine lv_aload_n (pc := 108) hx hb dX3_nextOrder_108 rfl (lv_at hl 1 rfl) ?_
        refine va_get (D := (dC, dI)) (ci := 3) (v := .ref h_M_orders) (C := RX3) (T := TX3) (N := 16) (pc := 109) hx hb hts hin_X3 hown hK hP 0 rfl rfl 14 (by decide) (hts (.fieldLink RX3 38 "JobShopModel" "orders" "[I") (by decide +kernel)) (fun _ h9 => h9) rfl dX3_nextOrder_109 ?_
        refine lv_iload_n (pc := 112) hx hb dX3_nextOrder_112 rfl (lv_at hl 3 rfl) ?_
        refine lv_iload (pc := 113) hx hb dX3_nextOrder_113 (lv_at hl 5 rfl) ?_
        refine lv_iadd (pc := 115) hx hb dX3_nextOrder_115 ?_
        obtain ⟨b_8, hw⟩ := hw
        refine va_iald (pc := 116) hx hb hK hP 10 0 rfl rfl b_8 dX3_nextOrder_116 ?_
        obtain ⟨b_9, hw⟩ := hw
        refine va_iast (pc := 117) hx hb hK hP hD hS 10 0 rfl rfl b_9 dX3_nextOrder_117 (fun H locs hP hD hS => ?_)
        have hP : va_P (dC, dI) vwCl (wM h_M h_M_jobOf h_M_machineOf h_M_durations h_M_arcs h_M_drafts h_M_starts h_M_heads h_M_tails h_M_chosen h_M_orders h_M_sizes cI cZ M_jobs M_many M_isPlanned M_least M_optima M_jobOf M_machineOf M_durations M_arcs M_drafts M_starts M_heads M_tails M_chosen (upd M_orders ((4 * a0) + x3_13).toNatClampNeg (M_orders ((4 * a0) + x4_65).toNatClampNeg)) M_sizes) H := hP
        have hD : va_D A (wM h_M h_M_jobOf h_M_machineOf h_M_durations h_M_arcs h_M_drafts h_M_starts h_M_heads h_M_tails h_M_chosen h_M_orders h_M_sizes cI cZ M_jobs M_many M_isPlanned M_least M_optima M_jobOf M_machineOf M_durations M_arcs M_drafts M_starts M_heads M_tails M_chosen (upd M_orders ((4 * a0) + x3_13).toNatClampNeg (M_orders ((4 * a0) + x4_65).toNatClampNeg)) M_sizes) := hD
        refine lv_aload_n (pc := 118) hx hb dX3_nextOrder_118 rfl (lv_at hl 1 rfl) ?_
        refine va_get (D := (dC, dI)) (ci := 3) (v := .ref h_M_orders) (C := RX3) (T := TX3) (N := 16) (pc := 119) hx hb hts hin_X3 hown hK hP 0 rfl rfl 14 (by decide) (hts (.fieldLink RX3 38 "JobShopModel" "orders" "[I") (by decide +kernel)) (fun _ h9 => h9) rfl dX3_nextOrder_119 ?_
        refine lv_iload_n (pc := 122) hx hb dX3_nextOrder_122 rfl (lv_at hl 3 rfl) ?_
        refine lv_iload (pc := 123) hx hb dX3_nextOrder_123 (lv_at hl 5 rfl) ?_
        refine lv_iadd (pc := 125) hx hb dX3_nextOrder_125 ?_
        refine lv_iload (pc := 126) hx hb dX3_nextOrder_126 (lv_at hl 0 rfl) ?_
        obtain ⟨b_10, hw⟩ := hw
        refine va_iast (pc := 128) hx hb hK hP hD hS 10 0 rfl rfl b_10 dX3_nextOrder_128 (fun H locs hP hD hS => ?_)
        have hP : va_P (dC, dI) vwCl (wM h_M h_M_jobOf h_M_machineOf h_M_durations h_M_arcs h_M_drafts h_M_starts h_M_heads h_M_tails h_M_chosen h_M_orders h_M_sizes cI cZ M_jobs M_many M_isPlanned M_least M_optima M_jobOf M_machineOf M_durations M_arcs M_drafts M_starts M_heads M_tails M_chosen (upd (upd M_orders ((4 * a0) + x3_13).toNatClampNeg (M_orders ((4 * a0) + x4_65).toNatClampNeg)) ((4 * a0) + x4_65).toNatClampNeg (M_orders ((4 * a0) + x3_13).toNatClampNeg)) M_sizes) H := hP
        have hD : va_D A (wM h_M h_M_jobOf h_M_machineOf h_M_durations h_M_arcs h_M_drafts h_M_starts h_M_heads h_M_tails h_M_chosen h_M_orders h_M_sizes cI cZ M_jobs M_many M_isPlanned M_least M_optima M_jobOf M_machineOf M_durations M_arcs M_drafts M_starts M_heads M_tails M_chosen (upd (upd M_orders ((4 * a0) + x3_13).toNatClampNeg (M_orders ((4 * a0) + x4_65).toNatClampNeg)) ((4 * a0) + x4_65).toNatClampNeg (M_orders ((4 * a0) + x3_13).toNatClampNeg)) M_sizes) := hD
        refine lv_iload_n (pc := 129) hx hb dX3_nextOrder_129 rfl (lv_at hl 4 rfl) ?_
        refine lv_iconst (v := 1) (pc := 130) hx hb dX3_nextOrder_130 (by decide) ?_
        refine lv_iadd (pc := 131) hx hb dX3_nextOrder_131 ?_
        refine lv_istore (lv' := [(6, .int (x3_13 + 1)), (5, .int (M_orders ((4 * a0) + x3_13).toNatClampNeg)), (0, .ref h_M), (1, .int a0), (2, .int (4 * a0)), (3, .int x3_13), (4, .int x4_65)]) (pc := 132) hx hb dX3_nextOrder_132 hl (by decide) rfl (fun ls hl => ?_)
        refine lv_aload_n (pc := 134) hx hb dX3_nextOrder_134 rfl (lv_at hl 2 rfl) ?_
        refine va_get (D := (dC, dI)) (ci := 3) (v := .ref h_M_sizes) (C := RX3) (T := TX3) (N := 16) (pc := 135) hx hb hts hin_X3 hown hK hP 0 rfl rfl 15 (by decide) (hts (.fieldLink RX3 41 "JobShopModel" "sizes" "[I") (by decide +kernel)) (fun _ h9 => h9) rfl dX3_nextOrder_135 ?_
        refine lv_iload_n (pc := 138) hx hb dX3_nextOrder_138 rfl (lv_at hl 3 rfl) ?_
        obtain ⟨b_11, hw⟩ := hw
        refine va_iald (pc := 139) hx hb hK hP 11 0 rfl rfl b_11 dX3_nextOrder_139 ?_
        refine lv_iconst (v := 1) (pc := 140) hx hb dX3_nextOrder_140 (by decide) ?_
        refine lv_isub (pc := 141) hx hb dX3_nextOrder_141 ?_
        refine lv_istore (lv' := [(7, .int ((M_sizes a0.toNatClampNeg) - 1)), (6, .int (x3_13 + 1)), (5, .int (M_orders ((4 * a0) + x3_13).toNatClampNeg)), (0, .ref h_M), (1, .int a0), (2, .int (4 * a0)), (3, .int x3_13), (4, .int x4_65)]) (pc := 142) hx hb dX3_nextOrder_142 hl (by decide) rfl (fun ls hl => ?_)
        obtain ⟨I_144, μ_144, hI_144, hs_144⟩ := hw
        refine lp_W (I := fun z : Int32 × Int32 × (Nat → Int32) => I_144 z.1 z.2.1 z.2.2) (fun z => μ_144 z.1 z.2.1 z.2.2) (fun (z : Int32 × Int32 × (Nat → Int32)) H locs ls => va_P (dC, dI) vwCl (wM h_M h_M_jobOf h_M_machineOf h_M_durations h_M_arcs h_M_drafts h_M_starts h_M_heads h_M_tails h_M_chosen h_M_orders h_M_sizes cI cZ M_jobs M_many M_isPlanned M_least M_optima M_jobOf M_machineOf M_durations M_arcs M_drafts M_starts M_heads M_tails M_chosen z.2.2 M_sizes) H ∧ va_D A (wM h_M h_M_jobOf h_M_machineOf h_M_durations h_M_arcs h_M_drafts h_M_starts h_M_heads h_M_tails h_M_chosen h_M_orders h_M_sizes cI cZ M_jobs M_many M_isPlanned M_least M_optima M_jobOf M_machineOf M_durations M_arcs M_drafts M_starts M_heads M_tails M_chosen z.2.2 M_sizes) ∧ va_S A s.heap H locs ∧ lv_has ls 9 [(0, .ref h_M), (2, .int (4 * a0)), (6, .int z.1), (7, .int z.2.1)]) ?_ ((x3_13 + 1), ((M_sizes a0.toNatClampNeg) - 1), (upd (upd M_orders ((4 * a0) + x3_13).toNatClampNeg (M_orders ((4 * a0) + x4_65).toNatClampNeg)) ((4 * a0) + x4_65).toNatClampNeg (M_orders ((4 * a0) + x3_13).toNatClampNeg))) _ _ _ hI_144 ⟨hP, hD, hS, (lv_sub hl [3, 5, 1, 0] rfl)⟩
        rintro ⟨x6_144, x7_144, M_orders_144⟩ H locs ls hI ⟨hP, hD, hS, hl⟩ ih_144
        have hw := hs_144 x6_144 x7_144 M_orders_144 hI
        have hP : va_P (dC, dI) vwCl (wM h_M h_M_jobOf h_M_machineOf h_M_durations h_M_arcs h_M_drafts h_M_starts h_M_heads h_M_tails h_M_chosen h_M_orders h_M_sizes cI cZ M_jobs M_many M_isPlanned M_least M_optima M_jobOf M_machineOf M_durations M_arcs M_drafts M_starts M_heads M_tails M_chosen M_orders_144 M_sizes) H := hP
        have hD : va_D A (wM h_M h_M_jobOf h_M_machineOf h_M_durations h_M_arcs h_M_drafts h_M_starts h_M_heads h_M_tails h_M_chosen h_M_orders h_M_sizes cI cZ M_jobs M_many M_isPlanned M_least M_optima M_jobOf M_machineOf M_durations M_arcs M_drafts M_starts M_heads M_tails M_chosen M_orders_144 M_sizes) := hD
        have hl : lv_has ls 9 [(0, .ref h_M), (2, .int (4 * a0)), (6, .int x6_144), (7, .int x7_144)] := hl
        refine lv_iload (pc := 144) hx hb dX3_nextOrder_144 (lv_at hl 2 rfl) ?_
        refine lv_iload (pc := 146) hx hb dX3_nextOrder_146 (lv_at hl 3 rfl) ?_
        refine lv_icmp_ge (tgt := 200) (pc := 148) hx hb dX3_nextOrder_148 (by decide) (fun c_12 => ?_) (fun c_12 => ?_)
        · have hw := hw.1 c_12
          refine lv_iconst (v := 1) (pc := 200) hx hb dX3_nextOrder_200 (by decide) ?_
          exact W.zret (v := 1) hx hb hr rfl (fun t ht hW => ⟨⟨1, (M_orders_144, M_sizes), rfl, hw, by rw [ht]; exact hP, va_K.moved hW.alike hK, hD⟩, hS.F ht⟩) hS.2.2 dX3_nextOrder_201
        · have hw := hw.2 c_12
          refine lv_aload_n (pc := 151) hx hb dX3_nextOrder_151 rfl (lv_at hl 0 rfl) ?_
          refine va_get (D := (dC, dI)) (ci := 3) (v := .ref h_M_orders) (C := RX3) (T := TX3) (N := 16) (pc := 152) hx hb hts hin_X3 hown hK hP 0 rfl rfl 14 (by decide) (hts (.fieldLink RX3 38 "JobShopModel" "orders" "[I") (by decide +kernel)) (fun _ h9 => h9) rfl dX3_nextOrder_152 ?_
          refine lv_iload_n (pc := 155) hx hb dX3_nextOrder_155 rfl (lv_at hl 1 rfl) ?_
          refine lv_iload (pc := 156) hx hb dX3_nextOrder_156 (lv_at hl 2 rfl) ?_
          refine lv_iadd (pc := 158) hx hb dX3_nextOrder_158 ?_
          obtain ⟨b_13, hw⟩ := hw
          refine va_iald (pc := 159) hx hb hK hP 10 0 rfl rfl b_13 dX3_nextOrder_159 ?_
          refine lv_istore (lv' := [(8, .int (M_orders_144 ((4 * a0) + x6_144).toNatClampNeg)), (0, .ref h_M), (2, .int (4 * a0)), (6, .int x6_144), (7, .int x7_144)]) (pc := 160) hx hb dX3_nextOrder_160 hl (by decide) rfl (fun ls hl => ?_)
          refine lv_aload_n (pc := 162) hx hb dX3_nextOrder_162 rfl (lv_at hl 1 rfl) ?_
          refine va_get (D := (dC, dI)) (ci := 3) (v := .ref h_M_orders) (C := RX3) (T := TX3) (N := 16) (pc := 163) hx hb hts hin_X3 hown hK hP 0 rfl rfl 14 (by decide) (hts (.fieldLink RX3 38 "JobShopModel" "orders" "[I") (by decide +kernel)) (fun _ h9 => h9) rfl dX3_nextOrder_163 ?_
          refine lv_iload_n (pc := 166) hx hb dX3_nextOrder_166 rfl (lv_at hl 2 rfl) ?_
          refine lv_iload (pc := 167) hx hb dX3_nextOrder_167 (lv_at hl 3 rfl) ?_
          refine lv_iadd (pc := 169) hx hb dX3_nextOrder_169 ?_
          refine lv_aload_n (pc := 170) hx hb dX3_nextOrder_170 rfl (lv_at hl 1 rfl) ?_
          refine va_get (D := (dC, dI)) (ci := 3) (v := .ref h_M_orders) (C := RX3) (T := TX3) (N := 16) (pc := 171) hx hb hts hin_X3 hown hK hP 0 rfl rfl 14 (by decide) (hts (.fieldLink RX3 38 "JobShopModel" "orders" "[I") (by decide +kernel)) (fun _ h9 => h9) rfl dX3_nextOrder_171 ?_
          refine lv_iload_n (pc := 174) hx hb dX3_nextOrder_174 rfl (lv_at hl 2 rfl) ?_
          refine lv_iload (pc := 175) hx hb dX3_nextOrder_175 (lv_at hl 4 rfl) ?_
          refine lv_iadd (pc := 177) hx hb dX3_nextOrder_177 ?_
          obtain ⟨b_14, hw⟩ := hw
          refine va_iald (pc := 178) hx hb hK hP 10 0 rfl rfl b_14 dX3_nextOrder_178 ?_
          obtain ⟨b_15, hw⟩ := hw
          refine va_iast (pc := 179) hx hb hK hP hD hS 10 0 rfl rfl b_15 dX3_nextOrder_179 (fun H locs hP hD hS => ?_)
          have hP : va_P (dC, dI) vwCl (wM h_M h_M_jobOf h_M_machineOf h_M_durations h_M_arcs h_M_drafts h_M_starts h_M_heads h_M_tails h_M_chosen h_M_orders h_M_sizes cI cZ M_jobs M_many M_isPlanned M_least M_optima M_jobOf M_machineOf M_durations M_arcs M_drafts M_starts M_heads M_tails M_chosen (upd M_orders_144 ((4 * a0) + x6_144).toNatClampNeg (M_orders_144 ((4 * a0) + x7_144).toNatClampNeg)) M_sizes) H := hP
          have hD : va_D A (wM h_M h_M_jobOf h_M_machineOf h_M_durations h_M_arcs h_M_drafts h_M_starts h_M_heads h_M_tails h_M_chosen h_M_orders h_M_sizes cI cZ M_jobs M_many M_isPlanned M_least M_optima M_jobOf M_machineOf M_durations M_arcs M_drafts M_starts M_heads M_tails M_chosen (upd M_orders_144 ((4 * a0) + x6_144).toNatClampNeg (M_orders_144 ((4 * a0) + x7_144).toNatClampNeg)) M_sizes) := hD
          refine lv_aload_n (pc := 180) hx hb dX3_nextOrder_180 rfl (lv_at hl 1 rfl) ?_
          refine va_get (D := (dC, dI)) (ci := 3) (v := .ref h_M_orders) (C := RX3) (T := TX3) (N := 16) (pc := 181) hx hb hts hin_X3 hown hK hP 0 rfl rfl 14 (by decide) (hts (.fieldLink RX3 38 "JobShopModel" "orders" "[I") (by decide +kernel)) (fun _ h9 => h9) rfl dX3_nextOrder_181 ?_
          refine lv_iload_n (pc := 184) hx hb dX3_nextOrder_184 rfl (lv_at hl 2 rfl) ?_
          refine lv_iload (pc := 185) hx hb dX3_nextOrder_185 (lv_at hl 4 rfl) ?_
          refine lv_iadd (pc := 187) hx hb dX3_nextOrder_187 ?_
          refine lv_iload (pc := 188) hx hb dX3_nextOrder_188 (lv_at hl 0 rfl) ?_
          obtain ⟨b_16, hw⟩ := hw
          refine va_iast (pc := 190) hx hb hK hP hD hS 10 0 rfl rfl b_16 dX3_nextOrder_190 (fun H locs hP hD hS => ?_)
          have hP : va_P (dC, dI) vwCl (wM h_M h_M_jobOf h_M_machineOf h_M_durations h_M_arcs h_M_drafts h_M_starts h_M_heads h_M_tails h_M_chosen h_M_orders h_M_sizes cI cZ M_jobs M_many M_isPlanned M_least M_optima M_jobOf M_machineOf M_durations M_arcs M_drafts M_starts M_heads M_tails M_chosen (upd (upd M_orders_144 ((4 * a0) + x6_144).toNatClampNeg (M_orders_144 ((4 * a0) + x7_144).toNatClampNeg)) ((4 * a0) + x7_144).toNatClampNeg (M_orders_144 ((4 * a0) + x6_144).toNatClampNeg)) M_sizes) H := hP
          have hD : va_D A (wM h_M h_M_jobOf h_M_machineOf h_M_durations h_M_arcs h_M_drafts h_M_starts h_M_heads h_M_tails h_M_chosen h_M_orders h_M_sizes cI cZ M_jobs M_many M_isPlanned M_least M_optima M_jobOf M_machineOf M_durations M_arcs M_drafts M_starts M_heads M_tails M_chosen (upd (upd M_orders_144 ((4 * a0) + x6_144).toNatClampNeg (M_orders_144 ((4 * a0) + x7_144).toNatClampNeg)) ((4 * a0) + x7_144).toNatClampNeg (M_orders_144 ((4 * a0) + x6_144).toNatClampNeg)) M_sizes) := hD
          refine lv_iinc (v := x6_144 + 1) (lv' := [(6, .int (x6_144 + 1)), (8, .int (M_orders_144 ((4 * a0) + x6_144).toNatClampNeg)), (0, .ref h_M), (2, .int (4 * a0)), (7, .int x7_144)]) (pc := 191) hx hb dX3_nextOrder_191 hl (k := 3) rfl rfl (by decide) rfl (fun ls hl => ?_)
          refine lv_iinc (v := x7_144 + (-1)) (lv' := [(7, .int (x7_144 + (-1))), (6, .int (x6_144 + 1)), (8, .int (M_orders_144 ((4 * a0) + x6_144).toNatClampNeg)), (0, .ref h_M), (2, .int (4 * a0))]) (pc := 194) hx hb dX3_nextOrder_194 hl (k := 4) rfl rfl (by decide) rfl (fun ls hl => ?_)
          refine lv_goto (tgt := 144) (pc := 197) hx hb dX3_nextOrder_197 (by decide) ?_
          exact ih_144 ((x6_144 + 1), (x7_144 + (-1)), (upd (upd M_orders_144 ((4 * a0) + x6_144).toNatClampNeg (M_orders_144 ((4 * a0) + x7_144).toNatClampNeg)) ((4 * a0) + x7_144).toNatClampNeg (M_orders_144 ((4 * a0) + x6_144).toNatClampNeg))) _ _ _ hw.1 hw.2 ⟨hP, hD, hS, (lv_sub hl [3, 4, 1, 0] rfl)⟩
      · have hw := hw.2 c_6
        refine lv_iinc (v := x4_65 + (-1)) (lv' := [(4, .int (x4_65 + (-1))), (0, .ref h_M), (1, .int a0), (2, .int (4 * a0)), (3, .int x3_13)]) (pc := 85) hx hb dX3_nextOrder_85 hl (k := 4) rfl rfl (by decide) rfl (fun ls hl => ?_)
        refine lv_goto (tgt := 65) (pc := 88) hx hb dX3_nextOrder_88 (by decide) ?_
        exact ih_65 (x4_65 + (-1)) _ _ _ hw.1 hw.2 ⟨hP, hD, hS, (lv_sub hl [1, 2, 3, 4, 0] rfl)⟩
    · have hw := hw.2 c_2
      refine lv_aload_n (pc := 48) hx hb dX3_nextOrder_48 rfl (lv_at hl 0 rfl) ?_
      refine lv_iload_n (pc := 49) hx hb dX3_nextOrder_49 rfl (lv_at hl 1 rfl) ?_
      have hPx : va_P (dC, dI) vwCl ([] ++ (wM h_M h_M_jobOf h_M_machineOf h_M_durations h_M_arcs h_M_drafts h_M_starts h_M_heads h_M_tails h_M_chosen h_M_orders h_M_sizes cI cZ M_jobs M_many M_isPlanned M_least M_optima M_jobOf M_machineOf M_durations M_arcs M_drafts M_starts M_heads M_tails M_chosen M_orders M_sizes)) H := hP
      have hDx : va_D A ([] ++ (wM h_M h_M_jobOf h_M_machineOf h_M_durations h_M_arcs h_M_drafts h_M_starts h_M_heads h_M_tails h_M_chosen h_M_orders h_M_sizes cI cZ M_jobs M_many M_isPlanned M_least M_optima M_jobOf M_machineOf M_durations M_arcs M_drafts M_starts M_heads M_tails M_chosen M_orders M_sizes)) := hD
      refine kc_v (pc := 50) (w1 := (fun u : (Nat → Int32) × (Nat → Int32) => (wM h_M h_M_jobOf h_M_machineOf h_M_durations h_M_arcs h_M_drafts h_M_starts h_M_heads h_M_tails h_M_chosen h_M_orders h_M_sizes cI cZ M_jobs M_many M_isPlanned M_least M_optima M_jobOf M_machineOf M_durations M_arcs M_drafts M_starts M_heads M_tails M_chosen u.1 u.2))) (va_runV (As := [.int a0]) (rest := []) ⟨hx, hb, hml, hown, hts⟩ (c_X3_layFirst l dC dI h_M h_M_jobOf h_M_machineOf h_M_durations h_M_arcs h_M_drafts h_M_starts h_M_heads h_M_tails h_M_chosen h_M_orders h_M_sizes H.size cI cZ M_jobs M_many M_isPlanned M_least M_optima M_jobOf M_machineOf M_durations M_arcs M_drafts M_starts M_heads M_tails M_chosen M_orders M_sizes a0 _ hw) (cwV 1 hts gX3_nextOrder_X3_layFirst rfl rfl rfl (by decide +kernel) ⟨Nat.le_of_ble_eq_true rfl, Nat.le_of_ble_eq_true rfl⟩) (kc_preVM (q0 := 0) (ci := 3) hK hPx hDx [0, 1] rfl rfl rfl) rfl rfl hl.1 rfl (lv_room (Nat.le_of_ble_eq_true rfl)) dX3_nextOrder_50 ⟨Nat.zero_le _, Nat.zero_le _⟩) hPx hDx hS hA (fun u H locs hw hP hD hS => ?_)
      obtain ⟨M_orders_50, M_sizes_50⟩ := u
      have hP : va_P (dC, dI) vwCl (wM h_M h_M_jobOf h_M_machineOf h_M_durations h_M_arcs h_M_drafts h_M_starts h_M_heads h_M_tails h_M_chosen h_M_orders h_M_sizes cI cZ M_jobs M_many M_isPlanned M_least M_optima M_jobOf M_machineOf M_durations M_arcs M_drafts M_starts M_heads M_tails M_chosen M_orders_50 M_sizes_50) H := hP
      have hD : va_D A (wM h_M h_M_jobOf h_M_machineOf h_M_durations h_M_arcs h_M_drafts h_M_starts h_M_heads h_M_tails h_M_chosen h_M_orders h_M_sizes cI cZ M_jobs M_many M_isPlanned M_least M_optima M_jobOf M_machineOf M_durations M_arcs M_drafts M_starts M_heads M_tails M_chosen M_orders_50 M_sizes_50) := hD
      refine lv_iconst (v := 0) (pc := 53) hx hb dX3_nextOrder_53 (by decide) ?_
      exact W.zret (v := 0) hx hb hr rfl (fun t ht hW => ⟨⟨0, (M_orders_50, M_sizes_50), rfl, hw, by rw [ht]; exact hP, va_K.moved hW.alike hK, hD⟩, hS.F ht⟩) hS.2.2 dX3_nextOrder_54
  · intro hj_44
    refine lv_if_lt (tgt := 44) (pc := 14) hx hb dX3_nextOrder_14 (by decide) (fun c_17 => ?_) (fun c_17 => ?_)
    · have hw := hw.1 c_17
      exact hj_44 () _ _ _ hw ⟨hP, hD, hS, (lv_sub hl [0, 1, 2, 3] rfl)⟩
    · have hw := hw.2 c_17
      refine lv_aload_n (pc := 17) hx hb dX3_nextOrder_17 rfl (lv_at hl 0 rfl) ?_
      refine va_get (D := (dC, dI)) (ci := 3) (v := .ref h_M_orders) (C := RX3) (T := TX3) (N := 16) (pc := 18) hx hb hts hin_X3 hown hK hP 0 rfl rfl 14 (by decide) (hts (.fieldLink RX3 38 "JobShopModel" "orders" "[I") (by decide +kernel)) (fun _ h9 => h9) rfl dX3_nextOrder_18 ?_
      refine lv_iload_n (pc := 21) hx hb dX3_nextOrder_21 rfl (lv_at hl 2 rfl) ?_
      refine lv_iload_n (pc := 22) hx hb dX3_nextOrder_22 rfl (lv_at hl 3 rfl) ?_
      refine lv_iadd (pc := 23) hx hb dX3_nextOrder_23 ?_
      obtain ⟨b_18, hw⟩ := hw
      refine va_iald (pc := 24) hx hb hK hP 10 0 rfl rfl b_18 dX3_nextOrder_24 ?_
      refine lv_aload_n (pc := 25) hx hb dX3_nextOrder_25 rfl (lv_at hl 0 rfl) ?_
      refine va_get (D := (dC, dI)) (ci := 3) (v := .ref h_M_orders) (C := RX3) (T := TX3) (N := 16) (pc := 26) hx hb hts hin_X3 hown hK hP 0 rfl rfl 14 (by decide) (hts (.fieldLink RX3 38 "JobShopModel" "orders" "[I") (by decide +kernel)) (fun _ h9 => h9) rfl dX3_nextOrder_26 ?_
      refine lv_iload_n (pc := 29) hx hb dX3_nextOrder_29 rfl (lv_at hl 2 rfl) ?_
      refine lv_iload_n (pc := 30) hx hb dX3_nextOrder_30 rfl (lv_at hl 3 rfl) ?_
      refine lv_iadd (pc := 31) hx hb dX3_nextOrder_31 ?_
      refine lv_iconst (v := 1) (pc := 32) hx hb dX3_nextOrder_32 (by decide) ?_
      refine lv_iadd (pc := 33) hx hb dX3_nextOrder_33 ?_
      obtain ⟨b_19, hw⟩ := hw
      refine va_iald (pc := 34) hx hb hK hP 10 0 rfl rfl b_19 dX3_nextOrder_34 ?_
      refine lv_icmp_le (tgt := 44) (pc := 35) hx hb dX3_nextOrder_35 (by decide) (fun c_20 => ?_) (fun c_20 => ?_)
      · have hw := hw.1 c_20
        exact hj_44 () _ _ _ hw ⟨hP, hD, hS, (lv_sub hl [0, 1, 2, 3] rfl)⟩
      · have hw := hw.2 c_20
        refine lv_iinc (v := x3_13 + (-1)) (lv' := [(3, .int (x3_13 + (-1))), (0, .ref h_M), (1, .int a0), (2, .int (4 * a0))]) (pc := 38) hx hb dX3_nextOrder_38 hl (k := 3) rfl rfl (by decide) rfl (fun ls hl => ?_)
        refine lv_goto (tgt := 13) (pc := 41) hx hb dX3_nextOrder_41 (by decide) ?_
        exact ih_13 (x3_13 + (-1)) _ _ _ hw.1 hw.2 ⟨hP, hD, hS, (lv_sub hl [1, 2, 3, 0] rfl)⟩
set_option maxHeartbeats 4000000 in
set_option maxRecDepth 100000 in
theorem c_X3_choose (l : Launch) (dC : Nat → ClassId) (dI : Nat → Nat → Nat) (h_M h_M_jobOf h_M_machineOf h_M_durations h_M_arcs h_M_drafts h_M_starts h_M_heads h_M_tails h_M_chosen h_M_orders h_M_sizes : Nat) (sz : Nat) (cI cZ : ClassId) (M_jobs : Int32) (M_many : Int32) (M_isPlanned : Int32) (M_least : Int32) (M_optima : Int32) (M_jobOf : Nat → Int32) (M_machineOf : Nat → Int32) (M_durations : Nat → Int32) (M_arcs : Nat → Int32) (M_drafts : Nat → Int32) (M_starts : Nat → Int32) (M_heads : Nat → Int32) (M_tails : Nat → Int32) (M_chosen : Nat → Int32) (M_orders : Nat → Int32) (M_sizes : Nat → Int32) (post : Int32 → (Nat → Int32) → Prop) (hw : wp_X3_choose M_arcs M_chosen M_orders M_sizes post) : Met l yX3_choose wsX3_choose ({ frames := 0, cells := 0, slots := 0, locals := 0 }) (va_Pc [.ref h_M] (fun U => U.heap.size = sz ∧ va_P (dC, dI) vwCl (wM h_M h_M_jobOf h_M_machineOf h_M_durations h_M_arcs h_M_drafts h_M_starts h_M_heads h_M_tails h_M_chosen h_M_orders h_M_sizes cI cZ M_jobs M_many M_isPlanned M_least M_optima M_jobOf M_machineOf M_durations M_arcs M_drafts M_starts M_heads M_tails M_chosen M_orders M_sizes) U.heap ∧ va_K (dC, dI) vwCl [(cI, .int), (cZ, .boolean)] U ∧ va_D (fun _ => True) (wM h_M h_M_jobOf h_M_machineOf h_M_durations h_M_arcs h_M_drafts h_M_starts h_M_heads h_M_tails h_M_chosen h_M_orders h_M_sizes cI cZ M_jobs M_many M_isPlanned M_least M_optima M_jobOf M_machineOf M_durations M_arcs M_drafts M_starts M_heads M_tails M_chosen M_orders M_sizes))) (va_Qi (fun (r : Int32) (u : Nat → Int32) => post r u) (fun u t => va_P (dC, dI) vwCl (wM h_M h_M_jobOf h_M_machineOf h_M_durations h_M_arcs h_M_drafts h_M_starts h_M_heads h_M_tails h_M_chosen h_M_orders h_M_sizes cI cZ M_jobs M_many M_isPlanned M_least M_optima M_jobOf M_machineOf M_durations M_arcs M_drafts M_starts M_heads M_tails u M_orders M_sizes) t.heap ∧ va_K (dC, dI) vwCl [(cI, .int), (cZ, .boolean)] t ∧ va_D (va_A (wM h_M h_M_jobOf h_M_machineOf h_M_durations h_M_arcs h_M_drafts h_M_starts h_M_heads h_M_tails h_M_chosen h_M_orders h_M_sizes cI cZ M_jobs M_many M_isPlanned M_least M_optima M_jobOf M_machineOf M_durations M_arcs M_drafts M_starts M_heads M_tails M_chosen M_orders M_sizes) sz) (wM h_M h_M_jobOf h_M_machineOf h_M_durations h_M_arcs h_M_drafts h_M_starts h_M_heads h_M_tails h_M_chosen h_M_orders h_M_sizes cI cZ M_jobs M_many M_isPlanned M_least M_optima M_jobOf M_machineOf M_durations M_arcs M_drafts M_starts M_heads M_tails u M_orders M_sizes)) (va_A (wM h_M h_M_jobOf h_M_machineOf h_M_durations h_M_arcs h_M_drafts h_M_starts h_M_heads h_M_tails h_M_chosen h_M_orders h_M_sizes cI cZ M_jobs M_many M_isPlanned M_least M_optima M_jobOf M_machineOf M_durations M_arcs M_drafts M_starts M_heads M_tails M_chosen M_orders M_sizes) sz)) 0 0 (va_A (wM h_M h_M_jobOf h_M_machineOf h_M_durations h_M_arcs h_M_drafts h_M_starts h_M_heads h_M_tails h_M_chosen h_M_orders h_M_sizes cI cZ M_jobs M_many M_isPlanned M_least M_optima M_jobOf M_machineOf M_durations M_arcs M_drafts M_starts M_heads M_tails M_chosen M_orders M_sizes) sz) := by
  refine Met.ofW (cc := cX3_choose) (maxL := 4) (ret := (some .boolean)) (by decide) rfl ?_
  intro p e s m args below meth c s₁ B hml hv
  obtain ⟨rfl, hsz, hP, hK, hD0⟩ := hv
  have hx := B.exec
  have hb := B.bytes
  have hr := B.returns
  have hts := atoms_spec (ws := wsX3_choose) B.pre
  have hown : s.vm.findClass RX3 = some m.cls := findClass_of_methodNamed B.named
  have hlocks := B.notSynchronized
  subst hsz
  have hD := hD0.self (sz := s.heap.size)
  generalize hAe : va_A (wM h_M h_M_jobOf h_M_machineOf h_M_durations h_M_arcs h_M_drafts h_M_starts h_M_heads h_M_tails h_M_chosen h_M_orders h_M_sizes cI cZ M_jobs M_many M_isPlanned M_least M_optima M_jobOf M_machineOf M_durations M_arcs M_drafts M_starts M_heads M_tails M_chosen M_orders M_sizes) s.heap.size = A at hD ⊢
  have hA : ∀ q : Nat, s.heap.size ≤ q → A q := fun q h => by rw [← hAe]; exact Or.inr h
  have hS : va_S A s.heap s.heap [] := va_S.rf
  have hP : va_P (dC, dI) vwCl (wM h_M h_M_jobOf h_M_machineOf h_M_durations h_M_arcs h_M_drafts h_M_starts h_M_heads h_M_tails h_M_chosen h_M_orders h_M_sizes cI cZ M_jobs M_many M_isPlanned M_least M_optima M_jobOf M_machineOf M_durations M_arcs M_drafts M_starts M_heads M_tails M_chosen M_orders M_sizes) s.heap := hP
  have hl := lv_entry ([.ref h_M]) (n := 4) (Nat.le_of_ble_eq_true rfl)
  rw [lg_entry_eq]
  generalize (lg_sl ([.ref h_M]) ++ List.replicate (4 - (lg_sl ([.ref h_M])).length) Slot.unset).toArray = ls at hl ⊢
  have hl : lv_has ls 4 [(0, .ref h_M)] := hl
  obtain ⟨H, hH⟩ : ∃ H, H = s.heap := ⟨_, rfl⟩
  rw [← hH] at hP
  have hS : va_S A s.heap H [] := by rw [hH]; exact hS
  refine W_heap hH ?_
  unfold wp_X3_choose at hw
  have hin_X3 : ∀ w ∈ u_ws RX3 TX3 16, w ∈ wsX3_choose := by decide +kernel
  refine lv_iconst (v := 0) (pc := 0) hx hb dX3_choose_0 (by decide) ?_
  refine lv_istore_n (lv' := [(1, .int 0), (0, .ref h_M)]) (pc := 1) hx hb dX3_choose_1 rfl hl (by decide) rfl (fun ls hl => ?_)
  obtain ⟨I_2, μ_2, hI_2, hs_2⟩ := hw
  refine lp_W (I := fun z : Int32 × (Nat → Int32) => I_2 z.1 z.2) (fun z => μ_2 z.1 z.2) (fun (z : Int32 × (Nat → Int32)) H locs ls => va_P (dC, dI) vwCl (wM h_M h_M_jobOf h_M_machineOf h_M_durations h_M_arcs h_M_drafts h_M_starts h_M_heads h_M_tails h_M_chosen h_M_orders h_M_sizes cI cZ M_jobs M_many M_isPlanned M_least M_optima M_jobOf M_machineOf M_durations M_arcs M_drafts M_starts M_heads M_tails z.2 M_orders M_sizes) H ∧ va_D A (wM h_M h_M_jobOf h_M_machineOf h_M_durations h_M_arcs h_M_drafts h_M_starts h_M_heads h_M_tails h_M_chosen h_M_orders h_M_sizes cI cZ M_jobs M_many M_isPlanned M_least M_optima M_jobOf M_machineOf M_durations M_arcs M_drafts M_starts M_heads M_tails z.2 M_orders M_sizes) ∧ va_S A s.heap H locs ∧ lv_has ls 4 [(0, .ref h_M), (1, .int z.1)]) ?_ (0, M_chosen) _ _ _ hI_2 ⟨hP, hD, hS, (lv_sub hl [1, 0] rfl)⟩
  rintro ⟨x1_2, M_chosen_2⟩ H locs ls hI ⟨hP, hD, hS, hl⟩ ih_2
  have hw := hs_2 x1_2 M_chosen_2 hI
  have hP : va_P (dC, dI) vwCl (wM h_M h_M_jobOf h_M_machineOf h_M_durations h_M_arcs h_M_drafts h_M_starts h_M_heads h_M_tails h_M_chosen h_M_orders h_M_sizes cI cZ M_jobs M_many M_isPlanned M_least M_optima M_jobOf M_machineOf M_durations M_arcs M_drafts M_starts M_heads M_tails M_chosen_2 M_orders M_sizes) H := hP
  have hD : va_D A (wM h_M h_M_jobOf h_M_machineOf h_M_durations h_M_arcs h_M_drafts h_M_starts h_M_heads h_M_tails h_M_chosen h_M_orders h_M_sizes cI cZ M_jobs M_many M_isPlanned M_least M_optima M_jobOf M_machineOf M_durations M_arcs M_drafts M_starts M_heads M_tails M_chosen_2 M_orders M_sizes) := hD
  have hl : lv_has ls 4 [(0, .ref h_M), (1, .int x1_2)] := hl
  refine lv_iload_n (pc := 2) hx hb dX3_choose_2 rfl (lv_at hl 1 rfl) ?_
  refine lv_sipush (v := 144) (pc := 3) hx hb dX3_choose_3 (by decide) ?_
  refine lv_icmp_ge (tgt := 22) (pc := 6) hx hb dX3_choose_6 (by decide) (fun c_1 => ?_) (fun c_1 => ?_)
  · have hw := hw.1 c_1
    refine lv_iconst (v := 0) (pc := 22) hx hb dX3_choose_22 (by decide) ?_
    refine lv_istore_n (lv' := [(1, .int 0), (0, .ref h_M)]) (pc := 23) hx hb dX3_choose_23 rfl hl (by decide) rfl (fun ls hl => ?_)
    obtain ⟨I_24, μ_24, hI_24, hs_24⟩ := hw
    refine lp_W (I := fun z : Int32 × (Nat → Int32) => I_24 z.1 z.2) (fun z => μ_24 z.1 z.2) (fun (z : Int32 × (Nat → Int32)) H locs ls => va_P (dC, dI) vwCl (wM h_M h_M_jobOf h_M_machineOf h_M_durations h_M_arcs h_M_drafts h_M_starts h_M_heads h_M_tails h_M_chosen h_M_orders h_M_sizes cI cZ M_jobs M_many M_isPlanned M_least M_optima M_jobOf M_machineOf M_durations M_arcs M_drafts M_starts M_heads M_tails z.2 M_orders M_sizes) H ∧ va_D A (wM h_M h_M_jobOf h_M_machineOf h_M_durations h_M_arcs h_M_drafts h_M_starts h_M_heads h_M_tails h_M_chosen h_M_orders h_M_sizes cI cZ M_jobs M_many M_isPlanned M_least M_optima M_jobOf M_machineOf M_durations M_arcs M_drafts M_starts M_heads M_tails z.2 M_orders M_sizes) ∧ va_S A s.heap H locs ∧ lv_has ls 4 [(0, .ref h_M), (1, .int z.1)]) ?_ (0, M_chosen_2) _ _ _ hI_24 ⟨hP, hD, hS, (lv_sub hl [1, 0] rfl)⟩
    rintro ⟨x1_24, M_chosen_24⟩ H locs ls hI ⟨hP, hD, hS, hl⟩ ih_24
    have hw := hs_24 x1_24 M_chosen_24 hI
    have hP : va_P (dC, dI) vwCl (wM h_M h_M_jobOf h_M_machineOf h_M_durations h_M_arcs h_M_drafts h_M_starts h_M_heads h_M_tails h_M_chosen h_M_orders h_M_sizes cI cZ M_jobs M_many M_isPlanned M_least M_optima M_jobOf M_machineOf M_durations M_arcs M_drafts M_starts M_heads M_tails M_chosen_24 M_orders M_sizes) H := hP
    have hD : va_D A (wM h_M h_M_jobOf h_M_machineOf h_M_durations h_M_arcs h_M_drafts h_M_starts h_M_heads h_M_tails h_M_chosen h_M_orders h_M_sizes cI cZ M_jobs M_many M_isPlanned M_least M_optima M_jobOf M_machineOf M_durations M_arcs M_drafts M_starts M_heads M_tails M_chosen_24 M_orders M_sizes) := hD
    have hl : lv_has ls 4 [(0, .ref h_M), (1, .int x1_24)] := hl
    refine lv_iload_n (pc := 24) hx hb dX3_choose_24 rfl (lv_at hl 1 rfl) ?_
    refine lv_iconst (v := 4) (pc := 25) hx hb dX3_choose_25 (by decide) ?_
    refine lv_icmp_ge (tgt := 103) (pc := 26) hx hb dX3_choose_26 (by decide) (fun c_2 => ?_) (fun c_2 => ?_)
    · have hw := hw.1 c_2
      refine lv_iconst (v := 0) (pc := 103) hx hb dX3_choose_103 (by decide) ?_
      refine lv_istore_n (lv' := [(1, .int 0), (0, .ref h_M)]) (pc := 104) hx hb dX3_choose_104 rfl hl (by decide) rfl (fun ls hl => ?_)
      obtain ⟨I_105, μ_105, hI_105, hs_105⟩ := hw
      refine lp_W (I := fun z : Int32 => I_105 z) (fun z => μ_105 z) (fun (z : Int32) H locs ls => va_P (dC, dI) vwCl (wM h_M h_M_jobOf h_M_machineOf h_M_durations h_M_arcs h_M_drafts h_M_starts h_M_heads h_M_tails h_M_chosen h_M_orders h_M_sizes cI cZ M_jobs M_many M_isPlanned M_least M_optima M_jobOf M_machineOf M_durations M_arcs M_drafts M_starts M_heads M_tails M_chosen_24 M_orders M_sizes) H ∧ va_D A (wM h_M h_M_jobOf h_M_machineOf h_M_durations h_M_arcs h_M_drafts h_M_starts h_M_heads h_M_tails h_M_chosen h_M_orders h_M_sizes cI cZ M_jobs M_many M_isPlanned M_least M_optima M_jobOf M_machineOf M_durations M_arcs M_drafts M_starts M_heads M_tails M_chosen_24 M_orders M_sizes) ∧ va_S A s.heap H locs ∧ lv_has ls 4 [(0, .ref h_M), (1, .int z)]) ?_ 0 _ _ _ hI_105 ⟨hP, hD, hS, (lv_sub hl [1, 0] rfl)⟩
      rintro x1_105 H locs ls hI ⟨hP, hD, hS, hl⟩ ih_105
      have hw := hs_105 x1_105 hI
      have hP : va_P (dC, dI) vwCl (wM h_M h_M_jobOf h_M_machineOf h_M_durations h_M_arcs h_M_drafts h_M_starts h_M_heads h_M_tails h_M_chosen h_M_orders h_M_sizes cI cZ M_jobs M_many M_isPlanned M_least M_optima M_jobOf M_machineOf M_durations M_arcs M_drafts M_starts M_heads M_tails M_chosen_24 M_orders M_sizes) H := hP
      have hD : va_D A (wM h_M h_M_jobOf h_M_machineOf h_M_durations h_M_arcs h_M_drafts h_M_starts h_M_heads h_M_tails h_M_chosen h_M_orders h_M_sizes cI cZ M_jobs M_many M_isPlanned M_least M_optima M_jobOf M_machineOf M_durations M_arcs M_drafts M_starts M_heads M_tails M_chosen_24 M_orders M_sizes) := hD
      have hl : lv_has ls 4 [(0, .ref h_M), (1, .int x1_105)] := hl
      refine lv_iload_n (pc := 105) hx hb dX3_choose_105 rfl (lv_at hl 1 rfl) ?_
      refine lv_sipush (v := 144) (pc := 106) hx hb dX3_choose_106 (by decide) ?_
      refine lv_icmp_ge (tgt := 138) (pc := 109) hx hb dX3_choose_109 (by decide) (fun c_3 => ?_) (fun c_3 => ?_)
      · have hw := hw.1 c_3
        refine lv_iconst (v := 1) (pc := 138) hx hb dX3_choose_138 (by decide) ?_
        exact W.zret (v := 1) hx hb hr rfl (fun t ht hW => ⟨⟨1, M_chosen_24, rfl, hw, by rw [ht]; exact hP, va_K.moved hW.alike hK, hD⟩, hS.F ht⟩) hS.2.2 dX3_choose_139
      · have hw := hw.2 c_3
        refine lv_aload_n (pc := 112) hx hb dX3_choose_112 rfl (lv_at hl 0 rfl) ?_
        refine va_get (D := (dC, dI)) (ci := 3) (v := .ref h_M_arcs) (C := RX3) (T := TX3) (N := 16) (pc := 113) hx hb hts hin_X3 hown hK hP 0 rfl rfl 5 (by decide) (hts (.fieldLink RX3 19 "JobShopModel" "arcs" "[Z") (by decide +kernel)) (fun _ h9 => h9) rfl dX3_choose_113 ?_
        refine lv_iload_n (pc := 116) hx hb dX3_choose_116 rfl (lv_at hl 1 rfl) ?_
        obtain ⟨b_4, hw⟩ := hw
        refine va_zald (pc := 117) hx hb hK hP 4 1 rfl rfl b_4 dX3_choose_117 ?_
        refine lv_if_eq (tgt := 132) (pc := 118) hx hb dX3_choose_118 (by decide) (fun c_5 => ?_) (fun c_5 => ?_)
        · have hw := hw.1 c_5
          refine lv_iinc (v := x1_105 + 1) (lv' := [(1, .int (x1_105 + 1)), (0, .ref h_M)]) (pc := 132) hx hb dX3_choose_132 hl (k := 1) rfl rfl (by decide) rfl (fun ls hl => ?_)
          refine lv_goto (tgt := 105) (pc := 135) hx hb dX3_choose_135 (by decide) ?_
          exact ih_105 (x1_105 + 1) _ _ _ hw.1 hw.2 ⟨hP, hD, hS, (lv_sub hl [1, 0] rfl)⟩
        · have hw := hw.2 c_5
          refine lv_aload_n (pc := 121) hx hb dX3_choose_121 rfl (lv_at hl 0 rfl) ?_
          refine va_get (D := (dC, dI)) (ci := 3) (v := .ref h_M_chosen) (C := RX3) (T := TX3) (N := 16) (pc := 122) hx hb hts hin_X3 hown hK hP 0 rfl rfl 13 (by decide) (hts (.fieldLink RX3 35 "JobShopModel" "chosen" "[Z") (by decide +kernel)) (fun _ h9 => h9) rfl dX3_choose_122 ?_
          refine lv_iload_n (pc := 125) hx hb dX3_choose_125 rfl (lv_at hl 1 rfl) ?_
          obtain ⟨b_6, hw⟩ := hw
          refine va_zald (pc := 126) hx hb hK hP 9 1 rfl rfl b_6 dX3_choose_126 ?_
          refine lv_if_ne (tgt := 132) (pc := 127) hx hb dX3_choose_127 (by decide) (fun c_7 => ?_) (fun c_7 => ?_)
          · have hw := hw.1 c_7
            refine lv_iinc (v := x1_105 + 1) (lv' := [(1, .int (x1_105 + 1)), (0, .ref h_M)]) (pc := 132) hx hb dX3_choose_132 hl (k := 1) rfl rfl (by decide) rfl (fun ls hl => ?_)
            refine lv_goto (tgt := 105) (pc := 135) hx hb dX3_choose_135 (by decide) ?_
            exact ih_105 (x1_105 + 1) _ _ _ hw.1 hw.2 ⟨hP, hD, hS, (lv_sub hl [1, 0] rfl)⟩
          · have hw := hw.2 c_7
            refine lv_iconst (v := 0) (pc := 130) hx hb dX3_choose_130 (by decide) ?_
            exact W.zret (v := 0) hx hb hr rfl (fun t ht hW => ⟨⟨0, M_chosen_24, rfl, hw, by rw [ht]; exact hP, va_K.moved hW.alike hK, hD⟩, hS.F ht⟩) hS.2.2 dX3_choose_131
    · have hw := hw.2 c_2
      refine lv_iconst (v := 0) (pc := 29) hx hb dX3_choose_29 (by decide) ?_
      refine lv_istore_n (lv' := [(2, .int 0), (0, .ref h_M), (1, .int x1_24)]) (pc := 30) hx hb dX3_choose_30 rfl hl (by decide) rfl (fun ls hl => ?_)
      obtain ⟨I_31, μ_31, hI_31, hs_31⟩ := hw
      refine lp_W (I := fun z : Int32 × (Nat → Int32) => I_31 z.1 z.2) (fun z => μ_31 z.1 z.2) (fun (z : Int32 × (Nat → Int32)) H locs ls => va_P (dC, dI) vwCl (wM h_M h_M_jobOf h_M_machineOf h_M_durations h_M_arcs h_M_drafts h_M_starts h_M_heads h_M_tails h_M_chosen h_M_orders h_M_sizes cI cZ M_jobs M_many M_isPlanned M_least M_optima M_jobOf M_machineOf M_durations M_arcs M_drafts M_starts M_heads M_tails z.2 M_orders M_sizes) H ∧ va_D A (wM h_M h_M_jobOf h_M_machineOf h_M_durations h_M_arcs h_M_drafts h_M_starts h_M_heads h_M_tails h_M_chosen h_M_orders h_M_sizes cI cZ M_jobs M_many M_isPlanned M_least M_optima M_jobOf M_machineOf M_durations M_arcs M_drafts M_starts M_heads M_tails z.2 M_orders M_sizes) ∧ va_S A s.heap H locs ∧ lv_has ls 4 [(0, .ref h_M), (1, .int x1_24), (2, .int z.1)]) ?_ (0, M_chosen_24) _ _ _ hI_31 ⟨hP, hD, hS, (lv_sub hl [1, 2, 0] rfl)⟩
      rintro ⟨x2_31, M_chosen_31⟩ H locs ls hI ⟨hP, hD, hS, hl⟩ ih_31
      have hw := hs_31 x2_31 M_chosen_31 hI
      have hP : va_P (dC, dI) vwCl (wM h_M h_M_jobOf h_M_machineOf h_M_durations h_M_arcs h_M_drafts h_M_starts h_M_heads h_M_tails h_M_chosen h_M_orders h_M_sizes cI cZ M_jobs M_many M_isPlanned M_least M_optima M_jobOf M_machineOf M_durations M_arcs M_drafts M_starts M_heads M_tails M_chosen_31 M_orders M_sizes) H := hP
      have hD : va_D A (wM h_M h_M_jobOf h_M_machineOf h_M_durations h_M_arcs h_M_drafts h_M_starts h_M_heads h_M_tails h_M_chosen h_M_orders h_M_sizes cI cZ M_jobs M_many M_isPlanned M_least M_optima M_jobOf M_machineOf M_durations M_arcs M_drafts M_starts M_heads M_tails M_chosen_31 M_orders M_sizes) := hD
      have hl : lv_has ls 4 [(0, .ref h_M), (1, .int x1_24), (2, .int x2_31)] := hl
      refine lv_iload_n (pc := 31) hx hb dX3_choose_31 rfl (lv_at hl 2 rfl) ?_
      refine lv_aload_n (pc := 32) hx hb dX3_choose_32 rfl (lv_at hl 0 rfl) ?_
      refine va_get (D := (dC, dI)) (ci := 3) (v := .ref h_M_sizes) (C := RX3) (T := TX3) (N := 16) (pc := 33) hx hb hts hin_X3 hown hK hP 0 rfl rfl 15 (by decide) (hts (.fieldLink RX3 41 "JobShopModel" "sizes" "[I") (by decide +kernel)) (fun _ h9 => h9) rfl dX3_choose_33 ?_
      refine lv_iload_n (pc := 36) hx hb dX3_choose_36 rfl (lv_at hl 1 rfl) ?_
      obtain ⟨b_8, hw⟩ := hw
      refine va_iald (pc := 37) hx hb hK hP 11 0 rfl rfl b_8 dX3_choose_37 ?_
      refine lv_icmp_ge (tgt := 97) (pc := 38) hx hb dX3_choose_38 (by decide) (fun c_9 => ?_) (fun c_9 => ?_)
      · have hw := hw.1 c_9
        refine lv_iinc (v := x1_24 + 1) (lv' := [(1, .int (x1_24 + 1)), (0, .ref h_M), (2, .int x2_31)]) (pc := 97) hx hb dX3_choose_97 hl (k := 1) rfl rfl (by decide) rfl (fun ls hl => ?_)
        refine lv_goto (tgt := 24) (pc := 100) hx hb dX3_choose_100 (by decide) ?_
        exact ih_24 ((x1_24 + 1), M_chosen_31) _ _ _ hw.1 hw.2 ⟨hP, hD, hS, (lv_sub hl [1, 0] rfl)⟩
      · have hw := hw.2 c_9
        refine lv_iload_n (pc := 41) hx hb dX3_choose_41 rfl (lv_at hl 2 rfl) ?_
        refine lv_iconst (v := 1) (pc := 42) hx hb dX3_choose_42 (by decide) ?_
        refine lv_iadd (pc := 43) hx hb dX3_choose_43 ?_
        refine lv_istore_n (lv' := [(3, .int (x2_31 + 1)), (0, .ref h_M), (1, .int x1_24), (2, .int x2_31)]) (pc := 44) hx hb dX3_choose_44 rfl hl (by decide) rfl (fun ls hl => ?_)
        obtain ⟨I_45, μ_45, hI_45, hs_45⟩ := hw
        refine lp_W (I := fun z : Int32 × (Nat → Int32) => I_45 z.1 z.2) (fun z => μ_45 z.1 z.2) (fun (z : Int32 × (Nat → Int32)) H locs ls => va_P (dC, dI) vwCl (wM h_M h_M_jobOf h_M_machineOf h_M_durations h_M_arcs h_M_drafts h_M_starts h_M_heads h_M_tails h_M_chosen h_M_orders h_M_sizes cI cZ M_jobs M_many M_isPlanned M_least M_optima M_jobOf M_machineOf M_durations M_arcs M_drafts M_starts M_heads M_tails z.2 M_orders M_sizes) H ∧ va_D A (wM h_M h_M_jobOf h_M_machineOf h_M_durations h_M_arcs h_M_drafts h_M_starts h_M_heads h_M_tails h_M_chosen h_M_orders h_M_sizes cI cZ M_jobs M_many M_isPlanned M_least M_optima M_jobOf M_machineOf M_durations M_arcs M_drafts M_starts M_heads M_tails z.2 M_orders M_sizes) ∧ va_S A s.heap H locs ∧ lv_has ls 4 [(0, .ref h_M), (1, .int x1_24), (2, .int x2_31), (3, .int z.1)]) ?_ ((x2_31 + 1), M_chosen_31) _ _ _ hI_45 ⟨hP, hD, hS, (lv_sub hl [1, 2, 3, 0] rfl)⟩
        rintro ⟨x3_45, M_chosen_45⟩ H locs ls hI ⟨hP, hD, hS, hl⟩ ih_45
        have hw := hs_45 x3_45 M_chosen_45 hI
        have hP : va_P (dC, dI) vwCl (wM h_M h_M_jobOf h_M_machineOf h_M_durations h_M_arcs h_M_drafts h_M_starts h_M_heads h_M_tails h_M_chosen h_M_orders h_M_sizes cI cZ M_jobs M_many M_isPlanned M_least M_optima M_jobOf M_machineOf M_durations M_arcs M_drafts M_starts M_heads M_tails M_chosen_45 M_orders M_sizes) H := hP
        have hD : va_D A (wM h_M h_M_jobOf h_M_machineOf h_M_durations h_M_arcs h_M_drafts h_M_starts h_M_heads h_M_tails h_M_chosen h_M_orders h_M_sizes cI cZ M_jobs M_many M_isPlanned M_least M_optima M_jobOf M_machineOf M_durations M_arcs M_drafts M_starts M_heads M_tails M_chosen_45 M_orders M_sizes) := hD
        have hl : lv_has ls 4 [(0, .ref h_M), (1, .int x1_24), (2, .int x2_31), (3, .int x3_45)] := hl
        refine lv_iload_n (pc := 45) hx hb dX3_choose_45 rfl (lv_at hl 3 rfl) ?_
        refine lv_aload_n (pc := 46) hx hb dX3_choose_46 rfl (lv_at hl 0 rfl) ?_
        refine va_get (D := (dC, dI)) (ci := 3) (v := .ref h_M_sizes) (C := RX3) (T := TX3) (N := 16) (pc := 47) hx hb hts hin_X3 hown hK hP 0 rfl rfl 15 (by decide) (hts (.fieldLink RX3 41 "JobShopModel" "sizes" "[I") (by decide +kernel)) (fun _ h9 => h9) rfl dX3_choose_47 ?_
        refine lv_iload_n (pc := 50) hx hb dX3_choose_50 rfl (lv_at hl 1 rfl) ?_
        obtain ⟨b_10, hw⟩ := hw
        refine va_iald (pc := 51) hx hb hK hP 11 0 rfl rfl b_10 dX3_choose_51 ?_
        refine lv_icmp_ge (tgt := 91) (pc := 52) hx hb dX3_choose_52 (by decide) (fun c_11 => ?_) (fun c_11 => ?_)
        · have hw := hw.1 c_11
          refine lv_iinc (v := x2_31 + 1) (lv' := [(2, .int (x2_31 + 1)), (0, .ref h_M), (1, .int x1_24), (3, .int x3_45)]) (pc := 91) hx hb dX3_choose_91 hl (k := 2) rfl rfl (by decide) rfl (fun ls hl => ?_)
          refine lv_goto (tgt := 31) (pc := 94) hx hb dX3_choose_94 (by decide) ?_
          exact ih_31 ((x2_31 + 1), M_chosen_45) _ _ _ hw.1 hw.2 ⟨hP, hD, hS, (lv_sub hl [1, 2, 0] rfl)⟩
        · have hw := hw.2 c_11
          refine lv_aload_n (pc := 55) hx hb dX3_choose_55 rfl (lv_at hl 0 rfl) ?_
          refine va_get (D := (dC, dI)) (ci := 3) (v := .ref h_M_chosen) (C := RX3) (T := TX3) (N := 16) (pc := 56) hx hb hts hin_X3 hown hK hP 0 rfl rfl 13 (by decide) (hts (.fieldLink RX3 35 "JobShopModel" "chosen" "[Z") (by decide +kernel)) (fun _ h9 => h9) rfl dX3_choose_56 ?_
          refine lv_bipush (v := 12) (pc := 59) hx hb dX3_choose_59 (by decide) ?_
          refine lv_aload_n (pc := 61) hx hb dX3_choose_61 rfl (lv_at hl 0 rfl) ?_
          refine va_get (D := (dC, dI)) (ci := 3) (v := .ref h_M_orders) (C := RX3) (T := TX3) (N := 16) (pc := 62) hx hb hts hin_X3 hown hK hP 0 rfl rfl 14 (by decide) (hts (.fieldLink RX3 38 "JobShopModel" "orders" "[I") (by decide +kernel)) (fun _ h9 => h9) rfl dX3_choose_62 ?_
          refine lv_iconst (v := 4) (pc := 65) hx hb dX3_choose_65 (by decide) ?_
          refine lv_iload_n (pc := 66) hx hb dX3_choose_66 rfl (lv_at hl 1 rfl) ?_
          refine lv_imul (pc := 67) hx hb dX3_choose_67 ?_
          refine lv_iload_n (pc := 68) hx hb dX3_choose_68 rfl (lv_at hl 2 rfl) ?_
          refine lv_iadd (pc := 69) hx hb dX3_choose_69 ?_
          obtain ⟨b_12, hw⟩ := hw
          refine va_iald (pc := 70) hx hb hK hP 10 0 rfl rfl b_12 dX3_choose_70 ?_
          refine lv_imul (pc := 71) hx hb dX3_choose_71 ?_
          refine lv_aload_n (pc := 72) hx hb dX3_choose_72 rfl (lv_at hl 0 rfl) ?_
          refine va_get (D := (dC, dI)) (ci := 3) (v := .ref h_M_orders) (C := RX3) (T := TX3) (N := 16) (pc := 73) hx hb hts hin_X3 hown hK hP 0 rfl rfl 14 (by decide) (hts (.fieldLink RX3 38 "JobShopModel" "orders" "[I") (by decide +kernel)) (fun _ h9 => h9) rfl dX3_choose_73 ?_
          refine lv_iconst (v := 4) (pc := 76) hx hb dX3_choose_76 (by decide) ?_
          refine lv_iload_n (pc := 77) hx hb dX3_choose_77 rfl (lv_at hl 1 rfl) ?_
          refine lv_imul (pc := 78) hx hb dX3_choose_78 ?_
          refine lv_iload_n (pc := 79) hx hb dX3_choose_79 rfl (lv_at hl 3 rfl) ?_
          refine lv_iadd (pc := 80) hx hb dX3_choose_80 ?_
          obtain ⟨b_13, hw⟩ := hw
          refine va_iald (pc := 81) hx hb hK hP 10 0 rfl rfl b_13 dX3_choose_81 ?_
          refine lv_iadd (pc := 82) hx hb dX3_choose_82 ?_
          refine lv_iconst (v := 1) (pc := 83) hx hb dX3_choose_83 (by decide) ?_
          obtain ⟨b_14, hw⟩ := hw
          refine va_zast (pc := 84) hx hb hK hP hD hS 9 1 rfl rfl b_14 dX3_choose_84 (fun H locs hP hD hS => ?_)
          have hP : va_P (dC, dI) vwCl (wM h_M h_M_jobOf h_M_machineOf h_M_durations h_M_arcs h_M_drafts h_M_starts h_M_heads h_M_tails h_M_chosen h_M_orders h_M_sizes cI cZ M_jobs M_many M_isPlanned M_least M_optima M_jobOf M_machineOf M_durations M_arcs M_drafts M_starts M_heads M_tails (upd M_chosen_45 ((12 * (M_orders ((4 * x1_24) + x2_31).toNatClampNeg)) + (M_orders ((4 * x1_24) + x3_45).toNatClampNeg)).toNatClampNeg (vp_nar .boolean 1)) M_orders M_sizes) H := hP
          have hD : va_D A (wM h_M h_M_jobOf h_M_machineOf h_M_durations h_M_arcs h_M_drafts h_M_starts h_M_heads h_M_tails h_M_chosen h_M_orders h_M_sizes cI cZ M_jobs M_many M_isPlanned M_least M_optima M_jobOf M_machineOf M_durations M_arcs M_drafts M_starts M_heads M_tails (upd M_chosen_45 ((12 * (M_orders ((4 * x1_24) + x2_31).toNatClampNeg)) + (M_orders ((4 * x1_24) + x3_45).toNatClampNeg)).toNatClampNeg (vp_nar .boolean 1)) M_orders M_sizes) := hD
          refine lv_iinc (v := x3_45 + 1) (lv' := [(3, .int (x3_45 + 1)), (0, .ref h_M), (1, .int x1_24), (2, .int x2_31)]) (pc := 85) hx hb dX3_choose_85 hl (k := 3) rfl rfl (by decide) rfl (fun ls hl => ?_)
          refine lv_goto (tgt := 45) (pc := 88) hx hb dX3_choose_88 (by decide) ?_
          exact ih_45 ((x3_45 + 1), (upd M_chosen_45 ((12 * (M_orders ((4 * x1_24) + x2_31).toNatClampNeg)) + (M_orders ((4 * x1_24) + x3_45).toNatClampNeg)).toNatClampNeg (vp_nar .boolean 1))) _ _ _ hw.1 hw.2 ⟨hP, hD, hS, (lv_sub hl [1, 2, 3, 0] rfl)⟩
  · have hw := hw.2 c_1
    refine lv_aload_n (pc := 9) hx hb dX3_choose_9 rfl (lv_at hl 0 rfl) ?_
    refine va_get (D := (dC, dI)) (ci := 3) (v := .ref h_M_chosen) (C := RX3) (T := TX3) (N := 16) (pc := 10) hx hb hts hin_X3 hown hK hP 0 rfl rfl 13 (by decide) (hts (.fieldLink RX3 35 "JobShopModel" "chosen" "[Z") (by decide +kernel)) (fun _ h9 => h9) rfl dX3_choose_10 ?_
    refine lv_iload_n (pc := 13) hx hb dX3_choose_13 rfl (lv_at hl 1 rfl) ?_
    refine lv_iconst (v := 0) (pc := 14) hx hb dX3_choose_14 (by decide) ?_
    obtain ⟨b_15, hw⟩ := hw
    refine va_zast (pc := 15) hx hb hK hP hD hS 9 1 rfl rfl b_15 dX3_choose_15 (fun H locs hP hD hS => ?_)
    have hP : va_P (dC, dI) vwCl (wM h_M h_M_jobOf h_M_machineOf h_M_durations h_M_arcs h_M_drafts h_M_starts h_M_heads h_M_tails h_M_chosen h_M_orders h_M_sizes cI cZ M_jobs M_many M_isPlanned M_least M_optima M_jobOf M_machineOf M_durations M_arcs M_drafts M_starts M_heads M_tails (upd M_chosen_2 x1_2.toNatClampNeg (vp_nar .boolean 0)) M_orders M_sizes) H := hP
    have hD : va_D A (wM h_M h_M_jobOf h_M_machineOf h_M_durations h_M_arcs h_M_drafts h_M_starts h_M_heads h_M_tails h_M_chosen h_M_orders h_M_sizes cI cZ M_jobs M_many M_isPlanned M_least M_optima M_jobOf M_machineOf M_durations M_arcs M_drafts M_starts M_heads M_tails (upd M_chosen_2 x1_2.toNatClampNeg (vp_nar .boolean 0)) M_orders M_sizes) := hD
    refine lv_iinc (v := x1_2 + 1) (lv' := [(1, .int (x1_2 + 1)), (0, .ref h_M)]) (pc := 16) hx hb dX3_choose_16 hl (k := 1) rfl rfl (by decide) rfl (fun ls hl => ?_)
    refine lv_goto (tgt := 2) (pc := 19) hx hb dX3_choose_19 (by decide) ?_
    exact ih_2 ((x1_2 + 1), (upd M_chosen_2 x1_2.toNatClampNeg (vp_nar .boolean 0))) _ _ _ hw.1 hw.2 ⟨hP, hD, hS, (lv_sub hl [1, 0] rfl)⟩
set_option maxHeartbeats 4000000 in
set_option maxRecDepth 100000 in
theorem c_X3_isEarlier (l : Launch) (dC : Nat → ClassId) (dI : Nat → Nat → Nat) (h_M h_M_jobOf h_M_machineOf h_M_durations h_M_arcs h_M_drafts h_M_starts h_M_heads h_M_tails h_M_chosen h_M_orders h_M_sizes : Nat) (sz : Nat) (cI cZ : ClassId) (M_jobs : Int32) (M_many : Int32) (M_isPlanned : Int32) (M_least : Int32) (M_optima : Int32) (M_jobOf : Nat → Int32) (M_machineOf : Nat → Int32) (M_durations : Nat → Int32) (M_arcs : Nat → Int32) (M_drafts : Nat → Int32) (M_starts : Nat → Int32) (M_heads : Nat → Int32) (M_tails : Nat → Int32) (M_chosen : Nat → Int32) (M_orders : Nat → Int32) (M_sizes : Nat → Int32) (post : Int32 → Prop) (hw : wp_X3_isEarlier M_many M_starts M_heads post) : Met l yX3_isEarlier wsX3_isEarlier ({ frames := 0, cells := 0, slots := 0, locals := 0 }) (va_Pc [.ref h_M] (fun U => U.heap.size = sz ∧ va_P (dC, dI) vwCl (wM h_M h_M_jobOf h_M_machineOf h_M_durations h_M_arcs h_M_drafts h_M_starts h_M_heads h_M_tails h_M_chosen h_M_orders h_M_sizes cI cZ M_jobs M_many M_isPlanned M_least M_optima M_jobOf M_machineOf M_durations M_arcs M_drafts M_starts M_heads M_tails M_chosen M_orders M_sizes) U.heap ∧ va_K (dC, dI) vwCl [(cI, .int), (cZ, .boolean)] U ∧ va_D (fun _ => True) (wM h_M h_M_jobOf h_M_machineOf h_M_durations h_M_arcs h_M_drafts h_M_starts h_M_heads h_M_tails h_M_chosen h_M_orders h_M_sizes cI cZ M_jobs M_many M_isPlanned M_least M_optima M_jobOf M_machineOf M_durations M_arcs M_drafts M_starts M_heads M_tails M_chosen M_orders M_sizes))) (va_Qi (fun (r : Int32) (u : Unit) => post r ) (fun u t => va_P (dC, dI) vwCl (wM h_M h_M_jobOf h_M_machineOf h_M_durations h_M_arcs h_M_drafts h_M_starts h_M_heads h_M_tails h_M_chosen h_M_orders h_M_sizes cI cZ M_jobs M_many M_isPlanned M_least M_optima M_jobOf M_machineOf M_durations M_arcs M_drafts M_starts M_heads M_tails M_chosen M_orders M_sizes) t.heap ∧ va_K (dC, dI) vwCl [(cI, .int), (cZ, .boolean)] t ∧ va_D (va_A (wM h_M h_M_jobOf h_M_machineOf h_M_durations h_M_arcs h_M_drafts h_M_starts h_M_heads h_M_tails h_M_chosen h_M_orders h_M_sizes cI cZ M_jobs M_many M_isPlanned M_least M_optima M_jobOf M_machineOf M_durations M_arcs M_drafts M_starts M_heads M_tails M_chosen M_orders M_sizes) sz) (wM h_M h_M_jobOf h_M_machineOf h_M_durations h_M_arcs h_M_drafts h_M_starts h_M_heads h_M_tails h_M_chosen h_M_orders h_M_sizes cI cZ M_jobs M_many M_isPlanned M_least M_optima M_jobOf M_machineOf M_durations M_arcs M_drafts M_starts M_heads M_tails M_chosen M_orders M_sizes)) (va_A (wM h_M h_M_jobOf h_M_machineOf h_M_durations h_M_arcs h_M_drafts h_M_starts h_M_heads h_M_tails h_M_chosen h_M_orders h_M_sizes cI cZ M_jobs M_many M_isPlanned M_least M_optima M_jobOf M_machineOf M_durations M_arcs M_drafts M_starts M_heads M_tails M_chosen M_orders M_sizes) sz)) 0 0 (va_A (wM h_M h_M_jobOf h_M_machineOf h_M_durations h_M_arcs h_M_drafts h_M_starts h_M_heads h_M_tails h_M_chosen h_M_orders h_M_sizes cI cZ M_jobs M_many M_isPlanned M_least M_optima M_jobOf M_machineOf M_durations M_arcs M_drafts M_starts M_heads M_tails M_chosen M_orders M_sizes) sz) := by
  refine Met.ofW (cc := cX3_isEarlier) (maxL := 2) (ret := (some .boolean)) (by decide) rfl ?_
  intro p e s m args below meth c s₁ B hml hv
  obtain ⟨rfl, hsz, hP, hK, hD0⟩ := hv
  have hx := B.exec
  have hb := B.bytes
  have hr := B.returns
  have hts := atoms_spec (ws := wsX3_isEarlier) B.pre
  have hown : s.vm.findClass RX3 = some m.cls := findClass_of_methodNamed B.named
  have hlocks := B.notSynchronized
  subst hsz
  have hD := hD0.self (sz := s.heap.size)
  generalize hAe : va_A (wM h_M h_M_jobOf h_M_machineOf h_M_durations h_M_arcs h_M_drafts h_M_starts h_M_heads h_M_tails h_M_chosen h_M_orders h_M_sizes cI cZ M_jobs M_many M_isPlanned M_least M_optima M_jobOf M_machineOf M_durations M_arcs M_drafts M_starts M_heads M_tails M_chosen M_orders M_sizes) s.heap.size = A at hD ⊢
  have hA : ∀ q : Nat, s.heap.size ≤ q → A q := fun q h => by rw [← hAe]; exact Or.inr h
  have hS : va_S A s.heap s.heap [] := va_S.rf
  have hP : va_P (dC, dI) vwCl (wM h_M h_M_jobOf h_M_machineOf h_M_durations h_M_arcs h_M_drafts h_M_starts h_M_heads h_M_tails h_M_chosen h_M_orders h_M_sizes cI cZ M_jobs M_many M_isPlanned M_least M_optima M_jobOf M_machineOf M_durations M_arcs M_drafts M_starts M_heads M_tails M_chosen M_orders M_sizes) s.heap := hP
  have hl := lv_entry ([.ref h_M]) (n := 2) (Nat.le_of_ble_eq_true rfl)
  rw [lg_entry_eq]
  generalize (lg_sl ([.ref h_M]) ++ List.replicate (2 - (lg_sl ([.ref h_M])).length) Slot.unset).toArray = ls at hl ⊢
  have hl : lv_has ls 2 [(0, .ref h_M)] := hl
  obtain ⟨H, hH⟩ : ∃ H, H = s.heap := ⟨_, rfl⟩
  rw [← hH] at hP
  have hS : va_S A s.heap H [] := by rw [hH]; exact hS
  refine W_heap hH ?_
  unfold wp_X3_isEarlier at hw
  have hin_X3 : ∀ w ∈ u_ws RX3 TX3 16, w ∈ wsX3_isEarlier := by decide +kernel
  refine lv_iconst (v := 0) (pc := 0) hx hb dX3_isEarlier_0 (by decide) ?_
  refine lv_istore_n (lv' := [(1, .int 0), (0, .ref h_M)]) (pc := 1) hx hb dX3_isEarlier_1 rfl hl (by decide) rfl (fun ls hl => ?_)
  obtain ⟨I_2, μ_2, hI_2, hs_2⟩ := hw
  refine lp_W (I := fun z : Int32 => I_2 z) (fun z => μ_2 z) (fun (z : Int32) H locs ls => va_P (dC, dI) vwCl (wM h_M h_M_jobOf h_M_machineOf h_M_durations h_M_arcs h_M_drafts h_M_starts h_M_heads h_M_tails h_M_chosen h_M_orders h_M_sizes cI cZ M_jobs M_many M_isPlanned M_least M_optima M_jobOf M_machineOf M_durations M_arcs M_drafts M_starts M_heads M_tails M_chosen M_orders M_sizes) H ∧ va_D A (wM h_M h_M_jobOf h_M_machineOf h_M_durations h_M_arcs h_M_drafts h_M_starts h_M_heads h_M_tails h_M_chosen h_M_orders h_M_sizes cI cZ M_jobs M_many M_isPlanned M_least M_optima M_jobOf M_machineOf M_durations M_arcs M_drafts M_starts M_heads M_tails M_chosen M_orders M_sizes) ∧ va_S A s.heap H locs ∧ lv_has ls 2 [(0, .ref h_M), (1, .int z)]) ?_ 0 _ _ _ hI_2 ⟨hP, hD, hS, (lv_sub hl [1, 0] rfl)⟩
  rintro x1_2 H locs ls hI ⟨hP, hD, hS, hl⟩ ih_2
  have hw := hs_2 x1_2 hI
  have hP : va_P (dC, dI) vwCl (wM h_M h_M_jobOf h_M_machineOf h_M_durations h_M_arcs h_M_drafts h_M_starts h_M_heads h_M_tails h_M_chosen h_M_orders h_M_sizes cI cZ M_jobs M_many M_isPlanned M_least M_optima M_jobOf M_machineOf M_durations M_arcs M_drafts M_starts M_heads M_tails M_chosen M_orders M_sizes) H := hP
  have hD : va_D A (wM h_M h_M_jobOf h_M_machineOf h_M_durations h_M_arcs h_M_drafts h_M_starts h_M_heads h_M_tails h_M_chosen h_M_orders h_M_sizes cI cZ M_jobs M_many M_isPlanned M_least M_optima M_jobOf M_machineOf M_durations M_arcs M_drafts M_starts M_heads M_tails M_chosen M_orders M_sizes) := hD
  have hl : lv_has ls 2 [(0, .ref h_M), (1, .int x1_2)] := hl
  refine lv_iload_n (pc := 2) hx hb dX3_isEarlier_2 rfl (lv_at hl 1 rfl) ?_
  refine lv_aload_n (pc := 3) hx hb dX3_isEarlier_3 rfl (lv_at hl 0 rfl) ?_
  refine va_get (D := (dC, dI)) (ci := 3) (v := .int M_many) (C := RX3) (T := TX3) (N := 16) (pc := 4) hx hb hts hin_X3 hown hK hP 0 rfl rfl 1 (by decide) (hts (.fieldLink RX3 48 "JobShopModel" "many" "I") (by decide +kernel)) (fun _ h9 => h9) rfl dX3_isEarlier_4 ?_
  refine lv_icmp_ge (tgt := 52) (pc := 7) hx hb dX3_isEarlier_7 (by decide) (fun c_1 => ?_) (fun c_1 => ?_)
  · have hw := hw.1 c_1
    refine lv_iconst (v := 0) (pc := 52) hx hb dX3_isEarlier_52 (by decide) ?_
    exact W.zret (v := 0) hx hb hr rfl (fun t ht hW => ⟨⟨0, (), rfl, hw, by rw [ht]; exact hP, va_K.moved hW.alike hK, hD⟩, hS.F ht⟩) hS.2.2 dX3_isEarlier_53
  · have hw := hw.2 c_1
    refine lv_aload_n (pc := 10) hx hb dX3_isEarlier_10 rfl (lv_at hl 0 rfl) ?_
    refine va_get (D := (dC, dI)) (ci := 3) (v := .ref h_M_heads) (C := RX3) (T := TX3) (N := 16) (pc := 11) hx hb hts hin_X3 hown hK hP 0 rfl rfl 11 (by decide) (hts (.fieldLink RX3 29 "JobShopModel" "heads" "[I") (by decide +kernel)) (fun _ h9 => h9) rfl dX3_isEarlier_11 ?_
    refine lv_iload_n (pc := 14) hx hb dX3_isEarlier_14 rfl (lv_at hl 1 rfl) ?_
    obtain ⟨b_2, hw⟩ := hw
    refine va_iald (pc := 15) hx hb hK hP 7 0 rfl rfl b_2 dX3_isEarlier_15 ?_
    refine lv_aload_n (pc := 16) hx hb dX3_isEarlier_16 rfl (lv_at hl 0 rfl) ?_
    refine va_get (D := (dC, dI)) (ci := 3) (v := .ref h_M_starts) (C := RX3) (T := TX3) (N := 16) (pc := 17) hx hb hts hin_X3 hown hK hP 0 rfl rfl 8 (by decide) (hts (.fieldLink RX3 26 "JobShopModel" "starts" "[I") (by decide +kernel)) (fun _ h9 => h9) rfl dX3_isEarlier_17 ?_
    refine lv_iload_n (pc := 20) hx hb dX3_isEarlier_20 rfl (lv_at hl 1 rfl) ?_
    obtain ⟨b_3, hw⟩ := hw
    refine va_iald (pc := 21) hx hb hK hP 6 0 rfl rfl b_3 dX3_isEarlier_21 ?_
    refine lv_icmp_eq (tgt := 46) (pc := 22) hx hb dX3_isEarlier_22 (by decide) (fun c_4 => ?_) (fun c_4 => ?_)
    · have hw := hw.1 c_4
      refine lv_iinc (v := x1_2 + 1) (lv' := [(1, .int (x1_2 + 1)), (0, .ref h_M)]) (pc := 46) hx hb dX3_isEarlier_46 hl (k := 1) rfl rfl (by decide) rfl (fun ls hl => ?_)
      refine lv_goto (tgt := 2) (pc := 49) hx hb dX3_isEarlier_49 (by decide) ?_
      exact ih_2 (x1_2 + 1) _ _ _ hw.1 hw.2 ⟨hP, hD, hS, (lv_sub hl [1, 0] rfl)⟩
    · have hw := hw.2 c_4
      refine lv_aload_n (pc := 25) hx hb dX3_isEarlier_25 rfl (lv_at hl 0 rfl) ?_
      refine va_get (D := (dC, dI)) (ci := 3) (v := .ref h_M_heads) (C := RX3) (T := TX3) (N := 16) (pc := 26) hx hb hts hin_X3 hown hK hP 0 rfl rfl 11 (by decide) (hts (.fieldLink RX3 29 "JobShopModel" "heads" "[I") (by decide +kernel)) (fun _ h9 => h9) rfl dX3_isEarlier_26 ?_
      refine lv_iload_n (pc := 29) hx hb dX3_isEarlier_29 rfl (lv_at hl 1 rfl) ?_
      obtain ⟨b_5, hw⟩ := hw
      refine va_iald (pc := 30) hx hb hK hP 7 0 rfl rfl b_5 dX3_isEarlier_30 ?_
      refine lv_aload_n (pc := 31) hx hb dX3_isEarlier_31 rfl (lv_at hl 0 rfl) ?_
      refine va_get (D := (dC, dI)) (ci := 3) (v := .ref h_M_starts) (C := RX3) (T := TX3) (N := 16) (pc := 32) hx hb hts hin_X3 hown hK hP 0 rfl rfl 8 (by decide) (hts (.fieldLink RX3 26 "JobShopModel" "starts" "[I") (by decide +kernel)) (fun _ h9 => h9) rfl dX3_isEarlier_32 ?_
      refine lv_iload_n (pc := 35) hx hb dX3_isEarlier_35 rfl (lv_at hl 1 rfl) ?_
      obtain ⟨b_6, hw⟩ := hw
      refine va_iald (pc := 36) hx hb hK hP 6 0 rfl rfl b_6 dX3_isEarlier_36 ?_
      refine lv_icmp_ge (tgt := 44) (pc := 37) hx hb dX3_isEarlier_37 (by decide) (fun c_7 => ?_) (fun c_7 => ?_)
      · have hw := hw.1 c_7
        refine lv_iconst (v := 0) (pc := 44) hx hb dX3_isEarlier_44 (by decide) ?_
        exact W.zret (v := 0) hx hb hr rfl (fun t ht hW => ⟨⟨0, (), rfl, hw, by rw [ht]; exact hP, va_K.moved hW.alike hK, hD⟩, hS.F ht⟩) hS.2.2 dX3_isEarlier_45
      · have hw := hw.2 c_7
        refine lv_iconst (v := 1) (pc := 40) hx hb dX3_isEarlier_40 (by decide) ?_
        refine lv_goto (tgt := 45) (pc := 41) hx hb dX3_isEarlier_41 (by decide) ?_
        exact W.zret (v := 1) hx hb hr rfl (fun t ht hW => ⟨⟨1, (), rfl, hw, by rw [ht]; exact hP, va_K.moved hW.alike hK, hD⟩, hS.F ht⟩) hS.2.2 dX3_isEarlier_45
set_option maxHeartbeats 4000000 in
set_option maxRecDepth 100000 in
theorem c_X3_weigh (l : Launch) (dC : Nat → ClassId) (dI : Nat → Nat → Nat) (h_M h_M_jobOf h_M_machineOf h_M_durations h_M_arcs h_M_drafts h_M_starts h_M_heads h_M_tails h_M_chosen h_M_orders h_M_sizes : Nat) (sz : Nat) (cI cZ : ClassId) (M_jobs : Int32) (M_many : Int32) (M_isPlanned : Int32) (M_least : Int32) (M_optima : Int32) (M_jobOf : Nat → Int32) (M_machineOf : Nat → Int32) (M_durations : Nat → Int32) (M_arcs : Nat → Int32) (M_drafts : Nat → Int32) (M_starts : Nat → Int32) (M_heads : Nat → Int32) (M_tails : Nat → Int32) (M_chosen : Nat → Int32) (M_orders : Nat → Int32) (M_sizes : Nat → Int32) (post : Int32 → Int32 → Int32 → (Nat → Int32) → Prop) (hw : wp_X3_weigh M_many M_isPlanned M_least M_optima M_durations M_starts M_heads post) : Met l yX3_weigh wsX3_weigh ({ frames := 1, cells := 0, slots := 0, locals := 21 }) (va_Pc [.ref h_M] (fun U => U.heap.size = sz ∧ va_P (dC, dI) vwCl (wM h_M h_M_jobOf h_M_machineOf h_M_durations h_M_arcs h_M_drafts h_M_starts h_M_heads h_M_tails h_M_chosen h_M_orders h_M_sizes cI cZ M_jobs M_many M_isPlanned M_least M_optima M_jobOf M_machineOf M_durations M_arcs M_drafts M_starts M_heads M_tails M_chosen M_orders M_sizes) U.heap ∧ va_K (dC, dI) vwCl [(cI, .int), (cZ, .boolean)] U ∧ va_D (fun _ => True) (wM h_M h_M_jobOf h_M_machineOf h_M_durations h_M_arcs h_M_drafts h_M_starts h_M_heads h_M_tails h_M_chosen h_M_orders h_M_sizes cI cZ M_jobs M_many M_isPlanned M_least M_optima M_jobOf M_machineOf M_durations M_arcs M_drafts M_starts M_heads M_tails M_chosen M_orders M_sizes))) (va_Qv (fun (u : Int32 × Int32 × Int32 × (Nat → Int32)) => post u.1 u.2.1 u.2.2.1 u.2.2.2) (fun u t => va_P (dC, dI) vwCl (wM h_M h_M_jobOf h_M_machineOf h_M_durations h_M_arcs h_M_drafts h_M_starts h_M_heads h_M_tails h_M_chosen h_M_orders h_M_sizes cI cZ M_jobs M_many u.1 u.2.1 u.2.2.1 M_jobOf M_machineOf M_durations M_arcs M_drafts u.2.2.2 M_heads M_tails M_chosen M_orders M_sizes) t.heap ∧ va_K (dC, dI) vwCl [(cI, .int), (cZ, .boolean)] t ∧ va_D (va_A (wM h_M h_M_jobOf h_M_machineOf h_M_durations h_M_arcs h_M_drafts h_M_starts h_M_heads h_M_tails h_M_chosen h_M_orders h_M_sizes cI cZ M_jobs M_many M_isPlanned M_least M_optima M_jobOf M_machineOf M_durations M_arcs M_drafts M_starts M_heads M_tails M_chosen M_orders M_sizes) sz) (wM h_M h_M_jobOf h_M_machineOf h_M_durations h_M_arcs h_M_drafts h_M_starts h_M_heads h_M_tails h_M_chosen h_M_orders h_M_sizes cI cZ M_jobs M_many u.1 u.2.1 u.2.2.1 M_jobOf M_machineOf M_durations M_arcs M_drafts u.2.2.2 M_heads M_tails M_chosen M_orders M_sizes)) (va_A (wM h_M h_M_jobOf h_M_machineOf h_M_durations h_M_arcs h_M_drafts h_M_starts h_M_heads h_M_tails h_M_chosen h_M_orders h_M_sizes cI cZ M_jobs M_many M_isPlanned M_least M_optima M_jobOf M_machineOf M_durations M_arcs M_drafts M_starts M_heads M_tails M_chosen M_orders M_sizes) sz)) 0 0 (va_A (wM h_M h_M_jobOf h_M_machineOf h_M_durations h_M_arcs h_M_drafts h_M_starts h_M_heads h_M_tails h_M_chosen h_M_orders h_M_sizes cI cZ M_jobs M_many M_isPlanned M_least M_optima M_jobOf M_machineOf M_durations M_arcs M_drafts M_starts M_heads M_tails M_chosen M_orders M_sizes) sz) := by
  refine Met.ofW (cc := cX3_weigh) (maxL := 5) (ret := none) (by decide) rfl ?_
  intro p e s m args below meth c s₁ B hml hv
  obtain ⟨rfl, hsz, hP, hK, hD0⟩ := hv
  have hx := B.exec
  have hb := B.bytes
  have hr := B.returns
  have hts := atoms_spec (ws := wsX3_weigh) B.pre
  have hown : s.vm.findClass RX3 = some m.cls := findClass_of_methodNamed B.named
  have hlocks := B.notSynchronized
  subst hsz
  have hD := hD0.self (sz := s.heap.size)
  generalize hAe : va_A (wM h_M h_M_jobOf h_M_machineOf h_M_durations h_M_arcs h_M_drafts h_M_starts h_M_heads h_M_tails h_M_chosen h_M_orders h_M_sizes cI cZ M_jobs M_many M_isPlanned M_least M_optima M_jobOf M_machineOf M_durations M_arcs M_drafts M_starts M_heads M_tails M_chosen M_orders M_sizes) s.heap.size = A at hD ⊢
  have hA : ∀ q : Nat, s.heap.size ≤ q → A q := fun q h => by rw [← hAe]; exact Or.inr h
  have hS : va_S A s.heap s.heap [] := va_S.rf
  have hP : va_P (dC, dI) vwCl (wM h_M h_M_jobOf h_M_machineOf h_M_durations h_M_arcs h_M_drafts h_M_starts h_M_heads h_M_tails h_M_chosen h_M_orders h_M_sizes cI cZ M_jobs M_many M_isPlanned M_least M_optima M_jobOf M_machineOf M_durations M_arcs M_drafts M_starts M_heads M_tails M_chosen M_orders M_sizes) s.heap := hP
  have hl := lv_entry ([.ref h_M]) (n := 5) (Nat.le_of_ble_eq_true rfl)
  rw [lg_entry_eq]
  generalize (lg_sl ([.ref h_M]) ++ List.replicate (5 - (lg_sl ([.ref h_M])).length) Slot.unset).toArray = ls at hl ⊢
  have hl : lv_has ls 5 [(0, .ref h_M)] := hl
  obtain ⟨H, hH⟩ : ∃ H, H = s.heap := ⟨_, rfl⟩
  rw [← hH] at hP
  have hS : va_S A s.heap H [] := by rw [hH]; exact hS
  refine W_heap hH ?_
  unfold wp_X3_weigh at hw
  have hin_X3 : ∀ w ∈ u_ws RX3 TX3 16, w ∈ wsX3_weigh := by decide +kernel
  refine lv_iconst (v := 0) (pc := 0) hx hb dX3_weigh_0 (by decide) ?_
  refine lv_istore_n (lv' := [(1, .int 0), (0, .ref h_M)]) (pc := 1) hx hb dX3_weigh_1 rfl hl (by decide) rfl (fun ls hl => ?_)
  refine lv_iconst (v := 0) (pc := 2) hx hb dX3_weigh_2 (by decide) ?_
  refine lv_istore_n (lv' := [(2, .int 0), (1, .int 0), (0, .ref h_M)]) (pc := 3) hx hb dX3_weigh_3 rfl hl (by decide) rfl (fun ls hl => ?_)
  obtain ⟨I_4, μ_4, hI_4, hs_4⟩ := hw
  refine lp_W (I := fun z : Int32 × Int32 => I_4 z.1 z.2) (fun z => μ_4 z.1 z.2) (fun (z : Int32 × Int32) H locs ls => va_P (dC, dI) vwCl (wM h_M h_M_jobOf h_M_machineOf h_M_durations h_M_arcs h_M_drafts h_M_starts h_M_heads h_M_tails h_M_chosen h_M_orders h_M_sizes cI cZ M_jobs M_many M_isPlanned M_least M_optima M_jobOf M_machineOf M_durations M_arcs M_drafts M_starts M_heads M_tails M_chosen M_orders M_sizes) H ∧ va_D A (wM h_M h_M_jobOf h_M_machineOf h_M_durations h_M_arcs h_M_drafts h_M_starts h_M_heads h_M_tails h_M_chosen h_M_orders h_M_sizes cI cZ M_jobs M_many M_isPlanned M_least M_optima M_jobOf M_machineOf M_durations M_arcs M_drafts M_starts M_heads M_tails M_chosen M_orders M_sizes) ∧ va_S A s.heap H locs ∧ lv_has ls 5 [(0, .ref h_M), (1, .int z.1), (2, .int z.2)]) ?_ (0, 0) _ _ _ hI_4 ⟨hP, hD, hS, (lv_sub hl [2, 1, 0] rfl)⟩
  rintro ⟨x1_4, x2_4⟩ H locs ls hI ⟨hP, hD, hS, hl⟩ ih_4
  have hw := hs_4 x1_4 x2_4 hI
  have hP : va_P (dC, dI) vwCl (wM h_M h_M_jobOf h_M_machineOf h_M_durations h_M_arcs h_M_drafts h_M_starts h_M_heads h_M_tails h_M_chosen h_M_orders h_M_sizes cI cZ M_jobs M_many M_isPlanned M_least M_optima M_jobOf M_machineOf M_durations M_arcs M_drafts M_starts M_heads M_tails M_chosen M_orders M_sizes) H := hP
  have hD : va_D A (wM h_M h_M_jobOf h_M_machineOf h_M_durations h_M_arcs h_M_drafts h_M_starts h_M_heads h_M_tails h_M_chosen h_M_orders h_M_sizes cI cZ M_jobs M_many M_isPlanned M_least M_optima M_jobOf M_machineOf M_durations M_arcs M_drafts M_starts M_heads M_tails M_chosen M_orders M_sizes) := hD
  have hl : lv_has ls 5 [(0, .ref h_M), (1, .int x1_4), (2, .int x2_4)] := hl
  refine lv_iload_n (pc := 4) hx hb dX3_weigh_4 rfl (lv_at hl 2 rfl) ?_
  refine lv_aload_n (pc := 5) hx hb dX3_weigh_5 rfl (lv_at hl 0 rfl) ?_
  refine va_get (D := (dC, dI)) (ci := 3) (v := .int M_many) (C := RX3) (T := TX3) (N := 16) (pc := 6) hx hb hts hin_X3 hown hK hP 0 rfl rfl 1 (by decide) (hts (.fieldLink RX3 48 "JobShopModel" "many" "I") (by decide +kernel)) (fun _ h9 => h9) rfl dX3_weigh_6 ?_
  refine lv_icmp_ge (tgt := 43) (pc := 9) hx hb dX3_weigh_9 (by decide) (fun c_1 => ?_) (fun c_1 => ?_)
  · have hw := hw.1 c_1
    refine lv_aload_n (pc := 43) hx hb dX3_weigh_43 rfl (lv_at hl 0 rfl) ?_
    refine va_get (D := (dC, dI)) (ci := 3) (v := .int M_isPlanned) (C := RX3) (T := TX3) (N := 16) (pc := 44) hx hb hts hin_X3 hown hK hP 0 rfl rfl 7 (by decide) (hts (.fieldLink RX3 59 "JobShopModel" "isPlanned" "Z") (by decide +kernel)) (fun _ h9 => h9) rfl dX3_weigh_44 ?_
    obtain ⟨J_63, hs_63, hw⟩ := hw
    refine jn_W (J := fun z : Int32 => J_63 z) 63 (fun z => [.int z]) (fun (z : Int32) H locs ls => va_P (dC, dI) vwCl (wM h_M h_M_jobOf h_M_machineOf h_M_durations h_M_arcs h_M_drafts h_M_starts h_M_heads h_M_tails h_M_chosen h_M_orders h_M_sizes cI cZ M_jobs M_many M_isPlanned M_least M_optima M_jobOf M_machineOf M_durations M_arcs M_drafts M_starts M_heads M_tails M_chosen M_orders M_sizes) H ∧ va_D A (wM h_M h_M_jobOf h_M_machineOf h_M_durations h_M_arcs h_M_drafts h_M_starts h_M_heads h_M_tails h_M_chosen h_M_orders h_M_sizes cI cZ M_jobs M_many M_isPlanned M_least M_optima M_jobOf M_machineOf M_durations M_arcs M_drafts M_starts M_heads M_tails M_chosen M_orders M_sizes) ∧ va_S A s.heap H locs ∧ lv_has ls 5 [(0, .ref h_M), (1, .int x1_4)]) ?_ ?_
    · rintro y0_63 H locs ls hI ⟨hP, hD, hS, hl⟩
      have hw := hs_63 y0_63 hI
      have hP : va_P (dC, dI) vwCl (wM h_M h_M_jobOf h_M_machineOf h_M_durations h_M_arcs h_M_drafts h_M_starts h_M_heads h_M_tails h_M_chosen h_M_orders h_M_sizes cI cZ M_jobs M_many M_isPlanned M_least M_optima M_jobOf M_machineOf M_durations M_arcs M_drafts M_starts M_heads M_tails M_chosen M_orders M_sizes) H := hP
      have hD : va_D A (wM h_M h_M_jobOf h_M_machineOf h_M_durations h_M_arcs h_M_drafts h_M_starts h_M_heads h_M_tails h_M_chosen h_M_orders h_M_sizes cI cZ M_jobs M_many M_isPlanned M_least M_optima M_jobOf M_machineOf M_durations M_arcs M_drafts M_starts M_heads M_tails M_chosen M_orders M_sizes) := hD
      have hl : lv_has ls 5 [(0, .ref h_M), (1, .int x1_4)] := hl
      refine W.eq (g2 := F0 m 63 ls [.int y0_63]) rfl ?_
      refine lv_istore_n (lv' := [(2, .int y0_63), (0, .ref h_M), (1, .int x1_4)]) (pc := 63) hx hb dX3_weigh_63 rfl hl (by decide) rfl (fun ls hl => ?_)
      refine lv_aload_n (pc := 64) hx hb dX3_weigh_64 rfl (lv_at hl 1 rfl) ?_
      refine va_get (D := (dC, dI)) (ci := 3) (v := .int M_isPlanned) (C := RX3) (T := TX3) (N := 16) (pc := 65) hx hb hts hin_X3 hown hK hP 0 rfl rfl 7 (by decide) (hts (.fieldLink RX3 59 "JobShopModel" "isPlanned" "Z") (by decide +kernel)) (fun _ h9 => h9) rfl dX3_weigh_65 ?_
      obtain ⟨J_84, hs_84, hw⟩ := hw
      refine jn_W (J := fun z : Int32 => J_84 z) 84 (fun z => [.int z]) (fun (z : Int32) H locs ls => va_P (dC, dI) vwCl (wM h_M h_M_jobOf h_M_machineOf h_M_durations h_M_arcs h_M_drafts h_M_starts h_M_heads h_M_tails h_M_chosen h_M_orders h_M_sizes cI cZ M_jobs M_many M_isPlanned M_least M_optima M_jobOf M_machineOf M_durations M_arcs M_drafts M_starts M_heads M_tails M_chosen M_orders M_sizes) H ∧ va_D A (wM h_M h_M_jobOf h_M_machineOf h_M_durations h_M_arcs h_M_drafts h_M_starts h_M_heads h_M_tails h_M_chosen h_M_orders h_M_sizes cI cZ M_jobs M_many M_isPlanned M_least M_optima M_jobOf M_machineOf M_durations M_arcs M_drafts M_starts M_heads M_tails M_chosen M_orders M_sizes) ∧ va_S A s.heap H locs ∧ lv_has ls 5 [(0, .ref h_M), (1, .int x1_4), (2, .int y0_63)]) ?_ ?_
      · rintro y0_84 H locs ls hI ⟨hP, hD, hS, hl⟩
        have hw := hs_84 y0_84 hI
        have hP : va_P (dC, dI) vwCl (wM h_M h_M_jobOf h_M_machineOf h_M_durations h_M_arcs h_M_drafts h_M_starts h_M_heads h_M_tails h_M_chosen h_M_orders h_M_sizes cI cZ M_jobs M_many M_isPlanned M_least M_optima M_jobOf M_machineOf M_durations M_arcs M_drafts M_starts M_heads M_tails M_chosen M_orders M_sizes) H := hP
        have hD : va_D A (wM h_M h_M_jobOf h_M_machineOf h_M_durations h_M_arcs h_M_drafts h_M_starts h_M_heads h_M_tails h_M_chosen h_M_orders h_M_sizes cI cZ M_jobs M_many M_isPlanned M_least M_optima M_jobOf M_machineOf M_durations M_arcs M_drafts M_starts M_heads M_tails M_chosen M_orders M_sizes) := hD
        have hl : lv_has ls 5 [(0, .ref h_M), (1, .int x1_4), (2, .int y0_63)] := hl
        refine W.eq (g2 := F0 m 84 ls [.int y0_84]) rfl ?_
        refine lv_istore_n (lv' := [(3, .int y0_84), (0, .ref h_M), (1, .int x1_4), (2, .int y0_63)]) (pc := 84) hx hb dX3_weigh_84 rfl hl (by decide) rfl (fun ls hl => ?_)
        refine lv_aload_n (pc := 85) hx hb dX3_weigh_85 rfl (lv_at hl 1 rfl) ?_
        refine lv_iload_n (pc := 86) hx hb dX3_weigh_86 rfl (lv_at hl 3 rfl) ?_
        obtain ⟨J_111, hs_111, hw⟩ := hw
        refine jn_W (J := fun z : Int32 => J_111 z) 111 (fun z => [.int z, .ref h_M]) (fun (z : Int32) H locs ls => va_P (dC, dI) vwCl (wM h_M h_M_jobOf h_M_machineOf h_M_durations h_M_arcs h_M_drafts h_M_starts h_M_heads h_M_tails h_M_chosen h_M_orders h_M_sizes cI cZ M_jobs M_many M_isPlanned M_least M_optima M_jobOf M_machineOf M_durations M_arcs M_drafts M_starts M_heads M_tails M_chosen M_orders M_sizes) H ∧ va_D A (wM h_M h_M_jobOf h_M_machineOf h_M_durations h_M_arcs h_M_drafts h_M_starts h_M_heads h_M_tails h_M_chosen h_M_orders h_M_sizes cI cZ M_jobs M_many M_isPlanned M_least M_optima M_jobOf M_machineOf M_durations M_arcs M_drafts M_starts M_heads M_tails M_chosen M_orders M_sizes) ∧ va_S A s.heap H locs ∧ lv_has ls 5 [(0, .ref h_M), (1, .int x1_4), (2, .int y0_63), (3, .int y0_84)]) ?_ ?_
        · rintro y0_111 H locs ls hI ⟨hP, hD, hS, hl⟩
          have hw := hs_111 y0_111 hI
          have hP : va_P (dC, dI) vwCl (wM h_M h_M_jobOf h_M_machineOf h_M_durations h_M_arcs h_M_drafts h_M_starts h_M_heads h_M_tails h_M_chosen h_M_orders h_M_sizes cI cZ M_jobs M_many M_isPlanned M_least M_optima M_jobOf M_machineOf M_durations M_arcs M_drafts M_starts M_heads M_tails M_chosen M_orders M_sizes) H := hP
          have hD : va_D A (wM h_M h_M_jobOf h_M_machineOf h_M_durations h_M_arcs h_M_drafts h_M_starts h_M_heads h_M_tails h_M_chosen h_M_orders h_M_sizes cI cZ M_jobs M_many M_isPlanned M_least M_optima M_jobOf M_machineOf M_durations M_arcs M_drafts M_starts M_heads M_tails M_chosen M_orders M_sizes) := hD
          have hl : lv_has ls 5 [(0, .ref h_M), (1, .int x1_4), (2, .int y0_63), (3, .int y0_84)] := hl
          refine W.eq (g2 := F0 m 111 ls [.int y0_111, .ref h_M]) rfl ?_
          refine va_put (D := (dC, dI)) (ci := 3) (v := .int y0_111) (ty := .int) (C := RX3) (T := TX3) (N := 16) (pc := 111) hx hb hts hin_X3 tyX3 tyX3_ok nmX3 hown hK hP hD hS 0 rfl rfl 10 (by decide) (hts (.fieldLink RX3 106 "JobShopModel" "optima" "I") (by decide +kernel)) (fun _ h9 => h9) rfl (by decide +kernel) rfl rfl (Nat.le_of_ble_eq_true rfl) dX3_weigh_111 (fun H locs hP hD hS => ?_)
          have hP : va_P (dC, dI) vwCl (wM h_M h_M_jobOf h_M_machineOf h_M_durations h_M_arcs h_M_drafts h_M_starts h_M_heads h_M_tails h_M_chosen h_M_orders h_M_sizes cI cZ M_jobs M_many M_isPlanned M_least y0_111 M_jobOf M_machineOf M_durations M_arcs M_drafts M_starts M_heads M_tails M_chosen M_orders M_sizes) H := hP
          have hD : va_D A (wM h_M h_M_jobOf h_M_machineOf h_M_durations h_M_arcs h_M_drafts h_M_starts h_M_heads h_M_tails h_M_chosen h_M_orders h_M_sizes cI cZ M_jobs M_many M_isPlanned M_least y0_111 M_jobOf M_machineOf M_durations M_arcs M_drafts M_starts M_heads M_tails M_chosen M_orders M_sizes) := hD
          refine lv_iload_n (pc := 114) hx hb dX3_weigh_114 rfl (lv_at hl 2 rfl) ?_
          obtain ⟨J_129, hs_129, hw⟩ := hw
          refine jn_W (J := fun z : Unit => J_129 ) 129 (fun z => []) (fun (z : Unit) H locs ls => va_P (dC, dI) vwCl (wM h_M h_M_jobOf h_M_machineOf h_M_durations h_M_arcs h_M_drafts h_M_starts h_M_heads h_M_tails h_M_chosen h_M_orders h_M_sizes cI cZ M_jobs M_many M_isPlanned M_least y0_111 M_jobOf M_machineOf M_durations M_arcs M_drafts M_starts M_heads M_tails M_chosen M_orders M_sizes) H ∧ va_D A (wM h_M h_M_jobOf h_M_machineOf h_M_durations h_M_arcs h_M_drafts h_M_starts h_M_heads h_M_tails h_M_chosen h_M_orders h_M_sizes cI cZ M_jobs M_many M_isPlanned M_least y0_111 M_jobOf M_machineOf M_durations M_arcs M_drafts M_starts M_heads M_tails M_chosen M_orders M_sizes) ∧ va_S A s.heap H locs ∧ lv_has ls 5 [(0, .ref h_M), (1, .int x1_4), (2, .int y0_63)]) ?_ ?_
          · rintro _ H locs ls hI ⟨hP, hD, hS, hl⟩
            have hw := hs_129  hI
            have hP : va_P (dC, dI) vwCl (wM h_M h_M_jobOf h_M_machineOf h_M_durations h_M_arcs h_M_drafts h_M_starts h_M_heads h_M_tails h_M_chosen h_M_orders h_M_sizes cI cZ M_jobs M_many M_isPlanned M_least y0_111 M_jobOf M_machineOf M_durations M_arcs M_drafts M_starts M_heads M_tails M_chosen M_orders M_sizes) H := hP
            have hD : va_D A (wM h_M h_M_jobOf h_M_machineOf h_M_durations h_M_arcs h_M_drafts h_M_starts h_M_heads h_M_tails h_M_chosen h_M_orders h_M_sizes cI cZ M_jobs M_many M_isPlanned M_least y0_111 M_jobOf M_machineOf M_durations M_arcs M_drafts M_starts M_heads M_tails M_chosen M_orders M_sizes) := hD
            have hl : lv_has ls 5 [(0, .ref h_M), (1, .int x1_4), (2, .int y0_63)] := hl
            refine W.eq (g2 := F0 m 129 ls []) rfl ?_
            refine lv_iconst (v := 0) (pc := 129) hx hb dX3_weigh_129 (by decide) ?_
            refine lv_istore (lv' := [(4, .int 0), (0, .ref h_M), (1, .int x1_4), (2, .int y0_63)]) (pc := 130) hx hb dX3_weigh_130 hl (by decide) rfl (fun ls hl => ?_)
            obtain ⟨I_132, μ_132, hI_132, hs_132⟩ := hw
            refine lp_W (I := fun z : Int32 × (Nat → Int32) => I_132 z.1 z.2) (fun z => μ_132 z.1 z.2) (fun (z : Int32 × (Nat → Int32)) H locs ls => va_P (dC, dI) vwCl (wM h_M h_M_jobOf h_M_machineOf h_M_durations h_M_arcs h_M_drafts h_M_starts h_M_heads h_M_tails h_M_chosen h_M_orders h_M_sizes cI cZ M_jobs M_many M_isPlanned M_least y0_111 M_jobOf M_machineOf M_durations M_arcs M_drafts z.2 M_heads M_tails M_chosen M_orders M_sizes) H ∧ va_D A (wM h_M h_M_jobOf h_M_machineOf h_M_durations h_M_arcs h_M_drafts h_M_starts h_M_heads h_M_tails h_M_chosen h_M_orders h_M_sizes cI cZ M_jobs M_many M_isPlanned M_least y0_111 M_jobOf M_machineOf M_durations M_arcs M_drafts z.2 M_heads M_tails M_chosen M_orders M_sizes) ∧ va_S A s.heap H locs ∧ lv_has ls 5 [(0, .ref h_M), (1, .int x1_4), (2, .int y0_63), (4, .int z.1)]) ?_ (0, M_starts) _ _ _ hI_132 ⟨hP, hD, hS, (lv_sub hl [1, 2, 3, 0] rfl)⟩
            rintro ⟨x4_132, M_starts_132⟩ H locs ls hI ⟨hP, hD, hS, hl⟩ ih_132
            have hw := hs_132 x4_132 M_starts_132 hI
            have hP : va_P (dC, dI) vwCl (wM h_M h_M_jobOf h_M_machineOf h_M_durations h_M_arcs h_M_drafts h_M_starts h_M_heads h_M_tails h_M_chosen h_M_orders h_M_sizes cI cZ M_jobs M_many M_isPlanned M_least y0_111 M_jobOf M_machineOf M_durations M_arcs M_drafts M_starts_132 M_heads M_tails M_chosen M_orders M_sizes) H := hP
            have hD : va_D A (wM h_M h_M_jobOf h_M_machineOf h_M_durations h_M_arcs h_M_drafts h_M_starts h_M_heads h_M_tails h_M_chosen h_M_orders h_M_sizes cI cZ M_jobs M_many M_isPlanned M_least y0_111 M_jobOf M_machineOf M_durations M_arcs M_drafts M_starts_132 M_heads M_tails M_chosen M_orders M_sizes) := hD
            have hl : lv_has ls 5 [(0, .ref h_M), (1, .int x1_4), (2, .int y0_63), (4, .int x4_132)] := hl
            refine lv_iload (pc := 132) hx hb dX3_weigh_132 (lv_at hl 3 rfl) ?_
            refine lv_aload_n (pc := 134) hx hb dX3_weigh_134 rfl (lv_at hl 0 rfl) ?_
            refine va_get (D := (dC, dI)) (ci := 3) (v := .int M_many) (C := RX3) (T := TX3) (N := 16) (pc := 135) hx hb hts hin_X3 hown hK hP 0 rfl rfl 1 (by decide) (hts (.fieldLink RX3 48 "JobShopModel" "many" "I") (by decide +kernel)) (fun _ h9 => h9) rfl dX3_weigh_135 ?_
            refine lv_icmp_ge (tgt := 161) (pc := 138) hx hb dX3_weigh_138 (by decide) (fun c_2 => ?_) (fun c_2 => ?_)
            · have hw := hw.1 c_2
              refine lv_aload_n (pc := 161) hx hb dX3_weigh_161 rfl (lv_at hl 0 rfl) ?_
              refine lv_iload_n (pc := 162) hx hb dX3_weigh_162 rfl (lv_at hl 2 rfl) ?_
              refine lv_if_eq (tgt := 170) (pc := 163) hx hb dX3_weigh_163 (by decide) (fun c_3 => ?_) (fun c_3 => ?_)
              · have hw := hw.1 c_3
                refine lv_aload_n (pc := 170) hx hb dX3_weigh_170 rfl (lv_at hl 0 rfl) ?_
                refine va_get (D := (dC, dI)) (ci := 3) (v := .int M_least) (C := RX3) (T := TX3) (N := 16) (pc := 171) hx hb hts hin_X3 hown hK hP 0 rfl rfl 9 (by decide) (hts (.fieldLink RX3 44 "JobShopModel" "least" "I") (by decide +kernel)) (fun _ h9 => h9) rfl dX3_weigh_171 ?_
                refine va_put (D := (dC, dI)) (ci := 3) (v := .int M_least) (ty := .int) (C := RX3) (T := TX3) (N := 16) (pc := 174) hx hb hts hin_X3 tyX3 tyX3_ok nmX3 hown hK hP hD hS 0 rfl rfl 9 (by decide) (hts (.fieldLink RX3 44 "JobShopModel" "least" "I") (by decide +kernel)) (fun _ h9 => h9) rfl (by decide +kernel) rfl rfl (Nat.le_of_ble_eq_true rfl) dX3_weigh_174 (fun H locs hP hD hS => ?_)
                have hP : va_P (dC, dI) vwCl (wM h_M h_M_jobOf h_M_machineOf h_M_durations h_M_arcs h_M_drafts h_M_starts h_M_heads h_M_tails h_M_chosen h_M_orders h_M_sizes cI cZ M_jobs M_many M_isPlanned M_least y0_111 M_jobOf M_machineOf M_durations M_arcs M_drafts M_starts_132 M_heads M_tails M_chosen M_orders M_sizes) H := hP
                have hD : va_D A (wM h_M h_M_jobOf h_M_machineOf h_M_durations h_M_arcs h_M_drafts h_M_starts h_M_heads h_M_tails h_M_chosen h_M_orders h_M_sizes cI cZ M_jobs M_many M_isPlanned M_least y0_111 M_jobOf M_machineOf M_durations M_arcs M_drafts M_starts_132 M_heads M_tails M_chosen M_orders M_sizes) := hD
                refine lv_aload_n (pc := 177) hx hb dX3_weigh_177 rfl (lv_at hl 0 rfl) ?_
                refine lv_iconst (v := 1) (pc := 178) hx hb dX3_weigh_178 (by decide) ?_
                refine va_put (D := (dC, dI)) (ci := 3) (v := .int 1) (ty := .boolean) (C := RX3) (T := TX3) (N := 16) (pc := 179) hx hb hts hin_X3 tyX3 tyX3_ok nmX3 hown hK hP hD hS 0 rfl rfl 7 (by decide) (hts (.fieldLink RX3 59 "JobShopModel" "isPlanned" "Z") (by decide +kernel)) (fun _ h9 => h9) rfl (by decide +kernel) rfl rfl (Nat.le_of_ble_eq_true rfl) dX3_weigh_179 (fun H locs hP hD hS => ?_)
                have hP : va_P (dC, dI) vwCl (wM h_M h_M_jobOf h_M_machineOf h_M_durations h_M_arcs h_M_drafts h_M_starts h_M_heads h_M_tails h_M_chosen h_M_orders h_M_sizes cI cZ M_jobs M_many 1 M_least y0_111 M_jobOf M_machineOf M_durations M_arcs M_drafts M_starts_132 M_heads M_tails M_chosen M_orders M_sizes) H := hP
                have hD : va_D A (wM h_M h_M_jobOf h_M_machineOf h_M_durations h_M_arcs h_M_drafts h_M_starts h_M_heads h_M_tails h_M_chosen h_M_orders h_M_sizes cI cZ M_jobs M_many 1 M_least y0_111 M_jobOf M_machineOf M_durations M_arcs M_drafts M_starts_132 M_heads M_tails M_chosen M_orders M_sizes) := hD
                exact W.vret hx hb hr (fun t ht hW => ⟨⟨(1, M_least, y0_111, M_starts_132), rfl, hw, by rw [ht]; exact hP, va_K.moved hW.alike hK, hD⟩, hS.F ht⟩) hS.2.2 dX3_weigh_182
              · have hw := hw.2 c_3
                refine lv_iload_n (pc := 166) hx hb dX3_weigh_166 rfl (lv_at hl 1 rfl) ?_
                refine lv_goto (tgt := 174) (pc := 167) hx hb dX3_weigh_167 (by decide) ?_
                refine va_put (D := (dC, dI)) (ci := 3) (v := .int x1_4) (ty := .int) (C := RX3) (T := TX3) (N := 16) (pc := 174) hx hb hts hin_X3 tyX3 tyX3_ok nmX3 hown hK hP hD hS 0 rfl rfl 9 (by decide) (hts (.fieldLink RX3 44 "JobShopModel" "least" "I") (by decide +kernel)) (fun _ h9 => h9) rfl (by decide +kernel) rfl rfl (Nat.le_of_ble_eq_true rfl) dX3_weigh_174 (fun H locs hP hD hS => ?_)
                have hP : va_P (dC, dI) vwCl (wM h_M h_M_jobOf h_M_machineOf h_M_durations h_M_arcs h_M_drafts h_M_starts h_M_heads h_M_tails h_M_chosen h_M_orders h_M_sizes cI cZ M_jobs M_many M_isPlanned x1_4 y0_111 M_jobOf M_machineOf M_durations M_arcs M_drafts M_starts_132 M_heads M_tails M_chosen M_orders M_sizes) H := hP
                have hD : va_D A (wM h_M h_M_jobOf h_M_machineOf h_M_durations h_M_arcs h_M_drafts h_M_starts h_M_heads h_M_tails h_M_chosen h_M_orders h_M_sizes cI cZ M_jobs M_many M_isPlanned x1_4 y0_111 M_jobOf M_machineOf M_durations M_arcs M_drafts M_starts_132 M_heads M_tails M_chosen M_orders M_sizes) := hD
                refine lv_aload_n (pc := 177) hx hb dX3_weigh_177 rfl (lv_at hl 0 rfl) ?_
                refine lv_iconst (v := 1) (pc := 178) hx hb dX3_weigh_178 (by decide) ?_
                refine va_put (D := (dC, dI)) (ci := 3) (v := .int 1) (ty := .boolean) (C := RX3) (T := TX3) (N := 16) (pc := 179) hx hb hts hin_X3 tyX3 tyX3_ok nmX3 hown hK hP hD hS 0 rfl rfl 7 (by decide) (hts (.fieldLink RX3 59 "JobShopModel" "isPlanned" "Z") (by decide +kernel)) (fun _ h9 => h9) rfl (by decide +kernel) rfl rfl (Nat.le_of_ble_eq_true rfl) dX3_weigh_179 (fun H locs hP hD hS => ?_)
                have hP : va_P (dC, dI) vwCl (wM h_M h_M_jobOf h_M_machineOf h_M_durations h_M_arcs h_M_drafts h_M_starts h_M_heads h_M_tails h_M_chosen h_M_orders h_M_sizes cI cZ M_jobs M_many 1 x1_4 y0_111 M_jobOf M_machineOf M_durations M_arcs M_drafts M_starts_132 M_heads M_tails M_chosen M_orders M_sizes) H := hP
                have hD : va_D A (wM h_M h_M_jobOf h_M_machineOf h_M_durations h_M_arcs h_M_drafts h_M_starts h_M_heads h_M_tails h_M_chosen h_M_orders h_M_sizes cI cZ M_jobs M_many 1 x1_4 y0_111 M_jobOf M_machineOf M_durations M_arcs M_drafts M_starts_132 M_heads M_tails M_chosen M_orders M_sizes) := hD
                exact W.vret hx hb hr (fun t ht hW => ⟨⟨(1, x1_4, y0_111, M_starts_132), rfl, hw, by rw [ht]; exact hP, va_K.moved hW.alike hK, hD⟩, hS.F ht⟩) hS.2.2 dX3_weigh_182
            · have hw := hw.2 c_2
              refine lv_aload_n (pc := 141) hx hb dX3_weigh_141 rfl (lv_at hl 0 rfl) ?_
              refine va_get (D := (dC, dI)) (ci := 3) (v := .ref h_M_starts) (C := RX3) (T := TX3) (N := 16) (pc := 142) hx hb hts hin_X3 hown hK hP 0 rfl rfl 8 (by decide) (hts (.fieldLink RX3 26 "JobShopModel" "starts" "[I") (by decide +kernel)) (fun _ h9 => h9) rfl dX3_weigh_142 ?_
              refine lv_iload (pc := 145) hx hb dX3_weigh_145 (lv_at hl 3 rfl) ?_
              refine lv_aload_n (pc := 147) hx hb dX3_weigh_147 rfl (lv_at hl 0 rfl) ?_
              refine va_get (D := (dC, dI)) (ci := 3) (v := .ref h_M_heads) (C := RX3) (T := TX3) (N := 16) (pc := 148) hx hb hts hin_X3 hown hK hP 0 rfl rfl 11 (by decide) (hts (.fieldLink RX3 29 "JobShopModel" "heads" "[I") (by decide +kernel)) (fun _ h9 => h9) rfl dX3_weigh_148 ?_
              refine lv_iload (pc := 151) hx hb dX3_weigh_151 (lv_at hl 3 rfl) ?_
              obtain ⟨b_4, hw⟩ := hw
              refine va_iald (pc := 153) hx hb hK hP 7 0 rfl rfl b_4 dX3_weigh_153 ?_
              obtain ⟨b_5, hw⟩ := hw
              refine va_iast (pc := 154) hx hb hK hP hD hS 6 0 rfl rfl b_5 dX3_weigh_154 (fun H locs hP hD hS => ?_)
              have hP : va_P (dC, dI) vwCl (wM h_M h_M_jobOf h_M_machineOf h_M_durations h_M_arcs h_M_drafts h_M_starts h_M_heads h_M_tails h_M_chosen h_M_orders h_M_sizes cI cZ M_jobs M_many M_isPlanned M_least y0_111 M_jobOf M_machineOf M_durations M_arcs M_drafts (upd M_starts_132 x4_132.toNatClampNeg (M_heads x4_132.toNatClampNeg)) M_heads M_tails M_chosen M_orders M_sizes) H := hP
              have hD : va_D A (wM h_M h_M_jobOf h_M_machineOf h_M_durations h_M_arcs h_M_drafts h_M_starts h_M_heads h_M_tails h_M_chosen h_M_orders h_M_sizes cI cZ M_jobs M_many M_isPlanned M_least y0_111 M_jobOf M_machineOf M_durations M_arcs M_drafts (upd M_starts_132 x4_132.toNatClampNeg (M_heads x4_132.toNatClampNeg)) M_heads M_tails M_chosen M_orders M_sizes) := hD
              refine lv_iinc (v := x4_132 + 1) (lv' := [(4, .int (x4_132 + 1)), (0, .ref h_M), (1, .int x1_4), (2, .int y0_63)]) (pc := 155) hx hb dX3_weigh_155 hl (k := 3) rfl rfl (by decide) rfl (fun ls hl => ?_)
              refine lv_goto (tgt := 132) (pc := 158) hx hb dX3_weigh_158 (by decide) ?_
              exact ih_132 ((x4_132 + 1), (upd M_starts_132 x4_132.toNatClampNeg (M_heads x4_132.toNatClampNeg))) _ _ _ hw.1 hw.2 ⟨hP, hD, hS, (lv_sub hl [1, 2, 3, 0] rfl)⟩
          · intro hj_129
            refine lv_if_ne (tgt := 129) (pc := 115) hx hb dX3_weigh_115 (by decide) (fun c_6 => ?_) (fun c_6 => ?_)
            · have hw := hw.1 c_6
              exact hj_129 () _ _ _ hw ⟨hP, hD, hS, (lv_sub hl [0, 1, 2] rfl)⟩
            · have hw := hw.2 c_6
              refine lv_iload_n (pc := 118) hx hb dX3_weigh_118 rfl (lv_at hl 3 rfl) ?_
              refine lv_if_eq (tgt := 161) (pc := 119) hx hb dX3_weigh_119 (by decide) (fun c_7 => ?_) (fun c_7 => ?_)
              · have hw := hw.1 c_7
                refine lv_aload_n (pc := 161) hx hb dX3_weigh_161 rfl (lv_at hl 0 rfl) ?_
                refine lv_iload_n (pc := 162) hx hb dX3_weigh_162 rfl (lv_at hl 2 rfl) ?_
                refine lv_if_eq (tgt := 170) (pc := 163) hx hb dX3_weigh_163 (by decide) (fun c_8 => ?_) (fun c_8 => ?_)
                · have hw := hw.1 c_8
                  refine lv_aload_n (pc := 170) hx hb dX3_weigh_170 rfl (lv_at hl 0 rfl) ?_
                  refine va_get (D := (dC, dI)) (ci := 3) (v := .int M_least) (C := RX3) (T := TX3) (N := 16) (pc := 171) hx hb hts hin_X3 hown hK hP 0 rfl rfl 9 (by decide) (hts (.fieldLink RX3 44 "JobShopModel" "least" "I") (by decide +kernel)) (fun _ h9 => h9) rfl dX3_weigh_171 ?_
                  refine va_put (D := (dC, dI)) (ci := 3) (v := .int M_least) (ty := .int) (C := RX3) (T := TX3) (N := 16) (pc := 174) hx hb hts hin_X3 tyX3 tyX3_ok nmX3 hown hK hP hD hS 0 rfl rfl 9 (by decide) (hts (.fieldLink RX3 44 "JobShopModel" "least" "I") (by decide +kernel)) (fun _ h9 => h9) rfl (by decide +kernel) rfl rfl (Nat.le_of_ble_eq_true rfl) dX3_weigh_174 (fun H locs hP hD hS => ?_)
                  have hP : va_P (dC, dI) vwCl (wM h_M h_M_jobOf h_M_machineOf h_M_durations h_M_arcs h_M_drafts h_M_starts h_M_heads h_M_tails h_M_chosen h_M_orders h_M_sizes cI cZ M_jobs M_many M_isPlanned M_least y0_111 M_jobOf M_machineOf M_durations M_arcs M_drafts M_starts M_heads M_tails M_chosen M_orders M_sizes) H := hP
                  have hD : va_D A (wM h_M h_M_jobOf h_M_machineOf h_M_durations h_M_arcs h_M_drafts h_M_starts h_M_heads h_M_tails h_M_chosen h_M_orders h_M_sizes cI cZ M_jobs M_many M_isPlanned M_least y0_111 M_jobOf M_machineOf M_durations M_arcs M_drafts M_starts M_heads M_tails M_chosen M_orders M_sizes) := hD
                  refine lv_aload_n (pc := 177) hx hb dX3_weigh_177 rfl (lv_at hl 0 rfl) ?_
                  refine lv_iconst (v := 1) (pc := 178) hx hb dX3_weigh_178 (by decide) ?_
                  refine va_put (D := (dC, dI)) (ci := 3) (v := .int 1) (ty := .boolean) (C := RX3) (T := TX3) (N := 16) (pc := 179) hx hb hts hin_X3 tyX3 tyX3_ok nmX3 hown hK hP hD hS 0 rfl rfl 7 (by decide) (hts (.fieldLink RX3 59 "JobShopModel" "isPlanned" "Z") (by decide +kernel)) (fun _ h9 => h9) rfl (by decide +kernel) rfl rfl (Nat.le_of_ble_eq_true rfl) dX3_weigh_179 (fun H locs hP hD hS => ?_)
                  have hP : va_P (dC, dI) vwCl (wM h_M h_M_jobOf h_M_machineOf h_M_durations h_M_arcs h_M_drafts h_M_starts h_M_heads h_M_tails h_M_chosen h_M_orders h_M_sizes cI cZ M_jobs M_many 1 M_least y0_111 M_jobOf M_machineOf M_durations M_arcs M_drafts M_starts M_heads M_tails M_chosen M_orders M_sizes) H := hP
                  have hD : va_D A (wM h_M h_M_jobOf h_M_machineOf h_M_durations h_M_arcs h_M_drafts h_M_starts h_M_heads h_M_tails h_M_chosen h_M_orders h_M_sizes cI cZ M_jobs M_many 1 M_least y0_111 M_jobOf M_machineOf M_durations M_arcs M_drafts M_starts M_heads M_tails M_chosen M_orders M_sizes) := hD
                  exact W.vret hx hb hr (fun t ht hW => ⟨⟨(1, M_least, y0_111, M_starts), rfl, hw, by rw [ht]; exact hP, va_K.moved hW.alike hK, hD⟩, hS.F ht⟩) hS.2.2 dX3_weigh_182
                · have hw := hw.2 c_8
                  refine lv_iload_n (pc := 166) hx hb dX3_weigh_166 rfl (lv_at hl 1 rfl) ?_
                  refine lv_goto (tgt := 174) (pc := 167) hx hb dX3_weigh_167 (by decide) ?_
                  refine va_put (D := (dC, dI)) (ci := 3) (v := .int x1_4) (ty := .int) (C := RX3) (T := TX3) (N := 16) (pc := 174) hx hb hts hin_X3 tyX3 tyX3_ok nmX3 hown hK hP hD hS 0 rfl rfl 9 (by decide) (hts (.fieldLink RX3 44 "JobShopModel" "least" "I") (by decide +kernel)) (fun _ h9 => h9) rfl (by decide +kernel) rfl rfl (Nat.le_of_ble_eq_true rfl) dX3_weigh_174 (fun H locs hP hD hS => ?_)
                  have hP : va_P (dC, dI) vwCl (wM h_M h_M_jobOf h_M_machineOf h_M_durations h_M_arcs h_M_drafts h_M_starts h_M_heads h_M_tails h_M_chosen h_M_orders h_M_sizes cI cZ M_jobs M_many M_isPlanned x1_4 y0_111 M_jobOf M_machineOf M_durations M_arcs M_drafts M_starts M_heads M_tails M_chosen M_orders M_sizes) H := hP
                  have hD : va_D A (wM h_M h_M_jobOf h_M_machineOf h_M_durations h_M_arcs h_M_drafts h_M_starts h_M_heads h_M_tails h_M_chosen h_M_orders h_M_sizes cI cZ M_jobs M_many M_isPlanned x1_4 y0_111 M_jobOf M_machineOf M_durations M_arcs M_drafts M_starts M_heads M_tails M_chosen M_orders M_sizes) := hD
                  refine lv_aload_n (pc := 177) hx hb dX3_weigh_177 rfl (lv_at hl 0 rfl) ?_
                  refine lv_iconst (v := 1) (pc := 178) hx hb dX3_weigh_178 (by decide) ?_
                  refine va_put (D := (dC, dI)) (ci := 3) (v := .int 1) (ty := .boolean) (C := RX3) (T := TX3) (N := 16) (pc := 179) hx hb hts hin_X3 tyX3 tyX3_ok nmX3 hown hK hP hD hS 0 rfl rfl 7 (by decide) (hts (.fieldLink RX3 59 "JobShopModel" "isPlanned" "Z") (by decide +kernel)) (fun _ h9 => h9) rfl (by decide +kernel) rfl rfl (Nat.le_of_ble_eq_true rfl) dX3_weigh_179 (fun H locs hP hD hS => ?_)
                  have hP : va_P (dC, dI) vwCl (wM h_M h_M_jobOf h_M_machineOf h_M_durations h_M_arcs h_M_drafts h_M_starts h_M_heads h_M_tails h_M_chosen h_M_orders h_M_sizes cI cZ M_jobs M_many 1 x1_4 y0_111 M_jobOf M_machineOf M_durations M_arcs M_drafts M_starts M_heads M_tails M_chosen M_orders M_sizes) H := hP
                  have hD : va_D A (wM h_M h_M_jobOf h_M_machineOf h_M_durations h_M_arcs h_M_drafts h_M_starts h_M_heads h_M_tails h_M_chosen h_M_orders h_M_sizes cI cZ M_jobs M_many 1 x1_4 y0_111 M_jobOf M_machineOf M_durations M_arcs M_drafts M_starts M_heads M_tails M_chosen M_orders M_sizes) := hD
                  exact W.vret hx hb hr (fun t ht hW => ⟨⟨(1, x1_4, y0_111, M_starts), rfl, hw, by rw [ht]; exact hP, va_K.moved hW.alike hK, hD⟩, hS.F ht⟩) hS.2.2 dX3_weigh_182
              · have hw := hw.2 c_7
                refine lv_aload_n (pc := 122) hx hb dX3_weigh_122 rfl (lv_at hl 0 rfl) ?_
                have hPx : va_P (dC, dI) vwCl ([] ++ (wM h_M h_M_jobOf h_M_machineOf h_M_durations h_M_arcs h_M_drafts h_M_starts h_M_heads h_M_tails h_M_chosen h_M_orders h_M_sizes cI cZ M_jobs M_many M_isPlanned M_least y0_111 M_jobOf M_machineOf M_durations M_arcs M_drafts M_starts M_heads M_tails M_chosen M_orders M_sizes)) H := hP
                have hDx : va_D A ([] ++ (wM h_M h_M_jobOf h_M_machineOf h_M_durations h_M_arcs h_M_drafts h_M_starts h_M_heads h_M_tails h_M_chosen h_M_orders h_M_sizes cI cZ M_jobs M_many M_isPlanned M_least y0_111 M_jobOf M_machineOf M_durations M_arcs M_drafts M_starts M_heads M_tails M_chosen M_orders M_sizes)) := hD
                refine kc_i (pc := 123) (w1 := (fun u : Unit => (wM h_M h_M_jobOf h_M_machineOf h_M_durations h_M_arcs h_M_drafts h_M_starts h_M_heads h_M_tails h_M_chosen h_M_orders h_M_sizes cI cZ M_jobs M_many M_isPlanned M_least y0_111 M_jobOf M_machineOf M_durations M_arcs M_drafts M_starts M_heads M_tails M_chosen M_orders M_sizes))) (va_runV (As := []) (rest := []) ⟨hx, hb, hml, hown, hts⟩ (c_X3_isEarlier l dC dI h_M h_M_jobOf h_M_machineOf h_M_durations h_M_arcs h_M_drafts h_M_starts h_M_heads h_M_tails h_M_chosen h_M_orders h_M_sizes H.size cI cZ M_jobs M_many M_isPlanned M_least y0_111 M_jobOf M_machineOf M_durations M_arcs M_drafts M_starts M_heads M_tails M_chosen M_orders M_sizes _ hw) (cwV 0 hts gX3_weigh_X3_isEarlier rfl rfl rfl (by decide +kernel) ⟨Nat.le_of_ble_eq_true rfl, Nat.le_of_ble_eq_true rfl⟩) (kc_preVM (q0 := 0) (ci := 3) hK hPx hDx [0, 1] rfl rfl rfl) rfl rfl hl.1 rfl (lv_room (Nat.le_of_ble_eq_true rfl)) dX3_weigh_123 ⟨Nat.zero_le _, Nat.zero_le _⟩) hPx hDx hS hA (fun r_123 u H locs hw hP hD hS => ?_)
                have hP : va_P (dC, dI) vwCl (wM h_M h_M_jobOf h_M_machineOf h_M_durations h_M_arcs h_M_drafts h_M_starts h_M_heads h_M_tails h_M_chosen h_M_orders h_M_sizes cI cZ M_jobs M_many M_isPlanned M_least y0_111 M_jobOf M_machineOf M_durations M_arcs M_drafts M_starts M_heads M_tails M_chosen M_orders M_sizes) H := hP
                have hD : va_D A (wM h_M h_M_jobOf h_M_machineOf h_M_durations h_M_arcs h_M_drafts h_M_starts h_M_heads h_M_tails h_M_chosen h_M_orders h_M_sizes cI cZ M_jobs M_many M_isPlanned M_least y0_111 M_jobOf M_machineOf M_durations M_arcs M_drafts M_starts M_heads M_tails M_chosen M_orders M_sizes) := hD
                refine lv_if_eq (tgt := 161) (pc := 126) hx hb dX3_weigh_126 (by decide) (fun c_9 => ?_) (fun c_9 => ?_)
                · have hw := hw.1 c_9
                  refine lv_aload_n (pc := 161) hx hb dX3_weigh_161 rfl (lv_at hl 0 rfl) ?_
                  refine lv_iload_n (pc := 162) hx hb dX3_weigh_162 rfl (lv_at hl 2 rfl) ?_
                  refine lv_if_eq (tgt := 170) (pc := 163) hx hb dX3_weigh_163 (by decide) (fun c_10 => ?_) (fun c_10 => ?_)
                  · have hw := hw.1 c_10
                    refine lv_aload_n (pc := 170) hx hb dX3_weigh_170 rfl (lv_at hl 0 rfl) ?_
                    refine va_get (D := (dC, dI)) (ci := 3) (v := .int M_least) (C := RX3) (T := TX3) (N := 16) (pc := 171) hx hb hts hin_X3 hown hK hP 0 rfl rfl 9 (by decide) (hts (.fieldLink RX3 44 "JobShopModel" "least" "I") (by decide +kernel)) (fun _ h9 => h9) rfl dX3_weigh_171 ?_
                    refine va_put (D := (dC, dI)) (ci := 3) (v := .int M_least) (ty := .int) (C := RX3) (T := TX3) (N := 16) (pc := 174) hx hb hts hin_X3 tyX3 tyX3_ok nmX3 hown hK hP hD hS 0 rfl rfl 9 (by decide) (hts (.fieldLink RX3 44 "JobShopModel" "least" "I") (by decide +kernel)) (fun _ h9 => h9) rfl (by decide +kernel) rfl rfl (Nat.le_of_ble_eq_true rfl) dX3_weigh_174 (fun H locs hP hD hS => ?_)
                    have hP : va_P (dC, dI) vwCl (wM h_M h_M_jobOf h_M_machineOf h_M_durations h_M_arcs h_M_drafts h_M_starts h_M_heads h_M_tails h_M_chosen h_M_orders h_M_sizes cI cZ M_jobs M_many M_isPlanned M_least y0_111 M_jobOf M_machineOf M_durations M_arcs M_drafts M_starts M_heads M_tails M_chosen M_orders M_sizes) H := hP
                    have hD : va_D A (wM h_M h_M_jobOf h_M_machineOf h_M_durations h_M_arcs h_M_drafts h_M_starts h_M_heads h_M_tails h_M_chosen h_M_orders h_M_sizes cI cZ M_jobs M_many M_isPlanned M_least y0_111 M_jobOf M_machineOf M_durations M_arcs M_drafts M_starts M_heads M_tails M_chosen M_orders M_sizes) := hD
                    refine lv_aload_n (pc := 177) hx hb dX3_weigh_177 rfl (lv_at hl 0 rfl) ?_
                    refine lv_iconst (v := 1) (pc := 178) hx hb dX3_weigh_178 (by decide) ?_
                    refine va_put (D := (dC, dI)) (ci := 3) (v := .int 1) (ty := .boolean) (C := RX3) (T := TX3) (N := 16) (pc := 179) hx hb hts hin_X3 tyX3 tyX3_ok nmX3 hown hK hP hD hS 0 rfl rfl 7 (by decide) (hts (.fieldLink RX3 59 "JobShopModel" "isPlanned" "Z") (by decide +kernel)) (fun _ h9 => h9) rfl (by decide +kernel) rfl rfl (Nat.le_of_ble_eq_true rfl) dX3_weigh_179 (fun H locs hP hD hS => ?_)
                    have hP : va_P (dC, dI) vwCl (wM h_M h_M_jobOf h_M_machineOf h_M_durations h_M_arcs h_M_drafts h_M_starts h_M_heads h_M_tails h_M_chosen h_M_orders h_M_sizes cI cZ M_jobs M_many 1 M_least y0_111 M_jobOf M_machineOf M_durations M_arcs M_drafts M_starts M_heads M_tails M_chosen M_orders M_sizes) H := hP
                    have hD : va_D A (wM h_M h_M_jobOf h_M_machineOf h_M_durations h_M_arcs h_M_drafts h_M_starts h_M_heads h_M_tails h_M_chosen h_M_orders h_M_sizes cI cZ M_jobs M_many 1 M_least y0_111 M_jobOf M_machineOf M_durations M_arcs M_drafts M_starts M_heads M_tails M_chosen M_orders M_sizes) := hD
                    exact W.vret hx hb hr (fun t ht hW => ⟨⟨(1, M_least, y0_111, M_starts), rfl, hw, by rw [ht]; exact hP, va_K.moved hW.alike hK, hD⟩, hS.F ht⟩) hS.2.2 dX3_weigh_182
                  · have hw := hw.2 c_10
                    refine lv_iload_n (pc := 166) hx hb dX3_weigh_166 rfl (lv_at hl 1 rfl) ?_
                    refine lv_goto (tgt := 174) (pc := 167) hx hb dX3_weigh_167 (by decide) ?_
                    refine va_put (D := (dC, dI)) (ci := 3) (v := .int x1_4) (ty := .int) (C := RX3) (T := TX3) (N := 16) (pc := 174) hx hb hts hin_X3 tyX3 tyX3_ok nmX3 hown hK hP hD hS 0 rfl rfl 9 (by decide) (hts (.fieldLink RX3 44 "JobShopModel" "least" "I") (by decide +kernel)) (fun _ h9 => h9) rfl (by decide +kernel) rfl rfl (Nat.le_of_ble_eq_true rfl) dX3_weigh_174 (fun H locs hP hD hS => ?_)
                    have hP : va_P (dC, dI) vwCl (wM h_M h_M_jobOf h_M_machineOf h_M_durations h_M_arcs h_M_drafts h_M_starts h_M_heads h_M_tails h_M_chosen h_M_orders h_M_sizes cI cZ M_jobs M_many M_isPlanned x1_4 y0_111 M_jobOf M_machineOf M_durations M_arcs M_drafts M_starts M_heads M_tails M_chosen M_orders M_sizes) H := hP
                    have hD : va_D A (wM h_M h_M_jobOf h_M_machineOf h_M_durations h_M_arcs h_M_drafts h_M_starts h_M_heads h_M_tails h_M_chosen h_M_orders h_M_sizes cI cZ M_jobs M_many M_isPlanned x1_4 y0_111 M_jobOf M_machineOf M_durations M_arcs M_drafts M_starts M_heads M_tails M_chosen M_orders M_sizes) := hD
                    refine lv_aload_n (pc := 177) hx hb dX3_weigh_177 rfl (lv_at hl 0 rfl) ?_
                    refine lv_iconst (v := 1) (pc := 178) hx hb dX3_weigh_178 (by decide) ?_
                    refine va_put (D := (dC, dI)) (ci := 3) (v := .int 1) (ty := .boolean) (C := RX3) (T := TX3) (N := 16) (pc := 179) hx hb hts hin_X3 tyX3 tyX3_ok nmX3 hown hK hP hD hS 0 rfl rfl 7 (by decide) (hts (.fieldLink RX3 59 "JobShopModel" "isPlanned" "Z") (by decide +kernel)) (fun _ h9 => h9) rfl (by decide +kernel) rfl rfl (Nat.le_of_ble_eq_true rfl) dX3_weigh_179 (fun H locs hP hD hS => ?_)
                    have hP : va_P (dC, dI) vwCl (wM h_M h_M_jobOf h_M_machineOf h_M_durations h_M_arcs h_M_drafts h_M_starts h_M_heads h_M_tails h_M_chosen h_M_orders h_M_sizes cI cZ M_jobs M_many 1 x1_4 y0_111 M_jobOf M_machineOf M_durations M_arcs M_drafts M_starts M_heads M_tails M_chosen M_orders M_sizes) H := hP
                    have hD : va_D A (wM h_M h_M_jobOf h_M_machineOf h_M_durations h_M_arcs h_M_drafts h_M_starts h_M_heads h_M_tails h_M_chosen h_M_orders h_M_sizes cI cZ M_jobs M_many 1 x1_4 y0_111 M_jobOf M_machineOf M_durations M_arcs M_drafts M_starts M_heads M_tails M_chosen M_orders M_sizes) := hD
                    exact W.vret hx hb hr (fun t ht hW => ⟨⟨(1, x1_4, y0_111, M_starts), rfl, hw, by rw [ht]; exact hP, va_K.moved hW.alike hK, hD⟩, hS.F ht⟩) hS.2.2 dX3_weigh_182
                · have hw := hw.2 c_9
                  exact hj_129 () _ _ _ hw ⟨hP, hD, hS, (lv_sub hl [0, 1, 2] rfl)⟩
        · intro hj_111
          refine lv_if_eq (tgt := 94) (pc := 87) hx hb dX3_weigh_87 (by decide) (fun c_11 => ?_) (fun c_11 => ?_)
          · have hw := hw.1 c_11
            refine lv_iload_n (pc := 94) hx hb dX3_weigh_94 rfl (lv_at hl 0 rfl) ?_
            refine lv_if_eq (tgt := 107) (pc := 95) hx hb dX3_weigh_95 (by decide) (fun c_12 => ?_) (fun c_12 => ?_)
            · have hw := hw.1 c_12
              refine lv_aload_n (pc := 107) hx hb dX3_weigh_107 rfl (lv_at hl 1 rfl) ?_
              refine va_get (D := (dC, dI)) (ci := 3) (v := .int M_optima) (C := RX3) (T := TX3) (N := 16) (pc := 108) hx hb hts hin_X3 hown hK hP 0 rfl rfl 10 (by decide) (hts (.fieldLink RX3 106 "JobShopModel" "optima" "I") (by decide +kernel)) (fun _ h9 => h9) rfl dX3_weigh_108 ?_
              exact hj_111 M_optima _ _ _ hw ⟨hP, hD, hS, (lv_sub hl [1, 2, 3, 0] rfl)⟩
            · have hw := hw.2 c_12
              refine lv_aload_n (pc := 98) hx hb dX3_weigh_98 rfl (lv_at hl 1 rfl) ?_
              refine va_get (D := (dC, dI)) (ci := 3) (v := .int M_optima) (C := RX3) (T := TX3) (N := 16) (pc := 99) hx hb hts hin_X3 hown hK hP 0 rfl rfl 10 (by decide) (hts (.fieldLink RX3 106 "JobShopModel" "optima" "I") (by decide +kernel)) (fun _ h9 => h9) rfl dX3_weigh_99 ?_
              refine lv_iconst (v := 1) (pc := 102) hx hb dX3_weigh_102 (by decide) ?_
              refine lv_iadd (pc := 103) hx hb dX3_weigh_103 ?_
              refine lv_goto (tgt := 111) (pc := 104) hx hb dX3_weigh_104 (by decide) ?_
              exact hj_111 (M_optima + 1) _ _ _ hw ⟨hP, hD, hS, (lv_sub hl [1, 2, 3, 0] rfl)⟩
          · have hw := hw.2 c_11
            refine lv_iconst (v := 1) (pc := 90) hx hb dX3_weigh_90 (by decide) ?_
            refine lv_goto (tgt := 111) (pc := 91) hx hb dX3_weigh_91 (by decide) ?_
            exact hj_111 1 _ _ _ hw ⟨hP, hD, hS, (lv_sub hl [1, 2, 3, 0] rfl)⟩
      · intro hj_84
        refine lv_if_eq (tgt := 83) (pc := 68) hx hb dX3_weigh_68 (by decide) (fun c_13 => ?_) (fun c_13 => ?_)
        · have hw := hw.1 c_13
          refine lv_iconst (v := 0) (pc := 83) hx hb dX3_weigh_83 (by decide) ?_
          exact hj_84 0 _ _ _ hw ⟨hP, hD, hS, (lv_sub hl [1, 2, 0] rfl)⟩
        · have hw := hw.2 c_13
          refine lv_iload_n (pc := 71) hx hb dX3_weigh_71 rfl (lv_at hl 2 rfl) ?_
          refine lv_aload_n (pc := 72) hx hb dX3_weigh_72 rfl (lv_at hl 1 rfl) ?_
          refine va_get (D := (dC, dI)) (ci := 3) (v := .int M_least) (C := RX3) (T := TX3) (N := 16) (pc := 73) hx hb hts hin_X3 hown hK hP 0 rfl rfl 9 (by decide) (hts (.fieldLink RX3 44 "JobShopModel" "least" "I") (by decide +kernel)) (fun _ h9 => h9) rfl dX3_weigh_73 ?_
          refine lv_icmp_ne (tgt := 83) (pc := 76) hx hb dX3_weigh_76 (by decide) (fun c_14 => ?_) (fun c_14 => ?_)
          · have hw := hw.1 c_14
            refine lv_iconst (v := 0) (pc := 83) hx hb dX3_weigh_83 (by decide) ?_
            exact hj_84 0 _ _ _ hw ⟨hP, hD, hS, (lv_sub hl [1, 2, 0] rfl)⟩
          · have hw := hw.2 c_14
            refine lv_iconst (v := 1) (pc := 79) hx hb dX3_weigh_79 (by decide) ?_
            refine lv_goto (tgt := 84) (pc := 80) hx hb dX3_weigh_80 (by decide) ?_
            exact hj_84 1 _ _ _ hw ⟨hP, hD, hS, (lv_sub hl [1, 2, 0] rfl)⟩
    · intro hj_63
      refine lv_if_eq (tgt := 58) (pc := 47) hx hb dX3_weigh_47 (by decide) (fun c_15 => ?_) (fun c_15 => ?_)
      · have hw := hw.1 c_15
        refine lv_iconst (v := 1) (pc := 58) hx hb dX3_weigh_58 (by decide) ?_
        refine lv_goto (tgt := 63) (pc := 59) hx hb dX3_weigh_59 (by decide) ?_
        exact hj_63 1 _ _ _ hw ⟨hP, hD, hS, (lv_sub hl [0, 1] rfl)⟩
      · have hw := hw.2 c_15
        refine lv_iload_n (pc := 50) hx hb dX3_weigh_50 rfl (lv_at hl 1 rfl) ?_
        refine lv_aload_n (pc := 51) hx hb dX3_weigh_51 rfl (lv_at hl 0 rfl) ?_
        refine va_get (D := (dC, dI)) (ci := 3) (v := .int M_least) (C := RX3) (T := TX3) (N := 16) (pc := 52) hx hb hts hin_X3 hown hK hP 0 rfl rfl 9 (by decide) (hts (.fieldLink RX3 44 "JobShopModel" "least" "I") (by decide +kernel)) (fun _ h9 => h9) rfl dX3_weigh_52 ?_
        refine lv_icmp_ge (tgt := 62) (pc := 55) hx hb dX3_weigh_55 (by decide) (fun c_16 => ?_) (fun c_16 => ?_)
        · have hw := hw.1 c_16
          refine lv_iconst (v := 0) (pc := 62) hx hb dX3_weigh_62 (by decide) ?_
          exact hj_63 0 _ _ _ hw ⟨hP, hD, hS, (lv_sub hl [0, 1] rfl)⟩
        · have hw := hw.2 c_16
          refine lv_iconst (v := 1) (pc := 58) hx hb dX3_weigh_58 (by decide) ?_
          refine lv_goto (tgt := 63) (pc := 59) hx hb dX3_weigh_59 (by decide) ?_
          exact hj_63 1 _ _ _ hw ⟨hP, hD, hS, (lv_sub hl [0, 1] rfl)⟩
  · have hw := hw.2 c_1
    refine lv_aload_n (pc := 12) hx hb dX3_weigh_12 rfl (lv_at hl 0 rfl) ?_
    refine va_get (D := (dC, dI)) (ci := 3) (v := .ref h_M_heads) (C := RX3) (T := TX3) (N := 16) (pc := 13) hx hb hts hin_X3 hown hK hP 0 rfl rfl 11 (by decide) (hts (.fieldLink RX3 29 "JobShopModel" "heads" "[I") (by decide +kernel)) (fun _ h9 => h9) rfl dX3_weigh_13 ?_
    refine lv_iload_n (pc := 16) hx hb dX3_weigh_16 rfl (lv_at hl 2 rfl) ?_
    obtain ⟨b_17, hw⟩ := hw
    refine va_iald (pc := 17) hx hb hK hP 7 0 rfl rfl b_17 dX3_weigh_17 ?_
    refine lv_aload_n (pc := 18) hx hb dX3_weigh_18 rfl (lv_at hl 0 rfl) ?_
    refine va_get (D := (dC, dI)) (ci := 3) (v := .ref h_M_durations) (C := RX3) (T := TX3) (N := 16) (pc := 19) hx hb hts hin_X3 hown hK hP 0 rfl rfl 4 (by decide) (hts (.fieldLink RX3 16 "JobShopModel" "durations" "[I") (by decide +kernel)) (fun _ h9 => h9) rfl dX3_weigh_19 ?_
    refine lv_iload_n (pc := 22) hx hb dX3_weigh_22 rfl (lv_at hl 2 rfl) ?_
    obtain ⟨b_18, hw⟩ := hw
    refine va_iald (pc := 23) hx hb hK hP 3 0 rfl rfl b_18 dX3_weigh_23 ?_
    refine lv_iadd (pc := 24) hx hb dX3_weigh_24 ?_
    refine lv_istore_n (lv' := [(3, .int ((M_heads x2_4.toNatClampNeg) + (M_durations x2_4.toNatClampNeg))), (0, .ref h_M), (1, .int x1_4), (2, .int x2_4)]) (pc := 25) hx hb dX3_weigh_25 rfl hl (by decide) rfl (fun ls hl => ?_)
    refine lv_iload_n (pc := 26) hx hb dX3_weigh_26 rfl (lv_at hl 0 rfl) ?_
    refine lv_iload_n (pc := 27) hx hb dX3_weigh_27 rfl (lv_at hl 2 rfl) ?_
    refine lv_icmp_le (tgt := 35) (pc := 28) hx hb dX3_weigh_28 (by decide) (fun c_19 => ?_) (fun c_19 => ?_)
    · have hw := hw.1 c_19
      refine lv_iload_n (pc := 35) hx hb dX3_weigh_35 rfl (lv_at hl 2 rfl) ?_
      refine lv_istore_n (lv' := [(1, .int x1_4), (3, .int ((M_heads x2_4.toNatClampNeg) + (M_durations x2_4.toNatClampNeg))), (0, .ref h_M), (2, .int x2_4)]) (pc := 36) hx hb dX3_weigh_36 rfl hl (by decide) rfl (fun ls hl => ?_)
      refine lv_iinc (v := x2_4 + 1) (lv' := [(2, .int (x2_4 + 1)), (1, .int x1_4), (3, .int ((M_heads x2_4.toNatClampNeg) + (M_durations x2_4.toNatClampNeg))), (0, .ref h_M)]) (pc := 37) hx hb dX3_weigh_37 hl (k := 3) rfl rfl (by decide) rfl (fun ls hl => ?_)
      refine lv_goto (tgt := 4) (pc := 40) hx hb dX3_weigh_40 (by decide) ?_
      exact ih_4 (x1_4, (x2_4 + 1)) _ _ _ hw.1 hw.2 ⟨hP, hD, hS, (lv_sub hl [3, 1, 0] rfl)⟩
    · have hw := hw.2 c_19
      refine lv_iload_n (pc := 31) hx hb dX3_weigh_31 rfl (lv_at hl 0 rfl) ?_
      refine lv_goto (tgt := 36) (pc := 32) hx hb dX3_weigh_32 (by decide) ?_
      refine lv_istore_n (lv' := [(1, .int ((M_heads x2_4.toNatClampNeg) + (M_durations x2_4.toNatClampNeg))), (3, .int ((M_heads x2_4.toNatClampNeg) + (M_durations x2_4.toNatClampNeg))), (0, .ref h_M), (2, .int x2_4)]) (pc := 36) hx hb dX3_weigh_36 rfl hl (by decide) rfl (fun ls hl => ?_)
      refine lv_iinc (v := x2_4 + 1) (lv' := [(2, .int (x2_4 + 1)), (1, .int ((M_heads x2_4.toNatClampNeg) + (M_durations x2_4.toNatClampNeg))), (3, .int ((M_heads x2_4.toNatClampNeg) + (M_durations x2_4.toNatClampNeg))), (0, .ref h_M)]) (pc := 37) hx hb dX3_weigh_37 hl (k := 3) rfl rfl (by decide) rfl (fun ls hl => ?_)
      refine lv_goto (tgt := 4) (pc := 40) hx hb dX3_weigh_40 (by decide) ?_
      exact ih_4 (((M_heads x2_4.toNatClampNeg) + (M_durations x2_4.toNatClampNeg)), (x2_4 + 1)) _ _ _ hw.1 hw.2 ⟨hP, hD, hS, (lv_sub hl [3, 1, 0] rfl)⟩
set_option maxHeartbeats 4000000 in
set_option maxRecDepth 100000 in
theorem c_X3_solve (l : Launch) (dC : Nat → ClassId) (dI : Nat → Nat → Nat) (h_M h_M_jobOf h_M_machineOf h_M_durations h_M_arcs h_M_drafts h_M_starts h_M_heads h_M_tails h_M_chosen h_M_orders h_M_sizes : Nat) (sz : Nat) (cI cZ : ClassId) (M_jobs : Int32) (M_many : Int32) (M_isPlanned : Int32) (M_least : Int32) (M_optima : Int32) (M_jobOf : Nat → Int32) (M_machineOf : Nat → Int32) (M_durations : Nat → Int32) (M_arcs : Nat → Int32) (M_drafts : Nat → Int32) (M_starts : Nat → Int32) (M_heads : Nat → Int32) (M_tails : Nat → Int32) (M_chosen : Nat → Int32) (M_orders : Nat → Int32) (M_sizes : Nat → Int32) (post : Int32 → Int32 → Int32 → Int32 → (Nat → Int32) → (Nat → Int32) → (Nat → Int32) → (Nat → Int32) → (Nat → Int32) → Prop) (hw : wp_X3_solve M_many M_isPlanned M_least M_optima M_jobOf M_machineOf M_durations M_arcs M_starts M_heads M_chosen M_orders M_sizes post) : Met l yX3_solve wsX3_solve ({ frames := 3, cells := 0, slots := 0, locals := 71 }) (va_Pc [.ref h_M] (fun U => U.heap.size = sz ∧ va_P (dC, dI) vwCl (wM h_M h_M_jobOf h_M_machineOf h_M_durations h_M_arcs h_M_drafts h_M_starts h_M_heads h_M_tails h_M_chosen h_M_orders h_M_sizes cI cZ M_jobs M_many M_isPlanned M_least M_optima M_jobOf M_machineOf M_durations M_arcs M_drafts M_starts M_heads M_tails M_chosen M_orders M_sizes) U.heap ∧ va_K (dC, dI) vwCl [(cI, .int), (cZ, .boolean)] U ∧ va_D (fun _ => True) (wM h_M h_M_jobOf h_M_machineOf h_M_durations h_M_arcs h_M_drafts h_M_starts h_M_heads h_M_tails h_M_chosen h_M_orders h_M_sizes cI cZ M_jobs M_many M_isPlanned M_least M_optima M_jobOf M_machineOf M_durations M_arcs M_drafts M_starts M_heads M_tails M_chosen M_orders M_sizes))) (va_Qi (fun (r : Int32) (u : Int32 × Int32 × Int32 × (Nat → Int32) × (Nat → Int32) × (Nat → Int32) × (Nat → Int32) × (Nat → Int32)) => post r u.1 u.2.1 u.2.2.1 u.2.2.2.1 u.2.2.2.2.1 u.2.2.2.2.2.1 u.2.2.2.2.2.2.1 u.2.2.2.2.2.2.2) (fun u t => va_P (dC, dI) vwCl (wM h_M h_M_jobOf h_M_machineOf h_M_durations h_M_arcs h_M_drafts h_M_starts h_M_heads h_M_tails h_M_chosen h_M_orders h_M_sizes cI cZ M_jobs M_many u.1 u.2.1 u.2.2.1 M_jobOf M_machineOf M_durations M_arcs M_drafts u.2.2.2.1 u.2.2.2.2.1 M_tails u.2.2.2.2.2.1 u.2.2.2.2.2.2.1 u.2.2.2.2.2.2.2) t.heap ∧ va_K (dC, dI) vwCl [(cI, .int), (cZ, .boolean)] t ∧ va_D (va_A (wM h_M h_M_jobOf h_M_machineOf h_M_durations h_M_arcs h_M_drafts h_M_starts h_M_heads h_M_tails h_M_chosen h_M_orders h_M_sizes cI cZ M_jobs M_many M_isPlanned M_least M_optima M_jobOf M_machineOf M_durations M_arcs M_drafts M_starts M_heads M_tails M_chosen M_orders M_sizes) sz) (wM h_M h_M_jobOf h_M_machineOf h_M_durations h_M_arcs h_M_drafts h_M_starts h_M_heads h_M_tails h_M_chosen h_M_orders h_M_sizes cI cZ M_jobs M_many u.1 u.2.1 u.2.2.1 M_jobOf M_machineOf M_durations M_arcs M_drafts u.2.2.2.1 u.2.2.2.2.1 M_tails u.2.2.2.2.2.1 u.2.2.2.2.2.2.1 u.2.2.2.2.2.2.2)) (va_A (wM h_M h_M_jobOf h_M_machineOf h_M_durations h_M_arcs h_M_drafts h_M_starts h_M_heads h_M_tails h_M_chosen h_M_orders h_M_sizes cI cZ M_jobs M_many M_isPlanned M_least M_optima M_jobOf M_machineOf M_durations M_arcs M_drafts M_starts M_heads M_tails M_chosen M_orders M_sizes) sz)) 0 0 (va_A (wM h_M h_M_jobOf h_M_machineOf h_M_durations h_M_arcs h_M_drafts h_M_starts h_M_heads h_M_tails h_M_chosen h_M_orders h_M_sizes cI cZ M_jobs M_many M_isPlanned M_least M_optima M_jobOf M_machineOf M_durations M_arcs M_drafts M_starts M_heads M_tails M_chosen M_orders M_sizes) sz) := by
  refine Met.ofW (cc := cX3_solve) (maxL := 3) (ret := (some .int)) (by decide) rfl ?_
  intro p e s m args below meth c s₁ B hml hv
  obtain ⟨rfl, hsz, hP, hK, hD0⟩ := hv
  have hx := B.exec
  have hb := B.bytes
  have hr := B.returns
  have hts := atoms_spec (ws := wsX3_solve) B.pre
  have hown : s.vm.findClass RX3 = some m.cls := findClass_of_methodNamed B.named
  have hlocks := B.notSynchronized
  subst hsz
  have hD := hD0.self (sz := s.heap.size)
  generalize hAe : va_A (wM h_M h_M_jobOf h_M_machineOf h_M_durations h_M_arcs h_M_drafts h_M_starts h_M_heads h_M_tails h_M_chosen h_M_orders h_M_sizes cI cZ M_jobs M_many M_isPlanned M_least M_optima M_jobOf M_machineOf M_durations M_arcs M_drafts M_starts M_heads M_tails M_chosen M_orders M_sizes) s.heap.size = A at hD ⊢
  have hA : ∀ q : Nat, s.heap.size ≤ q → A q := fun q h => by rw [← hAe]; exact Or.inr h
  have hS : va_S A s.heap s.heap [] := va_S.rf
  have hP : va_P (dC, dI) vwCl (wM h_M h_M_jobOf h_M_machineOf h_M_durations h_M_arcs h_M_drafts h_M_starts h_M_heads h_M_tails h_M_chosen h_M_orders h_M_sizes cI cZ M_jobs M_many M_isPlanned M_least M_optima M_jobOf M_machineOf M_durations M_arcs M_drafts M_starts M_heads M_tails M_chosen M_orders M_sizes) s.heap := hP
  have hl := lv_entry ([.ref h_M]) (n := 3) (Nat.le_of_ble_eq_true rfl)
  rw [lg_entry_eq]
  generalize (lg_sl ([.ref h_M]) ++ List.replicate (3 - (lg_sl ([.ref h_M])).length) Slot.unset).toArray = ls at hl ⊢
  have hl : lv_has ls 3 [(0, .ref h_M)] := hl
  obtain ⟨H, hH⟩ : ∃ H, H = s.heap := ⟨_, rfl⟩
  rw [← hH] at hP
  have hS : va_S A s.heap H [] := by rw [hH]; exact hS
  refine W_heap hH ?_
  unfold wp_X3_solve at hw
  have hin_X3 : ∀ w ∈ u_ws RX3 TX3 16, w ∈ wsX3_solve := by decide +kernel
  refine lv_aload_n (pc := 0) hx hb dX3_solve_0 rfl (lv_at hl 0 rfl) ?_
  refine lv_iconst (v := 0) (pc := 1) hx hb dX3_solve_1 (by decide) ?_
  refine va_put (D := (dC, dI)) (ci := 3) (v := .int 0) (ty := .boolean) (C := RX3) (T := TX3) (N := 16) (pc := 2) hx hb hts hin_X3 tyX3 tyX3_ok nmX3 hown hK hP hD hS 0 rfl rfl 7 (by decide) (hts (.fieldLink RX3 59 "JobShopModel" "isPlanned" "Z") (by decide +kernel)) (fun _ h9 => h9) rfl (by decide +kernel) rfl rfl (Nat.le_of_ble_eq_true rfl) dX3_solve_2 (fun H locs hP hD hS => ?_)
  have hP : va_P (dC, dI) vwCl (wM h_M h_M_jobOf h_M_machineOf h_M_durations h_M_arcs h_M_drafts h_M_starts h_M_heads h_M_tails h_M_chosen h_M_orders h_M_sizes cI cZ M_jobs M_many 0 M_least M_optima M_jobOf M_machineOf M_durations M_arcs M_drafts M_starts M_heads M_tails M_chosen M_orders M_sizes) H := hP
  have hD : va_D A (wM h_M h_M_jobOf h_M_machineOf h_M_durations h_M_arcs h_M_drafts h_M_starts h_M_heads h_M_tails h_M_chosen h_M_orders h_M_sizes cI cZ M_jobs M_many 0 M_least M_optima M_jobOf M_machineOf M_durations M_arcs M_drafts M_starts M_heads M_tails M_chosen M_orders M_sizes) := hD
  refine lv_iconst (v := 0) (pc := 5) hx hb dX3_solve_5 (by decide) ?_
  refine lv_istore_n (lv' := [(1, .int 0), (0, .ref h_M)]) (pc := 6) hx hb dX3_solve_6 rfl hl (by decide) rfl (fun ls hl => ?_)
  obtain ⟨I_7, μ_7, hI_7, hs_7⟩ := hw
  refine lp_W (I := fun z : Int32 × (Nat → Int32) × (Nat → Int32) => I_7 z.1 z.2.1 z.2.2) (fun z => μ_7 z.1 z.2.1 z.2.2) (fun (z : Int32 × (Nat → Int32) × (Nat → Int32)) H locs ls => va_P (dC, dI) vwCl (wM h_M h_M_jobOf h_M_machineOf h_M_durations h_M_arcs h_M_drafts h_M_starts h_M_heads h_M_tails h_M_chosen h_M_orders h_M_sizes cI cZ M_jobs M_many 0 M_least M_optima M_jobOf M_machineOf M_durations M_arcs M_drafts M_starts M_heads M_tails M_chosen z.2.1 z.2.2) H ∧ va_D A (wM h_M h_M_jobOf h_M_machineOf h_M_durations h_M_arcs h_M_drafts h_M_starts h_M_heads h_M_tails h_M_chosen h_M_orders h_M_sizes cI cZ M_jobs M_many 0 M_least M_optima M_jobOf M_machineOf M_durations M_arcs M_drafts M_starts M_heads M_tails M_chosen z.2.1 z.2.2) ∧ va_S A s.heap H locs ∧ lv_has ls 3 [(0, .ref h_M), (1, .int z.1)]) ?_ (0, M_orders, M_sizes) _ _ _ hI_7 ⟨hP, hD, hS, (lv_sub hl [1, 0] rfl)⟩
  rintro ⟨x1_7, M_orders_7, M_sizes_7⟩ H locs ls hI ⟨hP, hD, hS, hl⟩ ih_7
  have hw := hs_7 x1_7 M_orders_7 M_sizes_7 hI
  have hP : va_P (dC, dI) vwCl (wM h_M h_M_jobOf h_M_machineOf h_M_durations h_M_arcs h_M_drafts h_M_starts h_M_heads h_M_tails h_M_chosen h_M_orders h_M_sizes cI cZ M_jobs M_many 0 M_least M_optima M_jobOf M_machineOf M_durations M_arcs M_drafts M_starts M_heads M_tails M_chosen M_orders_7 M_sizes_7) H := hP
  have hD : va_D A (wM h_M h_M_jobOf h_M_machineOf h_M_durations h_M_arcs h_M_drafts h_M_starts h_M_heads h_M_tails h_M_chosen h_M_orders h_M_sizes cI cZ M_jobs M_many 0 M_least M_optima M_jobOf M_machineOf M_durations M_arcs M_drafts M_starts M_heads M_tails M_chosen M_orders_7 M_sizes_7) := hD
  have hl : lv_has ls 3 [(0, .ref h_M), (1, .int x1_7)] := hl
  refine lv_iload_n (pc := 7) hx hb dX3_solve_7 rfl (lv_at hl 1 rfl) ?_
  refine lv_iconst (v := 4) (pc := 8) hx hb dX3_solve_8 (by decide) ?_
  refine lv_icmp_ge (tgt := 23) (pc := 9) hx hb dX3_solve_9 (by decide) (fun c_1 => ?_) (fun c_1 => ?_)
  · have hw := hw.1 c_1
    refine lv_iconst (v := 1) (pc := 23) hx hb dX3_solve_23 (by decide) ?_
    refine lv_istore_n (lv' := [(1, .int 1), (0, .ref h_M)]) (pc := 24) hx hb dX3_solve_24 rfl hl (by decide) rfl (fun ls hl => ?_)
    obtain ⟨I_25, μ_25, hI_25, hs_25⟩ := hw
    refine lp_W (I := fun z : Int32 × Int32 × Int32 × Int32 × (Nat → Int32) × (Nat → Int32) × (Nat → Int32) × (Nat → Int32) × (Nat → Int32) => I_25 z.1 z.2.1 z.2.2.1 z.2.2.2.1 z.2.2.2.2.1 z.2.2.2.2.2.1 z.2.2.2.2.2.2.1 z.2.2.2.2.2.2.2.1 z.2.2.2.2.2.2.2.2) (fun z => μ_25 z.1 z.2.1 z.2.2.1 z.2.2.2.1 z.2.2.2.2.1 z.2.2.2.2.2.1 z.2.2.2.2.2.2.1 z.2.2.2.2.2.2.2.1 z.2.2.2.2.2.2.2.2) (fun (z : Int32 × Int32 × Int32 × Int32 × (Nat → Int32) × (Nat → Int32) × (Nat → Int32) × (Nat → Int32) × (Nat → Int32)) H locs ls => va_P (dC, dI) vwCl (wM h_M h_M_jobOf h_M_machineOf h_M_durations h_M_arcs h_M_drafts h_M_starts h_M_heads h_M_tails h_M_chosen h_M_orders h_M_sizes cI cZ M_jobs M_many z.2.1 z.2.2.1 z.2.2.2.1 M_jobOf M_machineOf M_durations M_arcs M_drafts z.2.2.2.2.1 z.2.2.2.2.2.1 M_tails z.2.2.2.2.2.2.1 z.2.2.2.2.2.2.2.1 z.2.2.2.2.2.2.2.2) H ∧ va_D A (wM h_M h_M_jobOf h_M_machineOf h_M_durations h_M_arcs h_M_drafts h_M_starts h_M_heads h_M_tails h_M_chosen h_M_orders h_M_sizes cI cZ M_jobs M_many z.2.1 z.2.2.1 z.2.2.2.1 M_jobOf M_machineOf M_durations M_arcs M_drafts z.2.2.2.2.1 z.2.2.2.2.2.1 M_tails z.2.2.2.2.2.2.1 z.2.2.2.2.2.2.2.1 z.2.2.2.2.2.2.2.2) ∧ va_S A s.heap H locs ∧ lv_has ls 3 [(0, .ref h_M), (1, .int z.1)]) ?_ (1, 0, M_least, M_optima, M_starts, M_heads, M_chosen, M_orders_7, M_sizes_7) _ _ _ hI_25 ⟨hP, hD, hS, (lv_sub hl [1, 0] rfl)⟩
    rintro ⟨x1_25, M_isPlanned_25, M_least_25, M_optima_25, M_starts_25, M_heads_25, M_chosen_25, M_orders_25, M_sizes_25⟩ H locs ls hI ⟨hP, hD, hS, hl⟩ ih_25
    have hw := hs_25 x1_25 M_isPlanned_25 M_least_25 M_optima_25 M_starts_25 M_heads_25 M_chosen_25 M_orders_25 M_sizes_25 hI
    have hP : va_P (dC, dI) vwCl (wM h_M h_M_jobOf h_M_machineOf h_M_durations h_M_arcs h_M_drafts h_M_starts h_M_heads h_M_tails h_M_chosen h_M_orders h_M_sizes cI cZ M_jobs M_many M_isPlanned_25 M_least_25 M_optima_25 M_jobOf M_machineOf M_durations M_arcs M_drafts M_starts_25 M_heads_25 M_tails M_chosen_25 M_orders_25 M_sizes_25) H := hP
    have hD : va_D A (wM h_M h_M_jobOf h_M_machineOf h_M_durations h_M_arcs h_M_drafts h_M_starts h_M_heads h_M_tails h_M_chosen h_M_orders h_M_sizes cI cZ M_jobs M_many M_isPlanned_25 M_least_25 M_optima_25 M_jobOf M_machineOf M_durations M_arcs M_drafts M_starts_25 M_heads_25 M_tails M_chosen_25 M_orders_25 M_sizes_25) := hD
    have hl : lv_has ls 3 [(0, .ref h_M), (1, .int x1_25)] := hl
    refine lv_iload_n (pc := 25) hx hb dX3_solve_25 rfl (lv_at hl 1 rfl) ?_
    refine lv_if_eq (tgt := 86) (pc := 26) hx hb dX3_solve_26 (by decide) (fun c_2 => ?_) (fun c_2 => ?_)
    · have hw := hw.1 c_2
      refine lv_aload_n (pc := 86) hx hb dX3_solve_86 rfl (lv_at hl 0 rfl) ?_
      refine va_get (D := (dC, dI)) (ci := 3) (v := .int M_least_25) (C := RX3) (T := TX3) (N := 16) (pc := 87) hx hb hts hin_X3 hown hK hP 0 rfl rfl 9 (by decide) (hts (.fieldLink RX3 44 "JobShopModel" "least" "I") (by decide +kernel)) (fun _ h9 => h9) rfl dX3_solve_87 ?_
      exact W.iret (v := M_least_25) hx hb hr (fun t ht hW => ⟨⟨M_least_25, (M_isPlanned_25, M_least_25, M_optima_25, M_starts_25, M_heads_25, M_chosen_25, M_orders_25, M_sizes_25), rfl, hw, by rw [ht]; exact hP, va_K.moved hW.alike hK, hD⟩, hS.F ht⟩) hS.2.2 dX3_solve_90
    · have hw := hw.2 c_2
      refine lv_aload_n (pc := 29) hx hb dX3_solve_29 rfl (lv_at hl 0 rfl) ?_
      have hPx : va_P (dC, dI) vwCl ([] ++ (wM h_M h_M_jobOf h_M_machineOf h_M_durations h_M_arcs h_M_drafts h_M_starts h_M_heads h_M_tails h_M_chosen h_M_orders h_M_sizes cI cZ M_jobs M_many M_isPlanned_25 M_least_25 M_optima_25 M_jobOf M_machineOf M_durations M_arcs M_drafts M_starts_25 M_heads_25 M_tails M_chosen_25 M_orders_25 M_sizes_25)) H := hP
      have hDx : va_D A ([] ++ (wM h_M h_M_jobOf h_M_machineOf h_M_durations h_M_arcs h_M_drafts h_M_starts h_M_heads h_M_tails h_M_chosen h_M_orders h_M_sizes cI cZ M_jobs M_many M_isPlanned_25 M_least_25 M_optima_25 M_jobOf M_machineOf M_durations M_arcs M_drafts M_starts_25 M_heads_25 M_tails M_chosen_25 M_orders_25 M_sizes_25)) := hD
      refine kc_i (pc := 30) (w1 := (fun u : Nat → Int32 => (wM h_M h_M_jobOf h_M_machineOf h_M_durations h_M_arcs h_M_drafts h_M_starts h_M_heads h_M_tails h_M_chosen h_M_orders h_M_sizes cI cZ M_jobs M_many M_isPlanned_25 M_least_25 M_optima_25 M_jobOf M_machineOf M_durations M_arcs M_drafts M_starts_25 M_heads_25 M_tails u M_orders_25 M_sizes_25))) (va_runV (As := []) (rest := []) ⟨hx, hb, hml, hown, hts⟩ (c_X3_choose l dC dI h_M h_M_jobOf h_M_machineOf h_M_durations h_M_arcs h_M_drafts h_M_starts h_M_heads h_M_tails h_M_chosen h_M_orders h_M_sizes H.size cI cZ M_jobs M_many M_isPlanned_25 M_least_25 M_optima_25 M_jobOf M_machineOf M_durations M_arcs M_drafts M_starts_25 M_heads_25 M_tails M_chosen_25 M_orders_25 M_sizes_25 _ hw) (cwV 0 hts gX3_solve_X3_choose rfl rfl rfl (by decide +kernel) ⟨Nat.le_of_ble_eq_true rfl, Nat.le_of_ble_eq_true rfl⟩) (kc_preVM (q0 := 0) (ci := 3) hK hPx hDx [0, 1] rfl rfl rfl) rfl rfl hl.1 rfl (lv_room (Nat.le_of_ble_eq_true rfl)) dX3_solve_30 ⟨Nat.zero_le _, Nat.zero_le _⟩) hPx hDx hS hA (fun r_30 u H locs hw hP hD hS => ?_)
      obtain ⟨M_chosen_30, rfl⟩ : ∃ z, z = u := ⟨_, rfl⟩
      have hP : va_P (dC, dI) vwCl (wM h_M h_M_jobOf h_M_machineOf h_M_durations h_M_arcs h_M_drafts h_M_starts h_M_heads h_M_tails h_M_chosen h_M_orders h_M_sizes cI cZ M_jobs M_many M_isPlanned_25 M_least_25 M_optima_25 M_jobOf M_machineOf M_durations M_arcs M_drafts M_starts_25 M_heads_25 M_tails M_chosen_30 M_orders_25 M_sizes_25) H := hP
      have hD : va_D A (wM h_M h_M_jobOf h_M_machineOf h_M_durations h_M_arcs h_M_drafts h_M_starts h_M_heads h_M_tails h_M_chosen h_M_orders h_M_sizes cI cZ M_jobs M_many M_isPlanned_25 M_least_25 M_optima_25 M_jobOf M_machineOf M_durations M_arcs M_drafts M_starts_25 M_heads_25 M_tails M_chosen_30 M_orders_25 M_sizes_25) := hD
      obtain ⟨J_51, hs_51, hw⟩ := hw
      refine jn_W (J := fun z : Int32 × Int32 × Int32 × (Nat → Int32) × (Nat → Int32) => J_51 z.1 z.2.1 z.2.2.1 z.2.2.2.1 z.2.2.2.2) 51 (fun z => []) (fun (z : Int32 × Int32 × Int32 × (Nat → Int32) × (Nat → Int32)) H locs ls => va_P (dC, dI) vwCl (wM h_M h_M_jobOf h_M_machineOf h_M_durations h_M_arcs h_M_drafts h_M_starts h_M_heads h_M_tails h_M_chosen h_M_orders h_M_sizes cI cZ M_jobs M_many z.1 z.2.1 z.2.2.1 M_jobOf M_machineOf M_durations M_arcs M_drafts z.2.2.2.1 z.2.2.2.2 M_tails M_chosen_30 M_orders_25 M_sizes_25) H ∧ va_D A (wM h_M h_M_jobOf h_M_machineOf h_M_durations h_M_arcs h_M_drafts h_M_starts h_M_heads h_M_tails h_M_chosen h_M_orders h_M_sizes cI cZ M_jobs M_many z.1 z.2.1 z.2.2.1 M_jobOf M_machineOf M_durations M_arcs M_drafts z.2.2.2.1 z.2.2.2.2 M_tails M_chosen_30 M_orders_25 M_sizes_25) ∧ va_S A s.heap H locs ∧ lv_has ls 3 [(0, .ref h_M)]) ?_ ?_
      · rintro ⟨M_isPlanned_51, M_least_51, M_optima_51, M_starts_51, M_heads_51⟩ H locs ls hI ⟨hP, hD, hS, hl⟩
        have hw := hs_51 M_isPlanned_51 M_least_51 M_optima_51 M_starts_51 M_heads_51 hI
        have hP : va_P (dC, dI) vwCl (wM h_M h_M_jobOf h_M_machineOf h_M_durations h_M_arcs h_M_drafts h_M_starts h_M_heads h_M_tails h_M_chosen h_M_orders h_M_sizes cI cZ M_jobs M_many M_isPlanned_51 M_least_51 M_optima_51 M_jobOf M_machineOf M_durations M_arcs M_drafts M_starts_51 M_heads_51 M_tails M_chosen_30 M_orders_25 M_sizes_25) H := hP
        have hD : va_D A (wM h_M h_M_jobOf h_M_machineOf h_M_durations h_M_arcs h_M_drafts h_M_starts h_M_heads h_M_tails h_M_chosen h_M_orders h_M_sizes cI cZ M_jobs M_many M_isPlanned_51 M_least_51 M_optima_51 M_jobOf M_machineOf M_durations M_arcs M_drafts M_starts_51 M_heads_51 M_tails M_chosen_30 M_orders_25 M_sizes_25) := hD
        have hl : lv_has ls 3 [(0, .ref h_M)] := hl
        refine W.eq (g2 := F0 m 51 ls []) rfl ?_
        refine lv_iconst (v := 0) (pc := 51) hx hb dX3_solve_51 (by decide) ?_
        refine lv_istore_n (lv' := [(2, .int 0), (0, .ref h_M)]) (pc := 52) hx hb dX3_solve_52 rfl hl (by decide) rfl (fun ls hl => ?_)
        obtain ⟨I_53, μ_53, hI_53, hs_53⟩ := hw
        refine lp_W (I := fun z : Int32 × (Nat → Int32) × (Nat → Int32) => I_53 z.1 z.2.1 z.2.2) (fun z => μ_53 z.1 z.2.1 z.2.2) (fun (z : Int32 × (Nat → Int32) × (Nat → Int32)) H locs ls => va_P (dC, dI) vwCl (wM h_M h_M_jobOf h_M_machineOf h_M_durations h_M_arcs h_M_drafts h_M_starts h_M_heads h_M_tails h_M_chosen h_M_orders h_M_sizes cI cZ M_jobs M_many M_isPlanned_51 M_least_51 M_optima_51 M_jobOf M_machineOf M_durations M_arcs M_drafts M_starts_51 M_heads_51 M_tails M_chosen_30 z.2.1 z.2.2) H ∧ va_D A (wM h_M h_M_jobOf h_M_machineOf h_M_durations h_M_arcs h_M_drafts h_M_starts h_M_heads h_M_tails h_M_chosen h_M_orders h_M_sizes cI cZ M_jobs M_many M_isPlanned_51 M_least_51 M_optima_51 M_jobOf M_machineOf M_durations M_arcs M_drafts M_starts_51 M_heads_51 M_tails M_chosen_30 z.2.1 z.2.2) ∧ va_S A s.heap H locs ∧ lv_has ls 3 [(0, .ref h_M), (2, .int z.1)]) ?_ (0, M_orders_25, M_sizes_25) _ _ _ hI_53 ⟨hP, hD, hS, (lv_sub hl [1, 0] rfl)⟩
        rintro ⟨x2_53, M_orders_53, M_sizes_53⟩ H locs ls hI ⟨hP, hD, hS, hl⟩ ih_53
        have hw := hs_53 x2_53 M_orders_53 M_sizes_53 hI
        have hP : va_P (dC, dI) vwCl (wM h_M h_M_jobOf h_M_machineOf h_M_durations h_M_arcs h_M_drafts h_M_starts h_M_heads h_M_tails h_M_chosen h_M_orders h_M_sizes cI cZ M_jobs M_many M_isPlanned_51 M_least_51 M_optima_51 M_jobOf M_machineOf M_durations M_arcs M_drafts M_starts_51 M_heads_51 M_tails M_chosen_30 M_orders_53 M_sizes_53) H := hP
        have hD : va_D A (wM h_M h_M_jobOf h_M_machineOf h_M_durations h_M_arcs h_M_drafts h_M_starts h_M_heads h_M_tails h_M_chosen h_M_orders h_M_sizes cI cZ M_jobs M_many M_isPlanned_51 M_least_51 M_optima_51 M_jobOf M_machineOf M_durations M_arcs M_drafts M_starts_51 M_heads_51 M_tails M_chosen_30 M_orders_53 M_sizes_53) := hD
        have hl : lv_has ls 3 [(0, .ref h_M), (2, .int x2_53)] := hl
        refine lv_iload_n (pc := 53) hx hb dX3_solve_53 rfl (lv_at hl 1 rfl) ?_
        refine lv_iconst (v := 4) (pc := 54) hx hb dX3_solve_54 (by decide) ?_
        refine lv_icmp_ge (tgt := 72) (pc := 55) hx hb dX3_solve_55 (by decide) (fun c_3 => ?_) (fun c_3 => ?_)
        · have hw := hw.1 c_3
          refine lv_iload_n (pc := 72) hx hb dX3_solve_72 rfl (lv_at hl 1 rfl) ?_
          refine lv_iconst (v := 4) (pc := 73) hx hb dX3_solve_73 (by decide) ?_
          refine lv_icmp_ge (tgt := 81) (pc := 74) hx hb dX3_solve_74 (by decide) (fun c_4 => ?_) (fun c_4 => ?_)
          · have hw := hw.1 c_4
            refine lv_iconst (v := 0) (pc := 81) hx hb dX3_solve_81 (by decide) ?_
            refine lv_istore_n (lv' := [(1, .int 0), (0, .ref h_M), (2, .int x2_53)]) (pc := 82) hx hb dX3_solve_82 rfl hl (by decide) rfl (fun ls hl => ?_)
            refine lv_goto (tgt := 25) (pc := 83) hx hb dX3_solve_83 (by decide) ?_
            exact ih_25 (0, M_isPlanned_51, M_least_51, M_optima_51, M_starts_51, M_heads_51, M_chosen_30, M_orders_53, M_sizes_53) _ _ _ hw.1 hw.2 ⟨hP, hD, hS, (lv_sub hl [1, 0] rfl)⟩
          · have hw := hw.2 c_4
            refine lv_iconst (v := 1) (pc := 77) hx hb dX3_solve_77 (by decide) ?_
            refine lv_goto (tgt := 82) (pc := 78) hx hb dX3_solve_78 (by decide) ?_
            refine lv_istore_n (lv' := [(1, .int 1), (0, .ref h_M), (2, .int x2_53)]) (pc := 82) hx hb dX3_solve_82 rfl hl (by decide) rfl (fun ls hl => ?_)
            refine lv_goto (tgt := 25) (pc := 83) hx hb dX3_solve_83 (by decide) ?_
            exact ih_25 (1, M_isPlanned_51, M_least_51, M_optima_51, M_starts_51, M_heads_51, M_chosen_30, M_orders_53, M_sizes_53) _ _ _ hw.1 hw.2 ⟨hP, hD, hS, (lv_sub hl [1, 0] rfl)⟩
        · have hw := hw.2 c_3
          refine lv_aload_n (pc := 58) hx hb dX3_solve_58 rfl (lv_at hl 0 rfl) ?_
          refine lv_iload_n (pc := 59) hx hb dX3_solve_59 rfl (lv_at hl 1 rfl) ?_
          have hPx : va_P (dC, dI) vwCl ([] ++ (wM h_M h_M_jobOf h_M_machineOf h_M_durations h_M_arcs h_M_drafts h_M_starts h_M_heads h_M_tails h_M_chosen h_M_orders h_M_sizes cI cZ M_jobs M_many M_isPlanned_51 M_least_51 M_optima_51 M_jobOf M_machineOf M_durations M_arcs M_drafts M_starts_51 M_heads_51 M_tails M_chosen_30 M_orders_53 M_sizes_53)) H := hP
          have hDx : va_D A ([] ++ (wM h_M h_M_jobOf h_M_machineOf h_M_durations h_M_arcs h_M_drafts h_M_starts h_M_heads h_M_tails h_M_chosen h_M_orders h_M_sizes cI cZ M_jobs M_many M_isPlanned_51 M_least_51 M_optima_51 M_jobOf M_machineOf M_durations M_arcs M_drafts M_starts_51 M_heads_51 M_tails M_chosen_30 M_orders_53 M_sizes_53)) := hD
          refine kc_i (pc := 60) (w1 := (fun u : (Nat → Int32) × (Nat → Int32) => (wM h_M h_M_jobOf h_M_machineOf h_M_durations h_M_arcs h_M_drafts h_M_starts h_M_heads h_M_tails h_M_chosen h_M_orders h_M_sizes cI cZ M_jobs M_many M_isPlanned_51 M_least_51 M_optima_51 M_jobOf M_machineOf M_durations M_arcs M_drafts M_starts_51 M_heads_51 M_tails M_chosen_30 u.1 u.2))) (va_runV (As := [.int x2_53]) (rest := []) ⟨hx, hb, hml, hown, hts⟩ (c_X3_nextOrder l dC dI h_M h_M_jobOf h_M_machineOf h_M_durations h_M_arcs h_M_drafts h_M_starts h_M_heads h_M_tails h_M_chosen h_M_orders h_M_sizes H.size cI cZ M_jobs M_many M_isPlanned_51 M_least_51 M_optima_51 M_jobOf M_machineOf M_durations M_arcs M_drafts M_starts_51 M_heads_51 M_tails M_chosen_30 M_orders_53 M_sizes_53 x2_53 _ hw) (cwV 1 hts gX3_solve_X3_nextOrder rfl rfl rfl (by decide +kernel) ⟨Nat.le_of_ble_eq_true rfl, Nat.le_of_ble_eq_true rfl⟩) (kc_preVM (q0 := 0) (ci := 3) hK hPx hDx [0, 1] rfl rfl rfl) rfl rfl hl.1 rfl (lv_room (Nat.le_of_ble_eq_true rfl)) dX3_solve_60 ⟨Nat.zero_le _, Nat.zero_le _⟩) hPx hDx hS hA (fun r_60 u H locs hw hP hD hS => ?_)
          obtain ⟨M_orders_60, M_sizes_60⟩ := u
          have hP : va_P (dC, dI) vwCl (wM h_M h_M_jobOf h_M_machineOf h_M_durations h_M_arcs h_M_drafts h_M_starts h_M_heads h_M_tails h_M_chosen h_M_orders h_M_sizes cI cZ M_jobs M_many M_isPlanned_51 M_least_51 M_optima_51 M_jobOf M_machineOf M_durations M_arcs M_drafts M_starts_51 M_heads_51 M_tails M_chosen_30 M_orders_60 M_sizes_60) H := hP
          have hD : va_D A (wM h_M h_M_jobOf h_M_machineOf h_M_durations h_M_arcs h_M_drafts h_M_starts h_M_heads h_M_tails h_M_chosen h_M_orders h_M_sizes cI cZ M_jobs M_many M_isPlanned_51 M_least_51 M_optima_51 M_jobOf M_machineOf M_durations M_arcs M_drafts M_starts_51 M_heads_51 M_tails M_chosen_30 M_orders_60 M_sizes_60) := hD
          refine lv_if_ne (tgt := 72) (pc := 63) hx hb dX3_solve_63 (by decide) (fun c_5 => ?_) (fun c_5 => ?_)
          · have hw := hw.1 c_5
            refine lv_iload_n (pc := 72) hx hb dX3_solve_72 rfl (lv_at hl 1 rfl) ?_
            refine lv_iconst (v := 4) (pc := 73) hx hb dX3_solve_73 (by decide) ?_
            refine lv_icmp_ge (tgt := 81) (pc := 74) hx hb dX3_solve_74 (by decide) (fun c_6 => ?_) (fun c_6 => ?_)
            · have hw := hw.1 c_6
              refine lv_iconst (v := 0) (pc := 81) hx hb dX3_solve_81 (by decide) ?_
              refine lv_istore_n (lv' := [(1, .int 0), (0, .ref h_M), (2, .int x2_53)]) (pc := 82) hx hb dX3_solve_82 rfl hl (by decide) rfl (fun ls hl => ?_)
              refine lv_goto (tgt := 25) (pc := 83) hx hb dX3_solve_83 (by decide) ?_
              exact ih_25 (0, M_isPlanned_51, M_least_51, M_optima_51, M_starts_51, M_heads_51, M_chosen_30, M_orders_60, M_sizes_60) _ _ _ hw.1 hw.2 ⟨hP, hD, hS, (lv_sub hl [1, 0] rfl)⟩
            · have hw := hw.2 c_6
              refine lv_iconst (v := 1) (pc := 77) hx hb dX3_solve_77 (by decide) ?_
              refine lv_goto (tgt := 82) (pc := 78) hx hb dX3_solve_78 (by decide) ?_
              refine lv_istore_n (lv' := [(1, .int 1), (0, .ref h_M), (2, .int x2_53)]) (pc := 82) hx hb dX3_solve_82 rfl hl (by decide) rfl (fun ls hl => ?_)
              refine lv_goto (tgt := 25) (pc := 83) hx hb dX3_solve_83 (by decide) ?_
              exact ih_25 (1, M_isPlanned_51, M_least_51, M_optima_51, M_starts_51, M_heads_51, M_chosen_30, M_orders_60, M_sizes_60) _ _ _ hw.1 hw.2 ⟨hP, hD, hS, (lv_sub hl [1, 0] rfl)⟩
          · have hw := hw.2 c_5
            refine lv_iinc (v := x2_53 + 1) (lv' := [(2, .int (x2_53 + 1)), (0, .ref h_M)]) (pc := 66) hx hb dX3_solve_66 hl (k := 1) rfl rfl (by decide) rfl (fun ls hl => ?_)
            refine lv_goto (tgt := 53) (pc := 69) hx hb dX3_solve_69 (by decide) ?_
            exact ih_53 ((x2_53 + 1), M_orders_60, M_sizes_60) _ _ _ hw.1 hw.2 ⟨hP, hD, hS, (lv_sub hl [1, 0] rfl)⟩
      · intro hj_51
        refine lv_if_eq (tgt := 51) (pc := 33) hx hb dX3_solve_33 (by decide) (fun c_7 => ?_) (fun c_7 => ?_)
        · have hw := hw.1 c_7
          exact hj_51 (M_isPlanned_25, M_least_25, M_optima_25, M_starts_25, M_heads_25) _ _ _ hw ⟨hP, hD, hS, (lv_sub hl [0] rfl)⟩
        · have hw := hw.2 c_7
          refine lv_aload_n (pc := 36) hx hb dX3_solve_36 rfl (lv_at hl 0 rfl) ?_
          refine lv_aload_n (pc := 37) hx hb dX3_solve_37 rfl (lv_at hl 0 rfl) ?_
          refine va_get (D := (dC, dI)) (ci := 3) (v := .ref h_M_chosen) (C := RX3) (T := TX3) (N := 16) (pc := 38) hx hb hts hin_X3 hown hK hP 0 rfl rfl 13 (by decide) (hts (.fieldLink RX3 35 "JobShopModel" "chosen" "[Z") (by decide +kernel)) (fun _ h9 => h9) rfl dX3_solve_38 ?_
          have hPx : va_P (dC, dI) vwCl ([] ++ (wM h_M h_M_jobOf h_M_machineOf h_M_durations h_M_arcs h_M_drafts h_M_starts h_M_heads h_M_tails h_M_chosen h_M_orders h_M_sizes cI cZ M_jobs M_many M_isPlanned_25 M_least_25 M_optima_25 M_jobOf M_machineOf M_durations M_arcs M_drafts M_starts_25 M_heads_25 M_tails M_chosen_30 M_orders_25 M_sizes_25)) H := hP
          have hDx : va_D A ([] ++ (wM h_M h_M_jobOf h_M_machineOf h_M_durations h_M_arcs h_M_drafts h_M_starts h_M_heads h_M_tails h_M_chosen h_M_orders h_M_sizes cI cZ M_jobs M_many M_isPlanned_25 M_least_25 M_optima_25 M_jobOf M_machineOf M_durations M_arcs M_drafts M_starts_25 M_heads_25 M_tails M_chosen_30 M_orders_25 M_sizes_25)) := hD
          refine kc_i (pc := 41) (w1 := (fun u : Nat → Int32 => (wM h_M h_M_jobOf h_M_machineOf h_M_durations h_M_arcs h_M_drafts h_M_starts h_M_heads h_M_tails h_M_chosen h_M_orders h_M_sizes cI cZ M_jobs M_many M_isPlanned_25 M_least_25 M_optima_25 M_jobOf M_machineOf M_durations M_arcs M_drafts M_starts_25 u M_tails M_chosen_30 M_orders_25 M_sizes_25))) (va_runV (As := [.ref h_M_chosen]) (rest := []) ⟨hx, hb, hml, hown, hts⟩ (c_X3_findHeads_c l dC dI h_M h_M_jobOf h_M_machineOf h_M_durations h_M_arcs h_M_drafts h_M_starts h_M_heads h_M_tails h_M_chosen h_M_orders h_M_sizes H.size cI cZ M_jobs M_many M_isPlanned_25 M_least_25 M_optima_25 M_jobOf M_machineOf M_durations M_arcs M_drafts M_starts_25 M_heads_25 M_tails M_chosen_30 M_orders_25 M_sizes_25 _ hw) (cwV 1 hts gX3_solve_X3_findHeads rfl rfl rfl (by decide +kernel) ⟨Nat.le_of_ble_eq_true rfl, Nat.le_of_ble_eq_true rfl⟩) (kc_preVM (q0 := 0) (ci := 3) hK hPx hDx [0, 1] rfl rfl rfl) rfl rfl hl.1 rfl (lv_room (Nat.le_of_ble_eq_true rfl)) dX3_solve_41 ⟨Nat.zero_le _, Nat.zero_le _⟩) hPx hDx hS hA (fun r_41 u H locs hw hP hD hS => ?_)
          obtain ⟨M_heads_41, rfl⟩ : ∃ z, z = u := ⟨_, rfl⟩
          have hP : va_P (dC, dI) vwCl (wM h_M h_M_jobOf h_M_machineOf h_M_durations h_M_arcs h_M_drafts h_M_starts h_M_heads h_M_tails h_M_chosen h_M_orders h_M_sizes cI cZ M_jobs M_many M_isPlanned_25 M_least_25 M_optima_25 M_jobOf M_machineOf M_durations M_arcs M_drafts M_starts_25 M_heads_41 M_tails M_chosen_30 M_orders_25 M_sizes_25) H := hP
          have hD : va_D A (wM h_M h_M_jobOf h_M_machineOf h_M_durations h_M_arcs h_M_drafts h_M_starts h_M_heads h_M_tails h_M_chosen h_M_orders h_M_sizes cI cZ M_jobs M_many M_isPlanned_25 M_least_25 M_optima_25 M_jobOf M_machineOf M_durations M_arcs M_drafts M_starts_25 M_heads_41 M_tails M_chosen_30 M_orders_25 M_sizes_25) := hD
          refine lv_if_eq (tgt := 51) (pc := 44) hx hb dX3_solve_44 (by decide) (fun c_8 => ?_) (fun c_8 => ?_)
          · have hw := hw.1 c_8
            exact hj_51 (M_isPlanned_25, M_least_25, M_optima_25, M_starts_25, M_heads_41) _ _ _ hw ⟨hP, hD, hS, (lv_sub hl [0] rfl)⟩
          · have hw := hw.2 c_8
            refine lv_aload_n (pc := 47) hx hb dX3_solve_47 rfl (lv_at hl 0 rfl) ?_
            have hPx : va_P (dC, dI) vwCl ([] ++ (wM h_M h_M_jobOf h_M_machineOf h_M_durations h_M_arcs h_M_drafts h_M_starts h_M_heads h_M_tails h_M_chosen h_M_orders h_M_sizes cI cZ M_jobs M_many M_isPlanned_25 M_least_25 M_optima_25 M_jobOf M_machineOf M_durations M_arcs M_drafts M_starts_25 M_heads_41 M_tails M_chosen_30 M_orders_25 M_sizes_25)) H := hP
            have hDx : va_D A ([] ++ (wM h_M h_M_jobOf h_M_machineOf h_M_durations h_M_arcs h_M_drafts h_M_starts h_M_heads h_M_tails h_M_chosen h_M_orders h_M_sizes cI cZ M_jobs M_many M_isPlanned_25 M_least_25 M_optima_25 M_jobOf M_machineOf M_durations M_arcs M_drafts M_starts_25 M_heads_41 M_tails M_chosen_30 M_orders_25 M_sizes_25)) := hD
            refine kc_v (pc := 48) (w1 := (fun u : Int32 × Int32 × Int32 × (Nat → Int32) => (wM h_M h_M_jobOf h_M_machineOf h_M_durations h_M_arcs h_M_drafts h_M_starts h_M_heads h_M_tails h_M_chosen h_M_orders h_M_sizes cI cZ M_jobs M_many u.1 u.2.1 u.2.2.1 M_jobOf M_machineOf M_durations M_arcs M_drafts u.2.2.2 M_heads_41 M_tails M_chosen_30 M_orders_25 M_sizes_25))) (va_runV (As := []) (rest := []) ⟨hx, hb, hml, hown, hts⟩ (c_X3_weigh l dC dI h_M h_M_jobOf h_M_machineOf h_M_durations h_M_arcs h_M_drafts h_M_starts h_M_heads h_M_tails h_M_chosen h_M_orders h_M_sizes H.size cI cZ M_jobs M_many M_isPlanned_25 M_least_25 M_optima_25 M_jobOf M_machineOf M_durations M_arcs M_drafts M_starts_25 M_heads_41 M_tails M_chosen_30 M_orders_25 M_sizes_25 _ hw) (cwV 0 hts gX3_solve_X3_weigh rfl rfl rfl (by decide +kernel) ⟨Nat.le_of_ble_eq_true rfl, Nat.le_of_ble_eq_true rfl⟩) (kc_preVM (q0 := 0) (ci := 3) hK hPx hDx [0, 1] rfl rfl rfl) rfl rfl hl.1 rfl (lv_room (Nat.le_of_ble_eq_true rfl)) dX3_solve_48 ⟨Nat.zero_le _, Nat.zero_le _⟩) hPx hDx hS hA (fun u H locs hw hP hD hS => ?_)
            obtain ⟨M_isPlanned_48, M_least_48, M_optima_48, M_starts_48⟩ := u
            have hP : va_P (dC, dI) vwCl (wM h_M h_M_jobOf h_M_machineOf h_M_durations h_M_arcs h_M_drafts h_M_starts h_M_heads h_M_tails h_M_chosen h_M_orders h_M_sizes cI cZ M_jobs M_many M_isPlanned_48 M_least_48 M_optima_48 M_jobOf M_machineOf M_durations M_arcs M_drafts M_starts_48 M_heads_41 M_tails M_chosen_30 M_orders_25 M_sizes_25) H := hP
            have hD : va_D A (wM h_M h_M_jobOf h_M_machineOf h_M_durations h_M_arcs h_M_drafts h_M_starts h_M_heads h_M_tails h_M_chosen h_M_orders h_M_sizes cI cZ M_jobs M_many M_isPlanned_48 M_least_48 M_optima_48 M_jobOf M_machineOf M_durations M_arcs M_drafts M_starts_48 M_heads_41 M_tails M_chosen_30 M_orders_25 M_sizes_25) := hD
            exact hj_51 (M_isPlanned_48, M_least_48, M_optima_48, M_starts_48, M_heads_41) _ _ _ hw ⟨hP, hD, hS, (lv_sub hl [0] rfl)⟩
  · have hw := hw.2 c_1
    refine lv_aload_n (pc := 12) hx hb dX3_solve_12 rfl (lv_at hl 0 rfl) ?_
    refine lv_iload_n (pc := 13) hx hb dX3_solve_13 rfl (lv_at hl 1 rfl) ?_
    have hPx : va_P (dC, dI) vwCl ([] ++ (wM h_M h_M_jobOf h_M_machineOf h_M_durations h_M_arcs h_M_drafts h_M_starts h_M_heads h_M_tails h_M_chosen h_M_orders h_M_sizes cI cZ M_jobs M_many 0 M_least M_optima M_jobOf M_machineOf M_durations M_arcs M_drafts M_starts M_heads M_tails M_chosen M_orders_7 M_sizes_7)) H := hP
    have hDx : va_D A ([] ++ (wM h_M h_M_jobOf h_M_machineOf h_M_durations h_M_arcs h_M_drafts h_M_starts h_M_heads h_M_tails h_M_chosen h_M_orders h_M_sizes cI cZ M_jobs M_many 0 M_least M_optima M_jobOf M_machineOf M_durations M_arcs M_drafts M_starts M_heads M_tails M_chosen M_orders_7 M_sizes_7)) := hD
    refine kc_v (pc := 14) (w1 := (fun u : (Nat → Int32) × (Nat → Int32) => (wM h_M h_M_jobOf h_M_machineOf h_M_durations h_M_arcs h_M_drafts h_M_starts h_M_heads h_M_tails h_M_chosen h_M_orders h_M_sizes cI cZ M_jobs M_many 0 M_least M_optima M_jobOf M_machineOf M_durations M_arcs M_drafts M_starts M_heads M_tails M_chosen u.1 u.2))) (va_runV (As := [.int x1_7]) (rest := []) ⟨hx, hb, hml, hown, hts⟩ (c_X3_layFirst l dC dI h_M h_M_jobOf h_M_machineOf h_M_durations h_M_arcs h_M_drafts h_M_starts h_M_heads h_M_tails h_M_chosen h_M_orders h_M_sizes H.size cI cZ M_jobs M_many 0 M_least M_optima M_jobOf M_machineOf M_durations M_arcs M_drafts M_starts M_heads M_tails M_chosen M_orders_7 M_sizes_7 x1_7 _ hw) (cwV 1 hts gX3_solve_X3_layFirst rfl rfl rfl (by decide +kernel) ⟨Nat.le_of_ble_eq_true rfl, Nat.le_of_ble_eq_true rfl⟩) (kc_preVM (q0 := 0) (ci := 3) hK hPx hDx [0, 1] rfl rfl rfl) rfl rfl hl.1 rfl (lv_room (Nat.le_of_ble_eq_true rfl)) dX3_solve_14 ⟨Nat.zero_le _, Nat.zero_le _⟩) hPx hDx hS hA (fun u H locs hw hP hD hS => ?_)
    obtain ⟨M_orders_14, M_sizes_14⟩ := u
    have hP : va_P (dC, dI) vwCl (wM h_M h_M_jobOf h_M_machineOf h_M_durations h_M_arcs h_M_drafts h_M_starts h_M_heads h_M_tails h_M_chosen h_M_orders h_M_sizes cI cZ M_jobs M_many 0 M_least M_optima M_jobOf M_machineOf M_durations M_arcs M_drafts M_starts M_heads M_tails M_chosen M_orders_14 M_sizes_14) H := hP
    have hD : va_D A (wM h_M h_M_jobOf h_M_machineOf h_M_durations h_M_arcs h_M_drafts h_M_starts h_M_heads h_M_tails h_M_chosen h_M_orders h_M_sizes cI cZ M_jobs M_many 0 M_least M_optima M_jobOf M_machineOf M_durations M_arcs M_drafts M_starts M_heads M_tails M_chosen M_orders_14 M_sizes_14) := hD
    refine lv_iinc (v := x1_7 + 1) (lv' := [(1, .int (x1_7 + 1)), (0, .ref h_M)]) (pc := 17) hx hb dX3_solve_17 hl (k := 1) rfl rfl (by decide) rfl (fun ls hl => ?_)
    refine lv_goto (tgt := 7) (pc := 20) hx hb dX3_solve_20 (by decide) ?_
    exact ih_7 ((x1_7 + 1), M_orders_14, M_sizes_14) _ _ _ hw.1 hw.2 ⟨hP, hD, hS, (lv_sub hl [1, 0] rfl)⟩
