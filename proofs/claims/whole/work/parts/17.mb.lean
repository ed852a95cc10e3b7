set_option maxHeartbeats 4000000 in
set_option maxRecDepth 100000 in
theorem c_X3_hasPath_a (l : Launch) (dC : Nat → ClassId) (dI : Nat → Nat → Nat) (h_M h_M_jobOf h_M_machineOf h_M_durations h_M_arcs h_M_drafts h_M_starts h_M_heads h_M_tails h_M_chosen h_M_orders h_M_sizes : Nat) (sz : Nat) (cI cZ : ClassId) (M_jobs : Int32) (M_many : Int32) (M_isPlanned : Int32) (M_least : Int32) (M_optima : Int32) (M_jobOf : Nat → Int32) (M_machineOf : Nat → Int32) (M_durations : Nat → Int32) (M_arcs : Nat → Int32) (M_drafts : Nat → Int32) (M_starts : Nat → Int32) (M_heads : Nat → Int32) (M_tails : Nat → Int32) (M_chosen : Nat → Int32) (M_orders : Nat → Int32) (M_sizes : Nat → Int32) (a1 a2 : Int32) (post : Int32 → Prop) (hw : wp_X3_hasPath M_many M_jobOf M_arcs a1 a2 post) : Met l yX3_hasPath wsX3_hasPath ({ frames := 2, cells := 0, slots := 0, locals := 45 }) (va_Pc [.ref h_M, .ref h_M_arcs, .int a1, .int a2] (fun U => U.heap.size = sz ∧ va_P (dC, dI) vwCl (wM h_M h_M_jobOf h_M_machineOf h_M_durations h_M_arcs h_M_drafts h_M_starts h_M_heads h_M_tails h_M_chosen h_M_orders h_M_sizes cI cZ M_jobs M_many M_isPlanned M_least M_optima M_jobOf M_machineOf M_durations M_arcs M_drafts M_starts M_heads M_tails M_chosen M_orders M_sizes) U.heap ∧ va_K (dC, dI) vwCl [(cI, .int), (cZ, .boolean)] U ∧ va_D (fun _ => True) (wM h_M h_M_jobOf h_M_machineOf h_M_durations h_M_arcs h_M_drafts h_M_starts h_M_heads h_M_tails h_M_chosen h_M_orders h_M_sizes cI cZ M_jobs M_many M_isPlanned M_least M_optima M_jobOf M_machineOf M_durations M_arcs M_drafts M_starts M_heads M_tails M_chosen M_orders M_sizes))) (va_Qi (fun (r : Int32) (u : Unit) => post r ) (fun u t => va_P (dC, dI) vwCl (wM h_M h_M_jobOf h_M_machineOf h_M_durations h_M_arcs h_M_drafts h_M_starts h_M_heads h_M_tails h_M_chosen h_M_orders h_M_sizes cI cZ M_jobs M_many M_isPlanned M_least M_optima M_jobOf M_machineOf M_durations M_arcs M_drafts M_starts M_heads M_tails M_chosen M_orders M_sizes) t.heap ∧ va_K (dC, dI) vwCl [(cI, .int), (cZ, .boolean)] t ∧ va_D (va_A (wM h_M h_M_jobOf h_M_machineOf h_M_durations h_M_arcs h_M_drafts h_M_starts h_M_heads h_M_tails h_M_chosen h_M_orders h_M_sizes cI cZ M_jobs M_many M_isPlanned M_least M_optima M_jobOf M_machineOf M_durations M_arcs M_drafts M_starts M_heads M_tails M_chosen M_orders M_sizes) sz) (wM h_M h_M_jobOf h_M_machineOf h_M_durations h_M_arcs h_M_drafts h_M_starts h_M_heads h_M_tails h_M_chosen h_M_orders h_M_sizes cI cZ M_jobs M_many M_isPlanned M_least M_optima M_jobOf M_machineOf M_durations M_arcs M_drafts M_starts M_heads M_tails M_chosen M_orders M_sizes)) (va_A (wM h_M h_M_jobOf h_M_machineOf h_M_durations h_M_arcs h_M_drafts h_M_starts h_M_heads h_M_tails h_M_chosen h_M_orders h_M_sizes cI cZ M_jobs M_many M_isPlanned M_least M_optima M_jobOf M_machineOf M_durations M_arcs M_drafts M_starts M_heads M_tails M_chosen M_orders M_sizes) sz)) 0 0 (va_A (wM h_M h_M_jobOf h_M_machineOf h_M_durations h_M_arcs h_M_drafts h_M_starts h_M_heads h_M_tails h_M_chosen h_M_orders h_M_sizes cI cZ M_jobs M_many M_isPlanned M_least M_optima M_jobOf M_machineOf M_durations M_arcs M_drafts M_starts M_heads M_tails M_chosen M_orders M_sizes) sz) := by
  refine Met.ofW (cc := cX3_hasPath) (maxL := 8) (ret := (some .boolean)) (by decide) rfl ?_
  intro p e s m args below meth c s₁ B hml hv
  obtain ⟨rfl, hsz, hP, hK, hD0⟩ := hv
  have hx := B.exec
  have hb := B.bytes
  have hr := B.returns
  have hts := atoms_spec (ws := wsX3_hasPath) B.pre
  have hown : s.vm.findClass RX3 = some m.cls := findClass_of_methodNamed B.named
  have hlocks := B.notSynchronized
  subst hsz
  have hD := hD0.self (sz := s.heap.size)
  generalize hAe : va_A (wM h_M h_M_jobOf h_M_machineOf h_M_durations h_M_arcs h_M_drafts h_M_starts h_M_heads h_M_tails h_M_chosen h_M_orders h_M_sizes cI cZ M_jobs M_many M_isPlanned M_least M_optima M_jobOf M_machineOf M_durations M_arcs M_drafts M_starts M_heads M_tails M_chosen M_orders M_sizes) s.heap.size = A at hD ⊢
  have hA : ∀ q : Nat, s.heap.size ≤ q → A q := fun q h => by rw [← hAe]; exact Or.inr h
  have hS : va_S A s.heap s.heap [] := va_S.rf
  have hP : va_P (dC, dI) vwCl (wM h_M h_M_jobOf h_M_machineOf h_M_durations h_M_arcs h_M_drafts h_M_starts h_M_heads h_M_tails h_M_chosen h_M_orders h_M_sizes cI cZ M_jobs M_many M_isPlanned M_least M_optima M_jobOf M_machineOf M_durations M_arcs M_drafts M_starts M_heads M_tails M_chosen M_orders M_sizes) s.heap := hP
  have hl := lv_entry ([.ref h_M, .ref h_M_arcs, .int a1, .int a2]) (n := 8) (Nat.le_of_ble_eq_true rfl)
  rw [lg_entry_eq]
  generalize (lg_sl ([.ref h_M, .ref h_M_arcs, .int a1, .int a2]) ++ List.replicate (8 - (lg_sl ([.ref h_M, .ref h_M_arcs, .int a1, .int a2])).length) Slot.unset).toArray = ls at hl ⊢
  have hl : lv_has ls 8 [(0, .ref h_M), (1, .ref h_M_arcs), (2, .int a1), (3, .int a2)] := hl
  obtain ⟨H, hH⟩ : ∃ H, H = s.heap := ⟨_, rfl⟩
  rw [← hH] at hP
  have hS : va_S A s.heap H [] := by rw [hH]; exact hS
  refine W_heap hH ?_
  unfold wp_X3_hasPath at hw
  have hin_X3 : ∀ w ∈ u_ws RX3 TX3 16, w ∈ wsX3_hasPath := by decide +kernel
  refine lv_iconst (v := 1) (pc := 0) hx hb dX3_hasPath_0 (by decide) ?_
  refine lv_iload_n (pc := 1) hx hb dX3_hasPath_1 rfl (lv_at hl 2 rfl) ?_
  refine lv_ishl (pc := 2) hx hb dX3_hasPath_2 ?_
  refine lv_istore (lv' := [(4, .int ((1 : Int32) <<< (a1 &&& 31))), (0, .ref h_M), (1, .ref h_M_arcs), (2, .int a1), (3, .int a2)]) (pc := 3) hx hb dX3_hasPath_3 hl (by decide) rfl (fun ls hl => ?_)
  refine lv_iconst (v := 0) (pc := 5) hx hb dX3_hasPath_5 (by decide) ?_
  refine lv_istore (lv' := [(5, .int 0), (4, .int ((1 : Int32) <<< (a1 &&& 31))), (0, .ref h_M), (1, .ref h_M_arcs), (2, .int a1), (3, .int a2)]) (pc := 6) hx hb dX3_hasPath_6 hl (by decide) rfl (fun ls hl => ?_)
  obtain ⟨I_8, μ_8, hI_8, hs_8⟩ := hw
  refine lp_W (I := fun z : Int32 × Int32 => I_8 z.1 z.2) (fun z => μ_8 z.1 z.2) (fun (z : Int32 × Int32) H locs ls => va_P (dC, dI) vwCl (wM h_M h_M_jobOf h_M_machineOf h_M_durations h_M_arcs h_M_drafts h_M_starts h_M_heads h_M_tails h_M_chosen h_M_orders h_M_sizes cI cZ M_jobs M_many M_isPlanned M_least M_optima M_jobOf M_machineOf M_durations M_arcs M_drafts M_starts M_heads M_tails M_chosen M_orders M_sizes) H ∧ va_D A (wM h_M h_M_jobOf h_M_machineOf h_M_durations h_M_arcs h_M_drafts h_M_starts h_M_heads h_M_tails h_M_chosen h_M_orders h_M_sizes cI cZ M_jobs M_many M_isPlanned M_least M_optima M_jobOf M_machineOf M_durations M_arcs M_drafts M_starts M_heads M_tails M_chosen M_orders M_sizes) ∧ va_S A s.heap H locs ∧ lv_has ls 8 [(0, .ref h_M), (1, .ref h_M_arcs), (3, .int a2), (4, .int z.1), (5, .int z.2)]) ?_ (((1 : Int32) <<< (a1 &&& 31)), 0) _ _ _ hI_8 ⟨hP, hD, hS, (lv_sub hl [2, 3, 5, 1, 0] rfl)⟩
  rintro ⟨x4_8, x5_8⟩ H locs ls hI ⟨hP, hD, hS, hl⟩ ih_8
  have hw := hs_8 x4_8 x5_8 hI
  have hP : va_P (dC, dI) vwCl (wM h_M h_M_jobOf h_M_machineOf h_M_durations h_M_arcs h_M_drafts h_M_starts h_M_heads h_M_tails h_M_chosen h_M_orders h_M_sizes cI cZ M_jobs M_many M_isPlanned M_least M_optima M_jobOf M_machineOf M_durations M_arcs M_drafts M_starts M_heads M_tails M_chosen M_orders M_sizes) H := hP
  have hD : va_D A (wM h_M h_M_jobOf h_M_machineOf h_M_durations h_M_arcs h_M_drafts h_M_starts h_M_heads h_M_tails h_M_chosen h_M_orders h_M_sizes cI cZ M_jobs M_many M_isPlanned M_least M_optima M_jobOf M_machineOf M_durations M_arcs M_drafts M_starts M_heads M_tails M_chosen M_orders M_sizes) := hD
  have hl : lv_has ls 8 [(0, .ref h_M), (1, .ref h_M_arcs), (3, .int a2), (4, .int x4_8), (5, .int x5_8)] := hl
  refine lv_iload (pc := 8) hx hb dX3_hasPath_8 (lv_at hl 4 rfl) ?_
  refine lv_iload (pc := 10) hx hb dX3_hasPath_10 (lv_at hl 3 rfl) ?_
  refine lv_icmp_eq (tgt := 95) (pc := 12) hx hb dX3_hasPath_12 (by decide) (fun c_1 => ?_) (fun c_1 => ?_)
  · have hw := hw.1 c_1
    refine lv_iload (pc := 95) hx hb dX3_hasPath_95 (lv_at hl 3 rfl) ?_
    refine lv_iload_n (pc := 97) hx hb dX3_hasPath_97 rfl (lv_at hl 2 rfl) ?_
    refine lv_ishr (pc := 98) hx hb dX3_hasPath_98 ?_
    refine lv_iconst (v := 1) (pc := 99) hx hb dX3_hasPath_99 (by decide) ?_
    refine lv_iand (pc := 100) hx hb dX3_hasPath_100 ?_
    refine lv_iconst (v := 1) (pc := 101) hx hb dX3_hasPath_101 (by decide) ?_
    refine lv_icmp_ne (tgt := 109) (pc := 102) hx hb dX3_hasPath_102 (by decide) (fun c_2 => ?_) (fun c_2 => ?_)
    · have hw := hw.1 c_2
      refine lv_iconst (v := 0) (pc := 109) hx hb dX3_hasPath_109 (by decide) ?_
      exact W.zret (v := 0) hx hb hr rfl (fun t ht hW => ⟨⟨0, (), rfl, hw, by rw [ht]; exact hP, va_K.moved hW.alike hK, hD⟩, hS.F ht⟩) hS.2.2 dX3_hasPath_110
    · have hw := hw.2 c_2
      refine lv_iconst (v := 1) (pc := 105) hx hb dX3_hasPath_105 (by decide) ?_
      refine lv_goto (tgt := 110) (pc := 106) hx hb dX3_hasPath_106 (by decide) ?_
      exact W.zret (v := 1) hx hb hr rfl (fun t ht hW => ⟨⟨1, (), rfl, hw, by rw [ht]; exact hP, va_K.moved hW.alike hK, hD⟩, hS.F ht⟩) hS.2.2 dX3_hasPath_110
  · have hw := hw.2 c_1
    refine lv_iload (pc := 15) hx hb dX3_hasPath_15 (lv_at hl 3 rfl) ?_
    refine lv_istore (lv' := [(5, .int x4_8), (0, .ref h_M), (1, .ref h_M_arcs), (3, .int a2), (4, .int x4_8)]) (pc := 17) hx hb dX3_hasPath_17 hl (by decide) rfl (fun ls hl => ?_)
    refine lv_iconst (v := 0) (pc := 19) hx hb dX3_hasPath_19 (by decide) ?_
    refine lv_istore (lv' := [(6, .int 0), (5, .int x4_8), (0, .ref h_M), (1, .ref h_M_arcs), (3, .int a2), (4, .int x4_8)]) (pc := 20) hx hb dX3_hasPath_20 hl (by decide) rfl (fun ls hl => ?_)
    obtain ⟨I_22, μ_22, hI_22, hs_22⟩ := hw
    refine lp_W (I := fun z : Int32 × Int32 => I_22 z.1 z.2) (fun z => μ_22 z.1 z.2) (fun (z : Int32 × Int32) H locs ls => va_P (dC, dI) vwCl (wM h_M h_M_jobOf h_M_machineOf h_M_durations h_M_arcs h_M_drafts h_M_starts h_M_heads h_M_tails h_M_chosen h_M_orders h_M_sizes cI cZ M_jobs M_many M_isPlanned M_least M_optima M_jobOf M_machineOf M_durations M_arcs M_drafts M_starts M_heads M_tails M_chosen M_orders M_sizes) H ∧ va_D A (wM h_M h_M_jobOf h_M_machineOf h_M_durations h_M_arcs h_M_drafts h_M_starts h_M_heads h_M_tails h_M_chosen h_M_orders h_M_sizes cI cZ M_jobs M_many M_isPlanned M_least M_optima M_jobOf M_machineOf M_durations M_arcs M_drafts M_starts M_heads M_tails M_chosen M_orders M_sizes) ∧ va_S A s.heap H locs ∧ lv_has ls 8 [(0, .ref h_M), (1, .ref h_M_arcs), (3, .int a2), (4, .int z.1), (5, .int x4_8), (6, .int z.2)]) ?_ (x4_8, 0) _ _ _ hI_22 ⟨hP, hD, hS, (lv_sub hl [2, 3, 4, 5, 1, 0] rfl)⟩
    rintro ⟨x4_22, x6_22⟩ H locs ls hI ⟨hP, hD, hS, hl⟩ ih_22
    have hw := hs_22 x4_22 x6_22 hI
    have hP : va_P (dC, dI) vwCl (wM h_M h_M_jobOf h_M_machineOf h_M_durations h_M_arcs h_M_drafts h_M_starts h_M_heads h_M_tails h_M_chosen h_M_orders h_M_sizes cI cZ M_jobs M_many M_isPlanned M_least M_optima M_jobOf M_machineOf M_durations M_arcs M_drafts M_starts M_heads M_tails M_chosen M_orders M_sizes) H := hP
    have hD : va_D A (wM h_M h_M_jobOf h_M_machineOf h_M_durations h_M_arcs h_M_drafts h_M_starts h_M_heads h_M_tails h_M_chosen h_M_orders h_M_sizes cI cZ M_jobs M_many M_isPlanned M_least M_optima M_jobOf M_machineOf M_durations M_arcs M_drafts M_starts M_heads M_tails M_chosen M_orders M_sizes) := hD
    have hl : lv_has ls 8 [(0, .ref h_M), (1, .ref h_M_arcs), (3, .int a2), (4, .int x4_22), (5, .int x4_8), (6, .int x6_22)] := hl
    refine lv_iload (pc := 22) hx hb dX3_hasPath_22 (lv_at hl 5 rfl) ?_
    refine lv_aload_n (pc := 24) hx hb dX3_hasPath_24 rfl (lv_at hl 0 rfl) ?_
    refine va_get (D := (dC, dI)) (ci := 3) (v := .int M_many) (C := RX3) (T := TX3) (N := 16) (pc := 25) hx hb hts hin_X3 hown hK hP 0 rfl rfl 1 (by decide) (hts (.fieldLink RX3 48 "JobShopModel" "many" "I") (by decide +kernel)) (fun _ h9 => h9) rfl dX3_hasPath_25 ?_
    refine lv_icmp_ge (tgt := 92) (pc := 28) hx hb dX3_hasPath_28 (by decide) (fun c_3 => ?_) (fun c_3 => ?_)
    · have hw := hw.1 c_3
      refine lv_goto (tgt := 8) (pc := 92) hx hb dX3_hasPath_92 (by decide) ?_
      exact ih_8 (x4_22, x4_8) _ _ _ hw.1 hw.2 ⟨hP, hD, hS, (lv_sub hl [0, 1, 2, 3, 4] rfl)⟩
    · have hw := hw.2 c_3
      refine lv_iconst (v := 0) (pc := 31) hx hb dX3_hasPath_31 (by decide) ?_
      refine lv_istore (lv' := [(7, .int 0), (0, .ref h_M), (1, .ref h_M_arcs), (3, .int a2), (4, .int x4_22), (5, .int x4_8), (6, .int x6_22)]) (pc := 32) hx hb dX3_hasPath_32 hl (by decide) rfl (fun ls hl => ?_)
      obtain ⟨I_34, μ_34, hI_34, hs_34⟩ := hw
      refine lp_W (I := fun z : Int32 × Int32 => I_34 z.1 z.2) (fun z => μ_34 z.1 z.2) (fun (z : Int32 × Int32) H locs ls => va_P (dC, dI) vwCl (wM h_M h_M_jobOf h_M_machineOf h_M_durations h_M_arcs h_M_drafts h_M_starts h_M_heads h_M_tails h_M_chosen h_M_orders h_M_sizes cI cZ M_jobs M_many M_isPlanned M_least M_optima M_jobOf M_machineOf M_durations M_arcs M_drafts M_starts M_heads M_tails M_chosen M_orders M_sizes) H ∧ va_D A (wM h_M h_M_jobOf h_M_machineOf h_M_durations h_M_arcs h_M_drafts h_M_starts h_M_heads h_M_tails h_M_chosen h_M_orders h_M_sizes cI cZ M_jobs M_many M_isPlanned M_least M_optima M_jobOf M_machineOf M_durations M_arcs M_drafts M_starts M_heads M_tails M_chosen M_orders M_sizes) ∧ va_S A s.heap H locs ∧ lv_has ls 8 [(0, .ref h_M), (1, .ref h_M_arcs), (3, .int a2), (4, .int z.1), (5, .int x4_8), (6, .int x6_22), (7, .int z.2)]) ?_ (x4_22, 0) _ _ _ hI_34 ⟨hP, hD, hS, (lv_sub hl [1, 2, 3, 4, 5, 6, 0] rfl)⟩
      rintro ⟨x4_34, x7_34⟩ H locs ls hI ⟨hP, hD, hS, hl⟩ ih_34
      have hw := hs_34 x4_34 x7_34 hI
      have hP : va_P (dC, dI) vwCl (wM h_M h_M_jobOf h_M_machineOf h_M_durations h_M_arcs h_M_drafts h_M_starts h_M_heads h_M_tails h_M_chosen h_M_orders h_M_sizes cI cZ M_jobs M_many M_isPlanned M_least M_optima M_jobOf M_machineOf M_durations M_arcs M_drafts M_starts M_heads M_tails M_chosen M_orders M_sizes) H := hP
      have hD : va_D A (wM h_M h_M_jobOf h_M_machineOf h_M_durations h_M_arcs h_M_drafts h_M_starts h_M_heads h_M_tails h_M_chosen h_M_orders h_M_sizes cI cZ M_jobs M_many M_isPlanned M_least M_optima M_jobOf M_machineOf M_durations M_arcs M_drafts M_starts M_heads M_tails M_chosen M_orders M_sizes) := hD
      have hl : lv_has ls 8 [(0, .ref h_M), (1, .ref h_M_arcs), (3, .int a2), (4, .int x4_34), (5, .int x4_8), (6, .int x6_22), (7, .int x7_34)] := hl
      refine lv_iload (pc := 34) hx hb dX3_hasPath_34 (lv_at hl 6 rfl) ?_
      refine lv_aload_n (pc := 36) hx hb dX3_hasPath_36 rfl (lv_at hl 0 rfl) ?_
      refine va_get (D := (dC, dI)) (ci := 3) (v := .int M_many) (C := RX3) (T := TX3) (N := 16) (pc := 37) hx hb hts hin_X3 hown hK hP 0 rfl rfl 1 (by decide) (hts (.fieldLink RX3 48 "JobShopModel" "many" "I") (by decide +kernel)) (fun _ h9 => h9) rfl dX3_hasPath_37 ?_
      refine lv_icmp_ge (tgt := 86) (pc := 40) hx hb dX3_hasPath_40 (by decide) (fun c_4 => ?_) (fun c_4 => ?_)
      · have hw := hw.1 c_4
        refine lv_iinc (v := x6_22 + 1) (lv' := [(6, .int (x6_22 + 1)), (0, .ref h_M), (1, .ref h_M_arcs), (3, .int a2), (4, .int x4_34), (5, .int x4_8), (7, .int x7_34)]) (pc := 86) hx hb dX3_hasPath_86 hl (k := 5) rfl rfl (by decide) rfl (fun ls hl => ?_)
        refine lv_goto (tgt := 22) (pc := 89) hx hb dX3_hasPath_89 (by decide) ?_
        exact ih_22 (x4_34, (x6_22 + 1)) _ _ _ hw.1 hw.2 ⟨hP, hD, hS, (lv_sub hl [1, 2, 3, 4, 5, 0] rfl)⟩
      · have hw := hw.2 c_4
        refine lv_iload (pc := 43) hx hb dX3_hasPath_43 (lv_at hl 3 rfl) ?_
        refine lv_iload (pc := 45) hx hb dX3_hasPath_45 (lv_at hl 5 rfl) ?_
        refine lv_ishr (pc := 47) hx hb dX3_hasPath_47 ?_
        refine lv_iconst (v := 1) (pc := 48) hx hb dX3_hasPath_48 (by decide) ?_
        refine lv_iand (pc := 49) hx hb dX3_hasPath_49 ?_
        refine lv_iconst (v := 1) (pc := 50) hx hb dX3_hasPath_50 (by decide) ?_
        refine lv_icmp_ne (tgt := 76) (pc := 51) hx hb dX3_hasPath_51 (by decide) (fun c_5 => ?_) (fun c_5 => ?_)
        · have hw := hw.1 c_5
          refine lv_iload (pc := 76) hx hb dX3_hasPath_76 (lv_at hl 3 rfl) ?_
          refine lv_istore (lv' := [(4, .int x4_34), (0, .ref h_M), (1, .ref h_M_arcs), (3, .int a2), (5, .int x4_8), (6, .int x6_22), (7, .int x7_34)]) (pc := 78) hx hb dX3_hasPath_78 hl (by decide) rfl (fun ls hl => ?_)
          refine lv_iinc (v := x7_34 + 1) (lv' := [(7, .int (x7_34 + 1)), (4, .int x4_34), (0, .ref h_M), (1, .ref h_M_arcs), (3, .int a2), (5, .int x4_8), (6, .int x6_22)]) (pc := 80) hx hb dX3_hasPath_80 hl (k := 6) rfl rfl (by decide) rfl (fun ls hl => ?_)
          refine lv_goto (tgt := 34) (pc := 83) hx hb dX3_hasPath_83 (by decide) ?_
          exact ih_34 (x4_34, (x7_34 + 1)) _ _ _ hw.1 hw.2 ⟨hP, hD, hS, (lv_sub hl [2, 3, 4, 1, 5, 6, 0] rfl)⟩
        · have hw := hw.2 c_5
          refine lv_aload_n (pc := 54) hx hb dX3_hasPath_54 rfl (lv_at hl 0 rfl) ?_
          refine lv_aload_n (pc := 55) hx hb dX3_hasPath_55 rfl (lv_at hl 1 rfl) ?_
          refine lv_iload (pc := 56) hx hb dX3_hasPath_56 (lv_at hl 5 rfl) ?_
          refine lv_iload (pc := 58) hx hb dX3_hasPath_58 (lv_at hl 6 rfl) ?_
          have hPx : va_P (dC, dI) vwCl ([] ++ (wM h_M h_M_jobOf h_M_machineOf h_M_durations h_M_arcs h_M_drafts h_M_starts h_M_heads h_M_tails h_M_chosen h_M_orders h_M_sizes cI cZ M_jobs M_many M_isPlanned M_least M_optima M_jobOf M_machineOf M_durations M_arcs M_drafts M_starts M_heads M_tails M_chosen M_orders M_sizes)) H := hP
          have hDx : va_D A ([] ++ (wM h_M h_M_jobOf h_M_machineOf h_M_durations h_M_arcs h_M_drafts h_M_starts h_M_heads h_M_tails h_M_chosen h_M_orders h_M_sizes cI cZ M_jobs M_many M_isPlanned M_least M_optima M_jobOf M_machineOf M_durations M_arcs M_drafts M_starts M_heads M_tails M_chosen M_orders M_sizes)) := hD
          refine kc_i (pc := 60) (w1 := (fun u : Unit => (wM h_M h_M_jobOf h_M_machineOf h_M_durations h_M_arcs h_M_drafts h_M_starts h_M_heads h_M_tails h_M_chosen h_M_orders h_M_sizes cI cZ M_jobs M_many M_isPlanned M_least M_optima M_jobOf M_machineOf M_durations M_arcs M_drafts M_starts M_heads M_tails M_chosen M_orders M_sizes))) (va_runV (As := [.ref h_M_arcs, .int x6_22, .int x7_34]) (rest := []) ⟨hx, hb, hml, hown, hts⟩ (c_X3_leads_a l dC dI h_M h_M_jobOf h_M_machineOf h_M_durations h_M_arcs h_M_drafts h_M_starts h_M_heads h_M_tails h_M_chosen h_M_orders h_M_sizes H.size cI cZ M_jobs M_many M_isPlanned M_least M_optima M_jobOf M_machineOf M_durations M_arcs M_drafts M_starts M_heads M_tails M_chosen M_orders M_sizes x6_22 x7_34 _ hw) (cwV 3 hts gX3_hasPath_X3_leads rfl rfl rfl (by decide +kernel) ⟨Nat.le_of_ble_eq_true rfl, Nat.le_of_ble_eq_true rfl⟩) (kc_preVM (q0 := 0) (ci := 3) hK hPx hDx [0, 1] rfl rfl rfl) rfl rfl hl.1 rfl (lv_room (Nat.le_of_ble_eq_true rfl)) dX3_hasPath_60 ⟨Nat.zero_le _, Nat.zero_le _⟩) hPx hDx hS hA (fun r_60 u H locs hw hP hD hS => ?_)
          have hP : va_P (dC, dI) vwCl (wM h_M h_M_jobOf h_M_machineOf h_M_durations h_M_arcs h_M_drafts h_M_starts h_M_heads h_M_tails h_M_chosen h_M_orders h_M_sizes cI cZ M_jobs M_many M_isPlanned M_least M_optima M_jobOf M_machineOf M_durations M_arcs M_drafts M_starts M_heads M_tails M_chosen M_orders M_sizes) H := hP
          have hD : va_D A (wM h_M h_M_jobOf h_M_machineOf h_M_durations h_M_arcs h_M_drafts h_M_starts h_M_heads h_M_tails h_M_chosen h_M_orders h_M_sizes cI cZ M_jobs M_many M_isPlanned M_least M_optima M_jobOf M_machineOf M_durations M_arcs M_drafts M_starts M_heads M_tails M_chosen M_orders M_sizes) := hD
          refine lv_if_eq (tgt := 76) (pc := 63) hx hb dX3_hasPath_63 (by decide) (fun c_6 => ?_) (fun c_6 => ?_)
          · have hw := hw.1 c_6
            refine lv_iload (pc := 76) hx hb dX3_hasPath_76 (lv_at hl 3 rfl) ?_
            refine lv_istore (lv' := [(4, .int x4_34), (0, .ref h_M), (1, .ref h_M_arcs), (3, .int a2), (5, .int x4_8), (6, .int x6_22), (7, .int x7_34)]) (pc := 78) hx hb dX3_hasPath_78 hl (by decide) rfl (fun ls hl => ?_)
            refine lv_iinc (v := x7_34 + 1) (lv' := [(7, .int (x7_34 + 1)), (4, .int x4_34), (0, .ref h_M), (1, .ref h_M_arcs), (3, .int a2), (5, .int x4_8), (6, .int x6_22)]) (pc := 80) hx hb dX3_hasPath_80 hl (k := 6) rfl rfl (by decide) rfl (fun ls hl => ?_)
            refine lv_goto (tgt := 34) (pc := 83) hx hb dX3_hasPath_83 (by decide) ?_
            exact ih_34 (x4_34, (x7_34 + 1)) _ _ _ hw.1 hw.2 ⟨hP, hD, hS, (lv_sub hl [2, 3, 4, 1, 5, 6, 0] rfl)⟩
          · have hw := hw.2 c_6
            refine lv_iload (pc := 66) hx hb dX3_hasPath_66 (lv_at hl 3 rfl) ?_
            refine lv_iconst (v := 1) (pc := 68) hx hb dX3_hasPath_68 (by decide) ?_
            refine lv_iload (pc := 69) hx hb dX3_hasPath_69 (lv_at hl 6 rfl) ?_
            refine lv_ishl (pc := 71) hx hb dX3_hasPath_71 ?_
            refine lv_ior (pc := 72) hx hb dX3_hasPath_72 ?_
            refine lv_goto (tgt := 78) (pc := 73) hx hb dX3_hasPath_73 (by decide) ?_
            refine lv_istore (lv' := [(4, .int (x4_34 ||| ((1 : Int32) <<< (x7_34 &&& 31)))), (0, .ref h_M), (1, .ref h_M_arcs), (3, .int a2), (5, .int x4_8), (6, .int x6_22), (7, .int x7_34)]) (pc := 78) hx hb dX3_hasPath_78 hl (by decide) rfl (fun ls hl => ?_)
            refine lv_iinc (v := x7_34 + 1) (lv' := [(7, .int (x7_34 + 1)), (4, .int (x4_34 ||| ((1 : Int32) <<< (x7_34 &&& 31)))), (0, .ref h_M), (1, .ref h_M_arcs), (3, .int a2), (5, .int x4_8), (6, .int x6_22)]) (pc := 80) hx hb dX3_hasPath_80 hl (k := 6) rfl rfl (by decide) rfl (fun ls hl => ?_)
            refine lv_goto (tgt := 34) (pc := 83) hx hb dX3_hasPath_83 (by decide) ?_
            exact ih_34 ((x4_34 ||| ((1 : Int32) <<< (x7_34 &&& 31))), (x7_34 + 1)) _ _ _ hw.1 hw.2 ⟨hP, hD, hS, (lv_sub hl [2, 3, 4, 1, 5, 6, 0] rfl)⟩
set_option maxHeartbeats 4000000 in
set_option maxRecDepth 100000 in
theorem c_X3_hasPath_c (l : Launch) (dC : Nat → ClassId) (dI : Nat → Nat → Nat) (h_M h_M_jobOf h_M_machineOf h_M_durations h_M_arcs h_M_drafts h_M_starts h_M_heads h_M_tails h_M_chosen h_M_orders h_M_sizes : Nat) (sz : Nat) (cI cZ : ClassId) (M_jobs : Int32) (M_many : Int32) (M_isPlanned : Int32) (M_least : Int32) (M_optima : Int32) (M_jobOf : Nat → Int32) (M_machineOf : Nat → Int32) (M_durations : Nat → Int32) (M_arcs : Nat → Int32) (M_drafts : Nat → Int32) (M_starts : Nat → Int32) (M_heads : Nat → Int32) (M_tails : Nat → Int32) (M_chosen : Nat → Int32) (M_orders : Nat → Int32) (M_sizes : Nat → Int32) (a1 a2 : Int32) (post : Int32 → Prop) (hw : wp_X3_hasPath M_many M_jobOf M_chosen a1 a2 post) : Met l yX3_hasPath wsX3_hasPath ({ frames := 2, cells := 0, slots := 0, locals := 45 }) (va_Pc [.ref h_M, .ref h_M_chosen, .int a1, .int a2] (fun U => U.heap.size = sz ∧ va_P (dC, dI) vwCl (wM h_M h_M_jobOf h_M_machineOf h_M_durations h_M_arcs h_M_drafts h_M_starts h_M_heads h_M_tails h_M_chosen h_M_orders h_M_sizes cI cZ M_jobs M_many M_isPlanned M_least M_optima M_jobOf M_machineOf M_durations M_arcs M_drafts M_starts M_heads M_tails M_chosen M_orders M_sizes) U.heap ∧ va_K (dC, dI) vwCl [(cI, .int), (cZ, .boolean)] U ∧ va_D (fun _ => True) (wM h_M h_M_jobOf h_M_machineOf h_M_durations h_M_arcs h_M_drafts h_M_starts h_M_heads h_M_tails h_M_chosen h_M_orders h_M_sizes cI cZ M_jobs M_many M_isPlanned M_least M_optima M_jobOf M_machineOf M_durations M_arcs M_drafts M_starts M_heads M_tails M_chosen M_orders M_sizes))) (va_Qi (fun (r : Int32) (u : Unit) => post r ) (fun u t => va_P (dC, dI) vwCl (wM h_M h_M_jobOf h_M_machineOf h_M_durations h_M_arcs h_M_drafts h_M_starts h_M_heads h_M_tails h_M_chosen h_M_orders h_M_sizes cI cZ M_jobs M_many M_isPlanned M_least M_optima M_jobOf M_machineOf M_durations M_arcs M_drafts M_starts M_heads M_tails M_chosen M_orders M_sizes) t.heap ∧ va_K (dC, dI) vwCl [(cI, .int), (cZ, .boolean)] t ∧ va_D (va_A (wM h_M h_M_jobOf h_M_machineOf h_M_durations h_M_arcs h_M_drafts h_M_starts h_M_heads h_M_tails h_M_chosen h_M_orders h_M_sizes cI cZ M_jobs M_many M_isPlanned M_least M_optima M_jobOf M_machineOf M_durations M_arcs M_drafts M_starts M_heads M_tails M_chosen M_orders M_sizes) sz) (wM h_M h_M_jobOf h_M_machineOf h_M_durations h_M_arcs h_M_drafts h_M_starts h_M_heads h_M_tails h_M_chosen h_M_orders h_M_sizes cI cZ M_jobs M_many M_isPlanned M_least M_optima M_jobOf M_machineOf M_durations M_arcs M_drafts M_starts M_heads M_tails M_chosen M_orders M_sizes)) (va_A (wM h_M h_M_jobOf h_M_machineOf h_M_durations h_M_arcs h_M_drafts h_M_starts h_M_heads h_M_tails h_M_chosen h_M_orders h_M_sizes cI cZ M_jobs M_many M_isPlanned M_least M_optima M_jobOf M_machineOf M_durations M_arcs M_drafts M_starts M_heads M_tails M_chosen M_orders M_sizes) sz)) 0 0 (va_A (wM h_M h_M_jobOf h_M_machineOf h_M_durations h_M_arcs h_M_drafts h_M_starts h_M_heads h_M_tails h_M_chosen h_M_orders h_M_sizes cI cZ M_jobs M_many M_isPlanned M_least M_optima M_jobOf M_machineOf M_durations M_arcs M_drafts M_starts M_heads M_tails M_chosen M_orders M_sizes) sz) := by
  refine Met.ofW (cc := cX3_hasPath) (maxL := 8) (ret := (some .boolean)) (by decide) rfl ?_
  intro p e s m args below meth c s₁ B hml hv
  obtain ⟨rfl, hsz, hP, hK, hD0⟩ := hv
  have hx := B.exec
  have hb := B.bytes
  have hr := B.returns
  have hts := atoms_spec (ws := wsX3_hasPath) B.pre
  have hown : s.vm.findClass RX3 = some m.cls := findClass_of_methodNamed B.named
  have hlocks := B.notSynchronized
  subst hsz
  have hD := hD0.self (sz := s.heap.size)
  generalize hAe : va_A (wM h_M h_M_jobOf h_M_machineOf h_M_durations h_M_arcs h_M_drafts h_M_starts h_M_heads h_M_tails h_M_chosen h_M_orders h_M_sizes cI cZ M_jobs M_many M_isPlanned M_least M_optima M_jobOf M_machineOf M_durations M_arcs M_drafts M_starts M_heads M_tails M_chosen M_orders M_sizes) s.heap.size = A at hD ⊢
  have hA : ∀ q : Nat, s.heap.size ≤ q → A q := fun q h => by rw [← hAe]; exact Or.inr h
  have hS : va_S A s.heap s.heap [] := va_S.rf
  have hP : va_P (dC, dI) vwCl (wM h_M h_M_jobOf h_M_machineOf h_M_durations h_M_arcs h_M_drafts h_M_starts h_M_heads h_M_tails h_M_chosen h_M_orders h_M_sizes cI cZ M_jobs M_many M_isPlanned M_least M_optima M_jobOf M_machineOf M_durations M_arcs M_drafts M_starts M_heads M_tails M_chosen M_orders M_sizes) s.heap := hP
  have hl := lv_entry ([.ref h_M, .ref h_M_chosen, .int a1, .int a2]) (n := 8) (Nat.le_of_ble_eq_true rfl)
  rw [lg_entry_eq]
  generalize (lg_sl ([.ref h_M, .ref h_M_chosen, .int a1, .int a2]) ++ List.replicate (8 - (lg_sl ([.ref h_M, .ref h_M_chosen, .int a1, .int a2])).length) Slot.unset).toArray = ls at hl ⊢
  have hl : lv_has ls 8 [(0, .ref h_M), (1, .ref h_M_chosen), (2, .int a1), (3, .int a2)] := hl
  obtain ⟨H, hH⟩ : ∃ H, H = s.heap := ⟨_, rfl⟩
  rw [← hH] at hP
  have hS : va_S A s.heap H [] := by rw [hH]; exact hS
  refine W_heap hH ?_
  unfold wp_X3_hasPath at hw
  have hin_X3 : ∀ w ∈ u_ws RX3 TX3 16, w ∈ wsX3_hasPath := by decide +kernel
  refine lv_iconst (v := 1) (pc := 0) hx hb dX3_hasPath_0 (by decide) ?_
  refine lv_iload_n (pc := 1) hx hb dX3_hasPath_1 rfl (lv_at hl 2 rfl) ?_
  refine lv_ishl (pc := 2) hx hb dX3_hasPath_2 ?_
  refine lv_istore (lv' := [(4, .int ((1 : Int32) <<< (a1 &&& 31))), (0, .ref h_M), (1, .ref h_M_chosen), (2, .int a1), (3, .int a2)]) (pc := 3) hx hb dX3_hasPath_3 hl (by decide) rfl (fun ls hl => ?_)
  refine lv_iconst (v := 0) (pc := 5) hx hb dX3_hasPath_5 (by decide) ?_
  refine lv_istore (lv' := [(5, .int 0), (4, .int ((1 : Int32) <<< (a1 &&& 31))), (0, .ref h_M), (1, .ref h_M_chosen), (2, .int a1), (3, .int a2)]) (pc := 6) hx hb dX3_hasPath_6 hl (by decide) rfl (fun ls hl => ?_)
  obtain ⟨I_8, μ_8, hI_8, hs_8⟩ := hw
  refine lp_W (I := fun z : Int32 × Int32 => I_8 z.1 z.2) (fun z => μ_8 z.1 z.2) (fun (z : Int32 × Int32) H locs ls => va_P (dC, dI) vwCl (wM h_M h_M_jobOf h_M_machineOf h_M_durations h_M_arcs h_M_drafts h_M_starts h_M_heads h_M_tails h_M_chosen h_M_orders h_M_sizes cI cZ M_jobs M_many M_isPlanned M_least M_optima M_jobOf M_machineOf M_durations M_arcs M_drafts M_starts M_heads M_tails M_chosen M_orders M_sizes) H ∧ va_D A (wM h_M h_M_jobOf h_M_machineOf h_M_durations h_M_arcs h_M_drafts h_M_starts h_M_heads h_M_tails h_M_chosen h_M_orders h_M_sizes cI cZ M_jobs M_many M_isPlanned M_least M_optima M_jobOf M_machineOf M_durations M_arcs M_drafts M_starts M_heads M_tails M_chosen M_orders M_sizes) ∧ va_S A s.heap H locs ∧ lv_has ls 8 [(0, .ref h_M), (1, .ref h_M_chosen), (3, .int a2), (4, .int z.1), (5, .int z.2)]) ?_ (((1 : Int32) <<< (a1 &&& 31)), 0) _ _ _ hI_8 ⟨hP, hD, hS, (lv_sub hl [2, 3, 5, 1, 0] rfl)⟩
  rintro ⟨x4_8, x5_8⟩ H locs ls hI ⟨hP, hD, hS, hl⟩ ih_8
  have hw := hs_8 x4_8 x5_8 hI
  have hP : va_P (dC, dI) vwCl (wM h_M h_M_jobOf h_M_machineOf h_M_durations h_M_arcs h_M_drafts h_M_starts h_M_heads h_M_tails h_M_chosen h_M_orders h_M_sizes cI cZ M_jobs M_many M_isPlanned M_least M_optima M_jobOf M_machineOf M_durations M_arcs M_drafts M_starts M_heads M_tails M_chosen M_orders M_sizes) H := hP
  have hD : va_D A (wM h_M h_M_jobOf h_M_machineOf h_M_durations h_M_arcs h_M_drafts h_M_starts h_M_heads h_M_tails h_M_chosen h_M_orders h_M_sizes cI cZ M_jobs M_many M_isPlanned M_least M_optima M_jobOf M_machineOf M_durations M_arcs M_drafts M_starts M_heads M_tails M_chosen M_orders M_sizes) := hD
  have hl : lv_has ls 8 [(0, .ref h_M), (1, .ref h_M_chosen), (3, .int a2), (4, .int x4_8), (5, .int x5_8)] := hl
  refine lv_iload (pc := 8) hx hb dX3_hasPath_8 (lv_at hl 4 rfl) ?_
  refine lv_iload (pc := 10) hx hb dX3_hasPath_10 (lv_at hl 3 rfl) ?_
  refine lv_icmp_eq (tgt := 95) (pc := 12) hx hb dX3_hasPath_12 (by decide) (fun c_1 => ?_) (fun c_1 => ?_)
  · have hw := hw.1 c_1
    refine lv_iload (pc := 95) hx hb dX3_hasPath_95 (lv_at hl 3 rfl) ?_
    refine lv_iload_n (pc := 97) hx hb dX3_hasPath_97 rfl (lv_at hl 2 rfl) ?_
    refine lv_ishr (pc := 98) hx hb dX3_hasPath_98 ?_
    refine lv_iconst (v := 1) (pc := 99) hx hb dX3_hasPath_99 (by decide) ?_
    refine lv_iand (pc := 100) hx hb dX3_hasPath_100 ?_
    refine lv_iconst (v := 1) (pc := 101) hx hb dX3_hasPath_101 (by decide) ?_
    refine lv_icmp_ne (tgt := 109) (pc := 102) hx hb dX3_hasPath_102 (by decide) (fun c_2 => ?_) (fun c_2 => ?_)
    · have hw := hw.1 c_2
      refine lv_iconst (v := 0) (pc := 109) hx hb dX3_hasPath_109 (by decide) ?_
      exact W.zret (v := 0) hx hb hr rfl (fun t ht hW => ⟨⟨0, (), rfl, hw, by rw [ht]; exact hP, va_K.moved hW.alike hK, hD⟩, hS.F ht⟩) hS.2.2 dX3_hasPath_110
    · have hw := hw.2 c_2
      refine lv_iconst (v := 1) (pc := 105) hx hb dX3_hasPath_105 (by decide) ?_
      refine lv_goto (tgt := 110) (pc := 106) hx hb dX3_hasPath_106 (by decide) ?_
      exact W.zret (v := 1) hx hb hr rfl (fun t ht hW => ⟨⟨1, (), rfl, hw, by rw [ht]; exact hP, va_K.moved hW.alike hK, hD⟩, hS.F ht⟩) hS.2.2 dX3_hasPath_110
  · have hw := hw.2 c_1
    refine lv_iload (pc := 15) hx hb dX3_hasPath_15 (lv_at hl 3 rfl) ?_
    refine lv_istore (lv' := [(5, .int x4_8), (0, .ref h_M), (1, .ref h_M_chosen), (3, .int a2), (4, .int x4_8)]) (pc := 17) hx hb dX3_hasPath_17 hl (by decide) rfl (fun ls hl => ?_)
    refine lv_iconst (v := 0) (pc := 19) hx hb dX3_hasPath_19 (by decide) ?_
    refine lv_istore (lv' := [(6, .int 0), (5, .int x4_8), (0, .ref h_M), (1, .ref h_M_chosen), (3, .int a2), (4, .int x4_8)]) (pc := 20) hx hb dX3_hasPath_20 hl (by decide) rfl (fun ls hl => ?_)
    obtain ⟨I_22, μ_22, hI_22, hs_22⟩ := hw
    refine lp_W (I := fun z : Int32 × Int32 => I_22 z.1 z.2) (fun z => μ_22 z.1 z.2) (fun (z : Int32 × Int32) H locs ls => va_P (dC, dI) vwCl (wM h_M h_M_jobOf h_M_machineOf h_M_durations h_M_arcs h_M_drafts h_M_starts h_M_heads h_M_tails h_M_chosen h_M_orders h_M_sizes cI cZ M_jobs M_many M_isPlanned M_least M_optima M_jobOf M_machineOf M_durations M_arcs M_drafts M_starts M_heads M_tails M_chosen M_orders M_sizes) H ∧ va_D A (wM h_M h_M_jobOf h_M_machineOf h_M_durations h_M_arcs h_M_drafts h_M_starts h_M_heads h_M_tails h_M_chosen h_M_orders h_M_sizes cI cZ M_jobs M_many M_isPlanned M_least M_optima M_jobOf M_machineOf M_durations M_arcs M_drafts M_starts M_heads M_tails M_chosen M_orders M_sizes) ∧ va_S A s.heap H locs ∧ lv_has ls 8 [(0, .ref h_M), (1, .ref h_M_chosen), (3, .int a2), (4, .int z.1), (5, .int x4_8), (6, .int z.2)]) ?_ (x4_8, 0) _ _ _ hI_22 ⟨hP, hD, hS, (lv_sub hl [2, 3, 4, 5, 1, 0] rfl)⟩
    rintro ⟨x4_22, x6_22⟩ H locs ls hI ⟨hP, hD, hS, hl⟩ ih_22
    have hw := hs_22 x4_22 x6_22 hI
    have hP : va_P (dC, dI) vwCl (wM h_M h_M_jobOf h_M_machineOf h_M_durations h_M_arcs h_M_drafts h_M_starts h_M_heads h_M_tails h_M_chosen h_M_orders h_M_sizes cI cZ M_jobs M_many M_isPlanned M_least M_optima M_jobOf M_machineOf M_durations M_arcs M_drafts M_starts M_heads M_tails M_chosen M_orders M_sizes) H := hP
    have hD : va_D A (wM h_M h_M_jobOf h_M_machineOf h_M_durations h_M_arcs h_M_drafts h_M_starts h_M_heads h_M_tails h_M_chosen h_M_orders h_M_sizes cI cZ M_jobs M_many M_isPlanned M_least M_optima M_jobOf M_machineOf M_durations M_arcs M_drafts M_starts M_heads M_tails M_chosen M_orders M_sizes) := hD
    have hl : lv_has ls 8 [(0, .ref h_M), (1, .ref h_M_chosen), (3, .int a2), (4, .int x4_22), (5, .int x4_8), (6, .int x6_22)] := hl
    refine lv_iload (pc := 22) hx hb dX3_hasPath_22 (lv_at hl 5 rfl) ?_
    refine lv_aload_n (pc := 24) hx hb dX3_hasPath_24 rfl (lv_at hl 0 rfl) ?_
    refine va_get (D := (dC, dI)) (ci := 3) (v := .int M_many) (C := RX3) (T := TX3) (N := 16) (pc := 25) hx hb hts hin_X3 hown hK hP 0 rfl rfl 1 (by decide) (hts (.fieldLink RX3 48 "JobShopModel" "many" "I") (by decide +kernel)) (fun _ h9 => h9) rfl dX3_hasPath_25 ?_
    refine lv_icmp_ge (tgt := 92) (pc := 28) hx hb dX3_hasPath_28 (by decide) (fun c_3 => ?_) (fun c_3 => ?_)
    · have hw := hw.1 c_3
      refine lv_goto (tgt := 8) (pc := 92) hx hb dX3_hasPath_92 (by decide) ?_
      exact ih_8 (x4_22, x4_8) _ _ _ hw.1 hw.2 ⟨hP, hD, hS, (lv_sub hl [0, 1, 2, 3, 4] rfl)⟩
    · have hw := hw.2 c_3
      refine lv_iconst (v := 0) (pc := 31) hx hb dX3_hasPath_31 (by decide) ?_
      refine lv_istore (lv' := [(7, .int 0), (0, .ref h_M), (1, .ref h_M_chosen), (3, .int a2), (4, .int x4_22), (5, .int x4_8), (6, .int x6_22)]) (pc := 32) hx hb dX3_hasPath_32 hl (by decide) rfl (fun ls hl => ?_)
      obtain ⟨I_34, μ_34, hI_34, hs_34⟩ := hw
      refine lp_W (I := fun z : Int32 × Int32 => I_34 z.1 z.2) (fun z => μ_34 z.1 z.2) (fun (z : Int32 × Int32) H locs ls => va_P (dC, dI) vwCl (wM h_M h_M_jobOf h_M_machineOf h_M_durations h_M_arcs h_M_drafts h_M_starts h_M_heads h_M_tails h_M_chosen h_M_orders h_M_sizes cI cZ M_jobs M_many M_isPlanned M_least M_optima M_jobOf M_machineOf M_durations M_arcs M_drafts M_starts M_heads M_tails M_chosen M_orders M_sizes) H ∧ va_D A (wM h_M h_M_jobOf h_M_machineOf h_M_durations h_M_arcs h_M_drafts h_M_starts h_M_heads h_M_tails h_M_chosen h_M_orders h_M_sizes cI cZ M_jobs M_many M_isPlanned M_least M_optima M_jobOf M_machineOf M_durations M_arcs M_drafts M_starts M_heads M_tails M_chosen M_orders M_sizes) ∧ va_S A s.heap H locs ∧ lv_has ls 8 [(0, .ref h_M), (1, .ref h_M_chosen), (3, .int a2), (4, .int z.1), (5, .int x4_8), (6, .int x6_22), (7, .int z.2)]) ?_ (x4_22, 0) _ _ _ hI_34 ⟨hP, hD, hS, (lv_sub hl [1, 2, 3, 4, 5, 6, 0] rfl)⟩
      rintro ⟨x4_34, x7_34⟩ H locs ls hI ⟨hP, hD, hS, hl⟩ ih_34
      have hw := hs_34 x4_34 x7_34 hI
      have hP : va_P (dC, dI) vwCl (wM h_M h_M_jobOf h_M_machineOf h_M_durations h_M_arcs h_M_drafts h_M_starts h_M_heads h_M_tails h_M_chosen h_M_orders h_M_sizes cI cZ M_jobs M_many M_isPlanned M_least M_optima M_jobOf M_machineOf M_durations M_arcs M_drafts M_starts M_heads M_tails M_chosen M_orders M_sizes) H := hP
      have hD : va_D A (wM h_M h_M_jobOf h_M_machineOf h_M_durations h_M_arcs h_M_drafts h_M_starts h_M_heads h_M_tails h_M_chosen h_M_orders h_M_sizes cI cZ M_jobs M_many M_isPlanned M_least M_optima M_jobOf M_machineOf M_durations M_arcs M_drafts M_starts M_heads M_tails M_chosen M_orders M_sizes) := hD
      have hl : lv_has ls 8 [(0, .ref h_M), (1, .ref h_M_chosen), (3, .int a2), (4, .int x4_34), (5, .int x4_8), (6, .int x6_22), (7, .int x7_34)] := hl
      refine lv_iload (pc := 34) hx hb dX3_hasPath_34 (lv_at hl 6 rfl) ?_
      refine lv_aload_n (pc := 36) hx hb dX3_hasPath_36 rfl (lv_at hl 0 rfl) ?_
      refine va_get (D := (dC, dI)) (ci := 3) (v := .int M_many) (C := RX3) (T := TX3) (N := 16) (pc := 37) hx hb hts hin_X3 hown hK hP 0 rfl rfl 1 (by decide) (hts (.fieldLink RX3 48 "JobShopModel" "many" "I") (by decide +kernel)) (fun _ h9 => h9) rfl dX3_hasPath_37 ?_
      refine lv_icmp_ge (tgt := 86) (pc := 40) hx hb dX3_hasPath_40 (by decide) (fun c_4 => ?_) (fun c_4 => ?_)
      · have hw := hw.1 c_4
        refine lv_iinc (v := x6_22 + 1) (lv' := [(6, .int (x6_22 + 1)), (0, .ref h_M), (1, .ref h_M_chosen), (3, .int a2), (4, .int x4_34), (5, .int x4_8), (7, .int x7_34)]) (pc := 86) hx hb dX3_hasPath_86 hl (k := 5) rfl rfl (by decide) rfl (fun ls hl => ?_)
        refine lv_goto (tgt := 22) (pc := 89) hx hb dX3_hasPath_89 (by decide) ?_
        exact ih_22 (x4_34, (x6_22 + 1)) _ _ _ hw.1 hw.2 ⟨hP, hD, hS, (lv_sub hl [1, 2, 3, 4, 5, 0] rfl)⟩
      · have hw := hw.2 c_4
        refine lv_iload (pc := 43) hx hb dX3_hasPath_43 (lv_at hl 3 rfl) ?_
        refine lv_iload (pc := 45) hx hb dX3_hasPath_45 (lv_at hl 5 rfl) ?_
        refine lv_ishr (pc := 47) hx hb dX3_hasPath_47 ?_
        refine lv_iconst (v := 1) (pc := 48) hx hb dX3_hasPath_48 (by decide) ?_
        refine lv_iand (pc := 49) hx hb dX3_hasPath_49 ?_
        refine lv_iconst (v := 1) (pc := 50) hx hb dX3_hasPath_50 (by decide) ?_
        refine lv_icmp_ne (tgt := 76) (pc := 51) hx hb dX3_hasPath_51 (by decide) (fun c_5 => ?_) (fun c_5 => ?_)
        · have hw := hw.1 c_5
          refine lv_iload (pc := 76) hx hb dX3_hasPath_76 (lv_at hl 3 rfl) ?_
          refine lv_istore (lv' := [(4, .int x4_34), (0, .ref h_M), (1, .ref h_M_chosen), (3, .int a2), (5, .int x4_8), (6, .int x6_22), (7, .int x7_34)]) (pc := 78) hx hb dX3_hasPath_78 hl (by decide) rfl (fun ls hl => ?_)
          refine lv_iinc (v := x7_34 + 1) (lv' := [(7, .int (x7_34 + 1)), (4, .int x4_34), (0, .ref h_M), (1, .ref h_M_chosen), (3, .int a2), (5, .int x4_8), (6, .int x6_22)]) (pc := 80) hx hb dX3_hasPath_80 hl (k := 6) rfl rfl (by decide) rfl (fun ls hl => ?_)
          refine lv_goto (tgt := 34) (pc := 83) hx hb dX3_hasPath_83 (by decide) ?_
          exact ih_34 (x4_34, (x7_34 + 1)) _ _ _ hw.1 hw.2 ⟨hP, hD, hS, (lv_sub hl [2, 3, 4, 1, 5, 6, 0] rfl)⟩
        · have hw := hw.2 c_5
          refine lv_aload_n (pc := 54) hx hb dX3_hasPath_54 rfl (lv_at hl 0 rfl) ?_
          refine lv_aload_n (pc := 55) hx hb dX3_hasPath_55 rfl (lv_at hl 1 rfl) ?_
          refine lv_iload (pc := 56) hx hb dX3_hasPath_56 (lv_at hl 5 rfl) ?_
          refine lv_iload (pc := 58) hx hb dX3_hasPath_58 (lv_at hl 6 rfl) ?_
          have hPx : va_P (dC, dI) vwCl ([] ++ (wM h_M h_M_jobOf h_M_machineOf h_M_durations h_M_arcs h_M_drafts h_M_starts h_M_heads h_M_tails h_M_chosen h_M_orders h_M_sizes cI cZ M_jobs M_many M_isPlanned M_least M_optima M_jobOf M_machineOf M_durations M_arcs M_drafts M_starts M_heads M_tails M_chosen M_orders M_sizes)) H := hP
          have hDx : va_D A ([] ++ (wM h_M h_M_jobOf h_M_machineOf h_M_durations h_M_arcs h_M_drafts h_M_starts h_M_heads h_M_tails h_M_chosen h_M_orders h_M_sizes cI cZ M_jobs M_many M_isPlanned M_least M_optima M_jobOf M_machineOf M_durations M_arcs M_drafts M_starts M_heads M_tails M_chosen M_orders M_sizes)) := hD
          refine kc_i (pc := 60) (w1 := (fun u : Unit => (wM h_M h_M_jobOf h_M_machineOf h_M_durations h_M_arcs h_M_drafts h_M_starts h_M_heads h_M_tails h_M_chosen h_M_orders h_M_sizes cI cZ M_jobs M_many M_isPlanned M_least M_optima M_jobOf M_machineOf M_durations M_arcs M_drafts M_starts M_heads M_tails M_chosen M_orders M_sizes))) (va_runV (As := [.ref h_M_chosen, .int x6_22, .int x7_34]) (rest := []) ⟨hx, hb, hml, hown, hts⟩ (c_X3_leads_c l dC dI h_M h_M_jobOf h_M_machineOf h_M_durations h_M_arcs h_M_drafts h_M_starts h_M_heads h_M_tails h_M_chosen h_M_orders h_M_sizes H.size cI cZ M_jobs M_many M_isPlanned M_least M_optima M_jobOf M_machineOf M_durations M_arcs M_drafts M_starts M_heads M_tails M_chosen M_orders M_sizes x6_22 x7_34 _ hw) (cwV 3 hts gX3_hasPath_X3_leads rfl rfl rfl (by decide +kernel) ⟨Nat.le_of_ble_eq_true rfl, Nat.le_of_ble_eq_true rfl⟩) (kc_preVM (q0 := 0) (ci := 3) hK hPx hDx [0, 1] rfl rfl rfl) rfl rfl hl.1 rfl (lv_room (Nat.le_of_ble_eq_true rfl)) dX3_hasPath_60 ⟨Nat.zero_le _, Nat.zero_le _⟩) hPx hDx hS hA (fun r_60 u H locs hw hP hD hS => ?_)
          have hP : va_P (dC, dI) vwCl (wM h_M h_M_jobOf h_M_machineOf h_M_durations h_M_arcs h_M_drafts h_M_starts h_M_heads h_M_tails h_M_chosen h_M_orders h_M_sizes cI cZ M_jobs M_many M_isPlanned M_least M_optima M_jobOf M_machineOf M_durations M_arcs M_drafts M_starts M_heads M_tails M_chosen M_orders M_sizes) H := hP
          have hD : va_D A (wM h_M h_M_jobOf h_M_machineOf h_M_durations h_M_arcs h_M_drafts h_M_starts h_M_heads h_M_tails h_M_chosen h_M_orders h_M_sizes cI cZ M_jobs M_many M_isPlanned M_least M_optima M_jobOf M_machineOf M_durations M_arcs M_drafts M_starts M_heads M_tails M_chosen M_orders M_sizes) := hD
          refine lv_if_eq (tgt := 76) (pc := 63) hx hb dX3_hasPath_63 (by decide) (fun c_6 => ?_) (fun c_6 => ?_)
          · have hw := hw.1 c_6
            refine lv_iload (pc := 76) hx hb dX3_hasPath_76 (lv_at hl 3 rfl) ?_
            refine lv_istore (lv' := [(4, .int x4_34), (0, .ref h_M), (1, .ref h_M_chosen), (3, .int a2), (5, .int x4_8), (6, .int x6_22), (7, .int x7_34)]) (pc := 78) hx hb dX3_hasPath_78 hl (by decide) rfl (fun ls hl => ?_)
            refine lv_iinc (v := x7_34 + 1) (lv' := [(7, .int (x7_34 + 1)), (4, .int x4_34), (0, .ref h_M), (1, .ref h_M_chosen), (3, .int a2), (5, .int x4_8), (6, .int x6_22)]) (pc := 80) hx hb dX3_hasPath_80 hl (k := 6) rfl rfl (by decide) rfl (fun ls hl => ?_)
            refine lv_goto (tgt := 34) (pc := 83) hx hb dX3_hasPath_83 (by decide) ?_
            exact ih_34 (x4_34, (x7_34 + 1)) _ _ _ hw.1 hw.2 ⟨hP, hD, hS, (lv_sub hl [2, 3, 4, 1, 5, 6, 0] rfl)⟩
          · have hw := hw.2 c_6
            refine lv_iload (pc := 66) hx hb dX3_hasPath_66 (lv_at hl 3 rfl) ?_
            refine lv_iconst (v := 1) (pc := 68) hx hb dX3_hasPath_68 (by decide) ?_
            refine lv_iload (pc := 69) hx hb dX3_hasPath_69 (lv_at hl 6 rfl) ?_
            refine lv_ishl (pc := 71) hx hb dX3_hasPath_71 ?_
            refine lv_ior (pc := 72) hx hb dX3_hasPath_72 ?_
            refine lv_goto (tgt := 78) (pc := 73) hx hb dX3_hasPath_73 (by decide) ?_
            refine lv_istore (lv' := [(4, .int (x4_34 ||| ((1 : Int32) <<< (x7_34 &&& 31)))), (0, .ref h_M), (1, .ref h_M_chosen), (3, .int a2), (5, .int x4_8), (6, .int x6_22), (7, .int x7_34)]) (pc := 78) hx hb dX3_hasPath_78 hl (by decide) rfl (fun ls hl => ?_)
            refine lv_iinc (v := x7_34 + 1) (lv' := [(7, .int (x7_34 + 1)), (4, .int (x4_34 ||| ((1 : Int32) <<< (x7_34 &&& 31)))), (0, .ref h_M), (1, .ref h_M_chosen), (3, .int a2), (5, .int x4_8), (6, .int x6_22)]) (pc := 80) hx hb dX3_hasPath_80 hl (k := 6) rfl rfl (by decide) rfl (fun ls hl => ?_)
            refine lv_goto (tgt := 34) (pc := 83) hx hb dX3_hasPath_83 (by decide) ?_
            exact ih_34 ((x4_34 ||| ((1 : Int32) <<< (x7_34 &&& 31))), (x7_34 + 1)) _ _ _ hw.1 hw.2 ⟨hP, hD, hS, (lv_sub hl [2, 3, 4, 1, 5, 6, 0] rfl)⟩
set_option maxHeartbeats 4000000 in
set_option maxRecDepth 100000 in
theorem c_X3_before (l : Launch) (dC : Nat → ClassId) (dI : Nat → Nat → Nat) (h_M h_M_jobOf h_M_machineOf h_M_durations h_M_arcs h_M_drafts h_M_starts h_M_heads h_M_tails h_M_chosen h_M_orders h_M_sizes : Nat) (sz : Nat) (cI cZ : ClassId) (M_jobs : Int32) (M_many : Int32) (M_isPlanned : Int32) (M_least : Int32) (M_optima : Int32) (M_jobOf : Nat → Int32) (M_machineOf : Nat → Int32) (M_durations : Nat → Int32) (M_arcs : Nat → Int32) (M_drafts : Nat → Int32) (M_starts : Nat → Int32) (M_heads : Nat → Int32) (M_tails : Nat → Int32) (M_chosen : Nat → Int32) (M_orders : Nat → Int32) (M_sizes : Nat → Int32) (a0 a1 : Int32) (post : Int32 → Int32 → (Nat → Int32) → Prop) (hw : wp_X3_before M_many M_isPlanned M_jobOf M_machineOf M_arcs a0 a1 post) : Met l yX3_before wsX3_before ({ frames := 3, cells := 0, slots := 0, locals := 72 }) (va_Pc [.ref h_M, .int a0, .int a1] (fun U => U.heap.size = sz ∧ va_P (dC, dI) vwCl (wM h_M h_M_jobOf h_M_machineOf h_M_durations h_M_arcs h_M_drafts h_M_starts h_M_heads h_M_tails h_M_chosen h_M_orders h_M_sizes cI cZ M_jobs M_many M_isPlanned M_least M_optima M_jobOf M_machineOf M_durations M_arcs M_drafts M_starts M_heads M_tails M_chosen M_orders M_sizes) U.heap ∧ va_K (dC, dI) vwCl [(cI, .int), (cZ, .boolean)] U ∧ va_D (fun _ => True) (wM h_M h_M_jobOf h_M_machineOf h_M_durations h_M_arcs h_M_drafts h_M_starts h_M_heads h_M_tails h_M_chosen h_M_orders h_M_sizes cI cZ M_jobs M_many M_isPlanned M_least M_optima M_jobOf M_machineOf M_durations M_arcs M_drafts M_starts M_heads M_tails M_chosen M_orders M_sizes))) (va_Qi (fun (r : Int32) (u : Int32 × (Nat → Int32)) => post r u.1 u.2) (fun u t => va_P (dC, dI) vwCl (wM h_M h_M_jobOf h_M_machineOf h_M_durations h_M_arcs h_M_drafts h_M_starts h_M_heads h_M_tails h_M_chosen h_M_orders h_M_sizes cI cZ M_jobs M_many u.1 M_least M_optima M_jobOf M_machineOf M_durations u.2 M_drafts M_starts M_heads M_tails M_chosen M_orders M_sizes) t.heap ∧ va_K (dC, dI) vwCl [(cI, .int), (cZ, .boolean)] t ∧ va_D (va_A (wM h_M h_M_jobOf h_M_machineOf h_M_durations h_M_arcs h_M_drafts h_M_starts h_M_heads h_M_tails h_M_chosen h_M_orders h_M_sizes cI cZ M_jobs M_many M_isPlanned M_least M_optima M_jobOf M_machineOf M_durations M_arcs M_drafts M_starts M_heads M_tails M_chosen M_orders M_sizes) sz) (wM h_M h_M_jobOf h_M_machineOf h_M_durations h_M_arcs h_M_drafts h_M_starts h_M_heads h_M_tails h_M_chosen h_M_orders h_M_sizes cI cZ M_jobs M_many u.1 M_least M_optima M_jobOf M_machineOf M_durations u.2 M_drafts M_starts M_heads M_tails M_chosen M_orders M_sizes)) (va_A (wM h_M h_M_jobOf h_M_machineOf h_M_durations h_M_arcs h_M_drafts h_M_starts h_M_heads h_M_tails h_M_chosen h_M_orders h_M_sizes cI cZ M_jobs M_many M_isPlanned M_least M_optima M_jobOf M_machineOf M_durations M_arcs M_drafts M_starts M_heads M_tails M_chosen M_orders M_sizes) sz)) 0 0 (va_A (wM h_M h_M_jobOf h_M_machineOf h_M_durations h_M_arcs h_M_drafts h_M_starts h_M_heads h_M_tails h_M_chosen h_M_orders h_M_sizes cI cZ M_jobs M_many M_isPlanned M_least M_optima M_jobOf M_machineOf M_durations M_arcs M_drafts M_starts M_heads M_tails M_chosen M_orders M_sizes) sz) := by
  refine Met.ofW (cc := cX3_before) (maxL := 3) (ret := (some .int)) (by decide) rfl ?_
  intro p e s m args below meth c s₁ B hml hv
  obtain ⟨rfl, hsz, hP, hK, hD0⟩ := hv
  have hx := B.exec
  have hb := B.bytes
  have hr := B.returns
  have hts := atoms_spec (ws := wsX3_before) B.pre
  have hown : s.vm.findClass RX3 = some m.cls := findClass_of_methodNamed B.named
  have hlocks := B.notSynchronized
  subst hsz
  have hD := hD0.self (sz := s.heap.size)
  generalize hAe : va_A (wM h_M h_M_jobOf h_M_machineOf h_M_durations h_M_arcs h_M_drafts h_M_starts h_M_heads h_M_tails h_M_chosen h_M_orders h_M_sizes cI cZ M_jobs M_many M_isPlanned M_least M_optima M_jobOf M_machineOf M_durations M_arcs M_drafts M_starts M_heads M_tails M_chosen M_orders M_sizes) s.heap.size = A at hD ⊢
  have hA : ∀ q : Nat, s.heap.size ≤ q → A q := fun q h => by rw [← hAe]; exact Or.inr h
  have hS : va_S A s.heap s.heap [] := va_S.rf
  have hP : va_P (dC, dI) vwCl (wM h_M h_M_jobOf h_M_machineOf h_M_durations h_M_arcs h_M_drafts h_M_starts h_M_heads h_M_tails h_M_chosen h_M_orders h_M_sizes cI cZ M_jobs M_many M_isPlanned M_least M_optima M_jobOf M_machineOf M_durations M_arcs M_drafts M_starts M_heads M_tails M_chosen M_orders M_sizes) s.heap := hP
  have hl := lv_entry ([.ref h_M, .int a0, .int a1]) (n := 3) (Nat.le_of_ble_eq_true rfl)
  rw [lg_entry_eq]
  generalize (lg_sl ([.ref h_M, .int a0, .int a1]) ++ List.replicate (3 - (lg_sl ([.ref h_M, .int a0, .int a1])).length) Slot.unset).toArray = ls at hl ⊢
  have hl : lv_has ls 3 [(0, .ref h_M), (1, .int a0), (2, .int a1)] := hl
  obtain ⟨H, hH⟩ : ∃ H, H = s.heap := ⟨_, rfl⟩
  rw [← hH] at hP
  have hS : va_S A s.heap H [] := by rw [hH]; exact hS
  refine W_heap hH ?_
  unfold wp_X3_before at hw
  have hin_X3 : ∀ w ∈ u_ws RX3 TX3 16, w ∈ wsX3_before := by decide +kernel
  refine lv_aload_n (pc := 0) hx hb dX3_before_0 rfl (lv_at hl 0 rfl) ?_
  refine lv_iload_n (pc := 1) hx hb dX3_before_1 rfl (lv_at hl 1 rfl) ?_
  refine lv_iload_n (pc := 2) hx hb dX3_before_2 rfl (lv_at hl 2 rfl) ?_
  have hPx : va_P (dC, dI) vwCl ([] ++ (wM h_M h_M_jobOf h_M_machineOf h_M_durations h_M_arcs h_M_drafts h_M_starts h_M_heads h_M_tails h_M_chosen h_M_orders h_M_sizes cI cZ M_jobs M_many M_isPlanned M_least M_optima M_jobOf M_machineOf M_durations M_arcs M_drafts M_starts M_heads M_tails M_chosen M_orders M_sizes)) H := hP
  have hDx : va_D A ([] ++ (wM h_M h_M_jobOf h_M_machineOf h_M_durations h_M_arcs h_M_drafts h_M_starts h_M_heads h_M_tails h_M_chosen h_M_orders h_M_sizes cI cZ M_jobs M_many M_isPlanned M_least M_optima M_jobOf M_machineOf M_durations M_arcs M_drafts M_starts M_heads M_tails M_chosen M_orders M_sizes)) := hD
  refine kc_i (pc := 3) (w1 := (fun u : Unit => (wM h_M h_M_jobOf h_M_machineOf h_M_durations h_M_arcs h_M_drafts h_M_starts h_M_heads h_M_tails h_M_chosen h_M_orders h_M_sizes cI cZ M_jobs M_many M_isPlanned M_least M_optima M_jobOf M_machineOf M_durations M_arcs M_drafts M_starts M_heads M_tails M_chosen M_orders M_sizes))) (va_runV (As := [.int a0, .int a1]) (rest := []) ⟨hx, hb, hml, hown, hts⟩ (c_X3_isPair l dC dI h_M h_M_jobOf h_M_machineOf h_M_durations h_M_arcs h_M_drafts h_M_starts h_M_heads h_M_tails h_M_chosen h_M_orders h_M_sizes H.size cI cZ M_jobs M_many M_isPlanned M_least M_optima M_jobOf M_machineOf M_durations M_arcs M_drafts M_starts M_heads M_tails M_chosen M_orders M_sizes a0 a1 _ hw) (cwV 2 hts gX3_before_X3_isPair rfl rfl rfl (by decide +kernel) ⟨Nat.le_of_ble_eq_true rfl, Nat.le_of_ble_eq_true rfl⟩) (kc_preVM (q0 := 0) (ci := 3) hK hPx hDx [0, 1] rfl rfl rfl) rfl rfl hl.1 rfl (lv_room (Nat.le_of_ble_eq_true rfl)) dX3_before_3 ⟨Nat.zero_le _, Nat.zero_le _⟩) hPx hDx hS hA (fun r_3 u H locs hw hP hD hS => ?_)
  have hP : va_P (dC, dI) vwCl (wM h_M h_M_jobOf h_M_machineOf h_M_durations h_M_arcs h_M_drafts h_M_starts h_M_heads h_M_tails h_M_chosen h_M_orders h_M_sizes cI cZ M_jobs M_many M_isPlanned M_least M_optima M_jobOf M_machineOf M_durations M_arcs M_drafts M_starts M_heads M_tails M_chosen M_orders M_sizes) H := hP
  have hD : va_D A (wM h_M h_M_jobOf h_M_machineOf h_M_durations h_M_arcs h_M_drafts h_M_starts h_M_heads h_M_tails h_M_chosen h_M_orders h_M_sizes cI cZ M_jobs M_many M_isPlanned M_least M_optima M_jobOf M_machineOf M_durations M_arcs M_drafts M_starts M_heads M_tails M_chosen M_orders M_sizes) := hD
  refine lv_if_ne (tgt := 12) (pc := 6) hx hb dX3_before_6 (by decide) (fun c_1 => ?_) (fun c_1 => ?_)
  · have hw := hw.1 c_1
    refine lv_aload_n (pc := 12) hx hb dX3_before_12 rfl (lv_at hl 0 rfl) ?_
    refine lv_aload_n (pc := 13) hx hb dX3_before_13 rfl (lv_at hl 0 rfl) ?_
    refine va_get (D := (dC, dI)) (ci := 3) (v := .ref h_M_arcs) (C := RX3) (T := TX3) (N := 16) (pc := 14) hx hb hts hin_X3 hown hK hP 0 rfl rfl 5 (by decide) (hts (.fieldLink RX3 19 "JobShopModel" "arcs" "[Z") (by decide +kernel)) (fun _ h9 => h9) rfl dX3_before_14 ?_
    refine lv_iload_n (pc := 17) hx hb dX3_before_17 rfl (lv_at hl 2 rfl) ?_
    refine lv_iload_n (pc := 18) hx hb dX3_before_18 rfl (lv_at hl 1 rfl) ?_
    have hPx : va_P (dC, dI) vwCl ([] ++ (wM h_M h_M_jobOf h_M_machineOf h_M_durations h_M_arcs h_M_drafts h_M_starts h_M_heads h_M_tails h_M_chosen h_M_orders h_M_sizes cI cZ M_jobs M_many M_isPlanned M_least M_optima M_jobOf M_machineOf M_durations M_arcs M_drafts M_starts M_heads M_tails M_chosen M_orders M_sizes)) H := hP
    have hDx : va_D A ([] ++ (wM h_M h_M_jobOf h_M_machineOf h_M_durations h_M_arcs h_M_drafts h_M_starts h_M_heads h_M_tails h_M_chosen h_M_orders h_M_sizes cI cZ M_jobs M_many M_isPlanned M_least M_optima M_jobOf M_machineOf M_durations M_arcs M_drafts M_starts M_heads M_tails M_chosen M_orders M_sizes)) := hD
    refine kc_i (pc := 19) (w1 := (fun u : Unit => (wM h_M h_M_jobOf h_M_machineOf h_M_durations h_M_arcs h_M_drafts h_M_starts h_M_heads h_M_tails h_M_chosen h_M_orders h_M_sizes cI cZ M_jobs M_many M_isPlanned M_least M_optima M_jobOf M_machineOf M_durations M_arcs M_drafts M_starts M_heads M_tails M_chosen M_orders M_sizes))) (va_runV (As := [.ref h_M_arcs, .int a1, .int a0]) (rest := []) ⟨hx, hb, hml, hown, hts⟩ (c_X3_hasPath_a l dC dI h_M h_M_jobOf h_M_machineOf h_M_durations h_M_arcs h_M_drafts h_M_starts h_M_heads h_M_tails h_M_chosen h_M_orders h_M_sizes H.size cI cZ M_jobs M_many M_isPlanned M_least M_optima M_jobOf M_machineOf M_durations M_arcs M_drafts M_starts M_heads M_tails M_chosen M_orders M_sizes a1 a0 _ hw) (cwV 3 hts gX3_before_X3_hasPath rfl rfl rfl (by decide +kernel) ⟨Nat.le_of_ble_eq_true rfl, Nat.le_of_ble_eq_true rfl⟩) (kc_preVM (q0 := 0) (ci := 3) hK hPx hDx [0, 1] rfl rfl rfl) rfl rfl hl.1 rfl (lv_room (Nat.le_of_ble_eq_true rfl)) dX3_before_19 ⟨Nat.zero_le _, Nat.zero_le _⟩) hPx hDx hS hA (fun r_19 u H locs hw hP hD hS => ?_)
    have hP : va_P (dC, dI) vwCl (wM h_M h_M_jobOf h_M_machineOf h_M_durations h_M_arcs h_M_drafts h_M_starts h_M_heads h_M_tails h_M_chosen h_M_orders h_M_sizes cI cZ M_jobs M_many M_isPlanned M_least M_optima M_jobOf M_machineOf M_durations M_arcs M_drafts M_starts M_heads M_tails M_chosen M_orders M_sizes) H := hP
    have hD : va_D A (wM h_M h_M_jobOf h_M_machineOf h_M_durations h_M_arcs h_M_drafts h_M_starts h_M_heads h_M_tails h_M_chosen h_M_orders h_M_sizes cI cZ M_jobs M_many M_isPlanned M_least M_optima M_jobOf M_machineOf M_durations M_arcs M_drafts M_starts M_heads M_tails M_chosen M_orders M_sizes) := hD
    refine lv_if_eq (tgt := 28) (pc := 22) hx hb dX3_before_22 (by decide) (fun c_2 => ?_) (fun c_2 => ?_)
    · have hw := hw.1 c_2
      refine lv_aload_n (pc := 28) hx hb dX3_before_28 rfl (lv_at hl 0 rfl) ?_
      refine va_get (D := (dC, dI)) (ci := 3) (v := .ref h_M_arcs) (C := RX3) (T := TX3) (N := 16) (pc := 29) hx hb hts hin_X3 hown hK hP 0 rfl rfl 5 (by decide) (hts (.fieldLink RX3 19 "JobShopModel" "arcs" "[Z") (by decide +kernel)) (fun _ h9 => h9) rfl dX3_before_29 ?_
      refine lv_bipush (v := 12) (pc := 32) hx hb dX3_before_32 (by decide) ?_
      refine lv_iload_n (pc := 34) hx hb dX3_before_34 rfl (lv_at hl 1 rfl) ?_
      refine lv_imul (pc := 35) hx hb dX3_before_35 ?_
      refine lv_iload_n (pc := 36) hx hb dX3_before_36 rfl (lv_at hl 2 rfl) ?_
      refine lv_iadd (pc := 37) hx hb dX3_before_37 ?_
      obtain ⟨b_3, hw⟩ := hw
      refine va_zald (pc := 38) hx hb hK hP 4 1 rfl rfl b_3 dX3_before_38 ?_
      refine lv_if_eq (tgt := 44) (pc := 39) hx hb dX3_before_39 (by decide) (fun c_4 => ?_) (fun c_4 => ?_)
      · have hw := hw.1 c_4
        refine lv_aload_n (pc := 44) hx hb dX3_before_44 rfl (lv_at hl 0 rfl) ?_
        refine va_get (D := (dC, dI)) (ci := 3) (v := .ref h_M_arcs) (C := RX3) (T := TX3) (N := 16) (pc := 45) hx hb hts hin_X3 hown hK hP 0 rfl rfl 5 (by decide) (hts (.fieldLink RX3 19 "JobShopModel" "arcs" "[Z") (by decide +kernel)) (fun _ h9 => h9) rfl dX3_before_45 ?_
        refine lv_bipush (v := 12) (pc := 48) hx hb dX3_before_48 (by decide) ?_
        refine lv_iload_n (pc := 50) hx hb dX3_before_50 rfl (lv_at hl 1 rfl) ?_
        refine lv_imul (pc := 51) hx hb dX3_before_51 ?_
        refine lv_iload_n (pc := 52) hx hb dX3_before_52 rfl (lv_at hl 2 rfl) ?_
        refine lv_iadd (pc := 53) hx hb dX3_before_53 ?_
        refine lv_iconst (v := 1) (pc := 54) hx hb dX3_before_54 (by decide) ?_
        obtain ⟨b_5, hw⟩ := hw
        refine va_zast (pc := 55) hx hb hK hP hD hS 4 1 rfl rfl b_5 dX3_before_55 (fun H locs hP hD hS => ?_)
        have hP : va_P (dC, dI) vwCl (wM h_M h_M_jobOf h_M_machineOf h_M_durations h_M_arcs h_M_drafts h_M_starts h_M_heads h_M_tails h_M_chosen h_M_orders h_M_sizes cI cZ M_jobs M_many M_isPlanned M_least M_optima M_jobOf M_machineOf M_durations (upd M_arcs ((12 * a0) + a1).toNatClampNeg (vp_nar .boolean 1)) M_drafts M_starts M_heads M_tails M_chosen M_orders M_sizes) H := hP
        have hD : va_D A (wM h_M h_M_jobOf h_M_machineOf h_M_durations h_M_arcs h_M_drafts h_M_starts h_M_heads h_M_tails h_M_chosen h_M_orders h_M_sizes cI cZ M_jobs M_many M_isPlanned M_least M_optima M_jobOf M_machineOf M_durations (upd M_arcs ((12 * a0) + a1).toNatClampNeg (vp_nar .boolean 1)) M_drafts M_starts M_heads M_tails M_chosen M_orders M_sizes) := hD
        refine lv_aload_n (pc := 56) hx hb dX3_before_56 rfl (lv_at hl 0 rfl) ?_
        have hPx : va_P (dC, dI) vwCl ([] ++ (wM h_M h_M_jobOf h_M_machineOf h_M_durations h_M_arcs h_M_drafts h_M_starts h_M_heads h_M_tails h_M_chosen h_M_orders h_M_sizes cI cZ M_jobs M_many M_isPlanned M_least M_optima M_jobOf M_machineOf M_durations (upd M_arcs ((12 * a0) + a1).toNatClampNeg (vp_nar .boolean 1)) M_drafts M_starts M_heads M_tails M_chosen M_orders M_sizes)) H := hP
        have hDx : va_D A ([] ++ (wM h_M h_M_jobOf h_M_machineOf h_M_durations h_M_arcs h_M_drafts h_M_starts h_M_heads h_M_tails h_M_chosen h_M_orders h_M_sizes cI cZ M_jobs M_many M_isPlanned M_least M_optima M_jobOf M_machineOf M_durations (upd M_arcs ((12 * a0) + a1).toNatClampNeg (vp_nar .boolean 1)) M_drafts M_starts M_heads M_tails M_chosen M_orders M_sizes)) := hD
        refine kc_v (pc := 57) (w1 := (fun u : Int32 => (wM h_M h_M_jobOf h_M_machineOf h_M_durations h_M_arcs h_M_drafts h_M_starts h_M_heads h_M_tails h_M_chosen h_M_orders h_M_sizes cI cZ M_jobs M_many u M_least M_optima M_jobOf M_machineOf M_durations (upd M_arcs ((12 * a0) + a1).toNatClampNeg (vp_nar .boolean 1)) M_drafts M_starts M_heads M_tails M_chosen M_orders M_sizes))) (va_runV (As := []) (rest := []) ⟨hx, hb, hml, hown, hts⟩ (c_X3_forget l dC dI h_M h_M_jobOf h_M_machineOf h_M_durations h_M_arcs h_M_drafts h_M_starts h_M_heads h_M_tails h_M_chosen h_M_orders h_M_sizes H.size cI cZ M_jobs M_many M_isPlanned M_least M_optima M_jobOf M_machineOf M_durations (upd M_arcs ((12 * a0) + a1).toNatClampNeg (vp_nar .boolean 1)) M_drafts M_starts M_heads M_tails M_chosen M_orders M_sizes _ hw) (cwV 0 hts gX3_before_X3_forget rfl rfl rfl (by decide +kernel) ⟨Nat.le_of_ble_eq_true rfl, Nat.le_of_ble_eq_true rfl⟩) (kc_preVM (q0 := 0) (ci := 3) hK hPx hDx [0, 1] rfl rfl rfl) rfl rfl hl.1 rfl (lv_room (Nat.le_of_ble_eq_true rfl)) dX3_before_57 ⟨Nat.zero_le _, Nat.zero_le _⟩) hPx hDx hS hA (fun u H locs hw hP hD hS => ?_)
        obtain ⟨M_isPlanned_57, rfl⟩ : ∃ z, z = u := ⟨_, rfl⟩
        have hP : va_P (dC, dI) vwCl (wM h_M h_M_jobOf h_M_machineOf h_M_durations h_M_arcs h_M_drafts h_M_starts h_M_heads h_M_tails h_M_chosen h_M_orders h_M_sizes cI cZ M_jobs M_many M_isPlanned_57 M_least M_optima M_jobOf M_machineOf M_durations (upd M_arcs ((12 * a0) + a1).toNatClampNeg (vp_nar .boolean 1)) M_drafts M_starts M_heads M_tails M_chosen M_orders M_sizes) H := hP
        have hD : va_D A (wM h_M h_M_jobOf h_M_machineOf h_M_durations h_M_arcs h_M_drafts h_M_starts h_M_heads h_M_tails h_M_chosen h_M_orders h_M_sizes cI cZ M_jobs M_many M_isPlanned_57 M_least M_optima M_jobOf M_machineOf M_durations (upd M_arcs ((12 * a0) + a1).toNatClampNeg (vp_nar .boolean 1)) M_drafts M_starts M_heads M_tails M_chosen M_orders M_sizes) := hD
        refine lv_iconst (v := 1) (pc := 60) hx hb dX3_before_60 (by decide) ?_
        exact W.iret (v := 1) hx hb hr (fun t ht hW => ⟨⟨1, (M_isPlanned_57, (upd M_arcs ((12 * a0) + a1).toNatClampNeg (vp_nar .boolean 1))), rfl, hw, by rw [ht]; exact hP, va_K.moved hW.alike hK, hD⟩, hS.F ht⟩) hS.2.2 dX3_before_61
      · have hw := hw.2 c_4
        refine lv_iconst (v := 0) (pc := 42) hx hb dX3_before_42 (by decide) ?_
        exact W.iret (v := 0) hx hb hr (fun t ht hW => ⟨⟨0, (M_isPlanned, M_arcs), rfl, hw, by rw [ht]; exact hP, va_K.moved hW.alike hK, hD⟩, hS.F ht⟩) hS.2.2 dX3_before_43
    · have hw := hw.2 c_2
      refine lv_bipush (v := (-4)) (pc := 25) hx hb dX3_before_25 (by decide) ?_
      exact W.iret (v := (-4)) hx hb hr (fun t ht hW => ⟨⟨(-4), (M_isPlanned, M_arcs), rfl, hw, by rw [ht]; exact hP, va_K.moved hW.alike hK, hD⟩, hS.F ht⟩) hS.2.2 dX3_before_27
  · have hw := hw.2 c_1
    refine lv_bipush (v := (-2)) (pc := 9) hx hb dX3_before_9 (by decide) ?_
    exact W.iret (v := (-2)) hx hb hr (fun t ht hW => ⟨⟨(-2), (M_isPlanned, M_arcs), rfl, hw, by rw [ht]; exact hP, va_K.moved hW.alike hK, hD⟩, hS.F ht⟩) hS.2.2 dX3_before_11
set_option maxHeartbeats 4000000 in
set_option maxRecDepth 100000 in
theorem c_X3_free (l : Launch) (dC : Nat → ClassId) (dI : Nat → Nat → Nat) (h_M h_M_jobOf h_M_machineOf h_M_durations h_M_arcs h_M_drafts h_M_starts h_M_heads h_M_tails h_M_chosen h_M_orders h_M_sizes : Nat) (sz : Nat) (cI cZ : ClassId) (M_jobs : Int32) (M_many : Int32) (M_isPlanned : Int32) (M_least : Int32) (M_optima : Int32) (M_jobOf : Nat → Int32) (M_machineOf : Nat → Int32) (M_durations : Nat → Int32) (M_arcs : Nat → Int32) (M_drafts : Nat → Int32) (M_starts : Nat → Int32) (M_heads : Nat → Int32) (M_tails : Nat → Int32) (M_chosen : Nat → Int32) (M_orders : Nat → Int32) (M_sizes : Nat → Int32) (a0 a1 : Int32) (post : Int32 → Int32 → (Nat → Int32) → Prop) (hw : wp_X3_free M_many M_isPlanned M_machineOf M_arcs a0 a1 post) : Met l yX3_free wsX3_free ({ frames := 3, cells := 0, slots := 0, locals := 65 }) (va_Pc [.ref h_M, .int a0, .int a1] (fun U => U.heap.size = sz ∧ va_P (dC, dI) vwCl (wM h_M h_M_jobOf h_M_machineOf h_M_durations h_M_arcs h_M_drafts h_M_starts h_M_heads h_M_tails h_M_chosen h_M_orders h_M_sizes cI cZ M_jobs M_many M_isPlanned M_least M_optima M_jobOf M_machineOf M_durations M_arcs M_drafts M_starts M_heads M_tails M_chosen M_orders M_sizes) U.heap ∧ va_K (dC, dI) vwCl [(cI, .int), (cZ, .boolean)] U ∧ va_D (fun _ => True) (wM h_M h_M_jobOf h_M_machineOf h_M_durations h_M_arcs h_M_drafts h_M_starts h_M_heads h_M_tails h_M_chosen h_M_orders h_M_sizes cI cZ M_jobs M_many M_isPlanned M_least M_optima M_jobOf M_machineOf M_durations M_arcs M_drafts M_starts M_heads M_tails M_chosen M_orders M_sizes))) (va_Qi (fun (r : Int32) (u : Int32 × (Nat → Int32)) => post r u.1 u.2) (fun u t => va_P (dC, dI) vwCl (wM h_M h_M_jobOf h_M_machineOf h_M_durations h_M_arcs h_M_drafts h_M_starts h_M_heads h_M_tails h_M_chosen h_M_orders h_M_sizes cI cZ M_jobs M_many u.1 M_least M_optima M_jobOf M_machineOf M_durations u.2 M_drafts M_starts M_heads M_tails M_chosen M_orders M_sizes) t.heap ∧ va_K (dC, dI) vwCl [(cI, .int), (cZ, .boolean)] t ∧ va_D (va_A (wM h_M h_M_jobOf h_M_machineOf h_M_durations h_M_arcs h_M_drafts h_M_starts h_M_heads h_M_tails h_M_chosen h_M_orders h_M_sizes cI cZ M_jobs M_many M_isPlanned M_least M_optima M_jobOf M_machineOf M_durations M_arcs M_drafts M_starts M_heads M_tails M_chosen M_orders M_sizes) sz) (wM h_M h_M_jobOf h_M_machineOf h_M_durations h_M_arcs h_M_drafts h_M_starts h_M_heads h_M_tails h_M_chosen h_M_orders h_M_sizes cI cZ M_jobs M_many u.1 M_least M_optima M_jobOf M_machineOf M_durations u.2 M_drafts M_starts M_heads M_tails M_chosen M_orders M_sizes)) (va_A (wM h_M h_M_jobOf h_M_machineOf h_M_durations h_M_arcs h_M_drafts h_M_starts h_M_heads h_M_tails h_M_chosen h_M_orders h_M_sizes cI cZ M_jobs M_many M_isPlanned M_least M_optima M_jobOf M_machineOf M_durations M_arcs M_drafts M_starts M_heads M_tails M_chosen M_orders M_sizes) sz)) 0 0 (va_A (wM h_M h_M_jobOf h_M_machineOf h_M_durations h_M_arcs h_M_drafts h_M_starts h_M_heads h_M_tails h_M_chosen h_M_orders h_M_sizes cI cZ M_jobs M_many M_isPlanned M_least M_optima M_jobOf M_machineOf M_durations M_arcs M_drafts M_starts M_heads M_tails M_chosen M_orders M_sizes) sz) := by
  refine Met.ofW (cc := cX3_free) (maxL := 3) (ret := (some .int)) (by decide) rfl ?_
  intro p e s m args below meth c s₁ B hml hv
  obtain ⟨rfl, hsz, hP, hK, hD0⟩ := hv
  have hx := B.exec
  have hb := B.bytes
  have hr := B.returns
  have hts := atoms_spec (ws := wsX3_free) B.pre
  have hown : s.vm.findClass RX3 = some m.cls := findClass_of_methodNamed B.named
  have hlocks := B.notSynchronized
  subst hsz
  have hD := hD0.self (sz := s.heap.size)
  generalize hAe : va_A (wM h_M h_M_jobOf h_M_machineOf h_M_durations h_M_arcs h_M_drafts h_M_starts h_M_heads h_M_tails h_M_chosen h_M_orders h_M_sizes cI cZ M_jobs M_many M_isPlanned M_least M_optima M_jobOf M_machineOf M_durations M_arcs M_drafts M_starts M_heads M_tails M_chosen M_orders M_sizes) s.heap.size = A at hD ⊢
  have hA : ∀ q : Nat, s.heap.size ≤ q → A q := fun q h => by rw [← hAe]; exact Or.inr h
  have hS : va_S A s.heap s.heap [] := va_S.rf
  have hP : va_P (dC, dI) vwCl (wM h_M h_M_jobOf h_M_machineOf h_M_durations h_M_arcs h_M_drafts h_M_starts h_M_heads h_M_tails h_M_chosen h_M_orders h_M_sizes cI cZ M_jobs M_many M_isPlanned M_least M_optima M_jobOf M_machineOf M_durations M_arcs M_drafts M_starts M_heads M_tails M_chosen M_orders M_sizes) s.heap := hP
  have hl := lv_entry ([.ref h_M, .int a0, .int a1]) (n := 3) (Nat.le_of_ble_eq_true rfl)
  rw [lg_entry_eq]
  generalize (lg_sl ([.ref h_M, .int a0, .int a1]) ++ List.replicate (3 - (lg_sl ([.ref h_M, .int a0, .int a1])).length) Slot.unset).toArray = ls at hl ⊢
  have hl : lv_has ls 3 [(0, .ref h_M), (1, .int a0), (2, .int a1)] := hl
  obtain ⟨H, hH⟩ : ∃ H, H = s.heap := ⟨_, rfl⟩
  rw [← hH] at hP
  have hS : va_S A s.heap H [] := by rw [hH]; exact hS
  refine W_heap hH ?_
  unfold wp_X3_free at hw
  have hin_X3 : ∀ w ∈ u_ws RX3 TX3 16, w ∈ wsX3_free := by decide +kernel
  refine lv_aload_n (pc := 0) hx hb dX3_free_0 rfl (lv_at hl 0 rfl) ?_
  refine lv_iload_n (pc := 1) hx hb dX3_free_1 rfl (lv_at hl 1 rfl) ?_
  refine lv_iload_n (pc := 2) hx hb dX3_free_2 rfl (lv_at hl 2 rfl) ?_
  have hPx : va_P (dC, dI) vwCl ([] ++ (wM h_M h_M_jobOf h_M_machineOf h_M_durations h_M_arcs h_M_drafts h_M_starts h_M_heads h_M_tails h_M_chosen h_M_orders h_M_sizes cI cZ M_jobs M_many M_isPlanned M_least M_optima M_jobOf M_machineOf M_durations M_arcs M_drafts M_starts M_heads M_tails M_chosen M_orders M_sizes)) H := hP
  have hDx : va_D A ([] ++ (wM h_M h_M_jobOf h_M_machineOf h_M_durations h_M_arcs h_M_drafts h_M_starts h_M_heads h_M_tails h_M_chosen h_M_orders h_M_sizes cI cZ M_jobs M_many M_isPlanned M_least M_optima M_jobOf M_machineOf M_durations M_arcs M_drafts M_starts M_heads M_tails M_chosen M_orders M_sizes)) := hD
  refine kc_i (pc := 3) (w1 := (fun u : Unit => (wM h_M h_M_jobOf h_M_machineOf h_M_durations h_M_arcs h_M_drafts h_M_starts h_M_heads h_M_tails h_M_chosen h_M_orders h_M_sizes cI cZ M_jobs M_many M_isPlanned M_least M_optima M_jobOf M_machineOf M_durations M_arcs M_drafts M_starts M_heads M_tails M_chosen M_orders M_sizes))) (va_runV (As := [.int a0, .int a1]) (rest := []) ⟨hx, hb, hml, hown, hts⟩ (c_X3_isPair l dC dI h_M h_M_jobOf h_M_machineOf h_M_durations h_M_arcs h_M_drafts h_M_starts h_M_heads h_M_tails h_M_chosen h_M_orders h_M_sizes H.size cI cZ M_jobs M_many M_isPlanned M_least M_optima M_jobOf M_machineOf M_durations M_arcs M_drafts M_starts M_heads M_tails M_chosen M_orders M_sizes a0 a1 _ hw) (cwV 2 hts gX3_free_X3_isPair rfl rfl rfl (by decide +kernel) ⟨Nat.le_of_ble_eq_true rfl, Nat.le_of_ble_eq_true rfl⟩) (kc_preVM (q0 := 0) (ci := 3) hK hPx hDx [0, 1] rfl rfl rfl) rfl rfl hl.1 rfl (lv_room (Nat.le_of_ble_eq_true rfl)) dX3_free_3 ⟨Nat.zero_le _, Nat.zero_le _⟩) hPx hDx hS hA (fun r_3 u H locs hw hP hD hS => ?_)
  have hP : va_P (dC, dI) vwCl (wM h_M h_M_jobOf h_M_machineOf h_M_durations h_M_arcs h_M_drafts h_M_starts h_M_heads h_M_tails h_M_chosen h_M_orders h_M_sizes cI cZ M_jobs M_many M_isPlanned M_least M_optima M_jobOf M_machineOf M_durations M_arcs M_drafts M_starts M_heads M_tails M_chosen M_orders M_sizes) H := hP
  have hD : va_D A (wM h_M h_M_jobOf h_M_machineOf h_M_durations h_M_arcs h_M_drafts h_M_starts h_M_heads h_M_tails h_M_chosen h_M_orders h_M_sizes cI cZ M_jobs M_many M_isPlanned M_least M_optima M_jobOf M_machineOf M_durations M_arcs M_drafts M_starts M_heads M_tails M_chosen M_orders M_sizes) := hD
  refine lv_if_ne (tgt := 12) (pc := 6) hx hb dX3_free_6 (by decide) (fun c_1 => ?_) (fun c_1 => ?_)
  · have hw := hw.1 c_1
    refine lv_aload_n (pc := 12) hx hb dX3_free_12 rfl (lv_at hl 0 rfl) ?_
    refine va_get (D := (dC, dI)) (ci := 3) (v := .ref h_M_arcs) (C := RX3) (T := TX3) (N := 16) (pc := 13) hx hb hts hin_X3 hown hK hP 0 rfl rfl 5 (by decide) (hts (.fieldLink RX3 19 "JobShopModel" "arcs" "[Z") (by decide +kernel)) (fun _ h9 => h9) rfl dX3_free_13 ?_
    refine lv_bipush (v := 12) (pc := 16) hx hb dX3_free_16 (by decide) ?_
    refine lv_iload_n (pc := 18) hx hb dX3_free_18 rfl (lv_at hl 1 rfl) ?_
    refine lv_imul (pc := 19) hx hb dX3_free_19 ?_
    refine lv_iload_n (pc := 20) hx hb dX3_free_20 rfl (lv_at hl 2 rfl) ?_
    refine lv_iadd (pc := 21) hx hb dX3_free_21 ?_
    obtain ⟨b_2, hw⟩ := hw
    refine va_zald (pc := 22) hx hb hK hP 4 1 rfl rfl b_2 dX3_free_22 ?_
    obtain ⟨J_42, hs_42, hw⟩ := hw
    refine jn_W (J := fun z : Unit => J_42 ) 42 (fun z => []) (fun (z : Unit) H locs ls => va_P (dC, dI) vwCl (wM h_M h_M_jobOf h_M_machineOf h_M_durations h_M_arcs h_M_drafts h_M_starts h_M_heads h_M_tails h_M_chosen h_M_orders h_M_sizes cI cZ M_jobs M_many M_isPlanned M_least M_optima M_jobOf M_machineOf M_durations M_arcs M_drafts M_starts M_heads M_tails M_chosen M_orders M_sizes) H ∧ va_D A (wM h_M h_M_jobOf h_M_machineOf h_M_durations h_M_arcs h_M_drafts h_M_starts h_M_heads h_M_tails h_M_chosen h_M_orders h_M_sizes cI cZ M_jobs M_many M_isPlanned M_least M_optima M_jobOf M_machineOf M_durations M_arcs M_drafts M_starts M_heads M_tails M_chosen M_orders M_sizes) ∧ va_S A s.heap H locs ∧ lv_has ls 3 [(0, .ref h_M), (1, .int a0), (2, .int a1)]) ?_ ?_
    · rintro _ H locs ls hI ⟨hP, hD, hS, hl⟩
      have hw := hs_42  hI
      have hP : va_P (dC, dI) vwCl (wM h_M h_M_jobOf h_M_machineOf h_M_durations h_M_arcs h_M_drafts h_M_starts h_M_heads h_M_tails h_M_chosen h_M_orders h_M_sizes cI cZ M_jobs M_many M_isPlanned M_least M_optima M_jobOf M_machineOf M_durations M_arcs M_drafts M_starts M_heads M_tails M_chosen M_orders M_sizes) H := hP
      have hD : va_D A (wM h_M h_M_jobOf h_M_machineOf h_M_durations h_M_arcs h_M_drafts h_M_starts h_M_heads h_M_tails h_M_chosen h_M_orders h_M_sizes cI cZ M_jobs M_many M_isPlanned M_least M_optima M_jobOf M_machineOf M_durations M_arcs M_drafts M_starts M_heads M_tails M_chosen M_orders M_sizes) := hD
      have hl : lv_has ls 3 [(0, .ref h_M), (1, .int a0), (2, .int a1)] := hl
      refine W.eq (g2 := F0 m 42 ls []) rfl ?_
      refine lv_aload_n (pc := 42) hx hb dX3_free_42 rfl (lv_at hl 0 rfl) ?_
      refine va_get (D := (dC, dI)) (ci := 3) (v := .ref h_M_arcs) (C := RX3) (T := TX3) (N := 16) (pc := 43) hx hb hts hin_X3 hown hK hP 0 rfl rfl 5 (by decide) (hts (.fieldLink RX3 19 "JobShopModel" "arcs" "[Z") (by decide +kernel)) (fun _ h9 => h9) rfl dX3_free_43 ?_
      refine lv_bipush (v := 12) (pc := 46) hx hb dX3_free_46 (by decide) ?_
      refine lv_iload_n (pc := 48) hx hb dX3_free_48 rfl (lv_at hl 1 rfl) ?_
      refine lv_imul (pc := 49) hx hb dX3_free_49 ?_
      refine lv_iload_n (pc := 50) hx hb dX3_free_50 rfl (lv_at hl 2 rfl) ?_
      refine lv_iadd (pc := 51) hx hb dX3_free_51 ?_
      refine lv_iconst (v := 0) (pc := 52) hx hb dX3_free_52 (by decide) ?_
      obtain ⟨b_3, hw⟩ := hw
      refine va_zast (pc := 53) hx hb hK hP hD hS 4 1 rfl rfl b_3 dX3_free_53 (fun H locs hP hD hS => ?_)
      have hP : va_P (dC, dI) vwCl (wM h_M h_M_jobOf h_M_machineOf h_M_durations h_M_arcs h_M_drafts h_M_starts h_M_heads h_M_tails h_M_chosen h_M_orders h_M_sizes cI cZ M_jobs M_many M_isPlanned M_least M_optima M_jobOf M_machineOf M_durations (upd M_arcs ((12 * a0) + a1).toNatClampNeg (vp_nar .boolean 0)) M_drafts M_starts M_heads M_tails M_chosen M_orders M_sizes) H := hP
      have hD : va_D A (wM h_M h_M_jobOf h_M_machineOf h_M_durations h_M_arcs h_M_drafts h_M_starts h_M_heads h_M_tails h_M_chosen h_M_orders h_M_sizes cI cZ M_jobs M_many M_isPlanned M_least M_optima M_jobOf M_machineOf M_durations (upd M_arcs ((12 * a0) + a1).toNatClampNeg (vp_nar .boolean 0)) M_drafts M_starts M_heads M_tails M_chosen M_orders M_sizes) := hD
      refine lv_aload_n (pc := 54) hx hb dX3_free_54 rfl (lv_at hl 0 rfl) ?_
      refine va_get (D := (dC, dI)) (ci := 3) (v := .ref h_M_arcs) (C := RX3) (T := TX3) (N := 16) (pc := 55) hx hb hts hin_X3 hown hK hP 0 rfl rfl 5 (by decide) (hts (.fieldLink RX3 19 "JobShopModel" "arcs" "[Z") (by decide +kernel)) (fun _ h9 => h9) rfl dX3_free_55 ?_
      refine lv_bipush (v := 12) (pc := 58) hx hb dX3_free_58 (by decide) ?_
      refine lv_iload_n (pc := 60) hx hb dX3_free_60 rfl (lv_at hl 2 rfl) ?_
      refine lv_imul (pc := 61) hx hb dX3_free_61 ?_
      refine lv_iload_n (pc := 62) hx hb dX3_free_62 rfl (lv_at hl 1 rfl) ?_
      refine lv_iadd (pc := 63) hx hb dX3_free_63 ?_
      refine lv_iconst (v := 0) (pc := 64) hx hb dX3_free_64 (by decide) ?_
      obtain ⟨b_4, hw⟩ := hw
      refine va_zast (pc := 65) hx hb hK hP hD hS 4 1 rfl rfl b_4 dX3_free_65 (fun H locs hP hD hS => ?_)
      have hP : va_P (dC, dI) vwCl (wM h_M h_M_jobOf h_M_machineOf h_M_durations h_M_arcs h_M_drafts h_M_starts h_M_heads h_M_tails h_M_chosen h_M_orders h_M_sizes cI cZ M_jobs M_many M_isPlanned M_least M_optima M_jobOf M_machineOf M_durations (upd (upd M_arcs ((12 * a0) + a1).toNatClampNeg (vp_nar .boolean 0)) ((12 * a1) + a0).toNatClampNeg (vp_nar .boolean 0)) M_drafts M_starts M_heads M_tails M_chosen M_orders M_sizes) H := hP
      have hD : va_D A (wM h_M h_M_jobOf h_M_machineOf h_M_durations h_M_arcs h_M_drafts h_M_starts h_M_heads h_M_tails h_M_chosen h_M_orders h_M_sizes cI cZ M_jobs M_many M_isPlanned M_least M_optima M_jobOf M_machineOf M_durations (upd (upd M_arcs ((12 * a0) + a1).toNatClampNeg (vp_nar .boolean 0)) ((12 * a1) + a0).toNatClampNeg (vp_nar .boolean 0)) M_drafts M_starts M_heads M_tails M_chosen M_orders M_sizes) := hD
      refine lv_aload_n (pc := 66) hx hb dX3_free_66 rfl (lv_at hl 0 rfl) ?_
      have hPx : va_P (dC, dI) vwCl ([] ++ (wM h_M h_M_jobOf h_M_machineOf h_M_durations h_M_arcs h_M_drafts h_M_starts h_M_heads h_M_tails h_M_chosen h_M_orders h_M_sizes cI cZ M_jobs M_many M_isPlanned M_least M_optima M_jobOf M_machineOf M_durations (upd (upd M_arcs ((12 * a0) + a1).toNatClampNeg (vp_nar .boolean 0)) ((12 * a1) + a0).toNatClampNeg (vp_nar .boolean 0)) M_drafts M_starts M_heads M_tails M_chosen M_orders M_sizes)) H := hP
      have hDx : va_D A ([] ++ (wM h_M h_M_jobOf h_M_machineOf h_M_durations h_M_arcs h_M_drafts h_M_starts h_M_heads h_M_tails h_M_chosen h_M_orders h_M_sizes cI cZ M_jobs M_many M_isPlanned M_least M_optima M_jobOf M_machineOf M_durations (upd (upd M_arcs ((12 * a0) + a1).toNatClampNeg (vp_nar .boolean 0)) ((12 * a1) + a0).toNatClampNeg (vp_nar .boolean 0)) M_drafts M_starts M_heads M_tails M_chosen M_orders M_sizes)) := hD
      refine kc_v (pc := 67) (w1 := (fun u : Int32 => (wM h_M h_M_jobOf h_M_machineOf h_M_durations h_M_arcs h_M_drafts h_M_starts h_M_heads h_M_tails h_M_chosen h_M_orders h_M_sizes cI cZ M_jobs M_many u M_least M_optima M_jobOf M_machineOf M_durations (upd (upd M_arcs ((12 * a0) + a1).toNatClampNeg (vp_nar .boolean 0)) ((12 * a1) + a0).toNatClampNeg (vp_nar .boolean 0)) M_drafts M_starts M_heads M_tails M_chosen M_orders M_sizes))) (va_runV (As := []) (rest := []) ⟨hx, hb, hml, hown, hts⟩ (c_X3_forget l dC dI h_M h_M_jobOf h_M_machineOf h_M_durations h_M_arcs h_M_drafts h_M_starts h_M_heads h_M_tails h_M_chosen h_M_orders h_M_sizes H.size cI cZ M_jobs M_many M_isPlanned M_least M_optima M_jobOf M_machineOf M_durations (upd (upd M_arcs ((12 * a0) + a1).toNatClampNeg (vp_nar .boolean 0)) ((12 * a1) + a0).toNatClampNeg (vp_nar .boolean 0)) M_drafts M_starts M_heads M_tails M_chosen M_orders M_sizes _ hw) (cwV 0 hts gX3_free_X3_forget rfl rfl rfl (by decide +kernel) ⟨Nat.le_of_ble_eq_true rfl, Nat.le_of_ble_eq_true rfl⟩) (kc_preVM (q0 := 0) (ci := 3) hK hPx hDx [0, 1] rfl rfl rfl) rfl rfl hl.1 rfl (lv_room (Nat.le_of_ble_eq_true rfl)) dX3_free_67 ⟨Nat.zero_le _, Nat.zero_le _⟩) hPx hDx hS hA (fun u H locs hw hP hD hS => ?_)
      obtain ⟨M_isPlanned_67, rfl⟩ : ∃ z, z = u := ⟨_, rfl⟩
      have hP : va_P (dC, dI) vwCl (wM h_M h_M_jobOf h_M_machineOf h_M_durations h_M_arcs h_M_drafts h_M_starts h_M_heads h_M_tails h_M_chosen h_M_orders h_M_sizes cI cZ M_jobs M_many M_isPlanned_67 M_least M_optima M_jobOf M_machineOf M_durations (upd (upd M_arcs ((12 * a0) + a1).toNatClampNeg (vp_nar .boolean 0)) ((12 * a1) + a0).toNatClampNeg (vp_nar .boolean 0)) M_drafts M_starts M_heads M_tails M_chosen M_orders M_sizes) H := hP
      have hD : va_D A (wM h_M h_M_jobOf h_M_machineOf h_M_durations h_M_arcs h_M_drafts h_M_starts h_M_heads h_M_tails h_M_chosen h_M_orders h_M_sizes cI cZ M_jobs M_many M_isPlanned_67 M_least M_optima M_jobOf M_machineOf M_durations (upd (upd M_arcs ((12 * a0) + a1).toNatClampNeg (vp_nar .boolean 0)) ((12 * a1) + a0).toNatClampNeg (vp_nar .boolean 0)) M_drafts M_starts M_heads M_tails M_chosen M_orders M_sizes) := hD
      refine lv_iconst (v := 1) (pc := 70) hx hb dX3_free_70 (by decide) ?_
      exact W.iret (v := 1) hx hb hr (fun t ht hW => ⟨⟨1, (M_isPlanned_67, (upd (upd M_arcs ((12 * a0) + a1).toNatClampNeg (vp_nar .boolean 0)) ((12 * a1) + a0).toNatClampNeg (vp_nar .boolean 0))), rfl, hw, by rw [ht]; exact hP, va_K.moved hW.alike hK, hD⟩, hS.F ht⟩) hS.2.2 dX3_free_71
    · intro hj_42
      refine lv_if_ne (tgt := 42) (pc := 23) hx hb dX3_free_23 (by decide) (fun c_5 => ?_) (fun c_5 => ?_)
      · have hw := hw.1 c_5
        exact hj_42 () _ _ _ hw ⟨hP, hD, hS, (lv_sub hl [0, 1, 2] rfl)⟩
      · have hw := hw.2 c_5
        refine lv_aload_n (pc := 26) hx hb dX3_free_26 rfl (lv_at hl 0 rfl) ?_
        refine va_get (D := (dC, dI)) (ci := 3) (v := .ref h_M_arcs) (C := RX3) (T := TX3) (N := 16) (pc := 27) hx hb hts hin_X3 hown hK hP 0 rfl rfl 5 (by decide) (hts (.fieldLink RX3 19 "JobShopModel" "arcs" "[Z") (by decide +kernel)) (fun _ h9 => h9) rfl dX3_free_27 ?_
        refine lv_bipush (v := 12) (pc := 30) hx hb dX3_free_30 (by decide) ?_
        refine lv_iload_n (pc := 32) hx hb dX3_free_32 rfl (lv_at hl 2 rfl) ?_
        refine lv_imul (pc := 33) hx hb dX3_free_33 ?_
        refine lv_iload_n (pc := 34) hx hb dX3_free_34 rfl (lv_at hl 1 rfl) ?_
        refine lv_iadd (pc := 35) hx hb dX3_free_35 ?_
        obtain ⟨b_6, hw⟩ := hw
        refine va_zald (pc := 36) hx hb hK hP 4 1 rfl rfl b_6 dX3_free_36 ?_
        refine lv_if_ne (tgt := 42) (pc := 37) hx hb dX3_free_37 (by decide) (fun c_7 => ?_) (fun c_7 => ?_)
        · have hw := hw.1 c_7
          exact hj_42 () _ _ _ hw ⟨hP, hD, hS, (lv_sub hl [0, 1, 2] rfl)⟩
        · have hw := hw.2 c_7
          refine lv_iconst (v := 0) (pc := 40) hx hb dX3_free_40 (by decide) ?_
          exact W.iret (v := 0) hx hb hr (fun t ht hW => ⟨⟨0, (M_isPlanned, M_arcs), rfl, hw, by rw [ht]; exact hP, va_K.moved hW.alike hK, hD⟩, hS.F ht⟩) hS.2.2 dX3_free_41
  · have hw := hw.2 c_1
    refine lv_bipush (v := (-2)) (pc := 9) hx hb dX3_free_9 (by decide) ?_
    exact W.iret (v := (-2)) hx hb hr (fun t ht hW => ⟨⟨(-2), (M_isPlanned, M_arcs), rfl, hw, by rw [ht]; exact hP, va_K.moved hW.alike hK, hD⟩, hS.F ht⟩) hS.2.2 dX3_free_11
set_option maxHeartbeats 4000000 in
set_option maxRecDepth 100000 in
theorem c_X3_arc (l : Launch) (dC : Nat → ClassId) (dI : Nat → Nat → Nat) (h_M h_M_jobOf h_M_machineOf h_M_durations h_M_arcs h_M_drafts h_M_starts h_M_heads h_M_tails h_M_chosen h_M_orders h_M_sizes : Nat) (sz : Nat) (cI cZ : ClassId) (M_jobs : Int32) (M_many : Int32) (M_isPlanned : Int32) (M_least : Int32) (M_optima : Int32) (M_jobOf : Nat → Int32) (M_machineOf : Nat → Int32) (M_durations : Nat → Int32) (M_arcs : Nat → Int32) (M_drafts : Nat → Int32) (M_starts : Nat → Int32) (M_heads : Nat → Int32) (M_tails : Nat → Int32) (M_chosen : Nat → Int32) (M_orders : Nat → Int32) (M_sizes : Nat → Int32) (a0 a1 : Int32) (post : Int32 → Prop) (hw : wp_X3_arc M_many M_machineOf M_arcs a0 a1 post) : Met l yX3_arc wsX3_arc ({ frames := 3, cells := 0, slots := 0, locals := 65 }) (va_Pc [.ref h_M, .int a0, .int a1] (fun U => U.heap.size = sz ∧ va_P (dC, dI) vwCl (wM h_M h_M_jobOf h_M_machineOf h_M_durations h_M_arcs h_M_drafts h_M_starts h_M_heads h_M_tails h_M_chosen h_M_orders h_M_sizes cI cZ M_jobs M_many M_isPlanned M_least M_optima M_jobOf M_machineOf M_durations M_arcs M_drafts M_starts M_heads M_tails M_chosen M_orders M_sizes) U.heap ∧ va_K (dC, dI) vwCl [(cI, .int), (cZ, .boolean)] U ∧ va_D (fun _ => True) (wM h_M h_M_jobOf h_M_machineOf h_M_durations h_M_arcs h_M_drafts h_M_starts h_M_heads h_M_tails h_M_chosen h_M_orders h_M_sizes cI cZ M_jobs M_many M_isPlanned M_least M_optima M_jobOf M_machineOf M_durations M_arcs M_drafts M_starts M_heads M_tails M_chosen M_orders M_sizes))) (va_Qi (fun (r : Int32) (u : Unit) => post r ) (fun u t => va_P (dC, dI) vwCl (wM h_M h_M_jobOf h_M_machineOf h_M_durations h_M_arcs h_M_drafts h_M_starts h_M_heads h_M_tails h_M_chosen h_M_orders h_M_sizes cI cZ M_jobs M_many M_isPlanned M_least M_optima M_jobOf M_machineOf M_durations M_arcs M_drafts M_starts M_heads M_tails M_chosen M_orders M_sizes) t.heap ∧ va_K (dC, dI) vwCl [(cI, .int), (cZ, .boolean)] t ∧ va_D (va_A (wM h_M h_M_jobOf h_M_machineOf h_M_durations h_M_arcs h_M_drafts h_M_starts h_M_heads h_M_tails h_M_chosen h_M_orders h_M_sizes cI cZ M_jobs M_many M_isPlanned M_least M_optima M_jobOf M_machineOf M_durations M_arcs M_drafts M_starts M_heads M_tails M_chosen M_orders M_sizes) sz) (wM h_M h_M_jobOf h_M_machineOf h_M_durations h_M_arcs h_M_drafts h_M_starts h_M_heads h_M_tails h_M_chosen h_M_orders h_M_sizes cI cZ M_jobs M_many M_isPlanned M_least M_optima M_jobOf M_machineOf M_durations M_arcs M_drafts M_starts M_heads M_tails M_chosen M_orders M_sizes)) (va_A (wM h_M h_M_jobOf h_M_machineOf h_M_durations h_M_arcs h_M_drafts h_M_starts h_M_heads h_M_tails h_M_chosen h_M_orders h_M_sizes cI cZ M_jobs M_many M_isPlanned M_least M_optima M_jobOf M_machineOf M_durations M_arcs M_drafts M_starts M_heads M_tails M_chosen M_orders M_sizes) sz)) 0 0 (va_A (wM h_M h_M_jobOf h_M_machineOf h_M_durations h_M_arcs h_M_drafts h_M_starts h_M_heads h_M_tails h_M_chosen h_M_orders h_M_sizes cI cZ M_jobs M_many M_isPlanned M_least M_optima M_jobOf M_machineOf M_durations M_arcs M_drafts M_starts M_heads M_tails M_chosen M_orders M_sizes) sz) := by
  refine Met.ofW (cc := cX3_arc) (maxL := 3) (ret := (some .int)) (by decide) rfl ?_
  intro p e s m args below meth c s₁ B hml hv
  obtain ⟨rfl, hsz, hP, hK, hD0⟩ := hv
  have hx := B.exec
  have hb := B.bytes
  have hr := B.returns
  have hts := atoms_spec (ws := wsX3_arc) B.pre
  have hown : s.vm.findClass RX3 = some m.cls := findClass_of_methodNamed B.named
  have hlocks := B.notSynchronized
  subst hsz
  have hD := hD0.self (sz := s.heap.size)
  generalize hAe : va_A (wM h_M h_M_jobOf h_M_machineOf h_M_durations h_M_arcs h_M_drafts h_M_starts h_M_heads h_M_tails h_M_chosen h_M_orders h_M_sizes cI cZ M_jobs M_many M_isPlanned M_least M_optima M_jobOf M_machineOf M_durations M_arcs M_drafts M_starts M_heads M_tails M_chosen M_orders M_sizes) s.heap.size = A at hD ⊢
  have hA : ∀ q : Nat, s.heap.size ≤ q → A q := fun q h => by rw [← hAe]; exact Or.inr h
  have hS : va_S A s.heap s.heap [] := va_S.rf
  have hP : va_P (dC, dI) vwCl (wM h_M h_M_jobOf h_M_machineOf h_M_durations h_M_arcs h_M_drafts h_M_starts h_M_heads h_M_tails h_M_chosen h_M_orders h_M_sizes cI cZ M_jobs M_many M_isPlanned M_least M_optima M_jobOf M_machineOf M_durations M_arcs M_drafts M_starts M_heads M_tails M_chosen M_orders M_sizes) s.heap := hP
  have hl := lv_entry ([.ref h_M, .int a0, .int a1]) (n := 3) (Nat.le_of_ble_eq_true rfl)
  rw [lg_entry_eq]
  generalize (lg_sl ([.ref h_M, .int a0, .int a1]) ++ List.replicate (3 - (lg_sl ([.ref h_M, .int a0, .int a1])).length) Slot.unset).toArray = ls at hl ⊢
  have hl : lv_has ls 3 [(0, .ref h_M), (1, .int a0), (2, .int a1)] := hl
  obtain ⟨H, hH⟩ : ∃ H, H = s.heap := ⟨_, rfl⟩
  rw [← hH] at hP
  have hS : va_S A s.heap H [] := by rw [hH]; exact hS
  refine W_heap hH ?_
  unfold wp_X3_arc at hw
  have hin_X3 : ∀ w ∈ u_ws RX3 TX3 16, w ∈ wsX3_arc := by decide +kernel
  refine lv_aload_n (pc := 0) hx hb dX3_arc_0 rfl (lv_at hl 0 rfl) ?_
  refine lv_iload_n (pc := 1) hx hb dX3_arc_1 rfl (lv_at hl 1 rfl) ?_
  refine lv_iload_n (pc := 2) hx hb dX3_arc_2 rfl (lv_at hl 2 rfl) ?_
  have hPx : va_P (dC, dI) vwCl ([] ++ (wM h_M h_M_jobOf h_M_machineOf h_M_durations h_M_arcs h_M_drafts h_M_starts h_M_heads h_M_tails h_M_chosen h_M_orders h_M_sizes cI cZ M_jobs M_many M_isPlanned M_least M_optima M_jobOf M_machineOf M_durations M_arcs M_drafts M_starts M_heads M_tails M_chosen M_orders M_sizes)) H := hP
  have hDx : va_D A ([] ++ (wM h_M h_M_jobOf h_M_machineOf h_M_durations h_M_arcs h_M_drafts h_M_starts h_M_heads h_M_tails h_M_chosen h_M_orders h_M_sizes cI cZ M_jobs M_many M_isPlanned M_least M_optima M_jobOf M_machineOf M_durations M_arcs M_drafts M_starts M_heads M_tails M_chosen M_orders M_sizes)) := hD
  refine kc_i (pc := 3) (w1 := (fun u : Unit => (wM h_M h_M_jobOf h_M_machineOf h_M_durations h_M_arcs h_M_drafts h_M_starts h_M_heads h_M_tails h_M_chosen h_M_orders h_M_sizes cI cZ M_jobs M_many M_isPlanned M_least M_optima M_jobOf M_machineOf M_durations M_arcs M_drafts M_starts M_heads M_tails M_chosen M_orders M_sizes))) (va_runV (As := [.int a0, .int a1]) (rest := []) ⟨hx, hb, hml, hown, hts⟩ (c_X3_isPair l dC dI h_M h_M_jobOf h_M_machineOf h_M_durations h_M_arcs h_M_drafts h_M_starts h_M_heads h_M_tails h_M_chosen h_M_orders h_M_sizes H.size cI cZ M_jobs M_many M_isPlanned M_least M_optima M_jobOf M_machineOf M_durations M_arcs M_drafts M_starts M_heads M_tails M_chosen M_orders M_sizes a0 a1 _ hw) (cwV 2 hts gX3_arc_X3_isPair rfl rfl rfl (by decide +kernel) ⟨Nat.le_of_ble_eq_true rfl, Nat.le_of_ble_eq_true rfl⟩) (kc_preVM (q0 := 0) (ci := 3) hK hPx hDx [0, 1] rfl rfl rfl) rfl rfl hl.1 rfl (lv_room (Nat.le_of_ble_eq_true rfl)) dX3_arc_3 ⟨Nat.zero_le _, Nat.zero_le _⟩) hPx hDx hS hA (fun r_3 u H locs hw hP hD hS => ?_)
  have hP : va_P (dC, dI) vwCl (wM h_M h_M_jobOf h_M_machineOf h_M_durations h_M_arcs h_M_drafts h_M_starts h_M_heads h_M_tails h_M_chosen h_M_orders h_M_sizes cI cZ M_jobs M_many M_isPlanned M_least M_optima M_jobOf M_machineOf M_durations M_arcs M_drafts M_starts M_heads M_tails M_chosen M_orders M_sizes) H := hP
  have hD : va_D A (wM h_M h_M_jobOf h_M_machineOf h_M_durations h_M_arcs h_M_drafts h_M_starts h_M_heads h_M_tails h_M_chosen h_M_orders h_M_sizes cI cZ M_jobs M_many M_isPlanned M_least M_optima M_jobOf M_machineOf M_durations M_arcs M_drafts M_starts M_heads M_tails M_chosen M_orders M_sizes) := hD
  refine lv_if_ne (tgt := 14) (pc := 6) hx hb dX3_arc_6 (by decide) (fun c_1 => ?_) (fun c_1 => ?_)
  · have hw := hw.1 c_1
    refine lv_aload_n (pc := 14) hx hb dX3_arc_14 rfl (lv_at hl 0 rfl) ?_
    refine va_get (D := (dC, dI)) (ci := 3) (v := .ref h_M_arcs) (C := RX3) (T := TX3) (N := 16) (pc := 15) hx hb hts hin_X3 hown hK hP 0 rfl rfl 5 (by decide) (hts (.fieldLink RX3 19 "JobShopModel" "arcs" "[Z") (by decide +kernel)) (fun _ h9 => h9) rfl dX3_arc_15 ?_
    refine lv_bipush (v := 12) (pc := 18) hx hb dX3_arc_18 (by decide) ?_
    refine lv_iload_n (pc := 20) hx hb dX3_arc_20 rfl (lv_at hl 1 rfl) ?_
    refine lv_imul (pc := 21) hx hb dX3_arc_21 ?_
    refine lv_iload_n (pc := 22) hx hb dX3_arc_22 rfl (lv_at hl 2 rfl) ?_
    refine lv_iadd (pc := 23) hx hb dX3_arc_23 ?_
    obtain ⟨b_2, hw⟩ := hw
    refine va_zald (pc := 24) hx hb hK hP 4 1 rfl rfl b_2 dX3_arc_24 ?_
    refine lv_if_eq (tgt := 32) (pc := 25) hx hb dX3_arc_25 (by decide) (fun c_3 => ?_) (fun c_3 => ?_)
    · have hw := hw.1 c_3
      refine lv_iconst (v := 0) (pc := 32) hx hb dX3_arc_32 (by decide) ?_
      exact W.iret (v := 0) hx hb hr (fun t ht hW => ⟨⟨0, (), rfl, hw, by rw [ht]; exact hP, va_K.moved hW.alike hK, hD⟩, hS.F ht⟩) hS.2.2 dX3_arc_33
    · have hw := hw.2 c_3
      refine lv_iconst (v := 1) (pc := 28) hx hb dX3_arc_28 (by decide) ?_
      refine lv_goto (tgt := 33) (pc := 29) hx hb dX3_arc_29 (by decide) ?_
      exact W.iret (v := 1) hx hb hr (fun t ht hW => ⟨⟨1, (), rfl, hw, by rw [ht]; exact hP, va_K.moved hW.alike hK, hD⟩, hS.F ht⟩) hS.2.2 dX3_arc_33
  · have hw := hw.2 c_1
    refine lv_bipush (v := (-2)) (pc := 9) hx hb dX3_arc_9 (by decide) ?_
    refine lv_goto (tgt := 33) (pc := 11) hx hb dX3_arc_11 (by decide) ?_
    exact W.iret (v := (-2)) hx hb hr (fun t ht hW => ⟨⟨(-2), (), rfl, hw, by rw [ht]; exact hP, va_K.moved hW.alike hK, hD⟩, hS.F ht⟩) hS.2.2 dX3_arc_33
set_option maxHeartbeats 4000000 in
set_option maxRecDepth 100000 in
theorem c_X3_told (l : Launch) (dC : Nat → ClassId) (dI : Nat → Nat → Nat) (h_M h_M_jobOf h_M_machineOf h_M_durations h_M_arcs h_M_drafts h_M_starts h_M_heads h_M_tails h_M_chosen h_M_orders h_M_sizes : Nat) (sz : Nat) (cI cZ : ClassId) (M_jobs : Int32) (M_many : Int32) (M_isPlanned : Int32) (M_least : Int32) (M_optima : Int32) (M_jobOf : Nat → Int32) (M_machineOf : Nat → Int32) (M_durations : Nat → Int32) (M_arcs : Nat → Int32) (M_drafts : Nat → Int32) (M_starts : Nat → Int32) (M_heads : Nat → Int32) (M_tails : Nat → Int32) (M_chosen : Nat → Int32) (M_orders : Nat → Int32) (M_sizes : Nat → Int32) (a0 a1 : Int32) (post : Int32 → (Nat → Int32) → (Nat → Int32) → Prop) (hw : wp_X3_told M_many M_isPlanned M_jobOf M_machineOf M_durations M_arcs M_starts M_heads M_tails a0 a1 post) : Met l yX3_told wsX3_told ({ frames := 4, cells := 0, slots := 0, locals := 93 }) (va_Pc [.ref h_M, .int a0, .int a1] (fun U => U.heap.size = sz ∧ va_P (dC, dI) vwCl (wM h_M h_M_jobOf h_M_machineOf h_M_durations h_M_arcs h_M_drafts h_M_starts h_M_heads h_M_tails h_M_chosen h_M_orders h_M_sizes cI cZ M_jobs M_many M_isPlanned M_least M_optima M_jobOf M_machineOf M_durations M_arcs M_drafts M_starts M_heads M_tails M_chosen M_orders M_sizes) U.heap ∧ va_K (dC, dI) vwCl [(cI, .int), (cZ, .boolean)] U ∧ va_D (fun _ => True) (wM h_M h_M_jobOf h_M_machineOf h_M_durations h_M_arcs h_M_drafts h_M_starts h_M_heads h_M_tails h_M_chosen h_M_orders h_M_sizes cI cZ M_jobs M_many M_isPlanned M_least M_optima M_jobOf M_machineOf M_durations M_arcs M_drafts M_starts M_heads M_tails M_chosen M_orders M_sizes))) (va_Qi (fun (r : Int32) (u : (Nat → Int32) × (Nat → Int32)) => post r u.1 u.2) (fun u t => va_P (dC, dI) vwCl (wM h_M h_M_jobOf h_M_machineOf h_M_durations h_M_arcs h_M_drafts h_M_starts h_M_heads h_M_tails h_M_chosen h_M_orders h_M_sizes cI cZ M_jobs M_many M_isPlanned M_least M_optima M_jobOf M_machineOf M_durations M_arcs M_drafts M_starts u.1 u.2 M_chosen M_orders M_sizes) t.heap ∧ va_K (dC, dI) vwCl [(cI, .int), (cZ, .boolean)] t ∧ va_D (va_A (wM h_M h_M_jobOf h_M_machineOf h_M_durations h_M_arcs h_M_drafts h_M_starts h_M_heads h_M_tails h_M_chosen h_M_orders h_M_sizes cI cZ M_jobs M_many M_isPlanned M_least M_optima M_jobOf M_machineOf M_durations M_arcs M_drafts M_starts M_heads M_tails M_chosen M_orders M_sizes) sz) (wM h_M h_M_jobOf h_M_machineOf h_M_durations h_M_arcs h_M_drafts h_M_starts h_M_heads h_M_tails h_M_chosen h_M_orders h_M_sizes cI cZ M_jobs M_many M_isPlanned M_least M_optima M_jobOf M_machineOf M_durations M_arcs M_drafts M_starts u.1 u.2 M_chosen M_orders M_sizes)) (va_A (wM h_M h_M_jobOf h_M_machineOf h_M_durations h_M_arcs h_M_drafts h_M_starts h_M_heads h_M_tails h_M_chosen h_M_orders h_M_sizes cI cZ M_jobs M_many M_isPlanned M_least M_optima M_jobOf M_machineOf M_durations M_arcs M_drafts M_starts M_heads M_tails M_chosen M_orders M_sizes) sz)) 0 0 (va_A (wM h_M h_M_jobOf h_M_machineOf h_M_durations h_M_arcs h_M_drafts h_M_starts h_M_heads h_M_tails h_M_chosen h_M_orders h_M_sizes cI cZ M_jobs M_many M_isPlanned M_least M_optima M_jobOf M_machineOf M_durations M_arcs M_drafts M_starts M_heads M_tails M_chosen M_orders M_sizes) sz) := by
  refine Met.ofW (cc := cX3_told) (maxL := 3) (ret := (some .int)) (by decide) rfl ?_
  intro p e s m args below meth c s₁ B hml hv
  obtain ⟨rfl, hsz, hP, hK, hD0⟩ := hv
  have hx := B.exec
  have hb := B.bytes
  have hr := B.returns
  have hts := atoms_spec (ws := wsX3_told) B.pre
  have hown : s.vm.findClass RX3 = some m.cls := findClass_of_methodNamed B.named
  have hlocks := B.notSynchronized
  subst hsz
  have hD := hD0.self (sz := s.heap.size)
  generalize hAe : va_A (wM h_M h_M_jobOf h_M_machineOf h_M_durations h_M_arcs h_M_drafts h_M_starts h_M_heads h_M_tails h_M_chosen h_M_orders h_M_sizes cI cZ M_jobs M_many M_isPlanned M_least M_optima M_jobOf M_machineOf M_durations M_arcs M_drafts M_starts M_heads M_tails M_chosen M_orders M_sizes) s.heap.size = A at hD ⊢
  have hA : ∀ q : Nat, s.heap.size ≤ q → A q := fun q h => by rw [← hAe]; exact Or.inr h
  have hS : va_S A s.heap s.heap [] := va_S.rf
  have hP : va_P (dC, dI) vwCl (wM h_M h_M_jobOf h_M_machineOf h_M_durations h_M_arcs h_M_drafts h_M_starts h_M_heads h_M_tails h_M_chosen h_M_orders h_M_sizes cI cZ M_jobs M_many M_isPlanned M_least M_optima M_jobOf M_machineOf M_durations M_arcs M_drafts M_starts M_heads M_tails M_chosen M_orders M_sizes) s.heap := hP
  have hl := lv_entry ([.ref h_M, .int a0, .int a1]) (n := 3) (Nat.le_of_ble_eq_true rfl)
  rw [lg_entry_eq]
  generalize (lg_sl ([.ref h_M, .int a0, .int a1]) ++ List.replicate (3 - (lg_sl ([.ref h_M, .int a0, .int a1])).length) Slot.unset).toArray = ls at hl ⊢
  have hl : lv_has ls 3 [(0, .ref h_M), (1, .int a0), (2, .int a1)] := hl
  obtain ⟨H, hH⟩ : ∃ H, H = s.heap := ⟨_, rfl⟩
  rw [← hH] at hP
  have hS : va_S A s.heap H [] := by rw [hH]; exact hS
  refine W_heap hH ?_
  unfold wp_X3_told at hw
  have hin_X3 : ∀ w ∈ u_ws RX3 TX3 16, w ∈ wsX3_told := by decide +kernel
  refine lv_aload_n (pc := 0) hx hb dX3_told_0 rfl (lv_at hl 0 rfl) ?_
  refine lv_iload_n (pc := 1) hx hb dX3_told_1 rfl (lv_at hl 1 rfl) ?_
  have hPx : va_P (dC, dI) vwCl ([] ++ (wM h_M h_M_jobOf h_M_machineOf h_M_durations h_M_arcs h_M_drafts h_M_starts h_M_heads h_M_tails h_M_chosen h_M_orders h_M_sizes cI cZ M_jobs M_many M_isPlanned M_least M_optima M_jobOf M_machineOf M_durations M_arcs M_drafts M_starts M_heads M_tails M_chosen M_orders M_sizes)) H := hP
  have hDx : va_D A ([] ++ (wM h_M h_M_jobOf h_M_machineOf h_M_durations h_M_arcs h_M_drafts h_M_starts h_M_heads h_M_tails h_M_chosen h_M_orders h_M_sizes cI cZ M_jobs M_many M_isPlanned M_least M_optima M_jobOf M_machineOf M_durations M_arcs M_drafts M_starts M_heads M_tails M_chosen M_orders M_sizes)) := hD
  refine kc_i (pc := 2) (w1 := (fun u : Unit => (wM h_M h_M_jobOf h_M_machineOf h_M_durations h_M_arcs h_M_drafts h_M_starts h_M_heads h_M_tails h_M_chosen h_M_orders h_M_sizes cI cZ M_jobs M_many M_isPlanned M_least M_optima M_jobOf M_machineOf M_durations M_arcs M_drafts M_starts M_heads M_tails M_chosen M_orders M_sizes))) (va_runV (As := [.int a0]) (rest := []) ⟨hx, hb, hml, hown, hts⟩ (c_X3_isOperation l dC dI h_M h_M_jobOf h_M_machineOf h_M_durations h_M_arcs h_M_drafts h_M_starts h_M_heads h_M_tails h_M_chosen h_M_orders h_M_sizes H.size cI cZ M_jobs M_many M_isPlanned M_least M_optima M_jobOf M_machineOf M_durations M_arcs M_drafts M_starts M_heads M_tails M_chosen M_orders M_sizes a0 _ hw) (cwV 1 hts gX3_told_X3_isOperation rfl rfl rfl (by decide +kernel) ⟨Nat.le_of_ble_eq_true rfl, Nat.le_of_ble_eq_true rfl⟩) (kc_preVM (q0 := 0) (ci := 3) hK hPx hDx [0, 1] rfl rfl rfl) rfl rfl hl.1 rfl (lv_room (Nat.le_of_ble_eq_true rfl)) dX3_told_2 ⟨Nat.zero_le _, Nat.zero_le _⟩) hPx hDx hS hA (fun r_2 u H locs hw hP hD hS => ?_)
  have hP : va_P (dC, dI) vwCl (wM h_M h_M_jobOf h_M_machineOf h_M_durations h_M_arcs h_M_drafts h_M_starts h_M_heads h_M_tails h_M_chosen h_M_orders h_M_sizes cI cZ M_jobs M_many M_isPlanned M_least M_optima M_jobOf M_machineOf M_durations M_arcs M_drafts M_starts M_heads M_tails M_chosen M_orders M_sizes) H := hP
  have hD : va_D A (wM h_M h_M_jobOf h_M_machineOf h_M_durations h_M_arcs h_M_drafts h_M_starts h_M_heads h_M_tails h_M_chosen h_M_orders h_M_sizes cI cZ M_jobs M_many M_isPlanned M_least M_optima M_jobOf M_machineOf M_durations M_arcs M_drafts M_starts M_heads M_tails M_chosen M_orders M_sizes) := hD
  refine lv_if_ne (tgt := 10) (pc := 5) hx hb dX3_told_5 (by decide) (fun c_1 => ?_) (fun c_1 => ?_)
  · have hw := hw.1 c_1
    refine lv_aload_n (pc := 10) hx hb dX3_told_10 rfl (lv_at hl 0 rfl) ?_
    refine lv_aload_n (pc := 11) hx hb dX3_told_11 rfl (lv_at hl 0 rfl) ?_
    refine va_get (D := (dC, dI)) (ci := 3) (v := .ref h_M_arcs) (C := RX3) (T := TX3) (N := 16) (pc := 12) hx hb hts hin_X3 hown hK hP 0 rfl rfl 5 (by decide) (hts (.fieldLink RX3 19 "JobShopModel" "arcs" "[Z") (by decide +kernel)) (fun _ h9 => h9) rfl dX3_told_12 ?_
    have hPx : va_P (dC, dI) vwCl ([] ++ (wM h_M h_M_jobOf h_M_machineOf h_M_durations h_M_arcs h_M_drafts h_M_starts h_M_heads h_M_tails h_M_chosen h_M_orders h_M_sizes cI cZ M_jobs M_many M_isPlanned M_least M_optima M_jobOf M_machineOf M_durations M_arcs M_drafts M_starts M_heads M_tails M_chosen M_orders M_sizes)) H := hP
    have hDx : va_D A ([] ++ (wM h_M h_M_jobOf h_M_machineOf h_M_durations h_M_arcs h_M_drafts h_M_starts h_M_heads h_M_tails h_M_chosen h_M_orders h_M_sizes cI cZ M_jobs M_many M_isPlanned M_least M_optima M_jobOf M_machineOf M_durations M_arcs M_drafts M_starts M_heads M_tails M_chosen M_orders M_sizes)) := hD
    refine kc_v (pc := 15) (w1 := (fun u : (Nat → Int32) × (Nat → Int32) => (wM h_M h_M_jobOf h_M_machineOf h_M_durations h_M_arcs h_M_drafts h_M_starts h_M_heads h_M_tails h_M_chosen h_M_orders h_M_sizes cI cZ M_jobs M_many M_isPlanned M_least M_optima M_jobOf M_machineOf M_durations M_arcs M_drafts M_starts u.1 u.2 M_chosen M_orders M_sizes))) (va_runV (As := [.ref h_M_arcs]) (rest := []) ⟨hx, hb, hml, hown, hts⟩ (c_X3_look_a l dC dI h_M h_M_jobOf h_M_machineOf h_M_durations h_M_arcs h_M_drafts h_M_starts h_M_heads h_M_tails h_M_chosen h_M_orders h_M_sizes H.size cI cZ M_jobs M_many M_isPlanned M_least M_optima M_jobOf M_machineOf M_durations M_arcs M_drafts M_starts M_heads M_tails M_chosen M_orders M_sizes _ hw) (cwV 1 hts gX3_told_X3_look rfl rfl rfl (by decide +kernel) ⟨Nat.le_of_ble_eq_true rfl, Nat.le_of_ble_eq_true rfl⟩) (kc_preVM (q0 := 0) (ci := 3) hK hPx hDx [0, 1] rfl rfl rfl) rfl rfl hl.1 rfl (lv_room (Nat.le_of_ble_eq_true rfl)) dX3_told_15 ⟨Nat.zero_le _, Nat.zero_le _⟩) hPx hDx hS hA (fun u H locs hw hP hD hS => ?_)
    obtain ⟨M_heads_15, M_tails_15⟩ := u
    have hP : va_P (dC, dI) vwCl (wM h_M h_M_jobOf h_M_machineOf h_M_durations h_M_arcs h_M_drafts h_M_starts h_M_heads h_M_tails h_M_chosen h_M_orders h_M_sizes cI cZ M_jobs M_many M_isPlanned M_least M_optima M_jobOf M_machineOf M_durations M_arcs M_drafts M_starts M_heads_15 M_tails_15 M_chosen M_orders M_sizes) H := hP
    have hD : va_D A (wM h_M h_M_jobOf h_M_machineOf h_M_durations h_M_arcs h_M_drafts h_M_starts h_M_heads h_M_tails h_M_chosen h_M_orders h_M_sizes cI cZ M_jobs M_many M_isPlanned M_least M_optima M_jobOf M_machineOf M_durations M_arcs M_drafts M_starts M_heads_15 M_tails_15 M_chosen M_orders M_sizes) := hD
    refine lv_iload_n (pc := 18) hx hb dX3_told_18 rfl (lv_at hl 2 rfl) ?_
    by_cases k_2 : a1 = 0
    · refine lv_tableIn (off := 41) (tgt := 60) (pc := 19) hx hb dX3_told_19 (by rw [k_2]; decide) (by rw [k_2]; decide) (by rw [k_2]; rfl) (by decide) ?_
      have hw := hw.1 k_2
      refine lv_aload_n (pc := 60) hx hb dX3_told_60 rfl (lv_at hl 0 rfl) ?_
      refine va_get (D := (dC, dI)) (ci := 3) (v := .ref h_M_jobOf) (C := RX3) (T := TX3) (N := 16) (pc := 61) hx hb hts hin_X3 hown hK hP 0 rfl rfl 2 (by decide) (hts (.fieldLink RX3 7 "JobShopModel" "jobOf" "[I") (by decide +kernel)) (fun _ h9 => h9) rfl dX3_told_61 ?_
      refine lv_iload_n (pc := 64) hx hb dX3_told_64 rfl (lv_at hl 1 rfl) ?_
      obtain ⟨b_3, hw⟩ := hw
      refine va_iald (pc := 65) hx hb hK hP 1 0 rfl rfl b_3 dX3_told_65 ?_
      exact W.iret (v := (M_jobOf a0.toNatClampNeg)) hx hb hr (fun t ht hW => ⟨⟨(M_jobOf a0.toNatClampNeg), (M_heads_15, M_tails_15), rfl, hw, by rw [ht]; exact hP, va_K.moved hW.alike hK, hD⟩, hS.F ht⟩) hS.2.2 dX3_told_66
    by_cases k_4 : a1 = 1
    · refine lv_tableIn (off := 48) (tgt := 67) (pc := 19) hx hb dX3_told_19 (by rw [k_4]; decide) (by rw [k_4]; decide) (by rw [k_4]; rfl) (by decide) ?_
      have hw := hw.2.1 k_4
      refine lv_aload_n (pc := 67) hx hb dX3_told_67 rfl (lv_at hl 0 rfl) ?_
      refine va_get (D := (dC, dI)) (ci := 3) (v := .ref h_M_machineOf) (C := RX3) (T := TX3) (N := 16) (pc := 68) hx hb hts hin_X3 hown hK hP 0 rfl rfl 3 (by decide) (hts (.fieldLink RX3 13 "JobShopModel" "machineOf" "[I") (by decide +kernel)) (fun _ h9 => h9) rfl dX3_told_68 ?_
      refine lv_iload_n (pc := 71) hx hb dX3_told_71 rfl (lv_at hl 1 rfl) ?_
      obtain ⟨b_5, hw⟩ := hw
      refine va_iald (pc := 72) hx hb hK hP 2 0 rfl rfl b_5 dX3_told_72 ?_
      exact W.iret (v := (M_machineOf a0.toNatClampNeg)) hx hb hr (fun t ht hW => ⟨⟨(M_machineOf a0.toNatClampNeg), (M_heads_15, M_tails_15), rfl, hw, by rw [ht]; exact hP, va_K.moved hW.alike hK, hD⟩, hS.F ht⟩) hS.2.2 dX3_told_73
    by_cases k_6 : a1 = 2
    · refine lv_tableIn (off := 55) (tgt := 74) (pc := 19) hx hb dX3_told_19 (by rw [k_6]; decide) (by rw [k_6]; decide) (by rw [k_6]; rfl) (by decide) ?_
      have hw := hw.2.2.1 k_6
      refine lv_aload_n (pc := 74) hx hb dX3_told_74 rfl (lv_at hl 0 rfl) ?_
      refine va_get (D := (dC, dI)) (ci := 3) (v := .ref h_M_durations) (C := RX3) (T := TX3) (N := 16) (pc := 75) hx hb hts hin_X3 hown hK hP 0 rfl rfl 4 (by decide) (hts (.fieldLink RX3 16 "JobShopModel" "durations" "[I") (by decide +kernel)) (fun _ h9 => h9) rfl dX3_told_75 ?_
      refine lv_iload_n (pc := 78) hx hb dX3_told_78 rfl (lv_at hl 1 rfl) ?_
      obtain ⟨b_7, hw⟩ := hw
      refine va_iald (pc := 79) hx hb hK hP 3 0 rfl rfl b_7 dX3_told_79 ?_
      exact W.iret (v := (M_durations a0.toNatClampNeg)) hx hb hr (fun t ht hW => ⟨⟨(M_durations a0.toNatClampNeg), (M_heads_15, M_tails_15), rfl, hw, by rw [ht]; exact hP, va_K.moved hW.alike hK, hD⟩, hS.F ht⟩) hS.2.2 dX3_told_80
    by_cases k_8 : a1 = 3
    · refine lv_tableIn (off := 62) (tgt := 81) (pc := 19) hx hb dX3_told_19 (by rw [k_8]; decide) (by rw [k_8]; decide) (by rw [k_8]; rfl) (by decide) ?_
      have hw := hw.2.2.2.1 k_8
      refine lv_aload_n (pc := 81) hx hb dX3_told_81 rfl (lv_at hl 0 rfl) ?_
      refine va_get (D := (dC, dI)) (ci := 3) (v := .ref h_M_heads) (C := RX3) (T := TX3) (N := 16) (pc := 82) hx hb hts hin_X3 hown hK hP 0 rfl rfl 11 (by decide) (hts (.fieldLink RX3 29 "JobShopModel" "heads" "[I") (by decide +kernel)) (fun _ h9 => h9) rfl dX3_told_82 ?_
      refine lv_iload_n (pc := 85) hx hb dX3_told_85 rfl (lv_at hl 1 rfl) ?_
      obtain ⟨b_9, hw⟩ := hw
      refine va_iald (pc := 86) hx hb hK hP 7 0 rfl rfl b_9 dX3_told_86 ?_
      exact W.iret (v := (M_heads_15 a0.toNatClampNeg)) hx hb hr (fun t ht hW => ⟨⟨(M_heads_15 a0.toNatClampNeg), (M_heads_15, M_tails_15), rfl, hw, by rw [ht]; exact hP, va_K.moved hW.alike hK, hD⟩, hS.F ht⟩) hS.2.2 dX3_told_87
    by_cases k_10 : a1 = 4
    · refine lv_tableIn (off := 69) (tgt := 88) (pc := 19) hx hb dX3_told_19 (by rw [k_10]; decide) (by rw [k_10]; decide) (by rw [k_10]; rfl) (by decide) ?_
      have hw := hw.2.2.2.2.1 k_10
      refine lv_aload_n (pc := 88) hx hb dX3_told_88 rfl (lv_at hl 0 rfl) ?_
      refine va_get (D := (dC, dI)) (ci := 3) (v := .ref h_M_tails) (C := RX3) (T := TX3) (N := 16) (pc := 89) hx hb hts hin_X3 hown hK hP 0 rfl rfl 12 (by decide) (hts (.fieldLink RX3 32 "JobShopModel" "tails" "[I") (by decide +kernel)) (fun _ h9 => h9) rfl dX3_told_89 ?_
      refine lv_iload_n (pc := 92) hx hb dX3_told_92 rfl (lv_at hl 1 rfl) ?_
      obtain ⟨b_11, hw⟩ := hw
      refine va_iald (pc := 93) hx hb hK hP 8 0 rfl rfl b_11 dX3_told_93 ?_
      exact W.iret (v := (M_tails_15 a0.toNatClampNeg)) hx hb hr (fun t ht hW => ⟨⟨(M_tails_15 a0.toNatClampNeg), (M_heads_15, M_tails_15), rfl, hw, by rw [ht]; exact hP, va_K.moved hW.alike hK, hD⟩, hS.F ht⟩) hS.2.2 dX3_told_94
    by_cases k_12 : a1 = 5
    · refine lv_tableIn (off := 76) (tgt := 95) (pc := 19) hx hb dX3_told_19 (by rw [k_12]; decide) (by rw [k_12]; decide) (by rw [k_12]; rfl) (by decide) ?_
      have hw := hw.2.2.2.2.2.1 k_12
      refine lv_aload_n (pc := 95) hx hb dX3_told_95 rfl (lv_at hl 0 rfl) ?_
      refine va_get (D := (dC, dI)) (ci := 3) (v := .ref h_M_heads) (C := RX3) (T := TX3) (N := 16) (pc := 96) hx hb hts hin_X3 hown hK hP 0 rfl rfl 11 (by decide) (hts (.fieldLink RX3 29 "JobShopModel" "heads" "[I") (by decide +kernel)) (fun _ h9 => h9) rfl dX3_told_96 ?_
      refine lv_iload_n (pc := 99) hx hb dX3_told_99 rfl (lv_at hl 1 rfl) ?_
      obtain ⟨b_13, hw⟩ := hw
      refine va_iald (pc := 100) hx hb hK hP 7 0 rfl rfl b_13 dX3_told_100 ?_
      refine lv_aload_n (pc := 101) hx hb dX3_told_101 rfl (lv_at hl 0 rfl) ?_
      refine va_get (D := (dC, dI)) (ci := 3) (v := .ref h_M_durations) (C := RX3) (T := TX3) (N := 16) (pc := 102) hx hb hts hin_X3 hown hK hP 0 rfl rfl 4 (by decide) (hts (.fieldLink RX3 16 "JobShopModel" "durations" "[I") (by decide +kernel)) (fun _ h9 => h9) rfl dX3_told_102 ?_
      refine lv_iload_n (pc := 105) hx hb dX3_told_105 rfl (lv_at hl 1 rfl) ?_
      obtain ⟨b_14, hw⟩ := hw
      refine va_iald (pc := 106) hx hb hK hP 3 0 rfl rfl b_14 dX3_told_106 ?_
      refine lv_iadd (pc := 107) hx hb dX3_told_107 ?_
      refine lv_aload_n (pc := 108) hx hb dX3_told_108 rfl (lv_at hl 0 rfl) ?_
      refine va_get (D := (dC, dI)) (ci := 3) (v := .ref h_M_tails) (C := RX3) (T := TX3) (N := 16) (pc := 109) hx hb hts hin_X3 hown hK hP 0 rfl rfl 12 (by decide) (hts (.fieldLink RX3 32 "JobShopModel" "tails" "[I") (by decide +kernel)) (fun _ h9 => h9) rfl dX3_told_109 ?_
      refine lv_iload_n (pc := 112) hx hb dX3_told_112 rfl (lv_at hl 1 rfl) ?_
      obtain ⟨b_15, hw⟩ := hw
      refine va_iald (pc := 113) hx hb hK hP 8 0 rfl rfl b_15 dX3_told_113 ?_
      refine lv_iadd (pc := 114) hx hb dX3_told_114 ?_
      refine lv_aload_n (pc := 115) hx hb dX3_told_115 rfl (lv_at hl 0 rfl) ?_
      have hPx : va_P (dC, dI) vwCl ([] ++ (wM h_M h_M_jobOf h_M_machineOf h_M_durations h_M_arcs h_M_drafts h_M_starts h_M_heads h_M_tails h_M_chosen h_M_orders h_M_sizes cI cZ M_jobs M_many M_isPlanned M_least M_optima M_jobOf M_machineOf M_durations M_arcs M_drafts M_starts M_heads_15 M_tails_15 M_chosen M_orders M_sizes)) H := hP
      have hDx : va_D A ([] ++ (wM h_M h_M_jobOf h_M_machineOf h_M_durations h_M_arcs h_M_drafts h_M_starts h_M_heads h_M_tails h_M_chosen h_M_orders h_M_sizes cI cZ M_jobs M_many M_isPlanned M_least M_optima M_jobOf M_machineOf M_durations M_arcs M_drafts M_starts M_heads_15 M_tails_15 M_chosen M_orders M_sizes)) := hD
      refine kc_i (pc := 116) (w1 := (fun u : Unit => (wM h_M h_M_jobOf h_M_machineOf h_M_durations h_M_arcs h_M_drafts h_M_starts h_M_heads h_M_tails h_M_chosen h_M_orders h_M_sizes cI cZ M_jobs M_many M_isPlanned M_least M_optima M_jobOf M_machineOf M_durations M_arcs M_drafts M_starts M_heads_15 M_tails_15 M_chosen M_orders M_sizes))) (va_runV (As := []) (rest := [.int (((M_heads_15 a0.toNatClampNeg) + (M_durations a0.toNatClampNeg)) + (M_tails_15 a0.toNatClampNeg))]) ⟨hx, hb, hml, hown, hts⟩ (c_X3_longest l dC dI h_M h_M_jobOf h_M_machineOf h_M_durations h_M_arcs h_M_drafts h_M_starts h_M_heads h_M_tails h_M_chosen h_M_orders h_M_sizes H.size cI cZ M_jobs M_many M_isPlanned M_least M_optima M_jobOf M_machineOf M_durations M_arcs M_drafts M_starts M_heads_15 M_tails_15 M_chosen M_orders M_sizes _ hw) (cwV 0 hts gX3_told_X3_longest rfl rfl rfl (by decide +kernel) ⟨Nat.le_of_ble_eq_true rfl, Nat.le_of_ble_eq_true rfl⟩) (kc_preVM (q0 := 0) (ci := 3) hK hPx hDx [0, 1] rfl rfl rfl) rfl rfl hl.1 rfl (lv_room (Nat.le_of_ble_eq_true rfl)) dX3_told_116 ⟨Nat.zero_le _, Nat.zero_le _⟩) hPx hDx hS hA (fun r_116 u H locs hw hP hD hS => ?_)
      have hP : va_P (dC, dI) vwCl (wM h_M h_M_jobOf h_M_machineOf h_M_durations h_M_arcs h_M_drafts h_M_starts h_M_heads h_M_tails h_M_chosen h_M_orders h_M_sizes cI cZ M_jobs M_many M_isPlanned M_least M_optima M_jobOf M_machineOf M_durations M_arcs M_drafts M_starts M_heads_15 M_tails_15 M_chosen M_orders M_sizes) H := hP
      have hD : va_D A (wM h_M h_M_jobOf h_M_machineOf h_M_durations h_M_arcs h_M_drafts h_M_starts h_M_heads h_M_tails h_M_chosen h_M_orders h_M_sizes cI cZ M_jobs M_many M_isPlanned M_least M_optima M_jobOf M_machineOf M_durations M_arcs M_drafts M_starts M_heads_15 M_tails_15 M_chosen M_orders M_sizes) := hD
      refine lv_icmp_ne (tgt := 126) (pc := 119) hx hb dX3_told_119 (by decide) (fun c_16 => ?_) (fun c_16 => ?_)
      · have hw := hw.1 c_16
        refine lv_iconst (v := 0) (pc := 126) hx hb dX3_told_126 (by decide) ?_
        exact W.iret (v := 0) hx hb hr (fun t ht hW => ⟨⟨0, (M_heads_15, M_tails_15), rfl, hw, by rw [ht]; exact hP, va_K.moved hW.alike hK, hD⟩, hS.F ht⟩) hS.2.2 dX3_told_127
      · have hw := hw.2 c_16
        refine lv_iconst (v := 1) (pc := 122) hx hb dX3_told_122 (by decide) ?_
        refine lv_goto (tgt := 127) (pc := 123) hx hb dX3_told_123 (by decide) ?_
        exact W.iret (v := 1) hx hb hr (fun t ht hW => ⟨⟨1, (M_heads_15, M_tails_15), rfl, hw, by rw [ht]; exact hP, va_K.moved hW.alike hK, hD⟩, hS.F ht⟩) hS.2.2 dX3_told_127
    by_cases k_17 : a1 = 6
    · refine lv_tableIn (off := 109) (tgt := 128) (pc := 19) hx hb dX3_told_19 (by rw [k_17]; decide) (by rw [k_17]; decide) (by rw [k_17]; rfl) (by decide) ?_
      have hw := hw.2.2.2.2.2.2.1 k_17
      refine lv_aload_n (pc := 128) hx hb dX3_told_128 rfl (lv_at hl 0 rfl) ?_
      refine va_get (D := (dC, dI)) (ci := 3) (v := .int M_isPlanned) (C := RX3) (T := TX3) (N := 16) (pc := 129) hx hb hts hin_X3 hown hK hP 0 rfl rfl 7 (by decide) (hts (.fieldLink RX3 59 "JobShopModel" "isPlanned" "Z") (by decide +kernel)) (fun _ h9 => h9) rfl dX3_told_129 ?_
      refine lv_if_eq (tgt := 144) (pc := 132) hx hb dX3_told_132 (by decide) (fun c_18 => ?_) (fun c_18 => ?_)
      · have hw := hw.1 c_18
        refine lv_iconst (v := (-1)) (pc := 144) hx hb dX3_told_144 (by decide) ?_
        exact W.iret (v := (-1)) hx hb hr (fun t ht hW => ⟨⟨(-1), (M_heads_15, M_tails_15), rfl, hw, by rw [ht]; exact hP, va_K.moved hW.alike hK, hD⟩, hS.F ht⟩) hS.2.2 dX3_told_145
      · have hw := hw.2 c_18
        refine lv_aload_n (pc := 135) hx hb dX3_told_135 rfl (lv_at hl 0 rfl) ?_
        refine va_get (D := (dC, dI)) (ci := 3) (v := .ref h_M_starts) (C := RX3) (T := TX3) (N := 16) (pc := 136) hx hb hts hin_X3 hown hK hP 0 rfl rfl 8 (by decide) (hts (.fieldLink RX3 26 "JobShopModel" "starts" "[I") (by decide +kernel)) (fun _ h9 => h9) rfl dX3_told_136 ?_
        refine lv_iload_n (pc := 139) hx hb dX3_told_139 rfl (lv_at hl 1 rfl) ?_
        obtain ⟨b_19, hw⟩ := hw
        refine va_iald (pc := 140) hx hb hK hP 6 0 rfl rfl b_19 dX3_told_140 ?_
        refine lv_goto (tgt := 145) (pc := 141) hx hb dX3_told_141 (by decide) ?_
        exact W.iret (v := (M_starts a0.toNatClampNeg)) hx hb hr (fun t ht hW => ⟨⟨(M_starts a0.toNatClampNeg), (M_heads_15, M_tails_15), rfl, hw, by rw [ht]; exact hP, va_K.moved hW.alike hK, hD⟩, hS.F ht⟩) hS.2.2 dX3_told_145
    have ho : a1.toInt < 0 ∨ 6 < a1.toInt := by have q0 := lv_neT k_2 (a := 0) rfl; have q1 := lv_neT k_4 (a := 1) rfl; have q2 := lv_neT k_6 (a := 2) rfl; have q3 := lv_neT k_8 (a := 3) rfl; have q4 := lv_neT k_10 (a := 4) rfl; have q5 := lv_neT k_12 (a := 5) rfl; have q6 := lv_neT k_17 (a := 6) rfl; omega
    refine lv_tableOut (tgt := 146) (pc := 19) hx hb dX3_told_19 ho (by decide) ?_
    have hw := hw.2.2.2.2.2.2.2 ho
    refine lv_bipush (v := (-2)) (pc := 146) hx hb dX3_told_146 (by decide) ?_
    exact W.iret (v := (-2)) hx hb hr (fun t ht hW => ⟨⟨(-2), (M_heads_15, M_tails_15), rfl, hw, by rw [ht]; exact hP, va_K.moved hW.alike hK, hD⟩, hS.F ht⟩) hS.2.2 dX3_told_148
  · have hw := hw.2 c_1
    refine lv_iconst (v := (-1)) (pc := 8) hx hb dX3_told_8 (by decide) ?_
    exact W.iret (v := (-1)) hx hb hr (fun t ht hW => ⟨⟨(-1), (M_heads, M_tails), rfl, hw, by rw [ht]; exact hP, va_K.moved hW.alike hK, hD⟩, hS.F ht⟩) hS.2.2 dX3_told_9
set_option maxHeartbeats 4000000 in
set_option maxRecDepth 100000 in
theorem c_X3_length (l : Launch) (dC : Nat → ClassId) (dI : Nat → Nat → Nat) (h_M h_M_jobOf h_M_machineOf h_M_durations h_M_arcs h_M_drafts h_M_starts h_M_heads h_M_tails h_M_chosen h_M_orders h_M_sizes : Nat) (sz : Nat) (cI cZ : ClassId) (M_jobs : Int32) (M_many : Int32) (M_isPlanned : Int32) (M_least : Int32) (M_optima : Int32) (M_jobOf : Nat → Int32) (M_machineOf : Nat → Int32) (M_durations : Nat → Int32) (M_arcs : Nat → Int32) (M_drafts : Nat → Int32) (M_starts : Nat → Int32) (M_heads : Nat → Int32) (M_tails : Nat → Int32) (M_chosen : Nat → Int32) (M_orders : Nat → Int32) (M_sizes : Nat → Int32) (post : Int32 → (Nat → Int32) → (Nat → Int32) → Prop) (hw : wp_X3_length M_many M_jobOf M_durations M_arcs M_heads M_tails post) : Met l yX3_length wsX3_length ({ frames := 4, cells := 0, slots := 0, locals := 93 }) (va_Pc [.ref h_M] (fun U => U.heap.size = sz ∧ va_P (dC, dI) vwCl (wM h_M h_M_jobOf h_M_machineOf h_M_durations h_M_arcs h_M_drafts h_M_starts h_M_heads h_M_tails h_M_chosen h_M_orders h_M_sizes cI cZ M_jobs M_many M_isPlanned M_least M_optima M_jobOf M_machineOf M_durations M_arcs M_drafts M_starts M_heads M_tails M_chosen M_orders M_sizes) U.heap ∧ va_K (dC, dI) vwCl [(cI, .int), (cZ, .boolean)] U ∧ va_D (fun _ => True) (wM h_M h_M_jobOf h_M_machineOf h_M_durations h_M_arcs h_M_drafts h_M_starts h_M_heads h_M_tails h_M_chosen h_M_orders h_M_sizes cI cZ M_jobs M_many M_isPlanned M_least M_optima M_jobOf M_machineOf M_durations M_arcs M_drafts M_starts M_heads M_tails M_chosen M_orders M_sizes))) (va_Qi (fun (r : Int32) (u : (Nat → Int32) × (Nat → Int32)) => post r u.1 u.2) (fun u t => va_P (dC, dI) vwCl (wM h_M h_M_jobOf h_M_machineOf h_M_durations h_M_arcs h_M_drafts h_M_starts h_M_heads h_M_tails h_M_chosen h_M_orders h_M_sizes cI cZ M_jobs M_many M_isPlanned M_least M_optima M_jobOf M_machineOf M_durations M_arcs M_drafts M_starts u.1 u.2 M_chosen M_orders M_sizes) t.heap ∧ va_K (dC, dI) vwCl [(cI, .int), (cZ, .boolean)] t ∧ va_D (va_A (wM h_M h_M_jobOf h_M_machineOf h_M_durations h_M_arcs h_M_drafts h_M_starts h_M_heads h_M_tails h_M_chosen h_M_orders h_M_sizes cI cZ M_jobs M_many M_isPlanned M_least M_optima M_jobOf M_machineOf M_durations M_arcs M_drafts M_starts M_heads M_tails M_chosen M_orders M_sizes) sz) (wM h_M h_M_jobOf h_M_machineOf h_M_durations h_M_arcs h_M_drafts h_M_starts h_M_heads h_M_tails h_M_chosen h_M_orders h_M_sizes cI cZ M_jobs M_many M_isPlanned M_least M_optima M_jobOf M_machineOf M_durations M_arcs M_drafts M_starts u.1 u.2 M_chosen M_orders M_sizes)) (va_A (wM h_M h_M_jobOf h_M_machineOf h_M_durations h_M_arcs h_M_drafts h_M_starts h_M_heads h_M_tails h_M_chosen h_M_orders h_M_sizes cI cZ M_jobs M_many M_isPlanned M_least M_optima M_jobOf M_machineOf M_durations M_arcs M_drafts M_starts M_heads M_tails M_chosen M_orders M_sizes) sz)) 0 0 (va_A (wM h_M h_M_jobOf h_M_machineOf h_M_durations h_M_arcs h_M_drafts h_M_starts h_M_heads h_M_tails h_M_chosen h_M_orders h_M_sizes cI cZ M_jobs M_many M_isPlanned M_least M_optima M_jobOf M_machineOf M_durations M_arcs M_drafts M_starts M_heads M_tails M_chosen M_orders M_sizes) sz) := by
  refine Met.ofW (cc := cX3_length) (maxL := 1) (ret := (some .int)) (by decide) rfl ?_
  intro p e s m args below meth c s₁ B hml hv
  obtain ⟨rfl, hsz, hP, hK, hD0⟩ := hv
  have hx := B.exec
  have hb := B.bytes
  have hr := B.returns
  have hts := atoms_spec (ws := wsX3_length) B.pre
  have hown : s.vm.findClass RX3 = some m.cls := findClass_of_methodNamed B.named
  have hlocks := B.notSynchronized
  subst hsz
  have hD := hD0.self (sz := s.heap.size)
  generalize hAe : va_A (wM h_M h_M_jobOf h_M_machineOf h_M_durations h_M_arcs h_M_drafts h_M_starts h_M_heads h_M_tails h_M_chosen h_M_orders h_M_sizes cI cZ M_jobs M_many M_isPlanned M_least M_optima M_jobOf M_machineOf M_durations M_arcs M_drafts M_starts M_heads M_tails M_chosen M_orders M_sizes) s.heap.size = A at hD ⊢
  have hA : ∀ q : Nat, s.heap.size ≤ q → A q := fun q h => by rw [← hAe]; exact Or.inr h
  have hS : va_S A s.heap s.heap [] := va_S.rf
  have hP : va_P (dC, dI) vwCl (wM h_M h_M_jobOf h_M_machineOf h_M_durations h_M_arcs h_M_drafts h_M_starts h_M_heads h_M_tails h_M_chosen h_M_orders h_M_sizes cI cZ M_jobs M_many M_isPlanned M_least M_optima M_jobOf M_machineOf M_durations M_arcs M_drafts M_starts M_heads M_tails M_chosen M_orders M_sizes) s.heap := hP
  have hl := lv_entry ([.ref h_M]) (n := 1) (Nat.le_of_ble_eq_true rfl)
  rw [lg_entry_eq]
  generalize (lg_sl ([.ref h_M]) ++ List.replicate (1 - (lg_sl ([.ref h_M])).length) Slot.unset).toArray = ls at hl ⊢
  have hl : lv_has ls 1 [(0, .ref h_M)] := hl
  obtain ⟨H, hH⟩ : ∃ H, H = s.heap := ⟨_, rfl⟩
  rw [← hH] at hP
  have hS : va_S A s.heap H [] := by rw [hH]; exact hS
  refine W_heap hH ?_
  unfold wp_X3_length at hw
  have hin_X3 : ∀ w ∈ u_ws RX3 TX3 16, w ∈ wsX3_length := by decide +kernel
  refine lv_aload_n (pc := 0) hx hb dX3_length_0 rfl (lv_at hl 0 rfl) ?_
  refine lv_aload_n (pc := 1) hx hb dX3_length_1 rfl (lv_at hl 0 rfl) ?_
  refine va_get (D := (dC, dI)) (ci := 3) (v := .ref h_M_arcs) (C := RX3) (T := TX3) (N := 16) (pc := 2) hx hb hts hin_X3 hown hK hP 0 rfl rfl 5 (by decide) (hts (.fieldLink RX3 19 "JobShopModel" "arcs" "[Z") (by decide +kernel)) (fun _ h9 => h9) rfl dX3_length_2 ?_
  have hPx : va_P (dC, dI) vwCl ([] ++ (wM h_M h_M_jobOf h_M_machineOf h_M_durations h_M_arcs h_M_drafts h_M_starts h_M_heads h_M_tails h_M_chosen h_M_orders h_M_sizes cI cZ M_jobs M_many M_isPlanned M_least M_optima M_jobOf M_machineOf M_durations M_arcs M_drafts M_starts M_heads M_tails M_chosen M_orders M_sizes)) H := hP
  have hDx : va_D A ([] ++ (wM h_M h_M_jobOf h_M_machineOf h_M_durations h_M_arcs h_M_drafts h_M_starts h_M_heads h_M_tails h_M_chosen h_M_orders h_M_sizes cI cZ M_jobs M_many M_isPlanned M_least M_optima M_jobOf M_machineOf M_durations M_arcs M_drafts M_starts M_heads M_tails M_chosen M_orders M_sizes)) := hD
  refine kc_v (pc := 5) (w1 := (fun u : (Nat → Int32) × (Nat → Int32) => (wM h_M h_M_jobOf h_M_machineOf h_M_durations h_M_arcs h_M_drafts h_M_starts h_M_heads h_M_tails h_M_chosen h_M_orders h_M_sizes cI cZ M_jobs M_many M_isPlanned M_least M_optima M_jobOf M_machineOf M_durations M_arcs M_drafts M_starts u.1 u.2 M_chosen M_orders M_sizes))) (va_runV (As := [.ref h_M_arcs]) (rest := []) ⟨hx, hb, hml, hown, hts⟩ (c_X3_look_a l dC dI h_M h_M_jobOf h_M_machineOf h_M_durations h_M_arcs h_M_drafts h_M_starts h_M_heads h_M_tails h_M_chosen h_M_orders h_M_sizes H.size cI cZ M_jobs M_many M_isPlanned M_least M_optima M_jobOf M_machineOf M_durations M_arcs M_drafts M_starts M_heads M_tails M_chosen M_orders M_sizes _ hw) (cwV 1 hts gX3_length_X3_look rfl rfl rfl (by decide +kernel) ⟨Nat.le_of_ble_eq_true rfl, Nat.le_of_ble_eq_true rfl⟩) (kc_preVM (q0 := 0) (ci := 3) hK hPx hDx [0, 1] rfl rfl rfl) rfl rfl hl.1 rfl (lv_room (Nat.le_of_ble_eq_true rfl)) dX3_length_5 ⟨Nat.zero_le _, Nat.zero_le _⟩) hPx hDx hS hA (fun u H locs hw hP hD hS => ?_)
  obtain ⟨M_heads_5, M_tails_5⟩ := u
  have hP : va_P (dC, dI) vwCl (wM h_M h_M_jobOf h_M_machineOf h_M_durations h_M_arcs h_M_drafts h_M_starts h_M_heads h_M_tails h_M_chosen h_M_orders h_M_sizes cI cZ M_jobs M_many M_isPlanned M_least M_optima M_jobOf M_machineOf M_durations M_arcs M_drafts M_starts M_heads_5 M_tails_5 M_chosen M_orders M_sizes) H := hP
  have hD : va_D A (wM h_M h_M_jobOf h_M_machineOf h_M_durations h_M_arcs h_M_drafts h_M_starts h_M_heads h_M_tails h_M_chosen h_M_orders h_M_sizes cI cZ M_jobs M_many M_isPlanned M_least M_optima M_jobOf M_machineOf M_durations M_arcs M_drafts M_starts M_heads_5 M_tails_5 M_chosen M_orders M_sizes) := hD
  refine lv_aload_n (pc := 8) hx hb dX3_length_8 rfl (lv_at hl 0 rfl) ?_
  have hPx : va_P (dC, dI) vwCl ([] ++ (wM h_M h_M_jobOf h_M_machineOf h_M_durations h_M_arcs h_M_drafts h_M_starts h_M_heads h_M_tails h_M_chosen h_M_orders h_M_sizes cI cZ M_jobs M_many M_isPlanned M_least M_optima M_jobOf M_machineOf M_durations M_arcs M_drafts M_starts M_heads_5 M_tails_5 M_chosen M_orders M_sizes)) H := hP
  have hDx : va_D A ([] ++ (wM h_M h_M_jobOf h_M_machineOf h_M_durations h_M_arcs h_M_drafts h_M_starts h_M_heads h_M_tails h_M_chosen h_M_orders h_M_sizes cI cZ M_jobs M_many M_isPlanned M_least M_optima M_jobOf M_machineOf M_durations M_arcs M_drafts M_starts M_heads_5 M_tails_5 M_chosen M_orders M_sizes)) := hD
  refine kc_i (pc := 9) (w1 := (fun u : Unit => (wM h_M h_M_jobOf h_M_machineOf h_M_durations h_M_arcs h_M_drafts h_M_starts h_M_heads h_M_tails h_M_chosen h_M_orders h_M_sizes cI cZ M_jobs M_many M_isPlanned M_least M_optima M_jobOf M_machineOf M_durations M_arcs M_drafts M_starts M_heads_5 M_tails_5 M_chosen M_orders M_sizes))) (va_runV (As := []) (rest := []) ⟨hx, hb, hml, hown, hts⟩ (c_X3_longest l dC dI h_M h_M_jobOf h_M_machineOf h_M_durations h_M_arcs h_M_drafts h_M_starts h_M_heads h_M_tails h_M_chosen h_M_orders h_M_sizes H.size cI cZ M_jobs M_many M_isPlanned M_least M_optima M_jobOf M_machineOf M_durations M_arcs M_drafts M_starts M_heads_5 M_tails_5 M_chosen M_orders M_sizes _ hw) (cwV 0 hts gX3_length_X3_longest rfl rfl rfl (by decide +kernel) ⟨Nat.le_of_ble_eq_true rfl, Nat.le_of_ble_eq_true rfl⟩) (kc_preVM (q0 := 0) (ci := 3) hK hPx hDx [0, 1] rfl rfl rfl) rfl rfl hl.1 rfl (lv_room (Nat.le_of_ble_eq_true rfl)) dX3_length_9 ⟨Nat.zero_le _, Nat.zero_le _⟩) hPx hDx hS hA (fun r_9 u H locs hw hP hD hS => ?_)
  have hP : va_P (dC, dI) vwCl (wM h_M h_M_jobOf h_M_machineOf h_M_durations h_M_arcs h_M_drafts h_M_starts h_M_heads h_M_tails h_M_chosen h_M_orders h_M_sizes cI cZ M_jobs M_many M_isPlanned M_least M_optima M_jobOf M_machineOf M_durations M_arcs M_drafts M_starts M_heads_5 M_tails_5 M_chosen M_orders M_sizes) H := hP
  have hD : va_D A (wM h_M h_M_jobOf h_M_machineOf h_M_durations h_M_arcs h_M_drafts h_M_starts h_M_heads h_M_tails h_M_chosen h_M_orders h_M_sizes cI cZ M_jobs M_many M_isPlanned M_least M_optima M_jobOf M_machineOf M_durations M_arcs M_drafts M_starts M_heads_5 M_tails_5 M_chosen M_orders M_sizes) := hD
  exact W.iret (v := r_9) hx hb hr (fun t ht hW => ⟨⟨r_9, (M_heads_5, M_tails_5), rfl, hw, by rw [ht]; exact hP, va_K.moved hW.alike hK, hD⟩, hS.F ht⟩) hS.2.2 dX3_length_12
set_option maxHeartbeats 4000000 in
set_option maxRecDepth 100000 in
theorem c_X3_load (l : Launch) (dC : Nat → ClassId) (dI : Nat → Nat → Nat) (h_M h_M_jobOf h_M_machineOf h_M_durations h_M_arcs h_M_drafts h_M_starts h_M_heads h_M_tails h_M_chosen h_M_orders h_M_sizes : Nat) (sz : Nat) (cI cZ : ClassId) (M_jobs : Int32) (M_many : Int32) (M_isPlanned : Int32) (M_least : Int32) (M_optima : Int32) (M_jobOf : Nat → Int32) (M_machineOf : Nat → Int32) (M_durations : Nat → Int32) (M_arcs : Nat → Int32) (M_drafts : Nat → Int32) (M_starts : Nat → Int32) (M_heads : Nat → Int32) (M_tails : Nat → Int32) (M_chosen : Nat → Int32) (M_orders : Nat → Int32) (M_sizes : Nat → Int32) (a0 : Int32) (post : Int32 → (Nat → Int32) → (Nat → Int32) → Prop) (hw : wp_X3_load M_many M_jobOf M_machineOf M_durations M_arcs M_heads M_tails a0 post) : Met l yX3_load wsX3_load ({ frames := 4, cells := 0, slots := 0, locals := 93 }) (va_Pc [.ref h_M, .int a0] (fun U => U.heap.size = sz ∧ va_P (dC, dI) vwCl (wM h_M h_M_jobOf h_M_machineOf h_M_durations h_M_arcs h_M_drafts h_M_starts h_M_heads h_M_tails h_M_chosen h_M_orders h_M_sizes cI cZ M_jobs M_many M_isPlanned M_least M_optima M_jobOf M_machineOf M_durations M_arcs M_drafts M_starts M_heads M_tails M_chosen M_orders M_sizes) U.heap ∧ va_K (dC, dI) vwCl [(cI, .int), (cZ, .boolean)] U ∧ va_D (fun _ => True) (wM h_M h_M_jobOf h_M_machineOf h_M_durations h_M_arcs h_M_drafts h_M_starts h_M_heads h_M_tails h_M_chosen h_M_orders h_M_sizes cI cZ M_jobs M_many M_isPlanned M_least M_optima M_jobOf M_machineOf M_durations M_arcs M_drafts M_starts M_heads M_tails M_chosen M_orders M_sizes))) (va_Qi (fun (r : Int32) (u : (Nat → Int32) × (Nat → Int32)) => post r u.1 u.2) (fun u t => va_P (dC, dI) vwCl (wM h_M h_M_jobOf h_M_machineOf h_M_durations h_M_arcs h_M_drafts h_M_starts h_M_heads h_M_tails h_M_chosen h_M_orders h_M_sizes cI cZ M_jobs M_many M_isPlanned M_least M_optima M_jobOf M_machineOf M_durations M_arcs M_drafts M_starts u.1 u.2 M_chosen M_orders M_sizes) t.heap ∧ va_K (dC, dI) vwCl [(cI, .int), (cZ, .boolean)] t ∧ va_D (va_A (wM h_M h_M_jobOf h_M_machineOf h_M_durations h_M_arcs h_M_drafts h_M_starts h_M_heads h_M_tails h_M_chosen h_M_orders h_M_sizes cI cZ M_jobs M_many M_isPlanned M_least M_optima M_jobOf M_machineOf M_durations M_arcs M_drafts M_starts M_heads M_tails M_chosen M_orders M_sizes) sz) (wM h_M h_M_jobOf h_M_machineOf h_M_durations h_M_arcs h_M_drafts h_M_starts h_M_heads h_M_tails h_M_chosen h_M_orders h_M_sizes cI cZ M_jobs M_many M_isPlanned M_least M_optima M_jobOf M_machineOf M_durations M_arcs M_drafts M_starts u.1 u.2 M_chosen M_orders M_sizes)) (va_A (wM h_M h_M_jobOf h_M_machineOf h_M_durations h_M_arcs h_M_drafts h_M_starts h_M_heads h_M_tails h_M_chosen h_M_orders h_M_sizes cI cZ M_jobs M_many M_isPlanned M_least M_optima M_jobOf M_machineOf M_durations M_arcs M_drafts M_starts M_heads M_tails M_chosen M_orders M_sizes) sz)) 0 0 (va_A (wM h_M h_M_jobOf h_M_machineOf h_M_durations h_M_arcs h_M_drafts h_M_starts h_M_heads h_M_tails h_M_chosen h_M_orders h_M_sizes cI cZ M_jobs M_many M_isPlanned M_least M_optima M_jobOf M_machineOf M_durations M_arcs M_drafts M_starts M_heads M_tails M_chosen M_orders M_sizes) sz) := by
  refine Met.ofW (cc := cX3_load) (maxL := 9) (ret := (some .int)) (by decide) rfl ?_
  intro p e s m args below meth c s₁ B hml hv
  obtain ⟨rfl, hsz, hP, hK, hD0⟩ := hv
  have hx := B.exec
  have hb := B.bytes
  have hr := B.returns
  have hts := atoms_spec (ws := wsX3_load) B.pre
  have hown : s.vm.findClass RX3 = some m.cls := findClass_of_methodNamed B.named
  have hlocks := B.notSynchronized
  subst hsz
  have hD := hD0.self (sz := s.heap.size)
  generalize hAe : va_A (wM h_M h_M_jobOf h_M_machineOf h_M_durations h_M_arcs h_M_drafts h_M_starts h_M_heads h_M_tails h_M_chosen h_M_orders h_M_sizes cI cZ M_jobs M_many M_isPlanned M_least M_optima M_jobOf M_machineOf M_durations M_arcs M_drafts M_starts M_heads M_tails M_chosen M_orders M_sizes) s.heap.size = A at hD ⊢
  have hA : ∀ q : Nat, s.heap.size ≤ q → A q := fun q h => by rw [← hAe]; exact Or.inr h
  have hS : va_S A s.heap s.heap [] := va_S.rf
  have hP : va_P (dC, dI) vwCl (wM h_M h_M_jobOf h_M_machineOf h_M_durations h_M_arcs h_M_drafts h_M_starts h_M_heads h_M_tails h_M_chosen h_M_orders h_M_sizes cI cZ M_jobs M_many M_isPlanned M_least M_optima M_jobOf M_machineOf M_durations M_arcs M_drafts M_starts M_heads M_tails M_chosen M_orders M_sizes) s.heap := hP
  have hl := lv_entry ([.ref h_M, .int a0]) (n := 9) (Nat.le_of_ble_eq_true rfl)
  rw [lg_entry_eq]
  generalize (lg_sl ([.ref h_M, .int a0]) ++ List.replicate (9 - (lg_sl ([.ref h_M, .int a0])).length) Slot.unset).toArray = ls at hl ⊢
  have hl : lv_has ls 9 [(0, .ref h_M), (1, .int a0)] := hl
  obtain ⟨H, hH⟩ : ∃ H, H = s.heap := ⟨_, rfl⟩
  rw [← hH] at hP
  have hS : va_S A s.heap H [] := by rw [hH]; exact hS
  refine W_heap hH ?_
  unfold wp_X3_load at hw
  have hin_X3 : ∀ w ∈ u_ws RX3 TX3 16, w ∈ wsX3_load := by decide +kernel
  refine lv_iload_n (pc := 0) hx hb dX3_load_0 rfl (lv_at hl 1 rfl) ?_
  refine lv_iconst (v := 0) (pc := 1) hx hb dX3_load_1 (by decide) ?_
  refine lv_iconst (v := 3) (pc := 2) hx hb dX3_load_2 (by decide) ?_
  have hPx : va_P (dC, dI) vwCl ([(h_M, .inr (3, [.int M_jobs, .int M_many, .ref h_M_jobOf, .ref h_M_machineOf, .ref h_M_durations, .ref h_M_arcs, .ref h_M_drafts, .int M_isPlanned, .ref h_M_starts, .int M_least, .int M_optima, .ref h_M_heads, .ref h_M_tails, .ref h_M_chosen, .ref h_M_orders, .ref h_M_sizes])), (h_M_jobOf, .inl (cI, 12, .inl M_jobOf)), (h_M_machineOf, .inl (cI, 12, .inl M_machineOf)), (h_M_durations, .inl (cI, 12, .inl M_durations)), (h_M_arcs, .inl (cZ, 144, .inl M_arcs)), (h_M_drafts, .inl (cI, 12, .inl M_drafts)), (h_M_starts, .inl (cI, 12, .inl M_starts)), (h_M_heads, .inl (cI, 12, .inl M_heads)), (h_M_tails, .inl (cI, 12, .inl M_tails)), (h_M_chosen, .inl (cZ, 144, .inl M_chosen)), (h_M_orders, .inl (cI, 16, .inl M_orders)), (h_M_sizes, .inl (cI, 4, .inl M_sizes))] ++ ([] : va_W)) H := hP
  have hDx : va_D A ([(h_M, .inr (3, [.int M_jobs, .int M_many, .ref h_M_jobOf, .ref h_M_machineOf, .ref h_M_durations, .ref h_M_arcs, .ref h_M_drafts, .int M_isPlanned, .ref h_M_starts, .int M_least, .int M_optima, .ref h_M_heads, .ref h_M_tails, .ref h_M_chosen, .ref h_M_orders, .ref h_M_sizes])), (h_M_jobOf, .inl (cI, 12, .inl M_jobOf)), (h_M_machineOf, .inl (cI, 12, .inl M_machineOf)), (h_M_durations, .inl (cI, 12, .inl M_durations)), (h_M_arcs, .inl (cZ, 144, .inl M_arcs)), (h_M_drafts, .inl (cI, 12, .inl M_drafts)), (h_M_starts, .inl (cI, 12, .inl M_starts)), (h_M_heads, .inl (cI, 12, .inl M_heads)), (h_M_tails, .inl (cI, 12, .inl M_tails)), (h_M_chosen, .inl (cZ, 144, .inl M_chosen)), (h_M_orders, .inl (cI, 16, .inl M_orders)), (h_M_sizes, .inl (cI, 4, .inl M_sizes))] ++ ([] : va_W)) := hD
  refine kc_i (pc := 3) (w1 := (fun u : Unit => ([] : va_W))) (va_runS (As := [.int a0, .int 0, .int 3]) (rest := []) ⟨hx, hb, hml, hown, hts⟩ (c_X3_in l dC dI H.size  a0 0 3 _ hw) (va_cwS 3 hts gX3_load_X3_in rfl rfl rfl (by decide +kernel) ⟨Nat.le_of_ble_eq_true rfl, Nat.le_of_ble_eq_true rfl⟩) (kc_preS hK hPx hDx [] rfl) rfl rfl hl.1 rfl (lv_room (Nat.le_of_ble_eq_true rfl)) dX3_load_3 ⟨Nat.zero_le _, Nat.zero_le _⟩) hPx hDx hS hA (fun r_3 u H locs hw hP hD hS => ?_)
  have hP : va_P (dC, dI) vwCl (wM h_M h_M_jobOf h_M_machineOf h_M_durations h_M_arcs h_M_drafts h_M_starts h_M_heads h_M_tails h_M_chosen h_M_orders h_M_sizes cI cZ M_jobs M_many M_isPlanned M_least M_optima M_jobOf M_machineOf M_durations M_arcs M_drafts M_starts M_heads M_tails M_chosen M_orders M_sizes) H := hP
  have hD : va_D A (wM h_M h_M_jobOf h_M_machineOf h_M_durations h_M_arcs h_M_drafts h_M_starts h_M_heads h_M_tails h_M_chosen h_M_orders h_M_sizes cI cZ M_jobs M_many M_isPlanned M_least M_optima M_jobOf M_machineOf M_durations M_arcs M_drafts M_starts M_heads M_tails M_chosen M_orders M_sizes) := hD
  refine lv_if_ne (tgt := 12) (pc := 6) hx hb dX3_load_6 (by decide) (fun c_1 => ?_) (fun c_1 => ?_)
  · have hw := hw.1 c_1
    refine lv_aload_n (pc := 12) hx hb dX3_load_12 rfl (lv_at hl 0 rfl) ?_
    refine lv_aload_n (pc := 13) hx hb dX3_load_13 rfl (lv_at hl 0 rfl) ?_
    refine va_get (D := (dC, dI)) (ci := 3) (v := .ref h_M_arcs) (C := RX3) (T := TX3) (N := 16) (pc := 14) hx hb hts hin_X3 hown hK hP 0 rfl rfl 5 (by decide) (hts (.fieldLink RX3 19 "JobShopModel" "arcs" "[Z") (by decide +kernel)) (fun _ h9 => h9) rfl dX3_load_14 ?_
    have hPx : va_P (dC, dI) vwCl ([] ++ (wM h_M h_M_jobOf h_M_machineOf h_M_durations h_M_arcs h_M_drafts h_M_starts h_M_heads h_M_tails h_M_chosen h_M_orders h_M_sizes cI cZ M_jobs M_many M_isPlanned M_least M_optima M_jobOf M_machineOf M_durations M_arcs M_drafts M_starts M_heads M_tails M_chosen M_orders M_sizes)) H := hP
    have hDx : va_D A ([] ++ (wM h_M h_M_jobOf h_M_machineOf h_M_durations h_M_arcs h_M_drafts h_M_starts h_M_heads h_M_tails h_M_chosen h_M_orders h_M_sizes cI cZ M_jobs M_many M_isPlanned M_least M_optima M_jobOf M_machineOf M_durations M_arcs M_drafts M_starts M_heads M_tails M_chosen M_orders M_sizes)) := hD
    refine kc_v (pc := 17) (w1 := (fun u : (Nat → Int32) × (Nat → Int32) => (wM h_M h_M_jobOf h_M_machineOf h_M_durations h_M_arcs h_M_drafts h_M_starts h_M_heads h_M_tails h_M_chosen h_M_orders h_M_sizes cI cZ M_jobs M_many M_isPlanned M_least M_optima M_jobOf M_machineOf M_durations M_arcs M_drafts M_starts u.1 u.2 M_chosen M_orders M_sizes))) (va_runV (As := [.ref h_M_arcs]) (rest := []) ⟨hx, hb, hml, hown, hts⟩ (c_X3_look_a l dC dI h_M h_M_jobOf h_M_machineOf h_M_durations h_M_arcs h_M_drafts h_M_starts h_M_heads h_M_tails h_M_chosen h_M_orders h_M_sizes H.size cI cZ M_jobs M_many M_isPlanned M_least M_optima M_jobOf M_machineOf M_durations M_arcs M_drafts M_starts M_heads M_tails M_chosen M_orders M_sizes _ hw) (cwV 1 hts gX3_load_X3_look rfl rfl rfl (by decide +kernel) ⟨Nat.le_of_ble_eq_true rfl, Nat.le_of_ble_eq_true rfl⟩) (kc_preVM (q0 := 0) (ci := 3) hK hPx hDx [0, 1] rfl rfl rfl) rfl rfl hl.1 rfl (lv_room (Nat.le_of_ble_eq_true rfl)) dX3_load_17 ⟨Nat.zero_le _, Nat.zero_le _⟩) hPx hDx hS hA (fun u H locs hw hP hD hS => ?_)
    obtain ⟨M_heads_17, M_tails_17⟩ := u
    have hP : va_P (dC, dI) vwCl (wM h_M h_M_jobOf h_M_machineOf h_M_durations h_M_arcs h_M_drafts h_M_starts h_M_heads h_M_tails h_M_chosen h_M_orders h_M_sizes cI cZ M_jobs M_many M_isPlanned M_least M_optima M_jobOf M_machineOf M_durations M_arcs M_drafts M_starts M_heads_17 M_tails_17 M_chosen M_orders M_sizes) H := hP
    have hD : va_D A (wM h_M h_M_jobOf h_M_machineOf h_M_durations h_M_arcs h_M_drafts h_M_starts h_M_heads h_M_tails h_M_chosen h_M_orders h_M_sizes cI cZ M_jobs M_many M_isPlanned M_least M_optima M_jobOf M_machineOf M_durations M_arcs M_drafts M_starts M_heads_17 M_tails_17 M_chosen M_orders M_sizes) := hD
    refine lv_iconst (v := 0) (pc := 20) hx hb dX3_load_20 (by decide) ?_
    refine lv_istore_n (lv' := [(2, .int 0), (0, .ref h_M), (1, .int a0)]) (pc := 21) hx hb dX3_load_21 rfl hl (by decide) rfl (fun ls hl => ?_)
    refine lv_iconst (v := 1) (pc := 22) hx hb dX3_load_22 (by decide) ?_
    refine lv_istore_n (lv' := [(3, .int 1), (2, .int 0), (0, .ref h_M), (1, .int a0)]) (pc := 23) hx hb dX3_load_23 rfl hl (by decide) rfl (fun ls hl => ?_)
    obtain ⟨I_24, μ_24, hI_24, hs_24⟩ := hw
    refine lp_W (I := fun z : Int32 × Int32 => I_24 z.1 z.2) (fun z => μ_24 z.1 z.2) (fun (z : Int32 × Int32) H locs ls => va_P (dC, dI) vwCl (wM h_M h_M_jobOf h_M_machineOf h_M_durations h_M_arcs h_M_drafts h_M_starts h_M_heads h_M_tails h_M_chosen h_M_orders h_M_sizes cI cZ M_jobs M_many M_isPlanned M_least M_optima M_jobOf M_machineOf M_durations M_arcs M_drafts M_starts M_heads_17 M_tails_17 M_chosen M_orders M_sizes) H ∧ va_D A (wM h_M h_M_jobOf h_M_machineOf h_M_durations h_M_arcs h_M_drafts h_M_starts h_M_heads h_M_tails h_M_chosen h_M_orders h_M_sizes cI cZ M_jobs M_many M_isPlanned M_least M_optima M_jobOf M_machineOf M_durations M_arcs M_drafts M_starts M_heads_17 M_tails_17 M_chosen M_orders M_sizes) ∧ va_S A s.heap H locs ∧ lv_has ls 9 [(0, .ref h_M), (1, .int a0), (2, .int z.1), (3, .int z.2)]) ?_ (0, 1) _ _ _ hI_24 ⟨hP, hD, hS, (lv_sub hl [2, 3, 1, 0] rfl)⟩
    rintro ⟨x2_24, x3_24⟩ H locs ls hI ⟨hP, hD, hS, hl⟩ ih_24
    have hw := hs_24 x2_24 x3_24 hI
    have hP : va_P (dC, dI) vwCl (wM h_M h_M_jobOf h_M_machineOf h_M_durations h_M_arcs h_M_drafts h_M_starts h_M_heads h_M_tails h_M_chosen h_M_orders h_M_sizes cI cZ M_jobs M_many M_isPlanned M_least M_optima M_jobOf M_machineOf M_durations M_arcs M_drafts M_starts M_heads_17 M_tails_17 M_chosen M_orders M_sizes) H := hP
    have hD : va_D A (wM h_M h_M_jobOf h_M_machineOf h_M_durations h_M_arcs h_M_drafts h_M_starts h_M_heads h_M_tails h_M_chosen h_M_orders h_M_sizes cI cZ M_jobs M_many M_isPlanned M_least M_optima M_jobOf M_machineOf M_durations M_arcs M_drafts M_starts M_heads_17 M_tails_17 M_chosen M_orders M_sizes) := hD
    have hl : lv_has ls 9 [(0, .ref h_M), (1, .int a0), (2, .int x2_24), (3, .int x3_24)] := hl
    refine lv_iload_n (pc := 24) hx hb dX3_load_24 rfl (lv_at hl 3 rfl) ?_
    refine lv_iconst (v := 1) (pc := 25) hx hb dX3_load_25 (by decide) ?_
    refine lv_aload_n (pc := 26) hx hb dX3_load_26 rfl (lv_at hl 0 rfl) ?_
    refine va_get (D := (dC, dI)) (ci := 3) (v := .int M_many) (C := RX3) (T := TX3) (N := 16) (pc := 27) hx hb hts hin_X3 hown hK hP 0 rfl rfl 1 (by decide) (hts (.fieldLink RX3 48 "JobShopModel" "many" "I") (by decide +kernel)) (fun _ h9 => h9) rfl dX3_load_27 ?_
    refine lv_ishl (pc := 30) hx hb dX3_load_30 ?_
    refine lv_icmp_ge (tgt := 201) (pc := 31) hx hb dX3_load_31 (by decide) (fun c_2 => ?_) (fun c_2 => ?_)
    · have hw := hw.1 c_2
      refine lv_iload_n (pc := 201) hx hb dX3_load_201 rfl (lv_at hl 2 rfl) ?_
      exact W.iret (v := x2_24) hx hb hr (fun t ht hW => ⟨⟨x2_24, (M_heads_17, M_tails_17), rfl, hw, by rw [ht]; exact hP, va_K.moved hW.alike hK, hD⟩, hS.F ht⟩) hS.2.2 dX3_load_202
    · have hw := hw.2 c_2
      refine lv_sipush (v := 1000) (pc := 34) hx hb dX3_load_34 (by decide) ?_
      refine lv_istore (lv' := [(4, .int 1000), (0, .ref h_M), (1, .int a0), (2, .int x2_24), (3, .int x3_24)]) (pc := 37) hx hb dX3_load_37 hl (by decide) rfl (fun ls hl => ?_)
      refine lv_sipush (v := 1000) (pc := 39) hx hb dX3_load_39 (by decide) ?_
      refine lv_istore (lv' := [(5, .int 1000), (4, .int 1000), (0, .ref h_M), (1, .int a0), (2, .int x2_24), (3, .int x3_24)]) (pc := 42) hx hb dX3_load_42 hl (by decide) rfl (fun ls hl => ?_)
      refine lv_iconst (v := 0) (pc := 44) hx hb dX3_load_44 (by decide) ?_
      refine lv_istore (lv' := [(6, .int 0), (5, .int 1000), (4, .int 1000), (0, .ref h_M), (1, .int a0), (2, .int x2_24), (3, .int x3_24)]) (pc := 45) hx hb dX3_load_45 hl (by decide) rfl (fun ls hl => ?_)
      refine lv_iconst (v := 1) (pc := 47) hx hb dX3_load_47 (by decide) ?_
      refine lv_istore (lv' := [(7, .int 1), (6, .int 0), (5, .int 1000), (4, .int 1000), (0, .ref h_M), (1, .int a0), (2, .int x2_24), (3, .int x3_24)]) (pc := 48) hx hb dX3_load_48 hl (by decide) rfl (fun ls hl => ?_)
      refine lv_iconst (v := 0) (pc := 50) hx hb dX3_load_50 (by decide) ?_
      refine lv_istore (lv' := [(8, .int 0), (7, .int 1), (6, .int 0), (5, .int 1000), (4, .int 1000), (0, .ref h_M), (1, .int a0), (2, .int x2_24), (3, .int x3_24)]) (pc := 51) hx hb dX3_load_51 hl (by decide) rfl (fun ls hl => ?_)
      obtain ⟨I_53, μ_53, hI_53, hs_53⟩ := hw
      refine lp_W (I := fun z : Int32 × Int32 × Int32 × Int32 × Int32 => I_53 z.1 z.2.1 z.2.2.1 z.2.2.2.1 z.2.2.2.2) (fun z => μ_53 z.1 z.2.1 z.2.2.1 z.2.2.2.1 z.2.2.2.2) (fun (z : Int32 × Int32 × Int32 × Int32 × Int32) H locs ls => va_P (dC, dI) vwCl (wM h_M h_M_jobOf h_M_machineOf h_M_durations h_M_arcs h_M_drafts h_M_starts h_M_heads h_M_tails h_M_chosen h_M_orders h_M_sizes cI cZ M_jobs M_many M_isPlanned M_least M_optima M_jobOf M_machineOf M_durations M_arcs M_drafts M_starts M_heads_17 M_tails_17 M_chosen M_orders M_sizes) H ∧ va_D A (wM h_M h_M_jobOf h_M_machineOf h_M_durations h_M_arcs h_M_drafts h_M_starts h_M_heads h_M_tails h_M_chosen h_M_orders h_M_sizes cI cZ M_jobs M_many M_isPlanned M_least M_optima M_jobOf M_machineOf M_durations M_arcs M_drafts M_starts M_heads_17 M_tails_17 M_chosen M_orders M_sizes) ∧ va_S A s.heap H locs ∧ lv_has ls 9 [(0, .ref h_M), (1, .int a0), (2, .int x2_24), (3, .int x3_24), (4, .int z.1), (5, .int z.2.1), (6, .int z.2.2.1), (7, .int z.2.2.2.1), (8, .int z.2.2.2.2)]) ?_ (1000, 1000, 0, 1, 0) _ _ _ hI_53 ⟨hP, hD, hS, (lv_sub hl [5, 6, 7, 8, 4, 3, 2, 1, 0] rfl)⟩
      rintro ⟨x4_53, x5_53, x6_53, x7_53, x8_53⟩ H locs ls hI ⟨hP, hD, hS, hl⟩ ih_53
      have hw := hs_53 x4_53 x5_53 x6_53 x7_53 x8_53 hI
      have hP : va_P (dC, dI) vwCl (wM h_M h_M_jobOf h_M_machineOf h_M_durations h_M_arcs h_M_drafts h_M_starts h_M_heads h_M_tails h_M_chosen h_M_orders h_M_sizes cI cZ M_jobs M_many M_isPlanned M_least M_optima M_jobOf M_machineOf M_durations M_arcs M_drafts M_starts M_heads_17 M_tails_17 M_chosen M_orders M_sizes) H := hP
      have hD : va_D A (wM h_M h_M_jobOf h_M_machineOf h_M_durations h_M_arcs h_M_drafts h_M_starts h_M_heads h_M_tails h_M_chosen h_M_orders h_M_sizes cI cZ M_jobs M_many M_isPlanned M_least M_optima M_jobOf M_machineOf M_durations M_arcs M_drafts M_starts M_heads_17 M_tails_17 M_chosen M_orders M_sizes) := hD
      have hl : lv_has ls 9 [(0, .ref h_M), (1, .int a0), (2, .int x2_24), (3, .int x3_24), (4, .int x4_53), (5, .int x5_53), (6, .int x6_53), (7, .int x7_53), (8, .int x8_53)] := hl
      refine lv_iload (pc := 53) hx hb dX3_load_53 (lv_at hl 8 rfl) ?_
      refine lv_aload_n (pc := 55) hx hb dX3_load_55 rfl (lv_at hl 0 rfl) ?_
      refine va_get (D := (dC, dI)) (ci := 3) (v := .int M_many) (C := RX3) (T := TX3) (N := 16) (pc := 56) hx hb hts hin_X3 hown hK hP 0 rfl rfl 1 (by decide) (hts (.fieldLink RX3 48 "JobShopModel" "many" "I") (by decide +kernel)) (fun _ h9 => h9) rfl dX3_load_56 ?_
      refine lv_icmp_ge (tgt := 165) (pc := 59) hx hb dX3_load_59 (by decide) (fun c_3 => ?_) (fun c_3 => ?_)
      · have hw := hw.1 c_3
        refine lv_iload (pc := 165) hx hb dX3_load_165 (lv_at hl 7 rfl) ?_
        refine lv_if_eq (tgt := 193) (pc := 167) hx hb dX3_load_167 (by decide) (fun c_4 => ?_) (fun c_4 => ?_)
        · have hw := hw.1 c_4
          refine lv_iload_n (pc := 193) hx hb dX3_load_193 rfl (lv_at hl 2 rfl) ?_
          refine lv_istore_n (lv' := [(2, .int x2_24), (0, .ref h_M), (1, .int a0), (3, .int x3_24), (4, .int x4_53), (5, .int x5_53), (6, .int x6_53), (7, .int x7_53), (8, .int x8_53)]) (pc := 194) hx hb dX3_load_194 rfl hl (by decide) rfl (fun ls hl => ?_)
          refine lv_iinc (v := x3_24 + 1) (lv' := [(3, .int (x3_24 + 1)), (2, .int x2_24), (0, .ref h_M), (1, .int a0), (4, .int x4_53), (5, .int x5_53), (6, .int x6_53), (7, .int x7_53), (8, .int x8_53)]) (pc := 195) hx hb dX3_load_195 hl (k := 3) rfl rfl (by decide) rfl (fun ls hl => ?_)
          refine lv_goto (tgt := 24) (pc := 198) hx hb dX3_load_198 (by decide) ?_
          exact ih_24 (x2_24, (x3_24 + 1)) _ _ _ hw.1 hw.2 ⟨hP, hD, hS, (lv_sub hl [2, 3, 1, 0] rfl)⟩
        · have hw := hw.2 c_4
          refine lv_iload (pc := 170) hx hb dX3_load_170 (lv_at hl 4 rfl) ?_
          refine lv_iload (pc := 172) hx hb dX3_load_172 (lv_at hl 6 rfl) ?_
          refine lv_iadd (pc := 174) hx hb dX3_load_174 ?_
          refine lv_iload (pc := 175) hx hb dX3_load_175 (lv_at hl 5 rfl) ?_
          refine lv_iadd (pc := 177) hx hb dX3_load_177 ?_
          refine lv_iload_n (pc := 178) hx hb dX3_load_178 rfl (lv_at hl 2 rfl) ?_
          refine lv_icmp_le (tgt := 193) (pc := 179) hx hb dX3_load_179 (by decide) (fun c_5 => ?_) (fun c_5 => ?_)
          · have hw := hw.1 c_5
            refine lv_iload_n (pc := 193) hx hb dX3_load_193 rfl (lv_at hl 2 rfl) ?_
            refine lv_istore_n (lv' := [(2, .int x2_24), (0, .ref h_M), (1, .int a0), (3, .int x3_24), (4, .int x4_53), (5, .int x5_53), (6, .int x6_53), (7, .int x7_53), (8, .int x8_53)]) (pc := 194) hx hb dX3_load_194 rfl hl (by decide) rfl (fun ls hl => ?_)
            refine lv_iinc (v := x3_24 + 1) (lv' := [(3, .int (x3_24 + 1)), (2, .int x2_24), (0, .ref h_M), (1, .int a0), (4, .int x4_53), (5, .int x5_53), (6, .int x6_53), (7, .int x7_53), (8, .int x8_53)]) (pc := 195) hx hb dX3_load_195 hl (k := 3) rfl rfl (by decide) rfl (fun ls hl => ?_)
            refine lv_goto (tgt := 24) (pc := 198) hx hb dX3_load_198 (by decide) ?_
            exact ih_24 (x2_24, (x3_24 + 1)) _ _ _ hw.1 hw.2 ⟨hP, hD, hS, (lv_sub hl [2, 3, 1, 0] rfl)⟩
          · have hw := hw.2 c_5
            refine lv_iload (pc := 182) hx hb dX3_load_182 (lv_at hl 4 rfl) ?_
            refine lv_iload (pc := 184) hx hb dX3_load_184 (lv_at hl 6 rfl) ?_
            refine lv_iadd (pc := 186) hx hb dX3_load_186 ?_
            refine lv_iload (pc := 187) hx hb dX3_load_187 (lv_at hl 5 rfl) ?_
            refine lv_iadd (pc := 189) hx hb dX3_load_189 ?_
            refine lv_goto (tgt := 194) (pc := 190) hx hb dX3_load_190 (by decide) ?_
            refine lv_istore_n (lv' := [(2, .int ((x4_53 + x6_53) + x5_53)), (0, .ref h_M), (1, .int a0), (3, .int x3_24), (4, .int x4_53), (5, .int x5_53), (6, .int x6_53), (7, .int x7_53), (8, .int x8_53)]) (pc := 194) hx hb dX3_load_194 rfl hl (by decide) rfl (fun ls hl => ?_)
            refine lv_iinc (v := x3_24 + 1) (lv' := [(3, .int (x3_24 + 1)), (2, .int ((x4_53 + x6_53) + x5_53)), (0, .ref h_M), (1, .int a0), (4, .int x4_53), (5, .int x5_53), (6, .int x6_53), (7, .int x7_53), (8, .int x8_53)]) (pc := 195) hx hb dX3_load_195 hl (k := 3) rfl rfl (by decide) rfl (fun ls hl => ?_)
            refine lv_goto (tgt := 24) (pc := 198) hx hb dX3_load_198 (by decide) ?_
            exact ih_24 (((x4_53 + x6_53) + x5_53), (x3_24 + 1)) _ _ _ hw.1 hw.2 ⟨hP, hD, hS, (lv_sub hl [2, 3, 1, 0] rfl)⟩
      · have hw := hw.2 c_3
        refine lv_iload_n (pc := 62) hx hb dX3_load_62 rfl (lv_at hl 3 rfl) ?_
        refine lv_iload (pc := 63) hx hb dX3_load_63 (lv_at hl 8 rfl) ?_
        refine lv_ishr (pc := 65) hx hb dX3_load_65 ?_
        refine lv_iconst (v := 1) (pc := 66) hx hb dX3_load_66 (by decide) ?_
        refine lv_iand (pc := 67) hx hb dX3_load_67 ?_
        refine lv_iconst (v := 1) (pc := 68) hx hb dX3_load_68 (by decide) ?_
        refine lv_icmp_ne (tgt := 159) (pc := 69) hx hb dX3_load_69 (by decide) (fun c_6 => ?_) (fun c_6 => ?_)
        · have hw := hw.1 c_6
          refine lv_iinc (v := x8_53 + 1) (lv' := [(8, .int (x8_53 + 1)), (0, .ref h_M), (1, .int a0), (2, .int x2_24), (3, .int x3_24), (4, .int x4_53), (5, .int x5_53), (6, .int x6_53), (7, .int x7_53)]) (pc := 159) hx hb dX3_load_159 hl (k := 8) rfl rfl (by decide) rfl (fun ls hl => ?_)
          refine lv_goto (tgt := 53) (pc := 162) hx hb dX3_load_162 (by decide) ?_
          exact ih_53 (x4_53, x5_53, x6_53, x7_53, (x8_53 + 1)) _ _ _ hw.1 hw.2 ⟨hP, hD, hS, (lv_sub hl [1, 2, 3, 4, 5, 6, 7, 8, 0] rfl)⟩
        · have hw := hw.2 c_6
          refine lv_iload (pc := 72) hx hb dX3_load_72 (lv_at hl 7 rfl) ?_
          refine lv_if_eq (tgt := 92) (pc := 74) hx hb dX3_load_74 (by decide) (fun c_7 => ?_) (fun c_7 => ?_)
          · have hw := hw.1 c_7
            refine lv_iconst (v := 0) (pc := 92) hx hb dX3_load_92 (by decide) ?_
            refine lv_istore (lv' := [(7, .int 0), (0, .ref h_M), (1, .int a0), (2, .int x2_24), (3, .int x3_24), (4, .int x4_53), (5, .int x5_53), (6, .int x6_53), (8, .int x8_53)]) (pc := 93) hx hb dX3_load_93 hl (by decide) rfl (fun ls hl => ?_)
            refine lv_aload_n (pc := 95) hx hb dX3_load_95 rfl (lv_at hl 1 rfl) ?_
            refine va_get (D := (dC, dI)) (ci := 3) (v := .ref h_M_heads) (C := RX3) (T := TX3) (N := 16) (pc := 96) hx hb hts hin_X3 hown hK hP 0 rfl rfl 11 (by decide) (hts (.fieldLink RX3 29 "JobShopModel" "heads" "[I") (by decide +kernel)) (fun _ h9 => h9) rfl dX3_load_96 ?_
            refine lv_iload (pc := 99) hx hb dX3_load_99 (lv_at hl 8 rfl) ?_
            obtain ⟨b_8, hw⟩ := hw
            refine va_iald (pc := 101) hx hb hK hP 7 0 rfl rfl b_8 dX3_load_101 ?_
            refine lv_iload (pc := 102) hx hb dX3_load_102 (lv_at hl 5 rfl) ?_
            obtain ⟨J_119, hs_119, hw⟩ := hw
            refine jn_W (J := fun z : Int32 => J_119 z) 119 (fun z => [.int z]) (fun (z : Int32) H locs ls => va_P (dC, dI) vwCl (wM h_M h_M_jobOf h_M_machineOf h_M_durations h_M_arcs h_M_drafts h_M_starts h_M_heads h_M_tails h_M_chosen h_M_orders h_M_sizes cI cZ M_jobs M_many M_isPlanned M_least M_optima M_jobOf M_machineOf M_durations M_arcs M_drafts M_starts M_heads_17 M_tails_17 M_chosen M_orders M_sizes) H ∧ va_D A (wM h_M h_M_jobOf h_M_machineOf h_M_durations h_M_arcs h_M_drafts h_M_starts h_M_heads h_M_tails h_M_chosen h_M_orders h_M_sizes cI cZ M_jobs M_many M_isPlanned M_least M_optima M_jobOf M_machineOf M_durations M_arcs M_drafts M_starts M_heads_17 M_tails_17 M_chosen M_orders M_sizes) ∧ va_S A s.heap H locs ∧ lv_has ls 9 [(0, .ref h_M), (1, .int a0), (2, .int x2_24), (3, .int x3_24), (5, .int x5_53), (6, .int x6_53), (7, .int 0), (8, .int x8_53)]) ?_ ?_
            · rintro y0_119 H locs ls hI ⟨hP, hD, hS, hl⟩
              have hw := hs_119 y0_119 hI
              have hP : va_P (dC, dI) vwCl (wM h_M h_M_jobOf h_M_machineOf h_M_durations h_M_arcs h_M_drafts h_M_starts h_M_heads h_M_tails h_M_chosen h_M_orders h_M_sizes cI cZ M_jobs M_many M_isPlanned M_least M_optima M_jobOf M_machineOf M_durations M_arcs M_drafts M_starts M_heads_17 M_tails_17 M_chosen M_orders M_sizes) H := hP
              have hD : va_D A (wM h_M h_M_jobOf h_M_machineOf h_M_durations h_M_arcs h_M_drafts h_M_starts h_M_heads h_M_tails h_M_chosen h_M_orders h_M_sizes cI cZ M_jobs M_many M_isPlanned M_least M_optima M_jobOf M_machineOf M_durations M_arcs M_drafts M_starts M_heads_17 M_tails_17 M_chosen M_orders M_sizes) := hD
              have hl : lv_has ls 9 [(0, .ref h_M), (1, .int a0), (2, .int x2_24), (3, .int x3_24), (5, .int x5_53), (6, .int x6_53), (7, .int 0), (8, .int x8_53)] := hl
              refine W.eq (g2 := F0 m 119 ls [.int y0_119]) rfl ?_
              refine lv_istore (lv' := [(4, .int y0_119), (0, .ref h_M), (1, .int a0), (2, .int x2_24), (3, .int x3_24), (5, .int x5_53), (6, .int x6_53), (7, .int 0), (8, .int x8_53)]) (pc := 119) hx hb dX3_load_119 hl (by decide) rfl (fun ls hl => ?_)
              refine lv_aload_n (pc := 121) hx hb dX3_load_121 rfl (lv_at hl 1 rfl) ?_
              refine va_get (D := (dC, dI)) (ci := 3) (v := .ref h_M_tails) (C := RX3) (T := TX3) (N := 16) (pc := 122) hx hb hts hin_X3 hown hK hP 0 rfl rfl 12 (by decide) (hts (.fieldLink RX3 32 "JobShopModel" "tails" "[I") (by decide +kernel)) (fun _ h9 => h9) rfl dX3_load_122 ?_
              refine lv_iload (pc := 125) hx hb dX3_load_125 (lv_at hl 8 rfl) ?_
              obtain ⟨b_9, hw⟩ := hw
              refine va_iald (pc := 127) hx hb hK hP 8 0 rfl rfl b_9 dX3_load_127 ?_
              refine lv_iload (pc := 128) hx hb dX3_load_128 (lv_at hl 5 rfl) ?_
              refine lv_icmp_ge (tgt := 143) (pc := 130) hx hb dX3_load_130 (by decide) (fun c_10 => ?_) (fun c_10 => ?_)
              · have hw := hw.1 c_10
                refine lv_iload (pc := 143) hx hb dX3_load_143 (lv_at hl 5 rfl) ?_
                refine lv_istore (lv' := [(5, .int x5_53), (4, .int y0_119), (0, .ref h_M), (1, .int a0), (2, .int x2_24), (3, .int x3_24), (6, .int x6_53), (7, .int 0), (8, .int x8_53)]) (pc := 145) hx hb dX3_load_145 hl (by decide) rfl (fun ls hl => ?_)
                refine lv_iload (pc := 147) hx hb dX3_load_147 (lv_at hl 6 rfl) ?_
                refine lv_aload_n (pc := 149) hx hb dX3_load_149 rfl (lv_at hl 2 rfl) ?_
                refine va_get (D := (dC, dI)) (ci := 3) (v := .ref h_M_durations) (C := RX3) (T := TX3) (N := 16) (pc := 150) hx hb hts hin_X3 hown hK hP 0 rfl rfl 4 (by decide) (hts (.fieldLink RX3 16 "JobShopModel" "durations" "[I") (by decide +kernel)) (fun _ h9 => h9) rfl dX3_load_150 ?_
                refine lv_iload (pc := 153) hx hb dX3_load_153 (lv_at hl 8 rfl) ?_
                obtain ⟨b_11, hw⟩ := hw
                refine va_iald (pc := 155) hx hb hK hP 3 0 rfl rfl b_11 dX3_load_155 ?_
                refine lv_iadd (pc := 156) hx hb dX3_load_156 ?_
                refine lv_istore (lv' := [(6, .int (x6_53 + (M_durations x8_53.toNatClampNeg))), (5, .int x5_53), (4, .int y0_119), (0, .ref h_M), (1, .int a0), (2, .int x2_24), (3, .int x3_24), (7, .int 0), (8, .int x8_53)]) (pc := 157) hx hb dX3_load_157 hl (by decide) rfl (fun ls hl => ?_)
                refine lv_iinc (v := x8_53 + 1) (lv' := [(8, .int (x8_53 + 1)), (6, .int (x6_53 + (M_durations x8_53.toNatClampNeg))), (5, .int x5_53), (4, .int y0_119), (0, .ref h_M), (1, .int a0), (2, .int x2_24), (3, .int x3_24), (7, .int 0)]) (pc := 159) hx hb dX3_load_159 hl (k := 8) rfl rfl (by decide) rfl (fun ls hl => ?_)
                refine lv_goto (tgt := 53) (pc := 162) hx hb dX3_load_162 (by decide) ?_
                exact ih_53 (y0_119, x5_53, (x6_53 + (M_durations x8_53.toNatClampNeg)), 0, (x8_53 + 1)) _ _ _ hw.1 hw.2 ⟨hP, hD, hS, (lv_sub hl [4, 5, 6, 7, 3, 2, 1, 8, 0] rfl)⟩
              · have hw := hw.2 c_10
                refine lv_aload_n (pc := 133) hx hb dX3_load_133 rfl (lv_at hl 1 rfl) ?_
                refine va_get (D := (dC, dI)) (ci := 3) (v := .ref h_M_tails) (C := RX3) (T := TX3) (N := 16) (pc := 134) hx hb hts hin_X3 hown hK hP 0 rfl rfl 12 (by decide) (hts (.fieldLink RX3 32 "JobShopModel" "tails" "[I") (by decide +kernel)) (fun _ h9 => h9) rfl dX3_load_134 ?_
                refine lv_iload (pc := 137) hx hb dX3_load_137 (lv_at hl 8 rfl) ?_
                obtain ⟨b_12, hw⟩ := hw
                refine va_iald (pc := 139) hx hb hK hP 8 0 rfl rfl b_12 dX3_load_139 ?_
                refine lv_goto (tgt := 145) (pc := 140) hx hb dX3_load_140 (by decide) ?_
                refine lv_istore (lv' := [(5, .int (M_tails_17 x8_53.toNatClampNeg)), (4, .int y0_119), (0, .ref h_M), (1, .int a0), (2, .int x2_24), (3, .int x3_24), (6, .int x6_53), (7, .int 0), (8, .int x8_53)]) (pc := 145) hx hb dX3_load_145 hl (by decide) rfl (fun ls hl => ?_)
                refine lv_iload (pc := 147) hx hb dX3_load_147 (lv_at hl 6 rfl) ?_
                refine lv_aload_n (pc := 149) hx hb dX3_load_149 rfl (lv_at hl 2 rfl) ?_
                refine va_get (D := (dC, dI)) (ci := 3) (v := .ref h_M_durations) (C := RX3) (T := TX3) (N := 16) (pc := 150) hx hb hts hin_X3 hown hK hP 0 rfl rfl 4 (by decide) (hts (.fieldLink RX3 16 "JobShopModel" "durations" "[I") (by decide +kernel)) (fun _ h9 => h9) rfl dX3_load_150 ?_
                refine lv_iload (pc := 153) hx hb dX3_load_153 (lv_at hl 8 rfl) ?_
                obtain ⟨b_13, hw⟩ := hw
                refine va_iald (pc := 155) hx hb hK hP 3 0 rfl rfl b_13 dX3_load_155 ?_
                refine lv_iadd (pc := 156) hx hb dX3_load_156 ?_
                refine lv_istore (lv' := [(6, .int (x6_53 + (M_durations x8_53.toNatClampNeg))), (5, .int (M_tails_17 x8_53.toNatClampNeg)), (4, .int y0_119), (0, .ref h_M), (1, .int a0), (2, .int x2_24), (3, .int x3_24), (7, .int 0), (8, .int x8_53)]) (pc := 157) hx hb dX3_load_157 hl (by decide) rfl (fun ls hl => ?_)
                refine lv_iinc (v := x8_53 + 1) (lv' := [(8, .int (x8_53 + 1)), (6, .int (x6_53 + (M_durations x8_53.toNatClampNeg))), (5, .int (M_tails_17 x8_53.toNatClampNeg)), (4, .int y0_119), (0, .ref h_M), (1, .int a0), (2, .int x2_24), (3, .int x3_24), (7, .int 0)]) (pc := 159) hx hb dX3_load_159 hl (k := 8) rfl rfl (by decide) rfl (fun ls hl => ?_)
                refine lv_goto (tgt := 53) (pc := 162) hx hb dX3_load_162 (by decide) ?_
                exact ih_53 (y0_119, (M_tails_17 x8_53.toNatClampNeg), (x6_53 + (M_durations x8_53.toNatClampNeg)), 0, (x8_53 + 1)) _ _ _ hw.1 hw.2 ⟨hP, hD, hS, (lv_sub hl [4, 5, 6, 7, 3, 2, 1, 8, 0] rfl)⟩
            · intro hj_119
              refine lv_icmp_ge (tgt := 117) (pc := 104) hx hb dX3_load_104 (by decide) (fun c_14 => ?_) (fun c_14 => ?_)
              · have hw := hw.1 c_14
                refine lv_iload (pc := 117) hx hb dX3_load_117 (lv_at hl 5 rfl) ?_
                exact hj_119 x4_53 _ _ _ hw ⟨hP, hD, hS, (lv_sub hl [1, 2, 3, 4, 6, 7, 0, 8] rfl)⟩
              · have hw := hw.2 c_14
                refine lv_aload_n (pc := 107) hx hb dX3_load_107 rfl (lv_at hl 1 rfl) ?_
                refine va_get (D := (dC, dI)) (ci := 3) (v := .ref h_M_heads) (C := RX3) (T := TX3) (N := 16) (pc := 108) hx hb hts hin_X3 hown hK hP 0 rfl rfl 11 (by decide) (hts (.fieldLink RX3 29 "JobShopModel" "heads" "[I") (by decide +kernel)) (fun _ h9 => h9) rfl dX3_load_108 ?_
                refine lv_iload (pc := 111) hx hb dX3_load_111 (lv_at hl 8 rfl) ?_
                obtain ⟨b_15, hw⟩ := hw
                refine va_iald (pc := 113) hx hb hK hP 7 0 rfl rfl b_15 dX3_load_113 ?_
                refine lv_goto (tgt := 119) (pc := 114) hx hb dX3_load_114 (by decide) ?_
                exact hj_119 (M_heads_17 x8_53.toNatClampNeg) _ _ _ hw ⟨hP, hD, hS, (lv_sub hl [1, 2, 3, 4, 6, 7, 0, 8] rfl)⟩
          · have hw := hw.2 c_7
            refine lv_aload_n (pc := 77) hx hb dX3_load_77 rfl (lv_at hl 0 rfl) ?_
            refine va_get (D := (dC, dI)) (ci := 3) (v := .ref h_M_machineOf) (C := RX3) (T := TX3) (N := 16) (pc := 78) hx hb hts hin_X3 hown hK hP 0 rfl rfl 3 (by decide) (hts (.fieldLink RX3 13 "JobShopModel" "machineOf" "[I") (by decide +kernel)) (fun _ h9 => h9) rfl dX3_load_78 ?_
            refine lv_iload (pc := 81) hx hb dX3_load_81 (lv_at hl 8 rfl) ?_
            obtain ⟨b_16, hw⟩ := hw
            refine va_iald (pc := 83) hx hb hK hP 2 0 rfl rfl b_16 dX3_load_83 ?_
            refine lv_iload_n (pc := 84) hx hb dX3_load_84 rfl (lv_at hl 1 rfl) ?_
            refine lv_icmp_ne (tgt := 92) (pc := 85) hx hb dX3_load_85 (by decide) (fun c_17 => ?_) (fun c_17 => ?_)
            · have hw := hw.1 c_17
              refine lv_iconst (v := 0) (pc := 92) hx hb dX3_load_92 (by decide) ?_
              refine lv_istore (lv' := [(7, .int 0), (0, .ref h_M), (1, .int a0), (2, .int x2_24), (3, .int x3_24), (4, .int x4_53), (5, .int x5_53), (6, .int x6_53), (8, .int x8_53)]) (pc := 93) hx hb dX3_load_93 hl (by decide) rfl (fun ls hl => ?_)
              refine lv_aload_n (pc := 95) hx hb dX3_load_95 rfl (lv_at hl 1 rfl) ?_
              refine va_get (D := (dC, dI)) (ci := 3) (v := .ref h_M_heads) (C := RX3) (T := TX3) (N := 16) (pc := 96) hx hb hts hin_X3 hown hK hP 0 rfl rfl 11 (by decide) (hts (.fieldLink RX3 29 "JobShopModel" "heads" "[I") (by decide +kernel)) (fun _ h9 => h9) rfl dX3_load_96 ?_
              refine lv_iload (pc := 99) hx hb dX3_load_99 (lv_at hl 8 rfl) ?_
              obtain ⟨b_18, hw⟩ := hw
              refine va_iald (pc := 101) hx hb hK hP 7 0 rfl rfl b_18 dX3_load_101 ?_
              refine lv_iload (pc := 102) hx hb dX3_load_102 (lv_at hl 5 rfl) ?_
              obtain ⟨J_119, hs_119, hw⟩ := hw
              refine jn_W (J := fun z : Int32 => J_119 z) 119 (fun z => [.int z]) (fun (z : Int32) H locs ls => va_P (dC, dI) vwCl (wM h_M h_M_jobOf h_M_machineOf h_M_durations h_M_arcs h_M_drafts h_M_starts h_M_heads h_M_tails h_M_chosen h_M_orders h_M_sizes cI cZ M_jobs M_many M_isPlanned M_least M_optima M_jobOf M_machineOf M_durations M_arcs M_drafts M_starts M_heads_17 M_tails_17 M_chosen M_orders M_sizes) H ∧ va_D A (wM h_M h_M_jobOf h_M_machineOf h_M_durations h_M_arcs h_M_drafts h_M_starts h_M_heads h_M_tails h_M_chosen h_M_orders h_M_sizes cI cZ M_jobs M_many M_isPlanned M_least M_optima M_jobOf M_machineOf M_durations M_arcs M_drafts M_starts M_heads_17 M_tails_17 M_chosen M_orders M_sizes) ∧ va_S A s.heap H locs ∧ lv_has ls 9 [(0, .ref h_M), (1, .int a0), (2, .int x2_24), (3, .int x3_24), (5, .int x5_53), (6, .int x6_53), (7, .int 0), (8, .int x8_53)]) ?_ ?_
              · rintro y0_119 H locs ls hI ⟨hP, hD, hS, hl⟩
                have hw := hs_119 y0_119 hI
                have hP : va_P (dC, dI) vwCl (wM h_M h_M_jobOf h_M_machineOf h_M_durations h_M_arcs h_M_drafts h_M_starts h_M_heads h_M_tails h_M_chosen h_M_orders h_M_sizes cI cZ M_jobs M_many M_isPlanned M_least M_optima M_jobOf M_machineOf M_durations M_arcs M_drafts M_starts M_heads_17 M_tails_17 M_chosen M_orders M_sizes) H := hP
                have hD : va_D A (wM h_M h_M_jobOf h_M_machineOf h_M_durations h_M_arcs h_M_drafts h_M_starts h_M_heads h_M_tails h_M_chosen h_M_orders h_M_sizes cI cZ M_jobs M_many M_isPlanned M_least M_optima M_jobOf M_machineOf M_durations M_arcs M_drafts M_starts M_heads_17 M_tails_17 M_chosen M_orders M_sizes) := hD
                have hl : lv_has ls 9 [(0, .ref h_M), (1, .int a0), (2, .int x2_24), (3, .int x3_24), (5, .int x5_53), (6, .int x6_53), (7, .int 0), (8, .int x8_53)] := hl
                refine W.eq (g2 := F0 m 119 ls [.int y0_119]) rfl ?_
                refine lv_istore (lv' := [(4, .int y0_119), (0, .ref h_M), (1, .int a0), (2, .int x2_24), (3, .int x3_24), (5, .int x5_53), (6, .int x6_53), (7, .int 0), (8, .int x8_53)]) (pc := 119) hx hb dX3_load_119 hl (by decide) rfl (fun ls hl => ?_)
                refine lv_aload_n (pc := 121) hx hb dX3_load_121 rfl (lv_at hl 1 rfl) ?_
                refine va_get (D := (dC, dI)) (ci := 3) (v := .ref h_M_tails) (C := RX3) (T := TX3) (N := 16) (pc := 122) hx hb hts hin_X3 hown hK hP 0 rfl rfl 12 (by decide) (hts (.fieldLink RX3 32 "JobShopModel" "tails" "[I") (by decide +kernel)) (fun _ h9 => h9) rfl dX3_load_122 ?_
                refine lv_iload (pc := 125) hx hb dX3_load_125 (lv_at hl 8 rfl) ?_
                obtain ⟨b_19, hw⟩ := hw
                refine va_iald (pc := 127) hx hb hK hP 8 0 rfl rfl b_19 dX3_load_127 ?_
                refine lv_iload (pc := 128) hx hb dX3_load_128 (lv_at hl 5 rfl) ?_
                refine lv_icmp_ge (tgt := 143) (pc := 130) hx hb dX3_load_130 (by decide) (fun c_20 => ?_) (fun c_20 => ?_)
                · have hw := hw.1 c_20
                  refine lv_iload (pc := 143) hx hb dX3_load_143 (lv_at hl 5 rfl) ?_
                  refine lv_istore (lv' := [(5, .int x5_53), (4, .int y0_119), (0, .ref h_M), (1, .int a0), (2, .int x2_24), (3, .int x3_24), (6, .int x6_53), (7, .int 0), (8, .int x8_53)]) (pc := 145) hx hb dX3_load_145 hl (by decide) rfl (fun ls hl => ?_)
                  refine lv_iload (pc := 147) hx hb dX3_load_147 (lv_at hl 6 rfl) ?_
                  refine lv_aload_n (pc := 149) hx hb dX3_load_149 rfl (lv_at hl 2 rfl) ?_
                  refine va_get (D := (dC, dI)) (ci := 3) (v := .ref h_M_durations) (C := RX3) (T := TX3) (N := 16) (pc := 150) hx hb hts hin_X3 hown hK hP 0 rfl rfl 4 (by decide) (hts (.fieldLink RX3 16 "JobShopModel" "durations" "[I") (by decide +kernel)) (fun _ h9 => h9) rfl dX3_load_150 ?_
                  refine lv_iload (pc := 153) hx hb dX3_load_153 (lv_at hl 8 rfl) ?_
                  obtain ⟨b_21, hw⟩ := hw
                  refine va_iald (pc := 155) hx hb hK hP 3 0 rfl rfl b_21 dX3_load_155 ?_
                  refine lv_iadd (pc := 156) hx hb dX3_load_156 ?_
                  refine lv_istore (lv' := [(6, .int (x6_53 + (M_durations x8_53.toNatClampNeg))), (5, .int x5_53), (4, .int y0_119), (0, .ref h_M), (1, .int a0), (2, .int x2_24), (3, .int x3_24), (7, .int 0), (8, .int x8_53)]) (pc := 157) hx hb dX3_load_157 hl (by decide) rfl (fun ls hl => ?_)
                  refine lv_iinc (v := x8_53 + 1) (lv' := [(8, .int (x8_53 + 1)), (6, .int (x6_53 + (M_durations x8_53.toNatClampNeg))), (5, .int x5_53), (4, .int y0_119), (0, .ref h_M), (1, .int a0), (2, .int x2_24), (3, .int x3_24), (7, .int 0)]) (pc := 159) hx hb dX3_load_159 hl (k := 8) rfl rfl (by decide) rfl (fun ls hl => ?_)
                  refine lv_goto (tgt := 53) (pc := 162) hx hb dX3_load_162 (by decide) ?_
                  exact ih_53 (y0_119, x5_53, (x6_53 + (M_durations x8_53.toNatClampNeg)), 0, (x8_53 + 1)) _ _ _ hw.1 hw.2 ⟨hP, hD, hS, (lv_sub hl [4, 5, 6, 7, 3, 2, 1, 8, 0] rfl)⟩
                · have hw := hw.2 c_20
                  refine lv_aload_n (pc := 133) hx hb dX3_load_133 rfl (lv_at hl 1 rfl) ?_
                  refine va_get (D := (dC, dI)) (ci := 3) (v := .ref h_M_tails) (C := RX3) (T := TX3) (N := 16) (pc := 134) hx hb hts hin_X3 hown hK hP 0 rfl rfl 12 (by decide) (hts (.fieldLink RX3 32 "JobShopModel" "tails" "[I") (by decide +kernel)) (fun _ h9 => h9) rfl dX3_load_134 ?_
                  refine lv_iload (pc := 137) hx hb dX3_load_137 (lv_at hl 8 rfl) ?_
                  obtain ⟨b_22, hw⟩ := hw
                  refine va_iald (pc := 139) hx hb hK hP 8 0 rfl rfl b_22 dX3_load_139 ?_
                  refine lv_goto (tgt := 145) (pc := 140) hx hb dX3_load_140 (by decide) ?_
                  refine lv_istore (lv' := [(5, .int (M_tails_17 x8_53.toNatClampNeg)), (4, .int y0_119), (0, .ref h_M), (1, .int a0), (2, .int x2_24), (3, .int x3_24), (6, .int x6_53), (7, .int 0), (8, .int x8_53)]) (pc := 145) hx hb dX3_load_145 hl (by decide) rfl (fun ls hl => ?_)
                  refine lv_iload (pc := 147) hx hb dX3_load_147 (lv_at hl 6 rfl) ?_
                  refine lv_aload_n (pc := 149) hx hb dX3_load_149 rfl (lv_at hl 2 rfl) ?_
                  refine va_get (D := (dC, dI)) (ci := 3) (v := .ref h_M_durations) (C := RX3) (T := TX3) (N := 16) (pc := 150) hx hb hts hin_X3 hown hK hP 0 rfl rfl 4 (by decide) (hts (.fieldLink RX3 16 "JobShopModel" "durations" "[I") (by decide +kernel)) (fun _ h9 => h9) rfl dX3_load_150 ?_
                  refine lv_iload (pc := 153) hx hb dX3_load_153 (lv_at hl 8 rfl) ?_
                  obtain ⟨b_23, hw⟩ := hw
                  refine va_iald (pc := 155) hx hb hK hP 3 0 rfl rfl b_23 dX3_load_155 ?_
                  refine lv_iadd (pc := 156) hx hb dX3_load_156 ?_
                  refine lv_istore (lv' := [(6, .int (x6_53 + (M_durations x8_53.toNatClampNeg))), (5, .int (M_tails_17 x8_53.toNatClampNeg)), (4, .int y0_119), (0, .ref h_M), (1, .int a0), (2, .int x2_24), (3, .int x3_24), (7, .int 0), (8, .int x8_53)]) (pc := 157) hx hb dX3_load_157 hl (by decide) rfl (fun ls hl => ?_)
                  refine lv_iinc (v := x8_53 + 1) (lv' := [(8, .int (x8_53 + 1)), (6, .int (x6_53 + (M_durations x8_53.toNatClampNeg))), (5, .int (M_tails_17 x8_53.toNatClampNeg)), (4, .int y0_119), (0, .ref h_M), (1, .int a0), (2, .int x2_24), (3, .int x3_24), (7, .int 0)]) (pc := 159) hx hb dX3_load_159 hl (k := 8) rfl rfl (by decide) rfl (fun ls hl => ?_)
                  refine lv_goto (tgt := 53) (pc := 162) hx hb dX3_load_162 (by decide) ?_
                  exact ih_53 (y0_119, (M_tails_17 x8_53.toNatClampNeg), (x6_53 + (M_durations x8_53.toNatClampNeg)), 0, (x8_53 + 1)) _ _ _ hw.1 hw.2 ⟨hP, hD, hS, (lv_sub hl [4, 5, 6, 7, 3, 2, 1, 8, 0] rfl)⟩
              · intro hj_119
                refine lv_icmp_ge (tgt := 117) (pc := 104) hx hb dX3_load_104 (by decide) (fun c_24 => ?_) (fun c_24 => ?_)
                · have hw := hw.1 c_24
                  refine lv_iload (pc := 117) hx hb dX3_load_117 (lv_at hl 5 rfl) ?_
                  exact hj_119 x4_53 _ _ _ hw ⟨hP, hD, hS, (lv_sub hl [1, 2, 3, 4, 6, 7, 0, 8] rfl)⟩
                · have hw := hw.2 c_24
                  refine lv_aload_n (pc := 107) hx hb dX3_load_107 rfl (lv_at hl 1 rfl) ?_
                  refine va_get (D := (dC, dI)) (ci := 3) (v := .ref h_M_heads) (C := RX3) (T := TX3) (N := 16) (pc := 108) hx hb hts hin_X3 hown hK hP 0 rfl rfl 11 (by decide) (hts (.fieldLink RX3 29 "JobShopModel" "heads" "[I") (by decide +kernel)) (fun _ h9 => h9) rfl dX3_load_108 ?_
                  refine lv_iload (pc := 111) hx hb dX3_load_111 (lv_at hl 8 rfl) ?_
                  obtain ⟨b_25, hw⟩ := hw
                  refine va_iald (pc := 113) hx hb hK hP 7 0 rfl rfl b_25 dX3_load_113 ?_
                  refine lv_goto (tgt := 119) (pc := 114) hx hb dX3_load_114 (by decide) ?_
                  exact hj_119 (M_heads_17 x8_53.toNatClampNeg) _ _ _ hw ⟨hP, hD, hS, (lv_sub hl [1, 2, 3, 4, 6, 7, 0, 8] rfl)⟩
            · have hw := hw.2 c_17
              refine lv_iconst (v := 1) (pc := 88) hx hb dX3_load_88 (by decide) ?_
              refine lv_goto (tgt := 93) (pc := 89) hx hb dX3_load_89 (by decide) ?_
              refine lv_istore (lv' := [(7, .int 1), (0, .ref h_M), (1, .int a0), (2, .int x2_24), (3, .int x3_24), (4, .int x4_53), (5, .int x5_53), (6, .int x6_53), (8, .int x8_53)]) (pc := 93) hx hb dX3_load_93 hl (by decide) rfl (fun ls hl => ?_)
              refine lv_aload_n (pc := 95) hx hb dX3_load_95 rfl (lv_at hl 1 rfl) ?_
              refine va_get (D := (dC, dI)) (ci := 3) (v := .ref h_M_heads) (C := RX3) (T := TX3) (N := 16) (pc := 96) hx hb hts hin_X3 hown hK hP 0 rfl rfl 11 (by decide) (hts (.fieldLink RX3 29 "JobShopModel" "heads" "[I") (by decide +kernel)) (fun _ h9 => h9) rfl dX3_load_96 ?_
              refine lv_iload (pc := 99) hx hb dX3_load_99 (lv_at hl 8 rfl) ?_
              obtain ⟨b_26, hw⟩ := hw
              refine va_iald (pc := 101) hx hb hK hP 7 0 rfl rfl b_26 dX3_load_101 ?_
              refine lv_iload (pc := 102) hx hb dX3_load_102 (lv_at hl 5 rfl) ?_
              obtain ⟨J_119, hs_119, hw⟩ := hw
              refine jn_W (J := fun z : Int32 => J_119 z) 119 (fun z => [.int z]) (fun (z : Int32) H locs ls => va_P (dC, dI) vwCl (wM h_M h_M_jobOf h_M_machineOf h_M_durations h_M_arcs h_M_drafts h_M_starts h_M_heads h_M_tails h_M_chosen h_M_orders h_M_sizes cI cZ M_jobs M_many M_isPlanned M_least M_optima M_jobOf M_machineOf M_durations M_arcs M_drafts M_starts M_heads_17 M_tails_17 M_chosen M_orders M_sizes) H ∧ va_D A (wM h_M h_M_jobOf h_M_machineOf h_M_durations h_M_arcs h_M_drafts h_M_starts h_M_heads h_M_tails h_M_chosen h_M_orders h_M_sizes cI cZ M_jobs M_many M_isPlanned M_least M_optima M_jobOf M_machineOf M_durations M_arcs M_drafts M_starts M_heads_17 M_tails_17 M_chosen M_orders M_sizes) ∧ va_S A s.heap H locs ∧ lv_has ls 9 [(0, .ref h_M), (1, .int a0), (2, .int x2_24), (3, .int x3_24), (5, .int x5_53), (6, .int x6_53), (7, .int 1), (8, .int x8_53)]) ?_ ?_
              · rintro y0_119 H locs ls hI ⟨hP, hD, hS, hl⟩
                have hw := hs_119 y0_119 hI
                have hP : va_P (dC, dI) vwCl (wM h_M h_M_jobOf h_M_machineOf h_M_durations h_M_arcs h_M_drafts h_M_starts h_M_heads h_M_tails h_M_chosen h_M_orders h_M_sizes cI cZ M_jobs M_many M_isPlanned M_least M_optima M_jobOf M_machineOf M_durations M_arcs M_drafts M_starts M_heads_17 M_tails_17 M_chosen M_orders M_sizes) H := hP
                have hD : va_D A (wM h_M h_M_jobOf h_M_machineOf h_M_durations h_M_arcs h_M_drafts h_M_starts h_M_heads h_M_tails h_M_chosen h_M_orders h_M_sizes cI cZ M_jobs M_many M_isPlanned M_least M_optima M_jobOf M_machineOf M_durations M_arcs M_drafts M_starts M_heads_17 M_tails_17 M_chosen M_orders M_sizes) := hD
                have hl : lv_has ls 9 [(0, .ref h_M), (1, .int a0), (2, .int x2_24), (3, .int x3_24), (5, .int x5_53), (6, .int x6_53), (7, .int 1), (8, .int x8_53)] := hl
                refine W.eq (g2 := F0 m 119 ls [.int y0_119]) rfl ?_
                refine lv_istore (lv' := [(4, .int y0_119), (0, .ref h_M), (1, .int a0), (2, .int x2_24), (3, .int x3_24), (5, .int x5_53), (6, .int x6_53), (7, .int 1), (8, .int x8_53)]) (pc := 119) hx hb dX3_load_119 hl (by decide) rfl (fun ls hl => ?_)
                refine lv_aload_n (pc := 121) hx hb dX3_load_121 rfl (lv_at hl 1 rfl) ?_
                refine va_get (D := (dC, dI)) (ci := 3) (v := .ref h_M_tails) (C := RX3) (T := TX3) (N := 16) (pc := 122) hx hb hts hin_X3 hown hK hP 0 rfl rfl 12 (by decide) (hts (.fieldLink RX3 32 "JobShopModel" "tails" "[I") (by decide +kernel)) (fun _ h9 => h9) rfl dX3_load_122 ?_
                refine lv_iload (pc := 125) hx hb dX3_load_125 (lv_at hl 8 rfl) ?_
                obtain ⟨b_27, hw⟩ := hw
                refine va_iald (pc := 127) hx hb hK hP 8 0 rfl rfl b_27 dX3_load_127 ?_
                refine lv_iload (pc := 128) hx hb dX3_load_128 (lv_at hl 5 rfl) ?_
                refine lv_icmp_ge (tgt := 143) (pc := 130) hx hb dX3_load_130 (by decide) (fun c_28 => ?_) (fun c_28 => ?_)
                · have hw := hw.1 c_28
                  refine lv_iload (pc := 143) hx hb dX3_load_143 (lv_at hl 5 rfl) ?_
                  refine lv_istore (lv' := [(5, .int x5_53), (4, .int y0_119), (0, .ref h_M), (1, .int a0), (2, .int x2_24), (3, .int x3_24), (6, .int x6_53), (7, .int 1), (8, .int x8_53)]) (pc := 145) hx hb dX3_load_145 hl (by decide) rfl (fun ls hl => ?_)
                  refine lv_iload (pc := 147) hx hb dX3_load_147 (lv_at hl 6 rfl) ?_
                  refine lv_aload_n (pc := 149) hx hb dX3_load_149 rfl (lv_at hl 2 rfl) ?_
                  refine va_get (D := (dC, dI)) (ci := 3) (v := .ref h_M_durations) (C := RX3) (T := TX3) (N := 16) (pc := 150) hx hb hts hin_X3 hown hK hP 0 rfl rfl 4 (by decide) (hts (.fieldLink RX3 16 "JobShopModel" "durations" "[I") (by decide +kernel)) (fun _ h9 => h9) rfl dX3_load_150 ?_
                  refine lv_iload (pc := 153) hx hb dX3_load_153 (lv_at hl 8 rfl) ?_
                  obtain ⟨b_29, hw⟩ := hw
                  refine va_iald (pc := 155) hx hb hK hP 3 0 rfl rfl b_29 dX3_load_155 ?_
                  refine lv_iadd (pc := 156) hx hb dX3_load_156 ?_
                  refine lv_istore (lv' := [(6, .int (x6_53 + (M_durations x8_53.toNatClampNeg))), (5, .int x5_53), (4, .int y0_119), (0, .ref h_M), (1, .int a0), (2, .int x2_24), (3, .int x3_24), (7, .int 1), (8, .int x8_53)]) (pc := 157) hx hb dX3_load_157 hl (by decide) rfl (fun ls hl => ?_)
                  refine lv_iinc (v := x8_53 + 1) (lv' := [(8, .int (x8_53 + 1)), (6, .int (x6_53 + (M_durations x8_53.toNatClampNeg))), (5, .int x5_53), (4, .int y0_119), (0, .ref h_M), (1, .int a0), (2, .int x2_24), (3, .int x3_24), (7, .int 1)]) (pc := 159) hx hb dX3_load_159 hl (k := 8) rfl rfl (by decide) rfl (fun ls hl => ?_)
                  refine lv_goto (tgt := 53) (pc := 162) hx hb dX3_load_162 (by decide) ?_
                  exact ih_53 (y0_119, x5_53, (x6_53 + (M_durations x8_53.toNatClampNeg)), 1, (x8_53 + 1)) _ _ _ hw.1 hw.2 ⟨hP, hD, hS, (lv_sub hl [4, 5, 6, 7, 3, 2, 1, 8, 0] rfl)⟩
                · have hw := hw.2 c_28
                  refine lv_aload_n (pc := 133) hx hb dX3_load_133 rfl (lv_at hl 1 rfl) ?_
                  refine va_get (D := (dC, dI)) (ci := 3) (v := .ref h_M_tails) (C := RX3) (T := TX3) (N := 16) (pc := 134) hx hb hts hin_X3 hown hK hP 0 rfl rfl 12 (by decide) (hts (.fieldLink RX3 32 "JobShopModel" "tails" "[I") (by decide +kernel)) (fun _ h9 => h9) rfl dX3_load_134 ?_
                  refine lv_iload (pc := 137) hx hb dX3_load_137 (lv_at hl 8 rfl) ?_
                  obtain ⟨b_30, hw⟩ := hw
                  refine va_iald (pc := 139) hx hb hK hP 8 0 rfl rfl b_30 dX3_load_139 ?_
                  refine lv_goto (tgt := 145) (pc := 140) hx hb dX3_load_140 (by decide) ?_
                  refine lv_istore (lv' := [(5, .int (M_tails_17 x8_53.toNatClampNeg)), (4, .int y0_119), (0, .ref h_M), (1, .int a0), (2, .int x2_24), (3, .int x3_24), (6, .int x6_53), (7, .int 1), (8, .int x8_53)]) (pc := 145) hx hb dX3_load_145 hl (by decide) rfl (fun ls hl => ?_)
                  refine lv_iload (pc := 147) hx hb dX3_load_147 (lv_at hl 6 rfl) ?_
                  refine lv_aload_n (pc := 149) hx hb dX3_load_149 rfl (lv_at hl 2 rfl) ?_
                  refine va_get (D := (dC, dI)) (ci := 3) (v := .ref h_M_durations) (C := RX3) (T := TX3) (N := 16) (pc := 150) hx hb hts hin_X3 hown hK hP 0 rfl rfl 4 (by decide) (hts (.fieldLink RX3 16 "JobShopModel" "durations" "[I") (by decide +kernel)) (fun _ h9 => h9) rfl dX3_load_150 ?_
                  refine lv_iload (pc := 153) hx hb dX3_load_153 (lv_at hl 8 rfl) ?_
                  obtain ⟨b_31, hw⟩ := hw
                  refine va_iald (pc := 155) hx hb hK hP 3 0 rfl rfl b_31 dX3_load_155 ?_
                  refine lv_iadd (pc := 156) hx hb dX3_load_156 ?_
                  refine lv_istore (lv' := [(6, .int (x6_53 + (M_durations x8_53.toNatClampNeg))), (5, .int (M_tails_17 x8_53.toNatClampNeg)), (4, .int y0_119), (0, .ref h_M), (1, .int a0), (2, .int x2_24), (3, .int x3_24), (7, .int 1), (8, .int x8_53)]) (pc := 157) hx hb dX3_load_157 hl (by decide) rfl (fun ls hl => ?_)
                  refine lv_iinc (v := x8_53 + 1) (lv' := [(8, .int (x8_53 + 1)), (6, .int (x6_53 + (M_durations x8_53.toNatClampNeg))), (5, .int (M_tails_17 x8_53.toNatClampNeg)), (4, .int y0_119), (0, .ref h_M), (1, .int a0), (2, .int x2_24), (3, .int x3_24), (7, .int 1)]) (pc := 159) hx hb dX3_load_159 hl (k := 8) rfl rfl (by decide) rfl (fun ls hl => ?_)
                  refine lv_goto (tgt := 53) (pc := 162) hx hb dX3_load_162 (by decide) ?_
                  exact ih_53 (y0_119, (M_tails_17 x8_53.toNatClampNeg), (x6_53 + (M_durations x8_53.toNatClampNeg)), 1, (x8_53 + 1)) _ _ _ hw.1 hw.2 ⟨hP, hD, hS, (lv_sub hl [4, 5, 6, 7, 3, 2, 1, 8, 0] rfl)⟩
              · intro hj_119
                refine lv_icmp_ge (tgt := 117) (pc := 104) hx hb dX3_load_104 (by decide) (fun c_32 => ?_) (fun c_32 => ?_)
                · have hw := hw.1 c_32
                  refine lv_iload (pc := 117) hx hb dX3_load_117 (lv_at hl 5 rfl) ?_
                  exact hj_119 x4_53 _ _ _ hw ⟨hP, hD, hS, (lv_sub hl [1, 2, 3, 4, 6, 7, 0, 8] rfl)⟩
                · have hw := hw.2 c_32
                  refine lv_aload_n (pc := 107) hx hb dX3_load_107 rfl (lv_at hl 1 rfl) ?_
                  refine va_get (D := (dC, dI)) (ci := 3) (v := .ref h_M_heads) (C := RX3) (T := TX3) (N := 16) (pc := 108) hx hb hts hin_X3 hown hK hP 0 rfl rfl 11 (by decide) (hts (.fieldLink RX3 29 "JobShopModel" "heads" "[I") (by decide +kernel)) (fun _ h9 => h9) rfl dX3_load_108 ?_
                  refine lv_iload (pc := 111) hx hb dX3_load_111 (lv_at hl 8 rfl) ?_
                  obtain ⟨b_33, hw⟩ := hw
                  refine va_iald (pc := 113) hx hb hK hP 7 0 rfl rfl b_33 dX3_load_113 ?_
                  refine lv_goto (tgt := 119) (pc := 114) hx hb dX3_load_114 (by decide) ?_
                  exact hj_119 (M_heads_17 x8_53.toNatClampNeg) _ _ _ hw ⟨hP, hD, hS, (lv_sub hl [1, 2, 3, 4, 6, 7, 0, 8] rfl)⟩
  · have hw := hw.2 c_1
    refine lv_bipush (v := (-2)) (pc := 9) hx hb dX3_load_9 (by decide) ?_
    exact W.iret (v := (-2)) hx hb hr (fun t ht hW => ⟨⟨(-2), (M_heads, M_tails), rfl, hw, by rw [ht]; exact hP, va_K.moved hW.alike hK, hD⟩, hS.F ht⟩) hS.2.2 dX3_load_11
set_option maxHeartbeats 4000000 in
set_option maxRecDepth 100000 in
theorem c_X3_isForced (l : Launch) (dC : Nat → ClassId) (dI : Nat → Nat → Nat) (h_M h_M_jobOf h_M_machineOf h_M_durations h_M_arcs h_M_drafts h_M_starts h_M_heads h_M_tails h_M_chosen h_M_orders h_M_sizes : Nat) (sz : Nat) (cI cZ : ClassId) (M_jobs : Int32) (M_many : Int32) (M_isPlanned : Int32) (M_least : Int32) (M_optima : Int32) (M_jobOf : Nat → Int32) (M_machineOf : Nat → Int32) (M_durations : Nat → Int32) (M_arcs : Nat → Int32) (M_drafts : Nat → Int32) (M_starts : Nat → Int32) (M_heads : Nat → Int32) (M_tails : Nat → Int32) (M_chosen : Nat → Int32) (M_orders : Nat → Int32) (M_sizes : Nat → Int32) (a0 a1 a2 : Int32) (post : Int32 → Prop) (hw : wp_X3_isForced M_durations M_heads M_tails a0 a1 a2 post) : Met l yX3_isForced wsX3_isForced ({ frames := 0, cells := 0, slots := 0, locals := 0 }) (va_Pc [.ref h_M, .int a0, .int a1, .int a2] (fun U => U.heap.size = sz ∧ va_P (dC, dI) vwCl (wM h_M h_M_jobOf h_M_machineOf h_M_durations h_M_arcs h_M_drafts h_M_starts h_M_heads h_M_tails h_M_chosen h_M_orders h_M_sizes cI cZ M_jobs M_many M_isPlanned M_least M_optima M_jobOf M_machineOf M_durations M_arcs M_drafts M_starts M_heads M_tails M_chosen M_orders M_sizes) U.heap ∧ va_K (dC, dI) vwCl [(cI, .int), (cZ, .boolean)] U ∧ va_D (fun _ => True) (wM h_M h_M_jobOf h_M_machineOf h_M_durations h_M_arcs h_M_drafts h_M_starts h_M_heads h_M_tails h_M_chosen h_M_orders h_M_sizes cI cZ M_jobs M_many M_isPlanned M_least M_optima M_jobOf M_machineOf M_durations M_arcs M_drafts M_starts M_heads M_tails M_chosen M_orders M_sizes))) (va_Qi (fun (r : Int32) (u : Unit) => post r ) (fun u t => va_P (dC, dI) vwCl (wM h_M h_M_jobOf h_M_machineOf h_M_durations h_M_arcs h_M_drafts h_M_starts h_M_heads h_M_tails h_M_chosen h_M_orders h_M_sizes cI cZ M_jobs M_many M_isPlanned M_least M_optima M_jobOf M_machineOf M_durations M_arcs M_drafts M_starts M_heads M_tails M_chosen M_orders M_sizes) t.heap ∧ va_K (dC, dI) vwCl [(cI, .int), (cZ, .boolean)] t ∧ va_D (va_A (wM h_M h_M_jobOf h_M_machineOf h_M_durations h_M_arcs h_M_drafts h_M_starts h_M_heads h_M_tails h_M_chosen h_M_orders h_M_sizes cI cZ M_jobs M_many M_isPlanned M_least M_optima M_jobOf M_machineOf M_durations M_arcs M_drafts M_starts M_heads M_tails M_chosen M_orders M_sizes) sz) (wM h_M h_M_jobOf h_M_machineOf h_M_durations h_M_arcs h_M_drafts h_M_starts h_M_heads h_M_tails h_M_chosen h_M_orders h_M_sizes cI cZ M_jobs M_many M_isPlanned M_least M_optima M_jobOf M_machineOf M_durations M_arcs M_drafts M_starts M_heads M_tails M_chosen M_orders M_sizes)) (va_A (wM h_M h_M_jobOf h_M_machineOf h_M_durations h_M_arcs h_M_drafts h_M_starts h_M_heads h_M_tails h_M_chosen h_M_orders h_M_sizes cI cZ M_jobs M_many M_isPlanned M_least M_optima M_jobOf M_machineOf M_durations M_arcs M_drafts M_starts M_heads M_tails M_chosen M_orders M_sizes) sz)) 0 0 (va_A (wM h_M h_M_jobOf h_M_machineOf h_M_durations h_M_arcs h_M_drafts h_M_starts h_M_heads h_M_tails h_M_chosen h_M_orders h_M_sizes cI cZ M_jobs M_many M_isPlanned M_least M_optima M_jobOf M_machineOf M_durations M_arcs M_drafts M_starts M_heads M_tails M_chosen M_orders M_sizes) sz) := by
  refine Met.ofW (cc := cX3_isForced) (maxL := 4) (ret := (some .boolean)) (by decide) rfl ?_
  intro p e s m args below meth c s₁ B hml hv
  obtain ⟨rfl, hsz, hP, hK, hD0⟩ := hv
  have hx := B.exec
  have hb := B.bytes
  have hr := B.returns
  have hts := atoms_spec (ws := wsX3_isForced) B.pre
  have hown : s.vm.findClass RX3 = some m.cls := findClass_of_methodNamed B.named
  have hlocks := B.notSynchronized
  subst hsz
  have hD := hD0.self (sz := s.heap.size)
  generalize hAe : va_A (wM h_M h_M_jobOf h_M_machineOf h_M_durations h_M_arcs h_M_drafts h_M_starts h_M_heads h_M_tails h_M_chosen h_M_orders h_M_sizes cI cZ M_jobs M_many M_isPlanned M_least M_optima M_jobOf M_machineOf M_durations M_arcs M_drafts M_starts M_heads M_tails M_chosen M_orders M_sizes) s.heap.size = A at hD ⊢
  have hA : ∀ q : Nat, s.heap.size ≤ q → A q := fun q h => by rw [← hAe]; exact Or.inr h
  have hS : va_S A s.heap s.heap [] := va_S.rf
  have hP : va_P (dC, dI) vwCl (wM h_M h_M_jobOf h_M_machineOf h_M_durations h_M_arcs h_M_drafts h_M_starts h_M_heads h_M_tails h_M_chosen h_M_orders h_M_sizes cI cZ M_jobs M_many M_isPlanned M_least M_optima M_jobOf M_machineOf M_durations M_arcs M_drafts M_starts M_heads M_tails M_chosen M_orders M_sizes) s.heap := hP
  have hl := lv_entry ([.ref h_M, .int a0, .int a1, .int a2]) (n := 4) (Nat.le_of_ble_eq_true rfl)
  rw [lg_entry_eq]
  generalize (lg_sl ([.ref h_M, .int a0, .int a1, .int a2]) ++ List.replicate (4 - (lg_sl ([.ref h_M, .int a0, .int a1, .int a2])).length) Slot.unset).toArray = ls at hl ⊢
  have hl : lv_has ls 4 [(0, .ref h_M), (1, .int a0), (2, .int a1), (3, .int a2)] := hl
  obtain ⟨H, hH⟩ : ∃ H, H = s.heap := ⟨_, rfl⟩
  rw [← hH] at hP
  have hS : va_S A s.heap H [] := by rw [hH]; exact hS
  refine W_heap hH ?_
  unfold wp_X3_isForced at hw
  have hin_X3 : ∀ w ∈ u_ws RX3 TX3 16, w ∈ wsX3_isForced := by decide +kernel
  refine lv_aload_n (pc := 0) hx hb dX3_isForced_0 rfl (lv_at hl 0 rfl) ?_
  refine va_get (D := (dC, dI)) (ci := 3) (v := .ref h_M_heads) (C := RX3) (T := TX3) (N := 16) (pc := 1) hx hb hts hin_X3 hown hK hP 0 rfl rfl 11 (by decide) (hts (.fieldLink RX3 29 "JobShopModel" "heads" "[I") (by decide +kernel)) (fun _ h9 => h9) rfl dX3_isForced_1 ?_
  refine lv_iload_n (pc := 4) hx hb dX3_isForced_4 rfl (lv_at hl 2 rfl) ?_
  obtain ⟨b_1, hw⟩ := hw
  refine va_iald (pc := 5) hx hb hK hP 7 0 rfl rfl b_1 dX3_isForced_5 ?_
  refine lv_aload_n (pc := 6) hx hb dX3_isForced_6 rfl (lv_at hl 0 rfl) ?_
  refine va_get (D := (dC, dI)) (ci := 3) (v := .ref h_M_durations) (C := RX3) (T := TX3) (N := 16) (pc := 7) hx hb hts hin_X3 hown hK hP 0 rfl rfl 4 (by decide) (hts (.fieldLink RX3 16 "JobShopModel" "durations" "[I") (by decide +kernel)) (fun _ h9 => h9) rfl dX3_isForced_7 ?_
  refine lv_iload_n (pc := 10) hx hb dX3_isForced_10 rfl (lv_at hl 2 rfl) ?_
  obtain ⟨b_2, hw⟩ := hw
  refine va_iald (pc := 11) hx hb hK hP 3 0 rfl rfl b_2 dX3_isForced_11 ?_
  refine lv_iadd (pc := 12) hx hb dX3_isForced_12 ?_
  refine lv_aload_n (pc := 13) hx hb dX3_isForced_13 rfl (lv_at hl 0 rfl) ?_
  refine va_get (D := (dC, dI)) (ci := 3) (v := .ref h_M_durations) (C := RX3) (T := TX3) (N := 16) (pc := 14) hx hb hts hin_X3 hown hK hP 0 rfl rfl 4 (by decide) (hts (.fieldLink RX3 16 "JobShopModel" "durations" "[I") (by decide +kernel)) (fun _ h9 => h9) rfl dX3_isForced_14 ?_
  refine lv_iload_n (pc := 17) hx hb dX3_isForced_17 rfl (lv_at hl 1 rfl) ?_
  obtain ⟨b_3, hw⟩ := hw
  refine va_iald (pc := 18) hx hb hK hP 3 0 rfl rfl b_3 dX3_isForced_18 ?_
  refine lv_iadd (pc := 19) hx hb dX3_isForced_19 ?_
  refine lv_aload_n (pc := 20) hx hb dX3_isForced_20 rfl (lv_at hl 0 rfl) ?_
  refine va_get (D := (dC, dI)) (ci := 3) (v := .ref h_M_tails) (C := RX3) (T := TX3) (N := 16) (pc := 21) hx hb hts hin_X3 hown hK hP 0 rfl rfl 12 (by decide) (hts (.fieldLink RX3 32 "JobShopModel" "tails" "[I") (by decide +kernel)) (fun _ h9 => h9) rfl dX3_isForced_21 ?_
  refine lv_iload_n (pc := 24) hx hb dX3_isForced_24 rfl (lv_at hl 1 rfl) ?_
  obtain ⟨b_4, hw⟩ := hw
  refine va_iald (pc := 25) hx hb hK hP 8 0 rfl rfl b_4 dX3_isForced_25 ?_
  refine lv_iadd (pc := 26) hx hb dX3_isForced_26 ?_
  refine lv_iload_n (pc := 27) hx hb dX3_isForced_27 rfl (lv_at hl 3 rfl) ?_
  refine lv_icmp_lt (tgt := 35) (pc := 28) hx hb dX3_isForced_28 (by decide) (fun c_5 => ?_) (fun c_5 => ?_)
  · have hw := hw.1 c_5
    refine lv_iconst (v := 0) (pc := 35) hx hb dX3_isForced_35 (by decide) ?_
    exact W.zret (v := 0) hx hb hr rfl (fun t ht hW => ⟨⟨0, (), rfl, hw, by rw [ht]; exact hP, va_K.moved hW.alike hK, hD⟩, hS.F ht⟩) hS.2.2 dX3_isForced_36
  · have hw := hw.2 c_5
    refine lv_iconst (v := 1) (pc := 31) hx hb dX3_isForced_31 (by decide) ?_
    refine lv_goto (tgt := 36) (pc := 32) hx hb dX3_isForced_32 (by decide) ?_
    exact W.zret (v := 1) hx hb hr rfl (fun t ht hW => ⟨⟨1, (), rfl, hw, by rw [ht]; exact hP, va_K.moved hW.alike hK, hD⟩, hS.F ht⟩) hS.2.2 dX3_isForced_36
set_option maxHeartbeats 4000000 in
set_option maxRecDepth 100000 in
theorem c_X3_select (l : Launch) (dC : Nat → ClassId) (dI : Nat → Nat → Nat) (h_M h_M_jobOf h_M_machineOf h_M_durations h_M_arcs h_M_drafts h_M_starts h_M_heads h_M_tails h_M_chosen h_M_orders h_M_sizes : Nat) (sz : Nat) (cI cZ : ClassId) (M_jobs : Int32) (M_many : Int32) (M_isPlanned : Int32) (M_least : Int32) (M_optima : Int32) (M_jobOf : Nat → Int32) (M_machineOf : Nat → Int32) (M_durations : Nat → Int32) (M_arcs : Nat → Int32) (M_drafts : Nat → Int32) (M_starts : Nat → Int32) (M_heads : Nat → Int32) (M_tails : Nat → Int32) (M_chosen : Nat → Int32) (M_orders : Nat → Int32) (M_sizes : Nat → Int32) (a0 : Int32) (post : Int32 → Int32 → (Nat → Int32) → (Nat → Int32) → (Nat → Int32) → (Nat → Int32) → Prop) (hw : wp_X3_select M_many M_isPlanned M_jobOf M_machineOf M_durations M_arcs M_heads M_tails M_chosen a0 post) : Met l yX3_select wsX3_select ({ frames := 4, cells := 0, slots := 0, locals := 93 }) (va_Pc [.ref h_M, .int a0] (fun U => U.heap.size = sz ∧ va_P (dC, dI) vwCl (wM h_M h_M_jobOf h_M_machineOf h_M_durations h_M_arcs h_M_drafts h_M_starts h_M_heads h_M_tails h_M_chosen h_M_orders h_M_sizes cI cZ M_jobs M_many M_isPlanned M_least M_optima M_jobOf M_machineOf M_durations M_arcs M_drafts M_starts M_heads M_tails M_chosen M_orders M_sizes) U.heap ∧ va_K (dC, dI) vwCl [(cI, .int), (cZ, .boolean)] U ∧ va_D (fun _ => True) (wM h_M h_M_jobOf h_M_machineOf h_M_durations h_M_arcs h_M_drafts h_M_starts h_M_heads h_M_tails h_M_chosen h_M_orders h_M_sizes cI cZ M_jobs M_many M_isPlanned M_least M_optima M_jobOf M_machineOf M_durations M_arcs M_drafts M_starts M_heads M_tails M_chosen M_orders M_sizes))) (va_Qi (fun (r : Int32) (u : Int32 × (Nat → Int32) × (Nat → Int32) × (Nat → Int32) × (Nat → Int32)) => post r u.1 u.2.1 u.2.2.1 u.2.2.2.1 u.2.2.2.2) (fun u t => va_P (dC, dI) vwCl (wM h_M h_M_jobOf h_M_machineOf h_M_durations h_M_arcs h_M_drafts h_M_starts h_M_heads h_M_tails h_M_chosen h_M_orders h_M_sizes cI cZ M_jobs M_many u.1 M_least M_optima M_jobOf M_machineOf M_durations u.2.1 M_drafts M_starts u.2.2.1 u.2.2.2.1 u.2.2.2.2 M_orders M_sizes) t.heap ∧ va_K (dC, dI) vwCl [(cI, .int), (cZ, .boolean)] t ∧ va_D (va_A (wM h_M h_M_jobOf h_M_machineOf h_M_durations h_M_arcs h_M_drafts h_M_starts h_M_heads h_M_tails h_M_chosen h_M_orders h_M_sizes cI cZ M_jobs M_many M_isPlanned M_least M_optima M_jobOf M_machineOf M_durations M_arcs M_drafts M_starts M_heads M_tails M_chosen M_orders M_sizes) sz) (wM h_M h_M_jobOf h_M_machineOf h_M_durations h_M_arcs h_M_drafts h_M_starts h_M_heads h_M_tails h_M_chosen h_M_orders h_M_sizes cI cZ M_jobs M_many u.1 M_least M_optima M_jobOf M_machineOf M_durations u.2.1 M_drafts M_starts u.2.2.1 u.2.2.2.1 u.2.2.2.2 M_orders M_sizes)) (va_A (wM h_M h_M_jobOf h_M_machineOf h_M_durations h_M_arcs h_M_drafts h_M_starts h_M_heads h_M_tails h_M_chosen h_M_orders h_M_sizes cI cZ M_jobs M_many M_isPlanned M_least M_optima M_jobOf M_machineOf M_durations M_arcs M_drafts M_starts M_heads M_tails M_chosen M_orders M_sizes) sz)) 0 0 (va_A (wM h_M h_M_jobOf h_M_machineOf h_M_durations h_M_arcs h_M_drafts h_M_starts h_M_heads h_M_tails h_M_chosen h_M_orders h_M_sizes cI cZ M_jobs M_many M_isPlanned M_least M_optima M_jobOf M_machineOf M_durations M_arcs M_drafts M_starts M_heads M_tails M_chosen M_orders M_sizes) sz) := by
  refine Met.ofW (cc := cX3_select) (maxL := 6) (ret := (some .int)) (by decide) rfl ?_
  intro p e s m args below meth c s₁ B hml hv
  obtain ⟨rfl, hsz, hP, hK, hD0⟩ := hv
  have hx := B.exec
  have hb := B.bytes
  have hr := B.returns
  have hts := atoms_spec (ws := wsX3_select) B.pre
  have hown : s.vm.findClass RX3 = some m.cls := findClass_of_methodNamed B.named
  have hlocks := B.notSynchronized
  subst hsz
  have hD := hD0.self (sz := s.heap.size)
  generalize hAe : va_A (wM h_M h_M_jobOf h_M_machineOf h_M_durations h_M_arcs h_M_drafts h_M_starts h_M_heads h_M_tails h_M_chosen h_M_orders h_M_sizes cI cZ M_jobs M_many M_isPlanned M_least M_optima M_jobOf M_machineOf M_durations M_arcs M_drafts M_starts M_heads M_tails M_chosen M_orders M_sizes) s.heap.size = A at hD ⊢
  have hA : ∀ q : Nat, s.heap.size ≤ q → A q := fun q h => by rw [← hAe]; exact Or.inr h
  have hS : va_S A s.heap s.heap [] := va_S.rf
  have hP : va_P (dC, dI) vwCl (wM h_M h_M_jobOf h_M_machineOf h_M_durations h_M_arcs h_M_drafts h_M_starts h_M_heads h_M_tails h_M_chosen h_M_orders h_M_sizes cI cZ M_jobs M_many M_isPlanned M_least M_optima M_jobOf M_machineOf M_durations M_arcs M_drafts M_starts M_heads M_tails M_chosen M_orders M_sizes) s.heap := hP
  have hl := lv_entry ([.ref h_M, .int a0]) (n := 6) (Nat.le_of_ble_eq_true rfl)
  rw [lg_entry_eq]
  generalize (lg_sl ([.ref h_M, .int a0]) ++ List.replicate (6 - (lg_sl ([.ref h_M, .int a0])).length) Slot.unset).toArray = ls at hl ⊢
  have hl : lv_has ls 6 [(0, .ref h_M), (1, .int a0)] := hl
  obtain ⟨H, hH⟩ : ∃ H, H = s.heap := ⟨_, rfl⟩
  rw [← hH] at hP
  have hS : va_S A s.heap H [] := by rw [hH]; exact hS
  refine W_heap hH ?_
  unfold wp_X3_select at hw
  have hin_X3 : ∀ w ∈ u_ws RX3 TX3 16, w ∈ wsX3_select := by decide +kernel
  refine lv_iconst (v := 0) (pc := 0) hx hb dX3_select_0 (by decide) ?_
  refine lv_istore_n (lv' := [(2, .int 0), (0, .ref h_M), (1, .int a0)]) (pc := 1) hx hb dX3_select_1 rfl hl (by decide) rfl (fun ls hl => ?_)
  obtain ⟨I_2, μ_2, hI_2, hs_2⟩ := hw
  refine lp_W (I := fun z : Int32 × (Nat → Int32) => I_2 z.1 z.2) (fun z => μ_2 z.1 z.2) (fun (z : Int32 × (Nat → Int32)) H locs ls => va_P (dC, dI) vwCl (wM h_M h_M_jobOf h_M_machineOf h_M_durations h_M_arcs h_M_drafts h_M_starts h_M_heads h_M_tails h_M_chosen h_M_orders h_M_sizes cI cZ M_jobs M_many M_isPlanned M_least M_optima M_jobOf M_machineOf M_durations M_arcs M_drafts M_starts M_heads M_tails z.2 M_orders M_sizes) H ∧ va_D A (wM h_M h_M_jobOf h_M_machineOf h_M_durations h_M_arcs h_M_drafts h_M_starts h_M_heads h_M_tails h_M_chosen h_M_orders h_M_sizes cI cZ M_jobs M_many M_isPlanned M_least M_optima M_jobOf M_machineOf M_durations M_arcs M_drafts M_starts M_heads M_tails z.2 M_orders M_sizes) ∧ va_S A s.heap H locs ∧ lv_has ls 6 [(0, .ref h_M), (1, .int a0), (2, .int z.1)]) ?_ (0, M_chosen) _ _ _ hI_2 ⟨hP, hD, hS, (lv_sub hl [1, 2, 0] rfl)⟩
  rintro ⟨x2_2, M_chosen_2⟩ H locs ls hI ⟨hP, hD, hS, hl⟩ ih_2
  have hw := hs_2 x2_2 M_chosen_2 hI
  have hP : va_P (dC, dI) vwCl (wM h_M h_M_jobOf h_M_machineOf h_M_durations h_M_arcs h_M_drafts h_M_starts h_M_heads h_M_tails h_M_chosen h_M_orders h_M_sizes cI cZ M_jobs M_many M_isPlanned M_least M_optima M_jobOf M_machineOf M_durations M_arcs M_drafts M_starts M_heads M_tails M_chosen_2 M_orders M_sizes) H := hP
  have hD : va_D A (wM h_M h_M_jobOf h_M_machineOf h_M_durations h_M_arcs h_M_drafts h_M_starts h_M_heads h_M_tails h_M_chosen h_M_orders h_M_sizes cI cZ M_jobs M_many M_isPlanned M_least M_optima M_jobOf M_machineOf M_durations M_arcs M_drafts M_starts M_heads M_tails M_chosen_2 M_orders M_sizes) := hD
  have hl : lv_has ls 6 [(0, .ref h_M), (1, .int a0), (2, .int x2_2)] := hl
  refine lv_iload_n (pc := 2) hx hb dX3_select_2 rfl (lv_at hl 2 rfl) ?_
  refine lv_sipush (v := 144) (pc := 3) hx hb dX3_select_3 (by decide) ?_
  refine lv_icmp_ge (tgt := 27) (pc := 6) hx hb dX3_select_6 (by decide) (fun c_1 => ?_) (fun c_1 => ?_)
  · have hw := hw.1 c_1
    refine lv_iconst (v := 0) (pc := 27) hx hb dX3_select_27 (by decide) ?_
    refine lv_istore_n (lv' := [(2, .int 0), (0, .ref h_M), (1, .int a0)]) (pc := 28) hx hb dX3_select_28 rfl hl (by decide) rfl (fun ls hl => ?_)
    refine lv_iconst (v := 1) (pc := 29) hx hb dX3_select_29 (by decide) ?_
    refine lv_istore_n (lv' := [(3, .int 1), (2, .int 0), (0, .ref h_M), (1, .int a0)]) (pc := 30) hx hb dX3_select_30 rfl hl (by decide) rfl (fun ls hl => ?_)
    obtain ⟨I_31, μ_31, hI_31, hs_31⟩ := hw
    refine lp_W (I := fun z : Int32 × Int32 × (Nat → Int32) × (Nat → Int32) × (Nat → Int32) => I_31 z.1 z.2.1 z.2.2.1 z.2.2.2.1 z.2.2.2.2) (fun z => μ_31 z.1 z.2.1 z.2.2.1 z.2.2.2.1 z.2.2.2.2) (fun (z : Int32 × Int32 × (Nat → Int32) × (Nat → Int32) × (Nat → Int32)) H locs ls => va_P (dC, dI) vwCl (wM h_M h_M_jobOf h_M_machineOf h_M_durations h_M_arcs h_M_drafts h_M_starts h_M_heads h_M_tails h_M_chosen h_M_orders h_M_sizes cI cZ M_jobs M_many M_isPlanned M_least M_optima M_jobOf M_machineOf M_durations M_arcs M_drafts M_starts z.2.2.1 z.2.2.2.1 z.2.2.2.2 M_orders M_sizes) H ∧ va_D A (wM h_M h_M_jobOf h_M_machineOf h_M_durations h_M_arcs h_M_drafts h_M_starts h_M_heads h_M_tails h_M_chosen h_M_orders h_M_sizes cI cZ M_jobs M_many M_isPlanned M_least M_optima M_jobOf M_machineOf M_durations M_arcs M_drafts M_starts z.2.2.1 z.2.2.2.1 z.2.2.2.2 M_orders M_sizes) ∧ va_S A s.heap H locs ∧ lv_has ls 6 [(0, .ref h_M), (1, .int a0), (2, .int z.1), (3, .int z.2.1)]) ?_ (0, 1, M_heads, M_tails, M_chosen_2) _ _ _ hI_31 ⟨hP, hD, hS, (lv_sub hl [2, 3, 1, 0] rfl)⟩
    rintro ⟨x2_31, x3_31, M_heads_31, M_tails_31, M_chosen_31⟩ H locs ls hI ⟨hP, hD, hS, hl⟩ ih_31
    have hw := hs_31 x2_31 x3_31 M_heads_31 M_tails_31 M_chosen_31 hI
    have hP : va_P (dC, dI) vwCl (wM h_M h_M_jobOf h_M_machineOf h_M_durations h_M_arcs h_M_drafts h_M_starts h_M_heads h_M_tails h_M_chosen h_M_orders h_M_sizes cI cZ M_jobs M_many M_isPlanned M_least M_optima M_jobOf M_machineOf M_durations M_arcs M_drafts M_starts M_heads_31 M_tails_31 M_chosen_31 M_orders M_sizes) H := hP
    have hD : va_D A (wM h_M h_M_jobOf h_M_machineOf h_M_durations h_M_arcs h_M_drafts h_M_starts h_M_heads h_M_tails h_M_chosen h_M_orders h_M_sizes cI cZ M_jobs M_many M_isPlanned M_least M_optima M_jobOf M_machineOf M_durations M_arcs M_drafts M_starts M_heads_31 M_tails_31 M_chosen_31 M_orders M_sizes) := hD
    have hl : lv_has ls 6 [(0, .ref h_M), (1, .int a0), (2, .int x2_31), (3, .int x3_31)] := hl
    refine lv_iload_n (pc := 31) hx hb dX3_select_31 rfl (lv_at hl 3 rfl) ?_
    refine lv_if_eq (tgt := 196) (pc := 32) hx hb dX3_select_32 (by decide) (fun c_2 => ?_) (fun c_2 => ?_)
    · have hw := hw.1 c_2
      refine lv_aload_n (pc := 196) hx hb dX3_select_196 rfl (lv_at hl 0 rfl) ?_
      have hPx : va_P (dC, dI) vwCl ([] ++ (wM h_M h_M_jobOf h_M_machineOf h_M_durations h_M_arcs h_M_drafts h_M_starts h_M_heads h_M_tails h_M_chosen h_M_orders h_M_sizes cI cZ M_jobs M_many M_isPlanned M_least M_optima M_jobOf M_machineOf M_durations M_arcs M_drafts M_starts M_heads_31 M_tails_31 M_chosen_31 M_orders M_sizes)) H := hP
      have hDx : va_D A ([] ++ (wM h_M h_M_jobOf h_M_machineOf h_M_durations h_M_arcs h_M_drafts h_M_starts h_M_heads h_M_tails h_M_chosen h_M_orders h_M_sizes cI cZ M_jobs M_many M_isPlanned M_least M_optima M_jobOf M_machineOf M_durations M_arcs M_drafts M_starts M_heads_31 M_tails_31 M_chosen_31 M_orders M_sizes)) := hD
      refine kc_i (pc := 197) (w1 := (fun u : Unit => (wM h_M h_M_jobOf h_M_machineOf h_M_durations h_M_arcs h_M_drafts h_M_starts h_M_heads h_M_tails h_M_chosen h_M_orders h_M_sizes cI cZ M_jobs M_many M_isPlanned M_least M_optima M_jobOf M_machineOf M_durations M_arcs M_drafts M_starts M_heads_31 M_tails_31 M_chosen_31 M_orders M_sizes))) (va_runV (As := []) (rest := []) ⟨hx, hb, hml, hown, hts⟩ (c_X3_longest l dC dI h_M h_M_jobOf h_M_machineOf h_M_durations h_M_arcs h_M_drafts h_M_starts h_M_heads h_M_tails h_M_chosen h_M_orders h_M_sizes H.size cI cZ M_jobs M_many M_isPlanned M_least M_optima M_jobOf M_machineOf M_durations M_arcs M_drafts M_starts M_heads_31 M_tails_31 M_chosen_31 M_orders M_sizes _ hw) (cwV 0 hts gX3_select_X3_longest rfl rfl rfl (by decide +kernel) ⟨Nat.le_of_ble_eq_true rfl, Nat.le_of_ble_eq_true rfl⟩) (kc_preVM (q0 := 0) (ci := 3) hK hPx hDx [0, 1] rfl rfl rfl) rfl rfl hl.1 rfl (lv_room (Nat.le_of_ble_eq_true rfl)) dX3_select_197 ⟨Nat.zero_le _, Nat.zero_le _⟩) hPx hDx hS hA (fun r_197 u H locs hw hP hD hS => ?_)
      have hP : va_P (dC, dI) vwCl (wM h_M h_M_jobOf h_M_machineOf h_M_durations h_M_arcs h_M_drafts h_M_starts h_M_heads h_M_tails h_M_chosen h_M_orders h_M_sizes cI cZ M_jobs M_many M_isPlanned M_least M_optima M_jobOf M_machineOf M_durations M_arcs M_drafts M_starts M_heads_31 M_tails_31 M_chosen_31 M_orders M_sizes) H := hP
      have hD : va_D A (wM h_M h_M_jobOf h_M_machineOf h_M_durations h_M_arcs h_M_drafts h_M_starts h_M_heads h_M_tails h_M_chosen h_M_orders h_M_sizes cI cZ M_jobs M_many M_isPlanned M_least M_optima M_jobOf M_machineOf M_durations M_arcs M_drafts M_starts M_heads_31 M_tails_31 M_chosen_31 M_orders M_sizes) := hD
      refine lv_iload_n (pc := 200) hx hb dX3_select_200 rfl (lv_at hl 1 rfl) ?_
      refine lv_icmp_lt (tgt := 207) (pc := 201) hx hb dX3_select_201 (by decide) (fun c_3 => ?_) (fun c_3 => ?_)
      · have hw := hw.1 c_3
        refine lv_iconst (v := 0) (pc := 207) hx hb dX3_select_207 (by decide) ?_
        refine lv_istore (lv' := [(4, .int 0), (0, .ref h_M), (1, .int a0), (2, .int x2_31), (3, .int x3_31)]) (pc := 208) hx hb dX3_select_208 hl (by decide) rfl (fun ls hl => ?_)
        obtain ⟨I_210, μ_210, hI_210, hs_210⟩ := hw
        refine lp_W (I := fun z : Int32 × (Nat → Int32) => I_210 z.1 z.2) (fun z => μ_210 z.1 z.2) (fun (z : Int32 × (Nat → Int32)) H locs ls => va_P (dC, dI) vwCl (wM h_M h_M_jobOf h_M_machineOf h_M_durations h_M_arcs h_M_drafts h_M_starts h_M_heads h_M_tails h_M_chosen h_M_orders h_M_sizes cI cZ M_jobs M_many M_isPlanned M_least M_optima M_jobOf M_machineOf M_durations z.2 M_drafts M_starts M_heads_31 M_tails_31 M_chosen_31 M_orders M_sizes) H ∧ va_D A (wM h_M h_M_jobOf h_M_machineOf h_M_durations h_M_arcs h_M_drafts h_M_starts h_M_heads h_M_tails h_M_chosen h_M_orders h_M_sizes cI cZ M_jobs M_many M_isPlanned M_least M_optima M_jobOf M_machineOf M_durations z.2 M_drafts M_starts M_heads_31 M_tails_31 M_chosen_31 M_orders M_sizes) ∧ va_S A s.heap H locs ∧ lv_has ls 6 [(0, .ref h_M), (2, .int x2_31), (4, .int z.1)]) ?_ (0, M_arcs) _ _ _ hI_210 ⟨hP, hD, hS, (lv_sub hl [1, 3, 0] rfl)⟩
        rintro ⟨x4_210, M_arcs_210⟩ H locs ls hI ⟨hP, hD, hS, hl⟩ ih_210
        have hw := hs_210 x4_210 M_arcs_210 hI
        have hP : va_P (dC, dI) vwCl (wM h_M h_M_jobOf h_M_machineOf h_M_durations h_M_arcs h_M_drafts h_M_starts h_M_heads h_M_tails h_M_chosen h_M_orders h_M_sizes cI cZ M_jobs M_many M_isPlanned M_least M_optima M_jobOf M_machineOf M_durations M_arcs_210 M_drafts M_starts M_heads_31 M_tails_31 M_chosen_31 M_orders M_sizes) H := hP
        have hD : va_D A (wM h_M h_M_jobOf h_M_machineOf h_M_durations h_M_arcs h_M_drafts h_M_starts h_M_heads h_M_tails h_M_chosen h_M_orders h_M_sizes cI cZ M_jobs M_many M_isPlanned M_least M_optima M_jobOf M_machineOf M_durations M_arcs_210 M_drafts M_starts M_heads_31 M_tails_31 M_chosen_31 M_orders M_sizes) := hD
        have hl : lv_has ls 6 [(0, .ref h_M), (2, .int x2_31), (4, .int x4_210)] := hl
        refine lv_iload (pc := 210) hx hb dX3_select_210 (lv_at hl 2 rfl) ?_
        refine lv_sipush (v := 144) (pc := 212) hx hb dX3_select_212 (by decide) ?_
        refine lv_icmp_ge (tgt := 238) (pc := 215) hx hb dX3_select_215 (by decide) (fun c_4 => ?_) (fun c_4 => ?_)
        · have hw := hw.1 c_4
          refine lv_iload_n (pc := 238) hx hb dX3_select_238 rfl (lv_at hl 1 rfl) ?_
          refine lv_if_le (tgt := 246) (pc := 239) hx hb dX3_select_239 (by decide) (fun c_5 => ?_) (fun c_5 => ?_)
          · have hw := hw.1 c_5
            refine lv_iload_n (pc := 246) hx hb dX3_select_246 rfl (lv_at hl 1 rfl) ?_
            exact W.iret (v := x2_31) hx hb hr (fun t ht hW => ⟨⟨x2_31, (M_isPlanned, M_arcs_210, M_heads_31, M_tails_31, M_chosen_31), rfl, hw, by rw [ht]; exact hP, va_K.moved hW.alike hK, hD⟩, hS.F ht⟩) hS.2.2 dX3_select_247
          · have hw := hw.2 c_5
            refine lv_aload_n (pc := 242) hx hb dX3_select_242 rfl (lv_at hl 0 rfl) ?_
            have hPx : va_P (dC, dI) vwCl ([] ++ (wM h_M h_M_jobOf h_M_machineOf h_M_durations h_M_arcs h_M_drafts h_M_starts h_M_heads h_M_tails h_M_chosen h_M_orders h_M_sizes cI cZ M_jobs M_many M_isPlanned M_least M_optima M_jobOf M_machineOf M_durations M_arcs_210 M_drafts M_starts M_heads_31 M_tails_31 M_chosen_31 M_orders M_sizes)) H := hP
            have hDx : va_D A ([] ++ (wM h_M h_M_jobOf h_M_machineOf h_M_durations h_M_arcs h_M_drafts h_M_starts h_M_heads h_M_tails h_M_chosen h_M_orders h_M_sizes cI cZ M_jobs M_many M_isPlanned M_least M_optima M_jobOf M_machineOf M_durations M_arcs_210 M_drafts M_starts M_heads_31 M_tails_31 M_chosen_31 M_orders M_sizes)) := hD
            refine kc_v (pc := 243) (w1 := (fun u : Int32 => (wM h_M h_M_jobOf h_M_machineOf h_M_durations h_M_arcs h_M_drafts h_M_starts h_M_heads h_M_tails h_M_chosen h_M_orders h_M_sizes cI cZ M_jobs M_many u M_least M_optima M_jobOf M_machineOf M_durations M_arcs_210 M_drafts M_starts M_heads_31 M_tails_31 M_chosen_31 M_orders M_sizes))) (va_runV (As := []) (rest := []) ⟨hx, hb, hml, hown, hts⟩ (c_X3_forget l dC dI h_M h_M_jobOf h_M_machineOf h_M_durations h_M_arcs h_M_drafts h_M_starts h_M_heads h_M_tails h_M_chosen h_M_orders h_M_sizes H.size cI cZ M_jobs M_many M_isPlanned M_least M_optima M_jobOf M_machineOf M_durations M_arcs_210 M_drafts M_starts M_heads_31 M_tails_31 M_chosen_31 M_orders M_sizes _ hw) (cwV 0 hts gX3_select_X3_forget rfl rfl rfl (by decide +kernel) ⟨Nat.le_of_ble_eq_true rfl, Nat.le_of_ble_eq_true rfl⟩) (kc_preVM (q0 := 0) (ci := 3) hK hPx hDx [0, 1] rfl rfl rfl) rfl rfl hl.1 rfl (lv_room (Nat.le_of_ble_eq_true rfl)) dX3_select_243 ⟨Nat.zero_le _, Nat.zero_le _⟩) hPx hDx hS hA (fun u H locs hw hP hD hS => ?_)
            obtain ⟨M_isPlanned_243, rfl⟩ : ∃ z, z = u := ⟨_, rfl⟩
            have hP : va_P (dC, dI) vwCl (wM h_M h_M_jobOf h_M_machineOf h_M_durations h_M_arcs h_M_drafts h_M_starts h_M_heads h_M_tails h_M_chosen h_M_orders h_M_sizes cI cZ M_jobs M_many M_isPlanned_243 M_least M_optima M_jobOf M_machineOf M_durations M_arcs_210 M_drafts M_starts M_heads_31 M_tails_31 M_chosen_31 M_orders M_sizes) H := hP
            have hD : va_D A (wM h_M h_M_jobOf h_M_machineOf h_M_durations h_M_arcs h_M_drafts h_M_starts h_M_heads h_M_tails h_M_chosen h_M_orders h_M_sizes cI cZ M_jobs M_many M_isPlanned_243 M_least M_optima M_jobOf M_machineOf M_durations M_arcs_210 M_drafts M_starts M_heads_31 M_tails_31 M_chosen_31 M_orders M_sizes) := hD
            refine lv_iload_n (pc := 246) hx hb dX3_select_246 rfl (lv_at hl 1 rfl) ?_
            exact W.iret (v := x2_31) hx hb hr (fun t ht hW => ⟨⟨x2_31, (M_isPlanned_243, M_arcs_210, M_heads_31, M_tails_31, M_chosen_31), rfl, hw, by rw [ht]; exact hP, va_K.moved hW.alike hK, hD⟩, hS.F ht⟩) hS.2.2 dX3_select_247
        · have hw := hw.2 c_4
          refine lv_aload_n (pc := 218) hx hb dX3_select_218 rfl (lv_at hl 0 rfl) ?_
          refine va_get (D := (dC, dI)) (ci := 3) (v := .ref h_M_arcs) (C := RX3) (T := TX3) (N := 16) (pc := 219) hx hb hts hin_X3 hown hK hP 0 rfl rfl 5 (by decide) (hts (.fieldLink RX3 19 "JobShopModel" "arcs" "[Z") (by decide +kernel)) (fun _ h9 => h9) rfl dX3_select_219 ?_
          refine lv_iload (pc := 222) hx hb dX3_select_222 (lv_at hl 2 rfl) ?_
          refine lv_aload_n (pc := 224) hx hb dX3_select_224 rfl (lv_at hl 0 rfl) ?_
          refine va_get (D := (dC, dI)) (ci := 3) (v := .ref h_M_chosen) (C := RX3) (T := TX3) (N := 16) (pc := 225) hx hb hts hin_X3 hown hK hP 0 rfl rfl 13 (by decide) (hts (.fieldLink RX3 35 "JobShopModel" "chosen" "[Z") (by decide +kernel)) (fun _ h9 => h9) rfl dX3_select_225 ?_
          refine lv_iload (pc := 228) hx hb dX3_select_228 (lv_at hl 2 rfl) ?_
          obtain ⟨b_6, hw⟩ := hw
          refine va_zald (pc := 230) hx hb hK hP 9 1 rfl rfl b_6 dX3_select_230 ?_
          obtain ⟨b_7, hw⟩ := hw
          refine va_zast (pc := 231) hx hb hK hP hD hS 4 1 rfl rfl b_7 dX3_select_231 (fun H locs hP hD hS => ?_)
          have hP : va_P (dC, dI) vwCl (wM h_M h_M_jobOf h_M_machineOf h_M_durations h_M_arcs h_M_drafts h_M_starts h_M_heads h_M_tails h_M_chosen h_M_orders h_M_sizes cI cZ M_jobs M_many M_isPlanned M_least M_optima M_jobOf M_machineOf M_durations (upd M_arcs_210 x4_210.toNatClampNeg (vp_nar .boolean (M_chosen_31 x4_210.toNatClampNeg))) M_drafts M_starts M_heads_31 M_tails_31 M_chosen_31 M_orders M_sizes) H := hP
          have hD : va_D A (wM h_M h_M_jobOf h_M_machineOf h_M_durations h_M_arcs h_M_drafts h_M_starts h_M_heads h_M_tails h_M_chosen h_M_orders h_M_sizes cI cZ M_jobs M_many M_isPlanned M_least M_optima M_jobOf M_machineOf M_durations (upd M_arcs_210 x4_210.toNatClampNeg (vp_nar .boolean (M_chosen_31 x4_210.toNatClampNeg))) M_drafts M_starts M_heads_31 M_tails_31 M_chosen_31 M_orders M_sizes) := hD
          refine lv_iinc (v := x4_210 + 1) (lv' := [(4, .int (x4_210 + 1)), (0, .ref h_M), (2, .int x2_31)]) (pc := 232) hx hb dX3_select_232 hl (k := 2) rfl rfl (by decide) rfl (fun ls hl => ?_)
          refine lv_goto (tgt := 210) (pc := 235) hx hb dX3_select_235 (by decide) ?_
          exact ih_210 ((x4_210 + 1), (upd M_arcs_210 x4_210.toNatClampNeg (vp_nar .boolean (M_chosen_31 x4_210.toNatClampNeg)))) _ _ _ hw.1 hw.2 ⟨hP, hD, hS, (lv_sub hl [1, 2, 0] rfl)⟩
      · have hw := hw.2 c_3
        refine lv_bipush (v := (-5)) (pc := 204) hx hb dX3_select_204 (by decide) ?_
        exact W.iret (v := (-5)) hx hb hr (fun t ht hW => ⟨⟨(-5), (M_isPlanned, M_arcs, M_heads_31, M_tails_31, M_chosen_31), rfl, hw, by rw [ht]; exact hP, va_K.moved hW.alike hK, hD⟩, hS.F ht⟩) hS.2.2 dX3_select_206
    · have hw := hw.2 c_2
      refine lv_iconst (v := 0) (pc := 35) hx hb dX3_select_35 (by decide) ?_
      refine lv_istore_n (lv' := [(3, .int 0), (0, .ref h_M), (1, .int a0), (2, .int x2_31)]) (pc := 36) hx hb dX3_select_36 rfl hl (by decide) rfl (fun ls hl => ?_)
      refine lv_aload_n (pc := 37) hx hb dX3_select_37 rfl (lv_at hl 1 rfl) ?_
      refine lv_aload_n (pc := 38) hx hb dX3_select_38 rfl (lv_at hl 1 rfl) ?_
      refine va_get (D := (dC, dI)) (ci := 3) (v := .ref h_M_chosen) (C := RX3) (T := TX3) (N := 16) (pc := 39) hx hb hts hin_X3 hown hK hP 0 rfl rfl 13 (by decide) (hts (.fieldLink RX3 35 "JobShopModel" "chosen" "[Z") (by decide +kernel)) (fun _ h9 => h9) rfl dX3_select_39 ?_
      have hPx : va_P (dC, dI) vwCl ([] ++ (wM h_M h_M_jobOf h_M_machineOf h_M_durations h_M_arcs h_M_drafts h_M_starts h_M_heads h_M_tails h_M_chosen h_M_orders h_M_sizes cI cZ M_jobs M_many M_isPlanned M_least M_optima M_jobOf M_machineOf M_durations M_arcs M_drafts M_starts M_heads_31 M_tails_31 M_chosen_31 M_orders M_sizes)) H := hP
      have hDx : va_D A ([] ++ (wM h_M h_M_jobOf h_M_machineOf h_M_durations h_M_arcs h_M_drafts h_M_starts h_M_heads h_M_tails h_M_chosen h_M_orders h_M_sizes cI cZ M_jobs M_many M_isPlanned M_least M_optima M_jobOf M_machineOf M_durations M_arcs M_drafts M_starts M_heads_31 M_tails_31 M_chosen_31 M_orders M_sizes)) := hD
      refine kc_v (pc := 42) (w1 := (fun u : (Nat → Int32) × (Nat → Int32) => (wM h_M h_M_jobOf h_M_machineOf h_M_durations h_M_arcs h_M_drafts h_M_starts h_M_heads h_M_tails h_M_chosen h_M_orders h_M_sizes cI cZ M_jobs M_many M_isPlanned M_least M_optima M_jobOf M_machineOf M_durations M_arcs M_drafts M_starts u.1 u.2 M_chosen_31 M_orders M_sizes))) (va_runV (As := [.ref h_M_chosen]) (rest := []) ⟨hx, hb, hml, hown, hts⟩ (c_X3_look_c l dC dI h_M h_M_jobOf h_M_machineOf h_M_durations h_M_arcs h_M_drafts h_M_starts h_M_heads h_M_tails h_M_chosen h_M_orders h_M_sizes H.size cI cZ M_jobs M_many M_isPlanned M_least M_optima M_jobOf M_machineOf M_durations M_arcs M_drafts M_starts M_heads_31 M_tails_31 M_chosen_31 M_orders M_sizes _ hw) (cwV 1 hts gX3_select_X3_look rfl rfl rfl (by decide +kernel) ⟨Nat.le_of_ble_eq_true rfl, Nat.le_of_ble_eq_true rfl⟩) (kc_preVM (q0 := 0) (ci := 3) hK hPx hDx [0, 1] rfl rfl rfl) rfl rfl hl.1 rfl (lv_room (Nat.le_of_ble_eq_true rfl)) dX3_select_42 ⟨Nat.zero_le _, Nat.zero_le _⟩) hPx hDx hS hA (fun u H locs hw hP hD hS => ?_)
      obtain ⟨M_heads_42, M_tails_42⟩ := u
      have hP : va_P (dC, dI) vwCl (wM h_M h_M_jobOf h_M_machineOf h_M_durations h_M_arcs h_M_drafts h_M_starts h_M_heads h_M_tails h_M_chosen h_M_orders h_M_sizes cI cZ M_jobs M_many M_isPlanned M_least M_optima M_jobOf M_machineOf M_durations M_arcs M_drafts M_starts M_heads_42 M_tails_42 M_chosen_31 M_orders M_sizes) H := hP
      have hD : va_D A (wM h_M h_M_jobOf h_M_machineOf h_M_durations h_M_arcs h_M_drafts h_M_starts h_M_heads h_M_tails h_M_chosen h_M_orders h_M_sizes cI cZ M_jobs M_many M_isPlanned M_least M_optima M_jobOf M_machineOf M_durations M_arcs M_drafts M_starts M_heads_42 M_tails_42 M_chosen_31 M_orders M_sizes) := hD
      refine lv_iconst (v := 0) (pc := 45) hx hb dX3_select_45 (by decide) ?_
      refine lv_istore (lv' := [(4, .int 0), (3, .int 0), (0, .ref h_M), (1, .int a0), (2, .int x2_31)]) (pc := 46) hx hb dX3_select_46 hl (by decide) rfl (fun ls hl => ?_)
      obtain ⟨I_48, μ_48, hI_48, hs_48⟩ := hw
      refine lp_W (I := fun z : Int32 × Int32 × Int32 × (Nat → Int32) => I_48 z.1 z.2.1 z.2.2.1 z.2.2.2) (fun z => μ_48 z.1 z.2.1 z.2.2.1 z.2.2.2) (fun (z : Int32 × Int32 × Int32 × (Nat → Int32)) H locs ls => va_P (dC, dI) vwCl (wM h_M h_M_jobOf h_M_machineOf h_M_durations h_M_arcs h_M_drafts h_M_starts h_M_heads h_M_tails h_M_chosen h_M_orders h_M_sizes cI cZ M_jobs M_many M_isPlanned M_least M_optima M_jobOf M_machineOf M_durations M_arcs M_drafts M_starts M_heads_42 M_tails_42 z.2.2.2 M_orders M_sizes) H ∧ va_D A (wM h_M h_M_jobOf h_M_machineOf h_M_durations h_M_arcs h_M_drafts h_M_starts h_M_heads h_M_tails h_M_chosen h_M_orders h_M_sizes cI cZ M_jobs M_many M_isPlanned M_least M_optima M_jobOf M_machineOf M_durations M_arcs M_drafts M_starts M_heads_42 M_tails_42 z.2.2.2 M_orders M_sizes) ∧ va_S A s.heap H locs ∧ lv_has ls 6 [(0, .ref h_M), (1, .int a0), (2, .int z.1), (3, .int z.2.1), (4, .int z.2.2.1)]) ?_ (x2_31, 0, 0, M_chosen_31) _ _ _ hI_48 ⟨hP, hD, hS, (lv_sub hl [2, 3, 4, 1, 0] rfl)⟩
      rintro ⟨x2_48, x3_48, x4_48, M_chosen_48⟩ H locs ls hI ⟨hP, hD, hS, hl⟩ ih_48
      have hw := hs_48 x2_48 x3_48 x4_48 M_chosen_48 hI
      have hP : va_P (dC, dI) vwCl (wM h_M h_M_jobOf h_M_machineOf h_M_durations h_M_arcs h_M_drafts h_M_starts h_M_heads h_M_tails h_M_chosen h_M_orders h_M_sizes cI cZ M_jobs M_many M_isPlanned M_least M_optima M_jobOf M_machineOf M_durations M_arcs M_drafts M_starts M_heads_42 M_tails_42 M_chosen_48 M_orders M_sizes) H := hP
      have hD : va_D A (wM h_M h_M_jobOf h_M_machineOf h_M_durations h_M_arcs h_M_drafts h_M_starts h_M_heads h_M_tails h_M_chosen h_M_orders h_M_sizes cI cZ M_jobs M_many M_isPlanned M_least M_optima M_jobOf M_machineOf M_durations M_arcs M_drafts M_starts M_heads_42 M_tails_42 M_chosen_48 M_orders M_sizes) := hD
      have hl : lv_has ls 6 [(0, .ref h_M), (1, .int a0), (2, .int x2_48), (3, .int x3_48), (4, .int x4_48)] := hl
      refine lv_iload (pc := 48) hx hb dX3_select_48 (lv_at hl 4 rfl) ?_
      refine lv_aload_n (pc := 50) hx hb dX3_select_50 rfl (lv_at hl 0 rfl) ?_
      refine va_get (D := (dC, dI)) (ci := 3) (v := .int M_many) (C := RX3) (T := TX3) (N := 16) (pc := 51) hx hb hts hin_X3 hown hK hP 0 rfl rfl 1 (by decide) (hts (.fieldLink RX3 48 "JobShopModel" "many" "I") (by decide +kernel)) (fun _ h9 => h9) rfl dX3_select_51 ?_
      refine lv_icmp_ge (tgt := 193) (pc := 54) hx hb dX3_select_54 (by decide) (fun c_8 => ?_) (fun c_8 => ?_)
      · have hw := hw.1 c_8
        refine lv_goto (tgt := 31) (pc := 193) hx hb dX3_select_193 (by decide) ?_
        exact ih_31 (x2_48, x3_48, M_heads_42, M_tails_42, M_chosen_48) _ _ _ hw.1 hw.2 ⟨hP, hD, hS, (lv_sub hl [0, 1, 2, 3] rfl)⟩
      · have hw := hw.2 c_8
        refine lv_iload_n (pc := 57) hx hb dX3_select_57 rfl (lv_at hl 3 rfl) ?_
        refine lv_if_ne (tgt := 193) (pc := 58) hx hb dX3_select_58 (by decide) (fun c_9 => ?_) (fun c_9 => ?_)
        · have hw := hw.1 c_9
          refine lv_goto (tgt := 31) (pc := 193) hx hb dX3_select_193 (by decide) ?_
          exact ih_31 (x2_48, x3_48, M_heads_42, M_tails_42, M_chosen_48) _ _ _ hw.1 hw.2 ⟨hP, hD, hS, (lv_sub hl [0, 1, 2, 3] rfl)⟩
        · have hw := hw.2 c_9
          refine lv_iconst (v := 0) (pc := 61) hx hb dX3_select_61 (by decide) ?_
          refine lv_istore (lv' := [(5, .int 0), (0, .ref h_M), (1, .int a0), (2, .int x2_48), (3, .int x3_48), (4, .int x4_48)]) (pc := 62) hx hb dX3_select_62 hl (by decide) rfl (fun ls hl => ?_)
          obtain ⟨I_64, μ_64, hI_64, hs_64⟩ := hw
          refine lp_W (I := fun z : Int32 × Int32 × Int32 × (Nat → Int32) => I_64 z.1 z.2.1 z.2.2.1 z.2.2.2) (fun z => μ_64 z.1 z.2.1 z.2.2.1 z.2.2.2) (fun (z : Int32 × Int32 × Int32 × (Nat → Int32)) H locs ls => va_P (dC, dI) vwCl (wM h_M h_M_jobOf h_M_machineOf h_M_durations h_M_arcs h_M_drafts h_M_starts h_M_heads h_M_tails h_M_chosen h_M_orders h_M_sizes cI cZ M_jobs M_many M_isPlanned M_least M_optima M_jobOf M_machineOf M_durations M_arcs M_drafts M_starts M_heads_42 M_tails_42 z.2.2.2 M_orders M_sizes) H ∧ va_D A (wM h_M h_M_jobOf h_M_machineOf h_M_durations h_M_arcs h_M_drafts h_M_starts h_M_heads h_M_tails h_M_chosen h_M_orders h_M_sizes cI cZ M_jobs M_many M_isPlanned M_least M_optima M_jobOf M_machineOf M_durations M_arcs M_drafts M_starts M_heads_42 M_tails_42 z.2.2.2 M_orders M_sizes) ∧ va_S A s.heap H locs ∧ lv_has ls 6 [(0, .ref h_M), (1, .int a0), (2, .int z.1), (3, .int z.2.1), (4, .int x4_48), (5, .int z.2.2.1)]) ?_ (x2_48, x3_48, 0, M_chosen_48) _ _ _ hI_64 ⟨hP, hD, hS, (lv_sub hl [1, 2, 3, 4, 5, 0] rfl)⟩
          rintro ⟨x2_64, x3_64, x5_64, M_chosen_64⟩ H locs ls hI ⟨hP, hD, hS, hl⟩ ih_64
          have hw := hs_64 x2_64 x3_64 x5_64 M_chosen_64 hI
          have hP : va_P (dC, dI) vwCl (wM h_M h_M_jobOf h_M_machineOf h_M_durations h_M_arcs h_M_drafts h_M_starts h_M_heads h_M_tails h_M_chosen h_M_orders h_M_sizes cI cZ M_jobs M_many M_isPlanned M_least M_optima M_jobOf M_machineOf M_durations M_arcs M_drafts M_starts M_heads_42 M_tails_42 M_chosen_64 M_orders M_sizes) H := hP
          have hD : va_D A (wM h_M h_M_jobOf h_M_machineOf h_M_durations h_M_arcs h_M_drafts h_M_starts h_M_heads h_M_tails h_M_chosen h_M_orders h_M_sizes cI cZ M_jobs M_many M_isPlanned M_least M_optima M_jobOf M_machineOf M_durations M_arcs M_drafts M_starts M_heads_42 M_tails_42 M_chosen_64 M_orders M_sizes) := hD
          have hl : lv_has ls 6 [(0, .ref h_M), (1, .int a0), (2, .int x2_64), (3, .int x3_64), (4, .int x4_48), (5, .int x5_64)] := hl
          refine lv_iload (pc := 64) hx hb dX3_select_64 (lv_at hl 5 rfl) ?_
          refine lv_aload_n (pc := 66) hx hb dX3_select_66 rfl (lv_at hl 0 rfl) ?_
          refine va_get (D := (dC, dI)) (ci := 3) (v := .int M_many) (C := RX3) (T := TX3) (N := 16) (pc := 67) hx hb hts hin_X3 hown hK hP 0 rfl rfl 1 (by decide) (hts (.fieldLink RX3 48 "JobShopModel" "many" "I") (by decide +kernel)) (fun _ h9 => h9) rfl dX3_select_67 ?_
          refine lv_icmp_ge (tgt := 187) (pc := 70) hx hb dX3_select_70 (by decide) (fun c_10 => ?_) (fun c_10 => ?_)
          · have hw := hw.1 c_10
            refine lv_iinc (v := x4_48 + 1) (lv' := [(4, .int (x4_48 + 1)), (0, .ref h_M), (1, .int a0), (2, .int x2_64), (3, .int x3_64), (5, .int x5_64)]) (pc := 187) hx hb dX3_select_187 hl (k := 4) rfl rfl (by decide) rfl (fun ls hl => ?_)
            refine lv_goto (tgt := 48) (pc := 190) hx hb dX3_select_190 (by decide) ?_
            exact ih_48 (x2_64, x3_64, (x4_48 + 1), M_chosen_64) _ _ _ hw.1 hw.2 ⟨hP, hD, hS, (lv_sub hl [1, 2, 3, 4, 0] rfl)⟩
          · have hw := hw.2 c_10
            refine lv_iload_n (pc := 73) hx hb dX3_select_73 rfl (lv_at hl 3 rfl) ?_
            refine lv_if_ne (tgt := 187) (pc := 74) hx hb dX3_select_74 (by decide) (fun c_11 => ?_) (fun c_11 => ?_)
            · have hw := hw.1 c_11
              refine lv_iinc (v := x4_48 + 1) (lv' := [(4, .int (x4_48 + 1)), (0, .ref h_M), (1, .int a0), (2, .int x2_64), (3, .int x3_64), (5, .int x5_64)]) (pc := 187) hx hb dX3_select_187 hl (k := 4) rfl rfl (by decide) rfl (fun ls hl => ?_)
              refine lv_goto (tgt := 48) (pc := 190) hx hb dX3_select_190 (by decide) ?_
              exact ih_48 (x2_64, x3_64, (x4_48 + 1), M_chosen_64) _ _ _ hw.1 hw.2 ⟨hP, hD, hS, (lv_sub hl [1, 2, 3, 4, 0] rfl)⟩
            · have hw := hw.2 c_11
              refine lv_aload_n (pc := 77) hx hb dX3_select_77 rfl (lv_at hl 0 rfl) ?_
              refine lv_iload (pc := 78) hx hb dX3_select_78 (lv_at hl 4 rfl) ?_
              refine lv_iload (pc := 80) hx hb dX3_select_80 (lv_at hl 5 rfl) ?_
              have hPx : va_P (dC, dI) vwCl ([] ++ (wM h_M h_M_jobOf h_M_machineOf h_M_durations h_M_arcs h_M_drafts h_M_starts h_M_heads h_M_tails h_M_chosen h_M_orders h_M_sizes cI cZ M_jobs M_many M_isPlanned M_least M_optima M_jobOf M_machineOf M_durations M_arcs M_drafts M_starts M_heads_42 M_tails_42 M_chosen_64 M_orders M_sizes)) H := hP
              have hDx : va_D A ([] ++ (wM h_M h_M_jobOf h_M_machineOf h_M_durations h_M_arcs h_M_drafts h_M_starts h_M_heads h_M_tails h_M_chosen h_M_orders h_M_sizes cI cZ M_jobs M_many M_isPlanned M_least M_optima M_jobOf M_machineOf M_durations M_arcs M_drafts M_starts M_heads_42 M_tails_42 M_chosen_64 M_orders M_sizes)) := hD
              refine kc_i (pc := 82) (w1 := (fun u : Unit => (wM h_M h_M_jobOf h_M_machineOf h_M_durations h_M_arcs h_M_drafts h_M_starts h_M_heads h_M_tails h_M_chosen h_M_orders h_M_sizes cI cZ M_jobs M_many M_isPlanned M_least M_optima M_jobOf M_machineOf M_durations M_arcs M_drafts M_starts M_heads_42 M_tails_42 M_chosen_64 M_orders M_sizes))) (va_runV (As := [.int x4_48, .int x5_64]) (rest := []) ⟨hx, hb, hml, hown, hts⟩ (c_X3_isPair l dC dI h_M h_M_jobOf h_M_machineOf h_M_durations h_M_arcs h_M_drafts h_M_starts h_M_heads h_M_tails h_M_chosen h_M_orders h_M_sizes H.size cI cZ M_jobs M_many M_isPlanned M_least M_optima M_jobOf M_machineOf M_durations M_arcs M_drafts M_starts M_heads_42 M_tails_42 M_chosen_64 M_orders M_sizes x4_48 x5_64 _ hw) (cwV 2 hts gX3_select_X3_isPair rfl rfl rfl (by decide +kernel) ⟨Nat.le_of_ble_eq_true rfl, Nat.le_of_ble_eq_true rfl⟩) (kc_preVM (q0 := 0) (ci := 3) hK hPx hDx [0, 1] rfl rfl rfl) rfl rfl hl.1 rfl (lv_room (Nat.le_of_ble_eq_true rfl)) dX3_select_82 ⟨Nat.zero_le _, Nat.zero_le _⟩) hPx hDx hS hA (fun r_82 u H locs hw hP hD hS => ?_)
              have hP : va_P (dC, dI) vwCl (wM h_M h_M_jobOf h_M_machineOf h_M_durations h_M_arcs h_M_drafts h_M_starts h_M_heads h_M_tails h_M_chosen h_M_orders h_M_sizes cI cZ M_jobs M_many M_isPlanned M_least M_optima M_jobOf M_machineOf M_durations M_arcs M_drafts M_starts M_heads_42 M_tails_42 M_chosen_64 M_orders M_sizes) H := hP
              have hD : va_D A (wM h_M h_M_jobOf h_M_machineOf h_M_durations h_M_arcs h_M_drafts h_M_starts h_M_heads h_M_tails h_M_chosen h_M_orders h_M_sizes cI cZ M_jobs M_many M_isPlanned M_least M_optima M_jobOf M_machineOf M_durations M_arcs M_drafts M_starts M_heads_42 M_tails_42 M_chosen_64 M_orders M_sizes) := hD
              refine lv_if_eq (tgt := 181) (pc := 85) hx hb dX3_select_85 (by decide) (fun c_12 => ?_) (fun c_12 => ?_)
              · have hw := hw.1 c_12
                refine lv_iinc (v := x5_64 + 1) (lv' := [(5, .int (x5_64 + 1)), (0, .ref h_M), (1, .int a0), (2, .int x2_64), (3, .int x3_64), (4, .int x4_48)]) (pc := 181) hx hb dX3_select_181 hl (k := 5) rfl rfl (by decide) rfl (fun ls hl => ?_)
                refine lv_goto (tgt := 64) (pc := 184) hx hb dX3_select_184 (by decide) ?_
                exact ih_64 (x2_64, x3_64, (x5_64 + 1), M_chosen_64) _ _ _ hw.1 hw.2 ⟨hP, hD, hS, (lv_sub hl [1, 2, 3, 4, 5, 0] rfl)⟩
              · have hw := hw.2 c_12
                refine lv_aload_n (pc := 88) hx hb dX3_select_88 rfl (lv_at hl 0 rfl) ?_
                refine va_get (D := (dC, dI)) (ci := 3) (v := .ref h_M_chosen) (C := RX3) (T := TX3) (N := 16) (pc := 89) hx hb hts hin_X3 hown hK hP 0 rfl rfl 13 (by decide) (hts (.fieldLink RX3 35 "JobShopModel" "chosen" "[Z") (by decide +kernel)) (fun _ h9 => h9) rfl dX3_select_89 ?_
                refine lv_bipush (v := 12) (pc := 92) hx hb dX3_select_92 (by decide) ?_
                refine lv_iload (pc := 94) hx hb dX3_select_94 (lv_at hl 4 rfl) ?_
                refine lv_imul (pc := 96) hx hb dX3_select_96 ?_
                refine lv_iload (pc := 97) hx hb dX3_select_97 (lv_at hl 5 rfl) ?_
                refine lv_iadd (pc := 99) hx hb dX3_select_99 ?_
                obtain ⟨b_13, hw⟩ := hw
                refine va_zald (pc := 100) hx hb hK hP 9 1 rfl rfl b_13 dX3_select_100 ?_
                refine lv_if_ne (tgt := 181) (pc := 101) hx hb dX3_select_101 (by decide) (fun c_14 => ?_) (fun c_14 => ?_)
                · have hw := hw.1 c_14
                  refine lv_iinc (v := x5_64 + 1) (lv' := [(5, .int (x5_64 + 1)), (0, .ref h_M), (1, .int a0), (2, .int x2_64), (3, .int x3_64), (4, .int x4_48)]) (pc := 181) hx hb dX3_select_181 hl (k := 5) rfl rfl (by decide) rfl (fun ls hl => ?_)
                  refine lv_goto (tgt := 64) (pc := 184) hx hb dX3_select_184 (by decide) ?_
                  exact ih_64 (x2_64, x3_64, (x5_64 + 1), M_chosen_64) _ _ _ hw.1 hw.2 ⟨hP, hD, hS, (lv_sub hl [1, 2, 3, 4, 5, 0] rfl)⟩
                · have hw := hw.2 c_14
                  refine lv_aload_n (pc := 104) hx hb dX3_select_104 rfl (lv_at hl 0 rfl) ?_
                  refine va_get (D := (dC, dI)) (ci := 3) (v := .ref h_M_chosen) (C := RX3) (T := TX3) (N := 16) (pc := 105) hx hb hts hin_X3 hown hK hP 0 rfl rfl 13 (by decide) (hts (.fieldLink RX3 35 "JobShopModel" "chosen" "[Z") (by decide +kernel)) (fun _ h9 => h9) rfl dX3_select_105 ?_
                  refine lv_bipush (v := 12) (pc := 108) hx hb dX3_select_108 (by decide) ?_
                  refine lv_iload (pc := 110) hx hb dX3_select_110 (lv_at hl 5 rfl) ?_
                  refine lv_imul (pc := 112) hx hb dX3_select_112 ?_
                  refine lv_iload (pc := 113) hx hb dX3_select_113 (lv_at hl 4 rfl) ?_
                  refine lv_iadd (pc := 115) hx hb dX3_select_115 ?_
                  obtain ⟨b_15, hw⟩ := hw
                  refine va_zald (pc := 116) hx hb hK hP 9 1 rfl rfl b_15 dX3_select_116 ?_
                  refine lv_if_ne (tgt := 181) (pc := 117) hx hb dX3_select_117 (by decide) (fun c_16 => ?_) (fun c_16 => ?_)
                  · have hw := hw.1 c_16
                    refine lv_iinc (v := x5_64 + 1) (lv' := [(5, .int (x5_64 + 1)), (0, .ref h_M), (1, .int a0), (2, .int x2_64), (3, .int x3_64), (4, .int x4_48)]) (pc := 181) hx hb dX3_select_181 hl (k := 5) rfl rfl (by decide) rfl (fun ls hl => ?_)
                    refine lv_goto (tgt := 64) (pc := 184) hx hb dX3_select_184 (by decide) ?_
                    exact ih_64 (x2_64, x3_64, (x5_64 + 1), M_chosen_64) _ _ _ hw.1 hw.2 ⟨hP, hD, hS, (lv_sub hl [1, 2, 3, 4, 5, 0] rfl)⟩
                  · have hw := hw.2 c_16
                    refine lv_aload_n (pc := 120) hx hb dX3_select_120 rfl (lv_at hl 0 rfl) ?_
                    refine lv_iload (pc := 121) hx hb dX3_select_121 (lv_at hl 4 rfl) ?_
                    refine lv_iload (pc := 123) hx hb dX3_select_123 (lv_at hl 5 rfl) ?_
                    refine lv_iload_n (pc := 125) hx hb dX3_select_125 rfl (lv_at hl 1 rfl) ?_
                    have hPx : va_P (dC, dI) vwCl ([] ++ (wM h_M h_M_jobOf h_M_machineOf h_M_durations h_M_arcs h_M_drafts h_M_starts h_M_heads h_M_tails h_M_chosen h_M_orders h_M_sizes cI cZ M_jobs M_many M_isPlanned M_least M_optima M_jobOf M_machineOf M_durations M_arcs M_drafts M_starts M_heads_42 M_tails_42 M_chosen_64 M_orders M_sizes)) H := hP
                    have hDx : va_D A ([] ++ (wM h_M h_M_jobOf h_M_machineOf h_M_durations h_M_arcs h_M_drafts h_M_starts h_M_heads h_M_tails h_M_chosen h_M_orders h_M_sizes cI cZ M_jobs M_many M_isPlanned M_least M_optima M_jobOf M_machineOf M_durations M_arcs M_drafts M_starts M_heads_42 M_tails_42 M_chosen_64 M_orders M_sizes)) := hD
                    refine kc_i (pc := 126) (w1 := (fun u : Unit => (wM h_M h_M_jobOf h_M_machineOf h_M_durations h_M_arcs h_M_drafts h_M_starts h_M_heads h_M_tails h_M_chosen h_M_orders h_M_sizes cI cZ M_jobs M_many M_isPlanned M_least M_optima M_jobOf M_machineOf M_durations M_arcs M_drafts M_starts M_heads_42 M_tails_42 M_chosen_64 M_orders M_sizes))) (va_runV (As := [.int x4_48, .int x5_64, .int a0]) (rest := []) ⟨hx, hb, hml, hown, hts⟩ (c_X3_isForced l dC dI h_M h_M_jobOf h_M_machineOf h_M_durations h_M_arcs h_M_drafts h_M_starts h_M_heads h_M_tails h_M_chosen h_M_orders h_M_sizes H.size cI cZ M_jobs M_many M_isPlanned M_least M_optima M_jobOf M_machineOf M_durations M_arcs M_drafts M_starts M_heads_42 M_tails_42 M_chosen_64 M_orders M_sizes x4_48 x5_64 a0 _ hw) (cwV 3 hts gX3_select_X3_isForced rfl rfl rfl (by decide +kernel) ⟨Nat.le_of_ble_eq_true rfl, Nat.le_of_ble_eq_true rfl⟩) (kc_preVM (q0 := 0) (ci := 3) hK hPx hDx [0, 1] rfl rfl rfl) rfl rfl hl.1 rfl (lv_room (Nat.le_of_ble_eq_true rfl)) dX3_select_126 ⟨Nat.zero_le _, Nat.zero_le _⟩) hPx hDx hS hA (fun r_126 u H locs hw hP hD hS => ?_)
                    have hP : va_P (dC, dI) vwCl (wM h_M h_M_jobOf h_M_machineOf h_M_durations h_M_arcs h_M_drafts h_M_starts h_M_heads h_M_tails h_M_chosen h_M_orders h_M_sizes cI cZ M_jobs M_many M_isPlanned M_least M_optima M_jobOf M_machineOf M_durations M_arcs M_drafts M_starts M_heads_42 M_tails_42 M_chosen_64 M_orders M_sizes) H := hP
                    have hD : va_D A (wM h_M h_M_jobOf h_M_machineOf h_M_durations h_M_arcs h_M_drafts h_M_starts h_M_heads h_M_tails h_M_chosen h_M_orders h_M_sizes cI cZ M_jobs M_many M_isPlanned M_least M_optima M_jobOf M_machineOf M_durations M_arcs M_drafts M_starts M_heads_42 M_tails_42 M_chosen_64 M_orders M_sizes) := hD
                    refine lv_if_eq (tgt := 181) (pc := 129) hx hb dX3_select_129 (by decide) (fun c_17 => ?_) (fun c_17 => ?_)
                    · have hw := hw.1 c_17
                      refine lv_iinc (v := x5_64 + 1) (lv' := [(5, .int (x5_64 + 1)), (0, .ref h_M), (1, .int a0), (2, .int x2_64), (3, .int x3_64), (4, .int x4_48)]) (pc := 181) hx hb dX3_select_181 hl (k := 5) rfl rfl (by decide) rfl (fun ls hl => ?_)
                      refine lv_goto (tgt := 64) (pc := 184) hx hb dX3_select_184 (by decide) ?_
                      exact ih_64 (x2_64, x3_64, (x5_64 + 1), M_chosen_64) _ _ _ hw.1 hw.2 ⟨hP, hD, hS, (lv_sub hl [1, 2, 3, 4, 5, 0] rfl)⟩
                    · have hw := hw.2 c_17
                      refine lv_aload_n (pc := 132) hx hb dX3_select_132 rfl (lv_at hl 0 rfl) ?_
                      refine lv_iload (pc := 133) hx hb dX3_select_133 (lv_at hl 5 rfl) ?_
                      refine lv_iload (pc := 135) hx hb dX3_select_135 (lv_at hl 4 rfl) ?_
                      refine lv_iload_n (pc := 137) hx hb dX3_select_137 rfl (lv_at hl 1 rfl) ?_
                      have hPx : va_P (dC, dI) vwCl ([] ++ (wM h_M h_M_jobOf h_M_machineOf h_M_durations h_M_arcs h_M_drafts h_M_starts h_M_heads h_M_tails h_M_chosen h_M_orders h_M_sizes cI cZ M_jobs M_many M_isPlanned M_least M_optima M_jobOf M_machineOf M_durations M_arcs M_drafts M_starts M_heads_42 M_tails_42 M_chosen_64 M_orders M_sizes)) H := hP
                      have hDx : va_D A ([] ++ (wM h_M h_M_jobOf h_M_machineOf h_M_durations h_M_arcs h_M_drafts h_M_starts h_M_heads h_M_tails h_M_chosen h_M_orders h_M_sizes cI cZ M_jobs M_many M_isPlanned M_least M_optima M_jobOf M_machineOf M_durations M_arcs M_drafts M_starts M_heads_42 M_tails_42 M_chosen_64 M_orders M_sizes)) := hD
                      refine kc_i (pc := 138) (w1 := (fun u : Unit => (wM h_M h_M_jobOf h_M_machineOf h_M_durations h_M_arcs h_M_drafts h_M_starts h_M_heads h_M_tails h_M_chosen h_M_orders h_M_sizes cI cZ M_jobs M_many M_isPlanned M_least M_optima M_jobOf M_machineOf M_durations M_arcs M_drafts M_starts M_heads_42 M_tails_42 M_chosen_64 M_orders M_sizes))) (va_runV (As := [.int x5_64, .int x4_48, .int a0]) (rest := []) ⟨hx, hb, hml, hown, hts⟩ (c_X3_isForced l dC dI h_M h_M_jobOf h_M_machineOf h_M_durations h_M_arcs h_M_drafts h_M_starts h_M_heads h_M_tails h_M_chosen h_M_orders h_M_sizes H.size cI cZ M_jobs M_many M_isPlanned M_least M_optima M_jobOf M_machineOf M_durations M_arcs M_drafts M_starts M_heads_42 M_tails_42 M_chosen_64 M_orders M_sizes x5_64 x4_48 a0 _ hw) (cwV 3 hts gX3_select_X3_isForced rfl rfl rfl (by decide +kernel) ⟨Nat.le_of_ble_eq_true rfl, Nat.le_of_ble_eq_true rfl⟩) (kc_preVM (q0 := 0) (ci := 3) hK hPx hDx [0, 1] rfl rfl rfl) rfl rfl hl.1 rfl (lv_room (Nat.le_of_ble_eq_true rfl)) dX3_select_138 ⟨Nat.zero_le _, Nat.zero_le _⟩) hPx hDx hS hA (fun r_138 u H locs hw hP hD hS => ?_)
                      have hP : va_P (dC, dI) vwCl (wM h_M h_M_jobOf h_M_machineOf h_M_durations h_M_arcs h_M_drafts h_M_starts h_M_heads h_M_tails h_M_chosen h_M_orders h_M_sizes cI cZ M_jobs M_many M_isPlanned M_least M_optima M_jobOf M_machineOf M_durations M_arcs M_drafts M_starts M_heads_42 M_tails_42 M_chosen_64 M_orders M_sizes) H := hP
                      have hD : va_D A (wM h_M h_M_jobOf h_M_machineOf h_M_durations h_M_arcs h_M_drafts h_M_starts h_M_heads h_M_tails h_M_chosen h_M_orders h_M_sizes cI cZ M_jobs M_many M_isPlanned M_least M_optima M_jobOf M_machineOf M_durations M_arcs M_drafts M_starts M_heads_42 M_tails_42 M_chosen_64 M_orders M_sizes) := hD
                      refine lv_if_ne (tgt := 159) (pc := 141) hx hb dX3_select_141 (by decide) (fun c_18 => ?_) (fun c_18 => ?_)
                      · have hw := hw.1 c_18
                        refine lv_bipush (v := (-5)) (pc := 159) hx hb dX3_select_159 (by decide) ?_
                        exact W.iret (v := (-5)) hx hb hr (fun t ht hW => ⟨⟨(-5), (M_isPlanned, M_arcs, M_heads_42, M_tails_42, M_chosen_64), rfl, hw, by rw [ht]; exact hP, va_K.moved hW.alike hK, hD⟩, hS.F ht⟩) hS.2.2 dX3_select_161
                      · have hw := hw.2 c_18
                        refine lv_aload_n (pc := 144) hx hb dX3_select_144 rfl (lv_at hl 0 rfl) ?_
                        refine lv_aload_n (pc := 145) hx hb dX3_select_145 rfl (lv_at hl 0 rfl) ?_
                        refine va_get (D := (dC, dI)) (ci := 3) (v := .ref h_M_chosen) (C := RX3) (T := TX3) (N := 16) (pc := 146) hx hb hts hin_X3 hown hK hP 0 rfl rfl 13 (by decide) (hts (.fieldLink RX3 35 "JobShopModel" "chosen" "[Z") (by decide +kernel)) (fun _ h9 => h9) rfl dX3_select_146 ?_
                        refine lv_iload (pc := 149) hx hb dX3_select_149 (lv_at hl 5 rfl) ?_
                        refine lv_iload (pc := 151) hx hb dX3_select_151 (lv_at hl 4 rfl) ?_
                        have hPx : va_P (dC, dI) vwCl ([] ++ (wM h_M h_M_jobOf h_M_machineOf h_M_durations h_M_arcs h_M_drafts h_M_starts h_M_heads h_M_tails h_M_chosen h_M_orders h_M_sizes cI cZ M_jobs M_many M_isPlanned M_least M_optima M_jobOf M_machineOf M_durations M_arcs M_drafts M_starts M_heads_42 M_tails_42 M_chosen_64 M_orders M_sizes)) H := hP
                        have hDx : va_D A ([] ++ (wM h_M h_M_jobOf h_M_machineOf h_M_durations h_M_arcs h_M_drafts h_M_starts h_M_heads h_M_tails h_M_chosen h_M_orders h_M_sizes cI cZ M_jobs M_many M_isPlanned M_least M_optima M_jobOf M_machineOf M_durations M_arcs M_drafts M_starts M_heads_42 M_tails_42 M_chosen_64 M_orders M_sizes)) := hD
                        refine kc_i (pc := 153) (w1 := (fun u : Unit => (wM h_M h_M_jobOf h_M_machineOf h_M_durations h_M_arcs h_M_drafts h_M_starts h_M_heads h_M_tails h_M_chosen h_M_orders h_M_sizes cI cZ M_jobs M_many M_isPlanned M_least M_optima M_jobOf M_machineOf M_durations M_arcs M_drafts M_starts M_heads_42 M_tails_42 M_chosen_64 M_orders M_sizes))) (va_runV (As := [.ref h_M_chosen, .int x5_64, .int x4_48]) (rest := []) ⟨hx, hb, hml, hown, hts⟩ (c_X3_hasPath_c l dC dI h_M h_M_jobOf h_M_machineOf h_M_durations h_M_arcs h_M_drafts h_M_starts h_M_heads h_M_tails h_M_chosen h_M_orders h_M_sizes H.size cI cZ M_jobs M_many M_isPlanned M_least M_optima M_jobOf M_machineOf M_durations M_arcs M_drafts M_starts M_heads_42 M_tails_42 M_chosen_64 M_orders M_sizes x5_64 x4_48 _ hw) (cwV 3 hts gX3_select_X3_hasPath rfl rfl rfl (by decide +kernel) ⟨Nat.le_of_ble_eq_true rfl, Nat.le_of_ble_eq_true rfl⟩) (kc_preVM (q0 := 0) (ci := 3) hK hPx hDx [0, 1] rfl rfl rfl) rfl rfl hl.1 rfl (lv_room (Nat.le_of_ble_eq_true rfl)) dX3_select_153 ⟨Nat.zero_le _, Nat.zero_le _⟩) hPx hDx hS hA (fun r_153 u H locs hw hP hD hS => ?_)
                        have hP : va_P (dC, dI) vwCl (wM h_M h_M_jobOf h_M_machineOf h_M_durations h_M_arcs h_M_drafts h_M_starts h_M_heads h_M_tails h_M_chosen h_M_orders h_M_sizes cI cZ M_jobs M_many M_isPlanned M_least M_optima M_jobOf M_machineOf M_durations M_arcs M_drafts M_starts M_heads_42 M_tails_42 M_chosen_64 M_orders M_sizes) H := hP
                        have hD : va_D A (wM h_M h_M_jobOf h_M_machineOf h_M_durations h_M_arcs h_M_drafts h_M_starts h_M_heads h_M_tails h_M_chosen h_M_orders h_M_sizes cI cZ M_jobs M_many M_isPlanned M_least M_optima M_jobOf M_machineOf M_durations M_arcs M_drafts M_starts M_heads_42 M_tails_42 M_chosen_64 M_orders M_sizes) := hD
                        refine lv_if_eq (tgt := 162) (pc := 156) hx hb dX3_select_156 (by decide) (fun c_19 => ?_) (fun c_19 => ?_)
                        · have hw := hw.1 c_19
                          refine lv_aload_n (pc := 162) hx hb dX3_select_162 rfl (lv_at hl 0 rfl) ?_
                          refine va_get (D := (dC, dI)) (ci := 3) (v := .ref h_M_chosen) (C := RX3) (T := TX3) (N := 16) (pc := 163) hx hb hts hin_X3 hown hK hP 0 rfl rfl 13 (by decide) (hts (.fieldLink RX3 35 "JobShopModel" "chosen" "[Z") (by decide +kernel)) (fun _ h9 => h9) rfl dX3_select_163 ?_
                          refine lv_bipush (v := 12) (pc := 166) hx hb dX3_select_166 (by decide) ?_
                          refine lv_iload (pc := 168) hx hb dX3_select_168 (lv_at hl 4 rfl) ?_
                          refine lv_imul (pc := 170) hx hb dX3_select_170 ?_
                          refine lv_iload (pc := 171) hx hb dX3_select_171 (lv_at hl 5 rfl) ?_
                          refine lv_iadd (pc := 173) hx hb dX3_select_173 ?_
                          refine lv_iconst (v := 1) (pc := 174) hx hb dX3_select_174 (by decide) ?_
                          obtain ⟨b_20, hw⟩ := hw
                          refine va_zast (pc := 175) hx hb hK hP hD hS 9 1 rfl rfl b_20 dX3_select_175 (fun H locs hP hD hS => ?_)
                          have hP : va_P (dC, dI) vwCl (wM h_M h_M_jobOf h_M_machineOf h_M_durations h_M_arcs h_M_drafts h_M_starts h_M_heads h_M_tails h_M_chosen h_M_orders h_M_sizes cI cZ M_jobs M_many M_isPlanned M_least M_optima M_jobOf M_machineOf M_durations M_arcs M_drafts M_starts M_heads_42 M_tails_42 (upd M_chosen_64 ((12 * x4_48) + x5_64).toNatClampNeg (vp_nar .boolean 1)) M_orders M_sizes) H := hP
                          have hD : va_D A (wM h_M h_M_jobOf h_M_machineOf h_M_durations h_M_arcs h_M_drafts h_M_starts h_M_heads h_M_tails h_M_chosen h_M_orders h_M_sizes cI cZ M_jobs M_many M_isPlanned M_least M_optima M_jobOf M_machineOf M_durations M_arcs M_drafts M_starts M_heads_42 M_tails_42 (upd M_chosen_64 ((12 * x4_48) + x5_64).toNatClampNeg (vp_nar .boolean 1)) M_orders M_sizes) := hD
                          refine lv_iinc (v := x2_64 + 1) (lv' := [(2, .int (x2_64 + 1)), (0, .ref h_M), (1, .int a0), (3, .int x3_64), (4, .int x4_48), (5, .int x5_64)]) (pc := 176) hx hb dX3_select_176 hl (k := 2) rfl rfl (by decide) rfl (fun ls hl => ?_)
                          refine lv_iconst (v := 1) (pc := 179) hx hb dX3_select_179 (by decide) ?_
                          refine lv_istore_n (lv' := [(3, .int 1), (2, .int (x2_64 + 1)), (0, .ref h_M), (1, .int a0), (4, .int x4_48), (5, .int x5_64)]) (pc := 180) hx hb dX3_select_180 rfl hl (by decide) rfl (fun ls hl => ?_)
                          refine lv_iinc (v := x5_64 + 1) (lv' := [(5, .int (x5_64 + 1)), (3, .int 1), (2, .int (x2_64 + 1)), (0, .ref h_M), (1, .int a0), (4, .int x4_48)]) (pc := 181) hx hb dX3_select_181 hl (k := 5) rfl rfl (by decide) rfl (fun ls hl => ?_)
                          refine lv_goto (tgt := 64) (pc := 184) hx hb dX3_select_184 (by decide) ?_
                          exact ih_64 ((x2_64 + 1), 1, (x5_64 + 1), (upd M_chosen_64 ((12 * x4_48) + x5_64).toNatClampNeg (vp_nar .boolean 1))) _ _ _ hw.1 hw.2 ⟨hP, hD, hS, (lv_sub hl [3, 4, 2, 1, 5, 0] rfl)⟩
                        · have hw := hw.2 c_19
                          refine lv_bipush (v := (-5)) (pc := 159) hx hb dX3_select_159 (by decide) ?_
                          exact W.iret (v := (-5)) hx hb hr (fun t ht hW => ⟨⟨(-5), (M_isPlanned, M_arcs, M_heads_42, M_tails_42, M_chosen_64), rfl, hw, by rw [ht]; exact hP, va_K.moved hW.alike hK, hD⟩, hS.F ht⟩) hS.2.2 dX3_select_161
  · have hw := hw.2 c_1
    refine lv_aload_n (pc := 9) hx hb dX3_select_9 rfl (lv_at hl 0 rfl) ?_
    refine va_get (D := (dC, dI)) (ci := 3) (v := .ref h_M_chosen) (C := RX3) (T := TX3) (N := 16) (pc := 10) hx hb hts hin_X3 hown hK hP 0 rfl rfl 13 (by decide) (hts (.fieldLink RX3 35 "JobShopModel" "chosen" "[Z") (by decide +kernel)) (fun _ h9 => h9) rfl dX3_select_10 ?_
    refine lv_iload_n (pc := 13) hx hb dX3_select_13 rfl (lv_at hl 2 rfl) ?_
    refine lv_aload_n (pc := 14) hx hb dX3_select_14 rfl (lv_at hl 0 rfl) ?_
    refine va_get (D := (dC, dI)) (ci := 3) (v := .ref h_M_arcs) (C := RX3) (T := TX3) (N := 16) (pc := 15) hx hb hts hin_X3 hown hK hP 0 rfl rfl 5 (by decide) (hts (.fieldLink RX3 19 "JobShopModel" "arcs" "[Z") (by decide +kernel)) (fun _ h9 => h9) rfl dX3_select_15 ?_
    refine lv_iload_n (pc := 18) hx hb dX3_select_18 rfl (lv_at hl 2 rfl) ?_
    obtain ⟨b_21, hw⟩ := hw
    refine va_zald (pc := 19) hx hb hK hP 4 1 rfl rfl b_21 dX3_select_19 ?_
    obtain ⟨b_22, hw⟩ := hw
    refine va_zast (pc := 20) hx hb hK hP hD hS 9 1 rfl rfl b_22 dX3_select_20 (fun H locs hP hD hS => ?_)
    have hP : va_P (dC, dI) vwCl (wM h_M h_M_jobOf h_M_machineOf h_M_durations h_M_arcs h_M_drafts h_M_starts h_M_heads h_M_tails h_M_chosen h_M_orders h_M_sizes cI cZ M_jobs M_many M_isPlanned M_least M_optima M_jobOf M_machineOf M_durations M_arcs M_drafts M_starts M_heads M_tails (upd M_chosen_2 x2_2.toNatClampNeg (vp_nar .boolean (M_arcs x2_2.toNatClampNeg))) M_orders M_sizes) H := hP
    have hD : va_D A (wM h_M h_M_jobOf h_M_machineOf h_M_durations h_M_arcs h_M_drafts h_M_starts h_M_heads h_M_tails h_M_chosen h_M_orders h_M_sizes cI cZ M_jobs M_many M_isPlanned M_least M_optima M_jobOf M_machineOf M_durations M_arcs M_drafts M_starts M_heads M_tails (upd M_chosen_2 x2_2.toNatClampNeg (vp_nar .boolean (M_arcs x2_2.toNatClampNeg))) M_orders M_sizes) := hD
    refine lv_iinc (v := x2_2 + 1) (lv' := [(2, .int (x2_2 + 1)), (0, .ref h_M), (1, .int a0)]) (pc := 21) hx hb dX3_select_21 hl (k := 2) rfl rfl (by decide) rfl (fun ls hl => ?_)
    refine lv_goto (tgt := 2) (pc := 24) hx hb dX3_select_24 (by decide) ?_
    exact ih_2 ((x2_2 + 1), (upd M_chosen_2 x2_2.toNatClampNeg (vp_nar .boolean (M_arcs x2_2.toNatClampNeg)))) _ _ _ hw.1 hw.2 ⟨hP, hD, hS, (lv_sub hl [1, 2, 0] rfl)⟩
