set_option maxHeartbeats 4000000 in
set_option maxRecDepth 100000 in
theorem whole_start {p : Program} {e : Env} {s : State} {m : MethodId} {below : List Frame} {meth : Method} {c : Code} (l : Launch) {b L : Nat} {xs : Nat → Int32} (hL : L ≤ 2048) (C0 : lw_At p s m meth c b L xs) : W p l e room_1 s m #[Value.ref b] below meth c s.heap [] 0 0 (lw_Z below #[Value.ref b] s) (entryFrame m ([Value.ref b] : List Value).toArray 4) := by
  obtain ⟨hx, hb, hr, hml, hown0, hts0, hX, hbl, hlocks, hgv⟩ := id C0
  have hown : s.vm.findClass RL = some m.cls := hown0
  have hts : ∀ w ∈ wsL_law, w.before #[Value.ref b] s = true := fun w h => hts0 w (wsL_law_in w h)
  have hA : ∀ q : Nat, s.heap.size ≤ q → (fun q : Nat => s.heap.size ≤ q) q := fun _ h => h
  have hN : nw s := va_Nw.of rfl (hts0 (.methodLinkNest RX0 56 yX2_isIn RX2) (by decide +kernel))
  have hN2 : nw2 s := va_Nw.of rfl (hts0 (.methodLinkNest RX2 9 yX0_init RX2) (by decide +kernel))
  obtain ⟨c0, iS0, hKn0⟩ := u_known (C := RX0) (T := TX0) (N := 12) (n := 12) hts inlX0 (hts (.instantiable RX0 12) (by decide +kernel))
  obtain ⟨c1, iS1, hKn1⟩ := u_known (C := RX1) (T := TX1) (N := 12) (n := 12) hts inlX1 (hts (.instantiable RX1 12) (by decide +kernel))
  obtain ⟨c2, iS2, hKn2⟩ := u_known (C := RX2) (T := TX2) (N := 4) (n := 4) hts inlX2 (hts (.instantiable RX2 4) (by decide +kernel))
  obtain ⟨c3, iS3, hKn3⟩ := u_known (C := RX3) (T := TX3) (N := 16) (n := 16) hts inlX3 (hts (.instantiable RX3 16) (by decide +kernel))
  obtain ⟨dC, dI, hKc⟩ : ∃ (dC : Nat → ClassId) (dI : Nat → Nat → Nat), ∀ (k : Nat) (q : vw_C), vwCl[k]? = some q → u_Kn s q.1 q.2.1 q.2.2 (dC k) (dI k) := by
    refine ⟨fun k => if k = 0 then c0 else if k = 1 then c1 else if k = 2 then c2 else c3, fun k => if k = 0 then iS0 else if k = 1 then iS1 else if k = 2 then iS2 else iS3, ?_⟩
    intro k q hq
    match k, hq with
    | 0, hq => cases hq; exact hKn0
    | 1, hq => cases hq; exact hKn1
    | 2, hq => cases hq; exact hKn2
    | 3, hq => cases hq; exact hKn3
    | k + 4, hq => simp [vwCl] at hq
  obtain ⟨cI, hI1, hI2⟩ := ac_i (hts (.arrayClass .int) (by decide +kernel))
  obtain ⟨cZ, hZ1, hZ2⟩ := ac_z (hts (.arrayClass .boolean) (by decide +kernel))
  have hS : va_S (fun q : Nat => s.heap.size ≤ q) s.heap s.heap [] := va_S.rf
  have hK : va_K (dC, dI) vwCl [(cI, .int), (cZ, .boolean)] s := ⟨hKc, fun k q h => by
    match k, h with
    | 0, h => cases h; exact ⟨hI1, hI2⟩
    | 1, h => cases h; exact ⟨hZ1, hZ2⟩
    | k + 2, h => simp at h⟩
  have C1 : LCtx p s m meth c b L xs dC dI cI cZ := ⟨C0, hK, hN⟩
  have hP : va_P (dC, dI) vwCl [] s.heap := fun k q h => by simp at h
  have hD : va_D (fun q : Nat => s.heap.size ≤ q) [] := ⟨fun i j p q h => by simp at h, fun k q h => by simp at h⟩
  have hl := lv_entry ([.ref b]) (n := 4) (Nat.le_of_ble_eq_true rfl)
  rw [lg_entry_eq]
  generalize (lg_sl ([.ref b]) ++ List.replicate (4 - (lg_sl ([.ref b])).length) Slot.unset).toArray = ls at hl ⊢
  have hl : lv_has ls 4 [(0, .ref b)] := hl
  refine va_new (ci := 2) (fs := [.null, .null, .null, .int 0]) (C := RX2) (T := TX2) (N := 4) (pc := 0) hx hb hts inlX2 tyX2 tyX2_ok hown (hts (.classLink RL 7 RX2) (by decide +kernel)) (hts (.instantiable RX2 4) (by decide +kernel)) (hts (.initialized RX2) (by decide +kernel)) hK hP hD hS hA rfl (fun j hj => by rcases (show j = 0 ∨ j = 1 ∨ j = 2 ∨ j = 3 by omega) with rfl | rfl | rfl | rfl <;> rfl) (Nat.le_of_ble_eq_true rfl) (Nat.le_of_ble_eq_true rfl) dL_law_0 (fun h_J H hP hD hS => ?_)
  have hP : va_P (dC, dI) vwCl [(h_J, .inr (2, [.null, .null, .null, .int 0]))] H := hP
  have hD : va_D (fun q : Nat => s.heap.size ≤ q) [(h_J, .inr (2, [.null, .null, .null, .int 0]))] := hD
  refine W.widen (k := 1) (n := 4) (Nat.le_of_ble_eq_true rfl) (Nat.le_of_ble_eq_true rfl) ?_
  refine lv_dup (pc := 3) hx hb dL_law_3 rfl ?_
  have hPc := hP.sub (ws' := [(h_J, .inr (2, [.null, .null, .null, .int 0]))]) [0] rfl
  have hDc := hD.sub (ws' := [(h_J, .inr (2, [.null, .null, .null, .int 0]))]) [0] (by decide) rfl
  have hKc := hK.sub (tys' := [(cI, .int)]) [0] rfl
  have hFc := va_free (wc := [(h_J, .inr (2, [.null, .null, .null, .int 0]))]) hD hS hA [0] rfl
  refine va_callv (pc := 4) (va_runI (As := []) (rest := [.ref h_J]) ⟨hx, hb, hml, hown, hts⟩ (c_X2_init l dC dI h_J H.size cI) (cwI 0 hts gL_law_X2_init rfl rfl rfl (hts (.initialized RX2) (by decide +kernel)) (hts (.methodLink RL 9 yX2_init) (by decide +kernel)) (hts (.instanceMethod yX2_init) (by decide +kernel)) rfl (by decide +kernel) ⟨Nat.le_of_ble_eq_true rfl, Nat.le_of_ble_eq_true rfl⟩) ⟨fun a U g mk q => ⟨q.1, q.2.1, q.2.2.1, va_K.moved (u := U) (U := U.calling g mk a) (Vm.Alike.refl U.vm) q.2.2.2.1, q.2.2.2.2.1, nw2_c q.2.2.2.2.2⟩, fun U hU hW => ⟨rfl, by rw [hU], by rw [hU]; exact hPc, va_K.moved hW.alike hKc, hDc.weaken (fun _ _ _ _ => trivial), nw2_w hW hN2⟩⟩ rfl rfl hl.1 rfl (lv_room (Nat.le_of_ble_eq_true rfl)) dL_law_4 ⟨Nat.le_of_ble_eq_true rfl, Nat.le_of_ble_eq_true rfl⟩) hS (fun q _ h => hFc q h) hFc (fun u t H1 locs ht hvm hw hB hz1 hk1 hS => ?_)
  obtain ⟨h_J_drafted, h_S, h_S_plan, h_S_start, h_S_needs, h_S_turn, h_S_jobFree, h_S_machineFree, h_S_workLeft, h_S_waiting, h_F, h_F_firstOf, h_F_lastOf, h_F_jobOf, h_F_machineOf, h_F_duration, h_F_nextOf, h_F_arcs, h_F_head, h_F_tail, h_F_kept, hP1, -, hD1⟩ := hB
  rw [ht] at hP1
  obtain ⟨hP, hD⟩ := va_join (wr := []) (w1 := (wJ h_J h_J_drafted h_S h_S_plan h_S_start h_S_needs h_S_turn h_S_jobFree h_S_machineFree h_S_workLeft h_S_waiting h_F h_F_firstOf h_F_lastOf h_F_jobOf h_F_machineOf h_F_duration h_F_nextOf h_F_arcs h_F_head h_F_tail h_F_kept cI 0 z0 0 0 0 z0 z0 z0 z0 z0 z0 z0 z0 0 0 z0 z0 z0 z0 z0 z0 z0 z0 z0 z0)) hP hD [0] [] rfl rfl (by decide) (by decide) hk1 hFc hP1 hD1
  generalize H1 = H at hP hS ⊢
  have hP : va_P (dC, dI) vwCl (wJ h_J h_J_drafted h_S h_S_plan h_S_start h_S_needs h_S_turn h_S_jobFree h_S_machineFree h_S_workLeft h_S_waiting h_F h_F_firstOf h_F_lastOf h_F_jobOf h_F_machineOf h_F_duration h_F_nextOf h_F_arcs h_F_head h_F_tail h_F_kept cI 0 z0 0 0 0 z0 z0 z0 z0 z0 z0 z0 z0 0 0 z0 z0 z0 z0 z0 z0 z0 z0 z0 z0) H := hP
  have hD : va_D (fun q : Nat => s.heap.size ≤ q) (wJ h_J h_J_drafted h_S h_S_plan h_S_start h_S_needs h_S_turn h_S_jobFree h_S_machineFree h_S_workLeft h_S_waiting h_F h_F_firstOf h_F_lastOf h_F_jobOf h_F_machineOf h_F_duration h_F_nextOf h_F_arcs h_F_head h_F_tail h_F_kept cI 0 z0 0 0 0 z0 z0 z0 z0 z0 z0 z0 z0 0 0 z0 z0 z0 z0 z0 z0 z0 z0 z0 z0) := hD
  refine W.widen (k := 22) (n := 200) (Nat.le_of_ble_eq_true rfl) (Nat.le_of_ble_eq_true rfl) ?_
  refine lv_astore_n (lv' := [(1, .ref h_J), (0, .ref b)]) (pc := 7) hx hb dL_law_7 rfl hl (by decide) rfl (fun ls hl => ?_)
  refine va_new (ci := 3) (fs := [.int 0, .int 0, .null, .null, .null, .null, .null, .int 0, .null, .int 0, .int 0, .null, .null, .null, .null, .null]) (C := RX3) (T := TX3) (N := 16) (pc := 8) hx hb hts inlX3 tyX3 tyX3_ok hown (hts (.classLink RL 10 RX3) (by decide +kernel)) (hts (.instantiable RX3 16) (by decide +kernel)) (hts (.initialized RX3) (by decide +kernel)) hK hP hD hS hA rfl (fun j hj => by rcases (show j = 0 ∨ j = 1 ∨ j = 2 ∨ j = 3 ∨ j = 4 ∨ j = 5 ∨ j = 6 ∨ j = 7 ∨ j = 8 ∨ j = 9 ∨ j = 10 ∨ j = 11 ∨ j = 12 ∨ j = 13 ∨ j = 14 ∨ j = 15 by omega) with rfl | rfl | rfl | rfl | rfl | rfl | rfl | rfl | rfl | rfl | rfl | rfl | rfl | rfl | rfl | rfl <;> rfl) (Nat.le_of_ble_eq_true rfl) (Nat.le_of_ble_eq_true rfl) dL_law_8 (fun h_M H hP hD hS => ?_)
  have hP : va_P (dC, dI) vwCl ((wJ h_J h_J_drafted h_S h_S_plan h_S_start h_S_needs h_S_turn h_S_jobFree h_S_machineFree h_S_workLeft h_S_waiting h_F h_F_firstOf h_F_lastOf h_F_jobOf h_F_machineOf h_F_duration h_F_nextOf h_F_arcs h_F_head h_F_tail h_F_kept cI 0 z0 0 0 0 z0 z0 z0 z0 z0 z0 z0 z0 0 0 z0 z0 z0 z0 z0 z0 z0 z0 z0 z0) ++ [(h_M, .inr (3, [.int 0, .int 0, .null, .null, .null, .null, .null, .int 0, .null, .int 0, .int 0, .null, .null, .null, .null, .null]))]) H := hP
  have hD : va_D (fun q : Nat => s.heap.size ≤ q) ((wJ h_J h_J_drafted h_S h_S_plan h_S_start h_S_needs h_S_turn h_S_jobFree h_S_machineFree h_S_workLeft h_S_waiting h_F h_F_firstOf h_F_lastOf h_F_jobOf h_F_machineOf h_F_duration h_F_nextOf h_F_arcs h_F_head h_F_tail h_F_kept cI 0 z0 0 0 0 z0 z0 z0 z0 z0 z0 z0 z0 0 0 z0 z0 z0 z0 z0 z0 z0 z0 z0 z0) ++ [(h_M, .inr (3, [.int 0, .int 0, .null, .null, .null, .null, .null, .int 0, .null, .int 0, .int 0, .null, .null, .null, .null, .null]))]) := hD
  refine W.widen (k := 23) (n := 216) (Nat.le_of_ble_eq_true rfl) (Nat.le_of_ble_eq_true rfl) ?_
  refine lv_dup (pc := 11) hx hb dL_law_11 rfl ?_
  have hPc := hP.sub (ws' := [(h_M, .inr (3, [.int 0, .int 0, .null, .null, .null, .null, .null, .int 0, .null, .int 0, .int 0, .null, .null, .null, .null, .null]))]) [22] rfl
  have hDc := hD.sub (ws' := [(h_M, .inr (3, [.int 0, .int 0, .null, .null, .null, .null, .null, .int 0, .null, .int 0, .int 0, .null, .null, .null, .null, .null]))]) [22] (by decide) rfl
  have hKc := hK.sub (tys' := [(cI, .int), (cZ, .boolean)]) [0, 1] rfl
  have hFc := va_free (wc := [(h_M, .inr (3, [.int 0, .int 0, .null, .null, .null, .null, .null, .int 0, .null, .int 0, .int 0, .null, .null, .null, .null, .null]))]) hD hS hA [22] rfl
  refine va_callv (pc := 12) (va_runI (As := []) (rest := [.ref h_M]) ⟨hx, hb, hml, hown, hts⟩ (c_X3_init l dC dI h_M H.size cI cZ) (cwI 0 hts gL_law_X3_init rfl rfl rfl (hts (.initialized RX3) (by decide +kernel)) (hts (.methodLink RL 12 yX3_init) (by decide +kernel)) (hts (.instanceMethod yX3_init) (by decide +kernel)) rfl (by decide +kernel) ⟨Nat.le_of_ble_eq_true rfl, Nat.le_of_ble_eq_true rfl⟩) ⟨kc_blind, fun U hU hW => ⟨rfl, by rw [hU], by rw [hU]; exact hPc, va_K.moved hW.alike hKc, hDc.weaken (fun _ _ _ _ => trivial)⟩⟩ rfl rfl hl.1 rfl (lv_room (Nat.le_of_ble_eq_true rfl)) dL_law_12 ⟨Nat.le_of_ble_eq_true rfl, Nat.le_of_ble_eq_true rfl⟩) hS (fun q _ h => hFc q h) hFc (fun u t H1 locs ht hvm hw hB hz1 hk1 hS => ?_)
  obtain ⟨h_M_jobOf, h_M_machineOf, h_M_durations, h_M_arcs, h_M_drafts, h_M_starts, h_M_heads, h_M_tails, h_M_chosen, h_M_orders, h_M_sizes, hP1, -, hD1⟩ := hB
  rw [ht] at hP1
  obtain ⟨hP, hD⟩ := va_join (wr := (wJ h_J h_J_drafted h_S h_S_plan h_S_start h_S_needs h_S_turn h_S_jobFree h_S_machineFree h_S_workLeft h_S_waiting h_F h_F_firstOf h_F_lastOf h_F_jobOf h_F_machineOf h_F_duration h_F_nextOf h_F_arcs h_F_head h_F_tail h_F_kept cI 0 z0 0 0 0 z0 z0 z0 z0 z0 z0 z0 z0 0 0 z0 z0 z0 z0 z0 z0 z0 z0 z0 z0)) (w1 := (wM h_M h_M_jobOf h_M_machineOf h_M_durations h_M_arcs h_M_drafts h_M_starts h_M_heads h_M_tails h_M_chosen h_M_orders h_M_sizes cI cZ 0 0 0 (-1) 0 z0 z0 z0 z0 z0 z0 z0 z0 z0 z0 z0)) hP hD [22] [0, 1, 2, 3, 4, 5, 6, 7, 8, 9, 10, 11, 12, 13, 14, 15, 16, 17, 18, 19, 20, 21] rfl rfl (by decide) (by decide) hk1 hFc hP1 hD1
  generalize H1 = H at hP hS ⊢
  have hP : va_P (dC, dI) vwCl ((wJ h_J h_J_drafted h_S h_S_plan h_S_start h_S_needs h_S_turn h_S_jobFree h_S_machineFree h_S_workLeft h_S_waiting h_F h_F_firstOf h_F_lastOf h_F_jobOf h_F_machineOf h_F_duration h_F_nextOf h_F_arcs h_F_head h_F_tail h_F_kept cI 0 z0 0 0 0 z0 z0 z0 z0 z0 z0 z0 z0 0 0 z0 z0 z0 z0 z0 z0 z0 z0 z0 z0) ++ (wM h_M h_M_jobOf h_M_machineOf h_M_durations h_M_arcs h_M_drafts h_M_starts h_M_heads h_M_tails h_M_chosen h_M_orders h_M_sizes cI cZ 0 0 0 (-1) 0 z0 z0 z0 z0 z0 z0 z0 z0 z0 z0 z0)) H := hP
  have hD : va_D (fun q : Nat => s.heap.size ≤ q) ((wJ h_J h_J_drafted h_S h_S_plan h_S_start h_S_needs h_S_turn h_S_jobFree h_S_machineFree h_S_workLeft h_S_waiting h_F h_F_firstOf h_F_lastOf h_F_jobOf h_F_machineOf h_F_duration h_F_nextOf h_F_arcs h_F_head h_F_tail h_F_kept cI 0 z0 0 0 0 z0 z0 z0 z0 z0 z0 z0 z0 0 0 z0 z0 z0 z0 z0 z0 z0 z0 z0 z0) ++ (wM h_M h_M_jobOf h_M_machineOf h_M_durations h_M_arcs h_M_drafts h_M_starts h_M_heads h_M_tails h_M_chosen h_M_orders h_M_sizes cI cZ 0 0 0 (-1) 0 z0 z0 z0 z0 z0 z0 z0 z0 z0 z0 z0)) := hD
  refine W.widen (k := 34) (n := 608) (Nat.le_of_ble_eq_true rfl) (Nat.le_of_ble_eq_true rfl) ?_
  refine lv_astore_n (lv' := [(2, .ref h_M), (1, .ref h_J), (0, .ref b)]) (pc := 15) hx hb dL_law_15 rfl hl (by decide) rfl (fun ls hl => ?_)
  refine lv_iconst (v := 0) (pc := 16) hx hb dL_law_16 (by decide) ?_
  refine lv_istore_n (lv' := [(3, .int 0), (2, .ref h_M), (1, .ref h_J), (0, .ref b)]) (pc := 17) hx hb dL_law_17 rfl hl (by decide) rfl (fun ls hl => ?_)
  obtain ⟨hP, hD⟩ := kc_swap hP hD
  exact law_loop C1 hL (L + 1) 0 (by omega) (by omega) 0 0 0 (-1) 0 z0 z0 z0 z0 z0 z0 z0 z0 z0 z0 z0 0 z0 0 0 0 z0 z0 z0 z0 z0 z0 z0 z0 0 0 z0 z0 z0 z0 z0 z0 z0 z0 z0 z0 H _ ls Ia_0 hP hD hS (lv_sub hl [0, 3, 2, 1] rfl)
