/-! The reference: layFirst, nextOrder -/
theorem pz_i4 (m j : Nat) : (4 : Int32) * nI m + nI j = nI (4 * m + j) := by
  rw [show (4 : Int32) = nI 4 from rfl, pk_mul, nI_add]
/-- the rows of the orders -/
def OR (n : Nat) (mc P : Nat → Nat) (fo fs : Nat → Int32) : Prop := ∀ m, m < 4 → fs m = nI (sz n mc m) ∧ ∀ j, j < sz n mc m → fo (4 * m + j) = nI (Oo n mc P m j)
theorem sp_X3_layFirst {n nj m : Nat} {jb mc d : Nat → Nat} {ar : Nat → Nat → Bool} {fm fo fs : Nat → Int32} {post : (Nat → Int32) → (Nat → Int32) → Prop} (S : Shop n nj jb mc d ar) (hm : Tb n fm mc) (hm4 : m < 4)
    (hp : ∀ fo' fs', fs' m = nI (sz n mc m) → (∀ a, a ≠ m → fs' a = fs a) → (∀ j, j < sz n mc m → fo' (4 * m + j) = nI (op n mc m j)) → (∀ k, k < 4 * m ∨ 4 * m + 4 ≤ k → fo' k = fo k) → post fo' fs') : wp_X3_layFirst (nI n) fm fo fs (nI m) post := by
  have hn := S.1
  have hmb := S.2.2.2.1
  have hsz := sz_bd (m := m) S
  unfold wp_X3_layFirst
  have him : vp_in (nI m) 4 := pz_inc (by omega) (by omega)
  rw [nI_clamp (n := m) (by omega)]
  refine ⟨him, fun x fo' fs' => ∃ i, x = nI i ∧ i ≤ n ∧ fs' m = nI (cn (fun x => decide (mc x = m)) i) ∧ (∀ a, a ≠ m → fs' a = fs a) ∧ (∀ j, j < cn (fun x => decide (mc x = m)) i → fo' (4 * m + j) = nI (op n mc m j)) ∧ (∀ k, k < 4 * m ∨ 4 * m + 4 ≤ k → fo' k = fo k), fun x _ _ => n - x.toNatClampNeg, ⟨0, rfl, by omega, by rw [pk_us]; rfl, fun a ha => pk_un ha, fun j hj => absurd hj (by simp [cn]), fun _ _ => rfl⟩, ?_⟩
  rintro _ fo' fs' ⟨i, rfl, hi, g1, g2, g3, g4⟩
  refine ⟨fun q => ?_, fun q => ?_⟩
  · rw [nI_leI (by omega) (by omega)] at q
    have e : i = n := by omega
    subst e
    exact hp fo' fs' g1 g2 g3 g4
  · rw [nI_leI (by omega) (by omega)] at q
    have hi2 : i < n := by omega
    have b1 := hmb i hi2
    rw [hm.get hi2 (by omega)]
    refine ⟨pz_inc (by omega) (by omega), fun q2 => ⟨⟨i + 1, nI_1 i, by omega, ?_, g2, ?_, g4⟩, pz_mu hi2 (by omega)⟩, fun q2 => ⟨him, ?_⟩⟩
    · have : ¬ mc i = m := fun e => q2 (by rw [e])
      rw [g1]; show _ = nI (cn _ i + _)
      simp [this]
    · have : ¬ mc i = m := fun e => q2 (by rw [e])
      have e2 : cn (fun x => decide (mc x = m)) (i + 1) = cn (fun x => decide (mc x = m)) i := by
        show cn _ i + _ = _
        simp [this]
      rw [e2]; exact g3
    · rw [nI_eq (by omega) (by omega)] at q2
      have h1 := pos_lt (mc := mc) hi2
      rw [q2] at h1
      rw [g1, pz_i4, nI_clamp (n := 4 * m + _) (by omega)]
      refine ⟨pz_inc (by omega) (by omega), him, him, ⟨i + 1, nI_1 i, by omega, ?_, fun a ha => by rw [pk_un ha]; exact g2 a ha, fun j hj => ?_, fun k hk => ?_⟩, pz_mu hi2 (by omega)⟩
      · rw [pk_us, cn_s (by simp [q2]), nI_1]
      · rw [cn_s (by simp [q2])] at hj
        by_cases e : j = cn (fun x => decide (mc x = m)) i
        · subst e; rw [pk_us, op_of hi2 q2]
        · rw [pk_un (by omega)]; exact g3 j (by omega)
      · rw [pk_un (by omega)]; exact g4 k hk
theorem OR.first {n m : Nat} {mc P : Nat → Nat} {fo fs fo' fs' : Nat → Int32} (hsz : ∀ m, sz n mc m < 5) (h : OR n mc P fo fs) (h1 : fs' m = nI (sz n mc m)) (h2 : ∀ a, a ≠ m → fs' a = fs a) (h3 : ∀ j, j < sz n mc m → fo' (4 * m + j) = nI (op n mc m j)) (h4 : ∀ k, k < 4 * m ∨ 4 * m + 4 ≤ k → fo' k = fo k) : OR n mc (fun a => if a = m then 0 else P a) fo' fs' := by
  intro a ha
  have hs := hsz a
  by_cases e : a = m
  · subst e
    refine ⟨h1, fun j hj => ?_⟩
    rw [h3 j hj]
    unfold Oo
    dsimp only
    rw [if_pos rfl, pm_id _ hs j hj]
  · refine ⟨by rw [h2 a e]; exact (h a ha).1, fun j hj => ?_⟩
    rw [h4 _ (by omega), (h a ha).2 j hj]
    unfold Oo
    dsimp only
    rw [if_neg e]
set_option maxHeartbeats 4000000 in
theorem sp_X3_nextOrder {n nj m : Nat} {jb mc d P : Nat → Nat} {ar : Nat → Nat → Bool} {fm fo fs : Nat → Int32} {post : Int32 → (Nat → Int32) → (Nat → Int32) → Prop} (S : Shop n nj jb mc d ar) (hm : Tb n fm mc) (hm4 : m < 4) (hP : okP n mc P) (hO : OR n mc P fo fs)
    (h1 : P m + 1 < fc (sz n mc m) → ∀ fo', OR n mc (fun a => if a = m then P m + 1 else P a) fo' fs → post 1 fo' fs)
    (h0 : P m + 1 = fc (sz n mc m) → ∀ fo' fs', OR n mc (fun a => if a = m then 0 else P a) fo' fs' → post 0 fo' fs') : wp_X3_nextOrder (nI n) fm fo fs (nI m) post := by
  have hn := S.1
  have hs := sz_bd (m := m) S
  have hp := hP m hm4
  obtain ⟨o1, o2⟩ := hO m hm4
  generalize hk : sz n mc m = k at *
  generalize hpm : P m = p at *
  have him : vp_in (nI m) 4 := pz_inc (by omega) (by omega)
  -- values at places
  have ov : ∀ x, x < k → Oo n mc P m x < 12 := fun x hx => by
    have := (Oo_spec S hP hm4 (show x < sz n mc m by rw [hk]; exact hx)).1
    omega
  have ole : ∀ x y, x < k → y < k → (Oo n mc P m x ≤ Oo n mc P m y ↔ pm k p x ≤ pm k p y) := fun x y hx hy => by
    unfold Oo
    rw [hk, hpm]
    exact op_lti (by rw [hk]; exact pm_lt k hs p hp x hx) (by rw [hk]; exact pm_lt k hs p hp y hy)
  unfold wp_X3_nextOrder
  rw [nI_clamp (n := m) (by omega), o1]
  refine ⟨him, fun x => (∃ a, x = nI a ∧ a + 2 ≤ k ∧ ∀ b, b < 4 → a < b → b + 1 < k → pm k p (b + 1) < pm k p b) ∨ (x < 0 ∧ ∀ b, b < 4 → b + 1 < k → pm k p (b + 1) < pm k p b), fun x => if x < 0 then 0 else x.toNatClampNeg + 1, ?_, ?_⟩
  · rw [show (2 : Int32) = nI 2 from rfl]
    rcases Nat.lt_or_ge k 2 with q | q
    · exact Or.inr ⟨pk_sneg (by omega) q, fun b _ hb => absurd hb (by omega)⟩
    · exact Or.inl ⟨k - 2, pk_sub q, by omega, fun b _ h1 h2 => absurd h1 (by omega)⟩
  · intro x hx
    refine ⟨(x < 0 ∧ ∀ b, b < 4 → b + 1 < k → pm k p (b + 1) < pm k p b) ∨ (∃ a, x = nI a ∧ a + 2 ≤ k ∧ (∀ b, b < 4 → a < b → b + 1 < k → pm k p (b + 1) < pm k p b) ∧ pm k p a < pm k p (a + 1)), ?_, ?_⟩
    · rintro (⟨q, hall⟩ | ⟨a, rfl, ha, hdesc, hup⟩)
      · refine ⟨fun q2 => absurd q2 ?_, fun _ => sp_X3_layFirst S hm hm4 (fun fo' fs' k1 k2 k3 k4 => h0 (pm_last k hs p hp hall) fo' fs' (OR.first (fun a => sz_bd S) hO k1 k2 k3 k4))⟩
        rw [Int32.le_iff_toInt_le]
        rw [Int32.lt_iff_toInt_lt] at q
        omega
      · refine ⟨fun _ => ⟨him, ?_⟩, fun q => absurd (nI_pos' (by omega)) q⟩
        rw [show nI k - (1 : Int32) = nI (k - 1) from pk_sub (show 1 ≤ k by omega)]
        refine ⟨fun y => ∃ j, y = nI j ∧ a < j ∧ j < k ∧ ∀ b, b < k → j < b → pm k p b < pm k p a, fun y => y.toNatClampNeg, ⟨k - 1, rfl, by omega, by omega, fun b hb1 hb2 => absurd hb1 (by omega)⟩, ?_⟩
        rintro _ ⟨j, rfl, hj1, hj2, hj3⟩
        have ia : vp_in (nI (4 * m + a)) 16 := pz_inc (by omega) (by omega)
        have ij : vp_in (nI (4 * m + j)) 16 := pz_inc (by omega) (by omega)
        have va := ov a (by omega)
        have vj := ov j (by omega)
        rw [pz_i4, pz_i4, nI_clamp (n := 4 * m + a) (by omega), nI_clamp (n := 4 * m + j) (by omega), o2 a (by omega), o2 j (by omega)]
        refine ⟨ij, ia, fun q => ⟨ia, ij, ia, ij, him, ?_⟩, fun q => ?_⟩
        · rw [nI_leI (by omega) (by omega), ole a j (by omega) (by omega)] at q
          have hne : pm k p a ≠ pm k p j := fun e => by
            have := pm_inj k hs p hp a (by omega) j (by omega) e
            omega
          obtain ⟨n1, n2⟩ := pm_next k hs p hp a (by omega) ha hdesc hup j hj2 hj1 (by omega) hj3
          have hw1 : ∀ b, b < k → w1 k p a j b < k := fun b hb => by
            unfold w1
            split
            · exact pm_lt k hs p hp a (by omega)
            · split
              · exact pm_lt k hs p hp j (by omega)
              · exact pm_lt k hs p hp b hb
          -- the rows while the rest is turned
          refine ⟨fun lo hi fo' => ∃ t, lo = nI (a + 1 + t) ∧ hi = nI (k - 1 - t) ∧ 2 * t + a + 1 ≤ k ∧ (∀ b, b < k → fo' (4 * m + b) = nI (op n mc m (if a < b ∧ (b < a + 1 + t ∨ k - 1 - t < b) then w1 k p a j (a + k - b) else w1 k p a j b))) ∧ (∀ c, c < 4 * m ∨ 4 * m + 4 ≤ c → fo' c = fo c), fun lo hi _ => hi.toNatClampNeg - lo.toNatClampNeg, ⟨0, nI_1 a, rfl, by omega, fun b hb => ?_, fun c hc => ?_⟩, ?_⟩
          · rw [if_neg (by omega)]
            by_cases e1 : b = j
            · subst e1; rw [pk_us]; unfold w1; rw [if_pos rfl]; unfold Oo; rw [hk, hpm]
            · rw [pk_un (by omega)]
              by_cases e2 : b = a
              · subst e2; rw [pk_us]; unfold w1; rw [if_neg e1, if_pos rfl]; unfold Oo; rw [hk, hpm]
              · rw [pk_un (by omega), o2 b hb]; unfold w1; rw [if_neg e1, if_neg e2]; unfold Oo; rw [hk, hpm]
          · rw [pk_un (by omega), pk_un (by omega)]
          · rintro _ _ fo' ⟨t, rfl, rfl, ht, g1, g2⟩
            refine ⟨fun q2 => h1 n1 fo' (fun c hc => ?_), fun q2 => ?_⟩
            · rw [nI_leI (by omega) (by omega)] at q2
              by_cases e : c = m
              · subst e
                refine ⟨by rw [hk]; exact o1, fun b hb => ?_⟩
                rw [hk] at hb
                rw [g1 b hb]
                unfold Oo
                dsimp only
                rw [if_pos rfl, hk, n2 b hb]
                by_cases q3 : a < b
                · rw [if_pos q3]
                  by_cases q4 : b < a + 1 + t ∨ k - 1 - t < b
                  · rw [if_pos ⟨q3, q4⟩]
                  · rw [if_neg (fun x => q4 x.2), show a + k - b = b by omega]
                · rw [if_neg q3, if_neg (fun x => q3 x.1)]
              · refine ⟨(hO c hc).1, fun b hb => ?_⟩
                have hs2 := sz_bd (m := c) S
                rw [g2 _ (by omega), (hO c hc).2 b hb]
                unfold Oo; dsimp only; rw [if_neg e]
            · rw [nI_leI (by omega) (by omega)] at q2
              have il : vp_in (nI (4 * m + (a + 1 + t))) 16 := pz_inc (by omega) (by omega)
              have ih : vp_in (nI (4 * m + (k - 1 - t))) 16 := pz_inc (by omega) (by omega)
              rw [pz_i4, pz_i4, nI_clamp (n := 4 * m + (a + 1 + t)) (by omega), nI_clamp (n := 4 * m + (k - 1 - t)) (by omega)]
              refine ⟨il, ih, il, ih, ⟨t + 1, nI_1 _, ?_, by omega, fun b hb => ?_, fun c hc => ?_⟩, ?_⟩
              · rw [sb_m1 (by omega)]; congr 1
              · by_cases e1 : b = k - 1 - t
                · subst e1
                  rw [pk_us, g1 (a + 1 + t) (by omega), if_neg (by omega), if_pos (by omega), show a + k - (k - 1 - t) = a + 1 + t by omega]
                · rw [pk_un (by omega)]
                  by_cases e2 : b = a + 1 + t
                  · subst e2
                    rw [pk_us, g1 (k - 1 - t) (by omega), if_neg (by omega), if_pos (by omega), show a + k - (a + 1 + t) = k - 1 - t by omega]
                  · rw [pk_un (by omega), g1 b hb]
                    by_cases q3 : a < b ∧ (b < a + 1 + t ∨ k - 1 - t < b)
                    · rw [if_pos q3, if_pos (by omega)]
                    · rw [if_neg q3, if_neg (by omega)]
              · rw [pk_un (by omega), pk_un (by omega)]; exact g2 c hc
              · show (nI (k - 1 - t) + (-1)).toNatClampNeg - (nI (a + 1 + t) + 1).toNatClampNeg < (nI (k - 1 - t)).toNatClampNeg - (nI (a + 1 + t)).toNatClampNeg
                rw [sb_m1 (by omega), nI_1, nI_clamp (by omega), nI_clamp (by omega), nI_clamp (by omega), nI_clamp (by omega)]
                omega
        · rw [nI_leI (by omega) (by omega), ole a j (by omega) (by omega)] at q
          have hja : j ≠ a + 1 := fun e => by rw [e] at q; omega
          rw [sb_m1 (by omega)]
          refine ⟨⟨j - 1, rfl, by omega, by omega, fun b hb1 hb2 => ?_⟩, by
            show (nI (j - 1)).toNatClampNeg < (nI j).toNatClampNeg
            rw [nI_clamp (by omega), nI_clamp (by omega)]; omega⟩
          by_cases e : b = j
          · subst e; omega
          · exact hj3 b hb1 (by omega)
    · refine ⟨fun q => Or.inl ?_, fun q => ?_⟩
      · rcases hx with ⟨a, e, ha, hdesc⟩ | hx
        · rw [e] at q; exact absurd q (nI_pos (by omega))
        · exact hx
      · obtain ⟨a, rfl, ha, hdesc⟩ := hx.resolve_right (fun e => q e.1)
        have ia : vp_in (nI (4 * m + a)) 16 := pz_inc (by omega) (by omega)
        have ia1 : vp_in (nI (4 * m + a + 1)) 16 := pz_inc (by omega) (by omega)
        have va := ov a (by omega)
        have va1 := ov (a + 1) (by omega)
        rw [pz_i4, nI_1, nI_clamp (n := 4 * m + a) (by omega), nI_clamp (n := 4 * m + a + 1) (by omega), o2 a (by omega), show 4 * m + a + 1 = 4 * m + (a + 1) by omega, o2 (a + 1) (by omega)]
        refine ⟨ia, by rw [show 4 * m + (a + 1) = 4 * m + a + 1 by omega]; exact ia1, fun q2 => Or.inr ⟨a, rfl, ha, hdesc, ?_⟩, fun q2 => ?_⟩
        · rw [nI_leI (by omega) (by omega), ole a (a + 1) (by omega) (by omega)] at q2
          have hne : pm k p a ≠ pm k p (a + 1) := fun e => by
            have := pm_inj k hs p hp a (by omega) (a + 1) (by omega) e
            omega
          omega
        · rw [nI_leI (by omega) (by omega), ole a (a + 1) (by omega) (by omega)] at q2
          have hd2 : ∀ b, b < 4 → a ≤ b → b + 1 < k → pm k p (b + 1) < pm k p b := fun b hb1 hb2 hb3 => by
            by_cases e : b = a
            · subst e; omega
            · exact hdesc b hb1 (by omega) hb3
          show ((∃ a', nI a + (-1) = nI a' ∧ a' + 2 ≤ k ∧ ∀ b, b < 4 → a' < b → b + 1 < k → pm k p (b + 1) < pm k p b) ∨ (nI a + (-1) < 0 ∧ ∀ b, b < 4 → b + 1 < k → pm k p (b + 1) < pm k p b)) ∧ (if nI a + (-1) < 0 then 0 else (nI a + (-1)).toNatClampNeg + 1) < (if nI a < 0 then 0 else (nI a).toNatClampNeg + 1)
          rw [if_neg (nI_pos (n := a) (by omega)), nI_clamp (n := a) (by omega)]
          rcases Nat.eq_zero_or_pos a with e | e
          · subst e
            have e0 : nI 0 + (-1) < 0 := by decide
            exact ⟨Or.inr ⟨e0, fun b hb1 hb2 => hd2 b hb1 (by omega) hb2⟩, by rw [if_pos e0]; omega⟩
          · rw [sb_m1 e]
            refine ⟨Or.inl ⟨a - 1, rfl, by omega, fun b hb1 hb2 hb3 => hd2 b hb1 (by omega) hb3⟩, ?_⟩
            rw [if_neg (nI_pos (by omega)), nI_clamp (by omega)]; omega
