/-! The reference's select -/
theorem vn0 : vp_nar .boolean 0 = 0 := rfl
theorem vn1 : vp_nar .boolean 1 = 1 := rfl
theorem vn {x : Int32} (h : x = 0 ∨ x = 1) : vp_nar .boolean x = x := by
  rcases h with rfl | rfl <;> rfl
theorem MT.val {ar : Nat → Nat → Bool} {f : Nat → Int32} (h : MT ar f) {k : Nat} (hk : k < 144) : f k = 0 ∨ f k = 1 := by
  have e : k = 12 * (k / 12) + k % 12 := (Nat.div_add_mod k 12).symm
  rw [e, h (k / 12) (k % 12) (by omega) (Nat.mod_lt _ (by decide))]
  cases ar (k / 12) (k % 12)
  · exact Or.inl rfl
  · exact Or.inr rfl
theorem MT.of {ar : Nat → Nat → Bool} {f g : Nat → Int32} (h : MT ar f) (e : ∀ k, k < 144 → g k = f k) : MT ar g := fun a b ha hb => by
  rw [e _ (by omega)]; exact h a b ha hb
theorem MT.put {ar : Nat → Nat → Bool} {f : Nat → Int32} (h : MT ar f) {a b : Nat} (ha : a < 12) (hb : b < 12) : MT (Up ar a b) (upd f (12 * a + b) (vp_nar .boolean 1)) := by
  intro i k hi hk
  rw [vn1]
  by_cases e : 12 * i + k = 12 * a + b
  · have e1 : i = a := by omega
    have e2 : k = b := by omega
    subst e1; subst e2
    rw [pk_us]; unfold Up; simp
  · rw [pk_un e, h i k hi hk]
    unfold Up
    have : ¬ (i = a ∧ k = b) := fun q => e (by rw [q.1, q.2])
    by_cases e1 : i = a
    · have e2 : ¬ k = b := fun q => this ⟨e1, q⟩
      simp [e2]
    · simp [e1]
set_option maxHeartbeats 4000000 in
theorem sp_X3_select {n nj : Nat} {jb mc d : Nat → Nat} {ar0 : Nat → Nat → Bool} {below pl : Int32} {fj fm fd fb fh ft fc : Nat → Int32} {post : Int32 → Int32 → (Nat → Int32) → (Nat → Int32) → (Nat → Int32) → (Nat → Int32) → Prop} (S0 : Shop n nj jb mc d ar0) (hj : Tb n fj jb) (hm : Tb n fm mc) (hd : Tb n fd d) (hM : MT ar0 fb)
    (h1 : ∀ F fb' fh' ft' fc', GS n nj jb mc d below ar0 F → (∀ G, GS n nj jb mc d below ar0 G → ∀ i k, F i k = true → G i k = true) → MT F fb' → post (nI (nar F n - nar ar0 n)) (if nar F n - nar ar0 n = 0 then pl else 0) fb' fh' ft' fc')
    (h0 : ∀ fh' ft' fc', (¬ ∃ G, GS n nj jb mc d below ar0 G) → post (-5) pl fb fh' ft' fc') :
    wp_X3_select (nI n) pl fj fm fd fb fh ft fc below post := by
  have hn := S0.1
  have hmb := S0.2.2.2.1
  have hjb : ∀ i, i < n → jb i < 4 := fun i hi => by have := S0.2.2.1 i hi; have := S0.2.1; omega
  have e144 : (144 : Int32) = nI 144 := rfl
  unfold wp_X3_select
  refine ⟨fun x fc => ∃ k, x = nI k ∧ k ≤ 144 ∧ ∀ i, i < k → fc i = fb i, fun x _ => 144 - x.toNatClampNeg, ⟨0, rfl, by omega, fun i hi => absurd hi (by omega)⟩, ?_⟩
  rintro _ fc ⟨k, rfl, hk, hcp⟩
  refine ⟨fun q => ?_, fun q => ?_⟩
  · rw [e144, nI_leI (by omega) (by omega)] at q
    have hC0 : MT ar0 fc := hM.of (fun i hi => hcp i (by omega))
    refine ⟨fun x2 x3 fh ft fc => ∃ ar, MT ar fc ∧ Shop n nj jb mc d ar ∧ (∀ i k, ar0 i k = true → ar i k = true) ∧ (∀ G, GS n nj jb mc d below ar0 G → ∀ i k, ar i k = true → G i k = true) ∧ x2 = nI (nar ar n - nar ar0 n) ∧ (x3 = 0 ∨ x3 = 1) ∧ (x3 = 0 → (∃ hs ts, IsH n (Ed n jb ar) d hs ∧ IsH n (Rv (Ed n jb ar)) d ts ∧ Tb n fh hs ∧ Tb n ft ts) ∧ ∀ a, a < n → Nf n jb mc d below ar a n), fun x2 x3 _ _ _ => if x3 = 0 then 0 else 200 - x2.toNatClampNeg, ⟨ar0, hC0, S0, fun _ _ h => h, fun G hG => hG.1, by rw [Nat.sub_self]; rfl, Or.inr rfl, fun e => absurd e (by decide)⟩, ?_⟩
    rintro _ x3 fh ft fc ⟨ar, hC, S, hsub, hle, rfl, ho, hend⟩
    have nb := nar_bd2 S
    refine ⟨fun q2 => ?_, fun q2 => ?_⟩
    · obtain ⟨⟨hs, ts, hh, ht, hth, htt⟩, hN⟩ := hend q2
      refine sp_X3_longest hn hd hth htt (fun i hi => by have := S.bd hh ht hi; omega) ⟨fun q3 => ?_, fun q3 => h0 _ _ _ ?_⟩
      · have hgood : GS n nj jb mc d below ar0 ar := FSt.good S hsub hh ht hN (fun e => e q3)
        refine ⟨fun x fb' => ∃ k, x = nI k ∧ k ≤ 144 ∧ ∀ i, i < k → fb' i = fc i, fun x _ => 144 - x.toNatClampNeg, ⟨0, rfl, by omega, fun i hi => absurd hi (by omega)⟩, ?_⟩
        rintro _ fb' ⟨k2, rfl, hk2, hcp2⟩
        refine ⟨fun q4 => ?_, fun q4 => ?_⟩
        · rw [e144, nI_leI (by omega) (by omega)] at q4
          have hB : MT ar fb' := hC.of (fun i hi => hcp2 i (by omega))
          have h3 := h1 ar fb' fh ft fc hgood hle hB
          refine ⟨fun q5 => ?_, fun q5 => ?_⟩
          · rw [pz_0, nI_leI (by omega) (by omega)] at q5
            rw [if_pos (by omega)] at h3; exact h3
          · rw [pz_0, nI_leI (by omega) (by omega)] at q5
            rw [if_neg (by omega)] at h3
            unfold wp_X3_forget; exact h3
        · rw [e144, nI_leI (by omega) (by omega)] at q4
          have hin : vp_in (nI k2) 144 := pz_inc (by omega) (by omega)
          rw [nI_clamp (by omega)]
          refine ⟨hin, hin, ⟨k2 + 1, nI_1 k2, by omega, fun i hi => ?_⟩, pz_mu (by omega) (by omega)⟩
          by_cases e : i = k2
          · subst e; rw [pk_us, vn (hC.val (by omega))]
          · rw [pk_un e]; exact hcp2 i (by omega)
      · rintro ⟨G, hG⟩
        exact hG.len S (hle G hG) hh ht q3
    · obtain ⟨hs, ts, hh, ht⟩ := S.heads
      refine sp_X3_look S hj hd hC hh ht (fun fh2 ft2 hth htt => ?_)
      -- the scan: made, more, a, chosen
      have outI : ∀ (x2 x3 : Int32) (fc' : Nat → Int32), ((x3 = 0 ∧ MT ar fc' ∧ x2 = nI (nar ar n - nar ar0 n) ∧ ∀ a, a < n → Nf n jb mc d below ar a n) ∨ (x3 = 1 ∧ ∃ ar2, MT ar2 fc' ∧ Shop n nj jb mc d ar2 ∧ (∀ i k, ar0 i k = true → ar2 i k = true) ∧ (∀ G, GS n nj jb mc d below ar0 G → ∀ i k, ar2 i k = true → G i k = true) ∧ x2 = nI (nar ar2 n - nar ar0 n) ∧ nar ar2 n = nar ar n + 1)) →
          (∃ ar, MT ar fc' ∧ Shop n nj jb mc d ar ∧ (∀ i k, ar0 i k = true → ar i k = true) ∧ (∀ G, GS n nj jb mc d below ar0 G → ∀ i k, ar i k = true → G i k = true) ∧ x2 = nI (nar ar n - nar ar0 n) ∧ (x3 = 0 ∨ x3 = 1) ∧ (x3 = 0 → (∃ hs ts, IsH n (Ed n jb ar) d hs ∧ IsH n (Rv (Ed n jb ar)) d ts ∧ Tb n fh2 hs ∧ Tb n ft2 ts) ∧ ∀ a, a < n → Nf n jb mc d below ar a n)) ∧ (if x3 = 0 then 0 else 200 - x2.toNatClampNeg) < (if x3 = 0 ∧ False then 0 else 200 - (nI (nar ar n - nar ar0 n)).toNatClampNeg) := by
        intro x2 x3 fc' hx
        rw [if_neg (fun e : x3 = 0 ∧ False => e.2), nI_clamp (by omega)]
        rcases hx with ⟨rfl, k1, rfl, k2⟩ | ⟨rfl, ar2, k1, k2, k3, k4, rfl, k5⟩
        · refine ⟨⟨ar, k1, S, hsub, hle, rfl, Or.inl rfl, fun _ => ⟨⟨hs, ts, hh, ht, hth, htt⟩, k2⟩⟩, ?_⟩
          rw [if_pos rfl]; omega
        · refine ⟨⟨ar2, k1, k2, k3, k4, rfl, Or.inr rfl, fun e => absurd e (by decide)⟩, ?_⟩
          have nb2 := nar_bd2 k2
          have m0 := nar_mono (n := n) hsub
          rw [if_neg (by decide), nI_clamp (by omega)]; omega
      have mu0 : (if x3 = 0 then 0 else 200 - (nI (nar ar n - nar ar0 n)).toNatClampNeg) = 200 - (nI (nar ar n - nar ar0 n)).toNatClampNeg := if_neg q2
      refine ⟨fun x2 x3 x4 fc' => ∃ a, x4 = nI a ∧ a ≤ n ∧ ((x3 = 0 ∧ MT ar fc' ∧ x2 = nI (nar ar n - nar ar0 n) ∧ ∀ a', a' < a → Nf n jb mc d below ar a' n) ∨ (x3 = 1 ∧ ∃ ar2, MT ar2 fc' ∧ Shop n nj jb mc d ar2 ∧ (∀ i k, ar0 i k = true → ar2 i k = true) ∧ (∀ G, GS n nj jb mc d below ar0 G → ∀ i k, ar2 i k = true → G i k = true) ∧ x2 = nI (nar ar2 n - nar ar0 n) ∧ nar ar2 n = nar ar n + 1)), fun _ _ x4 _ => n - x4.toNatClampNeg, ⟨0, rfl, by omega, Or.inl ⟨rfl, hC, rfl, fun a' h => absurd h (by omega)⟩⟩, ?_⟩
      rintro x2 x3' _ fc' ⟨a, rfl, ha, hst⟩
      refine ⟨fun q4 => ?_, fun q4 => ⟨fun q5 => ?_, fun q5 => ?_⟩⟩
      · rw [nI_leI (by omega) (by omega)] at q4
        have e : a = n := by omega
        subst e
        have h3 := outI x2 x3' fc' hst
        rw [if_neg (fun e : x3' = 0 ∧ False => e.2)] at h3
        exact ⟨h3.1, by show _ < (if x3 = 0 then 0 else _); rw [mu0]; exact h3.2⟩
      · have h3 := outI x2 x3' fc' (Or.inr (hst.resolve_left (fun e => q5 e.1)))
        rw [if_neg (fun e : x3' = 0 ∧ False => e.2)] at h3
        exact ⟨h3.1, by show _ < (if x3 = 0 then 0 else _); rw [mu0]; exact h3.2⟩
      · rw [nI_leI (by omega) (by omega)] at q4
        have ha2 : a < n := by omega
        have hst0 := hst.resolve_right (fun e => by rw [e.1] at q5; exact absurd q5 (by decide))
        obtain ⟨e3, hC', rfl, hN⟩ := hst0
        subst e3
        refine ⟨fun x2 x3 x5 fc' => ∃ b, x5 = nI b ∧ b ≤ n ∧ ((x3 = 0 ∧ MT ar fc' ∧ x2 = nI (nar ar n - nar ar0 n) ∧ Nf n jb mc d below ar a b) ∨ (x3 = 1 ∧ ∃ ar2, MT ar2 fc' ∧ Shop n nj jb mc d ar2 ∧ (∀ i k, ar0 i k = true → ar2 i k = true) ∧ (∀ G, GS n nj jb mc d below ar0 G → ∀ i k, ar2 i k = true → G i k = true) ∧ x2 = nI (nar ar2 n - nar ar0 n) ∧ nar ar2 n = nar ar n + 1)), fun _ _ x5 _ => n - x5.toNatClampNeg, ⟨0, rfl, by omega, Or.inl ⟨rfl, hC', rfl, fun _ _ _ _ b hb => absurd hb (by omega)⟩⟩, ?_⟩
        rintro x2' x3' _ fc'' ⟨b, rfl, hb, hst2⟩
        refine ⟨fun q6 => ?_, fun q6 => ⟨fun q7 => ?_, fun q7 => ?_⟩⟩
        · rw [nI_leI (by omega) (by omega)] at q6
          have e : b = n := by omega
          subst e
          refine ⟨⟨a + 1, nI_1 a, by omega, ?_⟩, pz_mu ha2 (by omega)⟩
          rcases hst2 with ⟨k1, k2, k3, k4⟩ | k
          · refine Or.inl ⟨k1, k2, k3, fun a' ha' => ?_⟩
            by_cases e : a' = a
            · subst e; exact k4
            · exact hN a' (by omega)
          · exact Or.inr k
        · exact ⟨⟨a + 1, nI_1 a, by omega, Or.inr (hst2.resolve_left (fun e => q7 e.1))⟩, pz_mu ha2 (by omega)⟩
        · rw [nI_leI (by omega) (by omega)] at q6
          have hb2 : b < n := by omega
          have hst3 := hst2.resolve_right (fun e => by rw [e.1] at q7; exact absurd q7 (by decide))
          obtain ⟨e3, hC2, rfl, hN2⟩ := hst3
          subst e3
          have skip : ¬ (a ≠ b ∧ mc a = mc b ∧ ar a b = false ∧ ar b a = false ∧ Ge (hs b + d b + d a + ts a) below) → (∃ b', nI b + 1 = nI b' ∧ b' ≤ n ∧ (((0 : Int32) = 0 ∧ MT ar fc'' ∧ nI (nar ar n - nar ar0 n) = nI (nar ar n - nar ar0 n) ∧ Nf n jb mc d below ar a b') ∨ ((0 : Int32) = 1 ∧ ∃ ar2, MT ar2 fc'' ∧ Shop n nj jb mc d ar2 ∧ (∀ i k, ar0 i k = true → ar2 i k = true) ∧ (∀ G, GS n nj jb mc d below ar0 G → ∀ i k, ar2 i k = true → G i k = true) ∧ nI (nar ar n - nar ar0 n) = nI (nar ar2 n - nar ar0 n) ∧ nar ar2 n = nar ar n + 1))) ∧ n - (nI b + 1).toNatClampNeg < n - (nI b).toNatClampNeg := by
            intro hno
            refine ⟨⟨b + 1, nI_1 b, by omega, Or.inl ⟨rfl, hC2, rfl, fun hs' ts' hh' ht' b' hb1 hb2' hne hmc e1 e2 hf => ?_⟩⟩, pz_mu hb2 (by omega)⟩
            by_cases e3 : b' = b
            · subst e3
              have u1 := hh'.uniq (fun i hi => (S.2.2.2.2.1 i hi).1) hh b' hb2'
              have u2 := ht'.uniq (fun i hi => (S.2.2.2.2.1 i hi).1) ht a ha2
              rw [u1, u2] at hf
              exact hno ⟨hne, hmc, e1, e2, hf⟩
            · exact hN2 hs' ts' hh' ht' b' (by omega) hb2' hne hmc e1 e2 hf
          refine sp_X3_isPair hn hm hmb (fun hp => ⟨fun e => absurd e (by decide), fun _ => ?_⟩) (fun hp => ⟨fun _ => skip (fun q2 => hp ⟨a, b, ha2, hb2, rfl, rfl, q2.1, q2.2.1⟩), fun e => absurd rfl e⟩)
          obtain ⟨a', b', ha', hb', e1, e2, hne, hmc⟩ := hp
          rw [nI_eq (by omega) (by omega)] at e1 e2
          subst e1; subst e2
          rw [pz_ix, pz_ix, nI_clamp (n := 12 * a + b) (by omega), nI_clamp (n := 12 * b + a) (by omega), hC2 a b (by omega) (by omega), hC2 b a (by omega) (by omega)]
          have i1 : vp_in (nI (12 * a + b)) 144 := pz_inc (by omega) (by omega)
          have i2 : vp_in (nI (12 * b + a)) 144 := pz_inc (by omega) (by omega)
          refine ⟨i1, fun q8 => skip (fun q9 => ?_), fun q8 => ⟨i2, fun q9 => skip (fun q10 => ?_), fun q9 => ?_⟩⟩
          · rw [q9.2.2.1] at q8; exact q8 rfl
          · rw [q10.2.2.2.1] at q9; exact q9 rfl
          · have t1 : ar a b = false := by
              cases e : ar a b
              · rfl
              · rw [e] at q8; exact absurd q8 (by decide)
            have t2 : ar b a = false := by
              cases e : ar b a
              · rfl
              · rw [e] at q9; exact absurd q9 (by decide)
            refine sp_X3_isForced hn hd hth htt ha2 hb2 (fun hf => ⟨fun e => absurd e (by decide), fun _ => ?_⟩) (fun hf => ⟨fun _ => skip (fun q3 => hf q3.2.2.2.2), fun e => absurd rfl e⟩)
            refine sp_X3_isForced hn hd hth htt hb2 ha2 (fun hf2 => ⟨fun _ => h0 _ _ _ ?_, fun e => absurd e (by decide)⟩) (fun hf2 => ⟨fun e => absurd rfl e, fun _ => ?_⟩)
            · rintro ⟨G, hG⟩
              exact hG.anti (hG.step S (hle G hG) hh ht ha2 hb2 hne hmc hf) (hG.step S (hle G hG) hh ht hb2 ha2 (fun e => hne e.symm) hmc.symm hf2)
            refine sp_X3_hasPath hn hj hjb hC2 hb2 ha2 (fun e => hne e.symm) (fun hr => ⟨fun e => absurd e (by decide), fun _ => h0 _ _ _ ?_⟩) (fun hr => ⟨fun _ => ⟨i1, ⟨b + 1, nI_1 b, by omega, Or.inr ⟨rfl, Up ar a b, hC2.put (by omega) (by omega), S.up ha2 hb2 hne hmc hr, fun i k h => ?_, fun G hG i k h => ?_, ?_, ?_⟩⟩, pz_mu hb2 (by omega)⟩, fun e => absurd rfl e⟩)
            · rintro ⟨G, hG⟩
              exact hG.path (hle G hG) ha2 hb2 (hG.step S (hle G hG) hh ht ha2 hb2 hne hmc hf) hr
            · unfold Up; rw [hsub i k h]; rfl
            · unfold Up at h
              simp only [Bool.or_eq_true, Bool.and_eq_true, decide_eq_true_eq] at h
              rcases h with h | ⟨rfl, rfl⟩
              · exact hle G hG i k h
              · exact hG.step S (hle G hG) hh ht ha2 hb2 hne hmc hf
            · have h2 := nar_up (n := n) t1 ha2 (show b < 12 by omega)
              have m0 := nar_mono (n := n) hsub
              rw [nI_1, h2]; congr 1; omega
            · exact nar_up (n := n) t1 ha2 (show b < 12 by omega)
  · rw [e144, nI_leI (by omega) (by omega)] at q
    have hin : vp_in (nI k) 144 := pz_inc (by omega) (by omega)
    rw [nI_clamp (by omega)]
    refine ⟨hin, hin, ⟨k + 1, nI_1 k, by omega, fun i hi => ?_⟩, pz_mu (by omega) (by omega)⟩
    by_cases e : i = k
    · subst e; rw [pk_us, vn (hM.val (by omega))]
    · rw [pk_un e]; exact hcp i (by omega)
