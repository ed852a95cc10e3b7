/-! The reference: choose, weigh -/
theorem MT.set {ar : Nat → Nat → Bool} {f : Nat → Int32} (ar' : Nat → Nat → Bool) (h : MT ar f) {a b : Nat} (ha : a < 12) (hb : b < 12) (h1 : ar' a b = true) (h2 : ∀ i k, ¬ (i = a ∧ k = b) → ar' i k = ar i k) : MT ar' (upd f (12 * a + b) (vp_nar .boolean 1)) := by
  intro i k hi hk
  rw [vn1]
  by_cases e : 12 * i + k = 12 * a + b
  · have e1 : i = a := by omega
    have e2 : k = b := by omega
    subst e1; subst e2
    rw [pk_us, h1]; rfl
  · rw [pk_un e, h i k hi hk, h2 i k (fun q => e (by rw [q.1, q.2]))]
/-- the arcs that are chosen so far: machines below m, places below x, and of x those to places below y -/
noncomputable def chQ (n : Nat) (mc P : Nat → Nat) (m x y : Nat) (i k : Nat) : Bool := @decide (∃ m' x' y', m' < 4 ∧ y' < sz n mc m' ∧ x' < y' ∧ (m' < m ∨ (m' = m ∧ (x' < x ∨ (x' = x ∧ y' < y)))) ∧ Oo n mc P m' x' = i ∧ Oo n mc P m' y' = k) (Classical.propDecidable _)
theorem chQ_iff {n m x y i k : Nat} {mc P : Nat → Nat} : chQ n mc P m x y i k = true ↔ ∃ m' x' y', m' < 4 ∧ y' < sz n mc m' ∧ x' < y' ∧ (m' < m ∨ (m' = m ∧ (x' < x ∨ (x' = x ∧ y' < y)))) ∧ Oo n mc P m' x' = i ∧ Oo n mc P m' y' = k := by
  unfold chQ; rw [@decide_eq_true_eq _ (Classical.propDecidable _)]
theorem bool_ext {a b : Bool} (h : a = true ↔ b = true) : a = b := by
  cases a <;> cases b <;> simp at h ⊢
theorem MT.congr {ar ar' : Nat → Nat → Bool} {f : Nat → Int32} (h : MT ar f) (e : ∀ i k, ar i k = ar' i k) : MT ar' f := fun a b ha hb => by rw [h a b ha hb, e]
set_option maxHeartbeats 2000000 in
theorem sp_X3_choose {n nj : Nat} {jb mc d P : Nat → Nat} {ar : Nat → Nat → Bool} {fb fc' fo fs : Nat → Int32} {post : Int32 → (Nat → Int32) → Prop} (S : Shop n nj jb mc d ar) (hM : MT ar fb) (hP : okP n mc P) (hO : OR n mc P fo fs)
    (h1 : ∀ fc2, MT (chP n mc P) fc2 → (∀ i k, ar i k = true → chP n mc P i k = true) → post 1 fc2) (h0 : ∀ fc2, (¬ ∀ i k, ar i k = true → chP n mc P i k = true) → post 0 fc2) : wp_X3_choose fb fc' fo fs post := by
  have hn := S.1
  have har := S.2.2.2.2.2.2.1
  have e144 : (144 : Int32) = nI 144 := rfl
  have e4 : (4 : Int32) = nI 4 := rfl
  unfold wp_X3_choose
  refine ⟨fun x fc => ∃ k, x = nI k ∧ k ≤ 144 ∧ ∀ i, i < k → fc i = 0, fun x _ => 144 - x.toNatClampNeg, ⟨0, rfl, by omega, fun i hi => absurd hi (by omega)⟩, ?_⟩
  rintro _ fc1 ⟨k, rfl, hk, hz⟩
  refine ⟨fun q => ?_, fun q => ?_⟩
  · rw [e144, nI_leI (by omega) (by omega)] at q
    refine ⟨fun x fc => ∃ m, x = nI m ∧ m ≤ 4 ∧ MT (chQ n mc P m 0 0) fc, fun x _ => 4 - x.toNatClampNeg, ⟨0, rfl, by omega, fun a b ha hb => ?_⟩, ?_⟩
    · rw [hz _ (by omega)]
      have : chQ n mc P 0 0 0 a b = false := by
        cases e : chQ n mc P 0 0 0 a b
        · rfl
        · obtain ⟨m', x', y', -, -, -, h, -⟩ := chQ_iff.mp e
          omega
      rw [this]; rfl
    · rintro _ fc2 ⟨m, rfl, hm, hC⟩
      refine ⟨fun q2 => ?_, fun q2 => ?_⟩
      · rw [e4, nI_leI (by omega) (by omega)] at q2
        have hC2 : MT (chP n mc P) fc2 := hC.congr (fun i k => bool_ext (by
          rw [chQ_iff, chP_iff]
          constructor
          · rintro ⟨m', x', y', c1, c2, c3, -, c5, c6⟩
            exact ⟨m', x', y', c1, c2, c3, c5, c6⟩
          · rintro ⟨m', x', y', c1, c2, c3, c5, c6⟩
            exact ⟨m', x', y', c1, c2, c3, Or.inl (by omega), c5, c6⟩))
        refine ⟨fun x => ∃ c, x = nI c ∧ c ≤ 144 ∧ ∀ a b, a < 12 → b < 12 → 12 * a + b < c → ar a b = true → chP n mc P a b = true, fun x => 144 - x.toNatClampNeg, ⟨0, rfl, by omega, fun a b _ _ h => absurd h (by omega)⟩, ?_⟩
        rintro _ ⟨c, rfl, hc, hsub⟩
        refine ⟨fun q3 => h1 fc2 hC2 (fun i k h => ?_), fun q3 => ?_⟩
        · rw [e144, nI_leI (by omega) (by omega)] at q3
          have := har i k h
          exact hsub i k (by omega) (by omega) (by omega) h
        · rw [e144, nI_leI (by omega) (by omega)] at q3
          have hin : vp_in (nI c) 144 := pz_inc (by omega) (by omega)
          have ec : c = 12 * (c / 12) + c % 12 := (Nat.div_add_mod c 12).symm
          have l1 : c / 12 < 12 := by omega
          have l2 : c % 12 < 12 := Nat.mod_lt _ (by decide)
          have step : (ar (c / 12) (c % 12) = true → chP n mc P (c / 12) (c % 12) = true) → (∃ c', nI c + 1 = nI c' ∧ c' ≤ 144 ∧ ∀ a b, a < 12 → b < 12 → 12 * a + b < c' → ar a b = true → chP n mc P a b = true) ∧ 144 - (nI c + 1).toNatClampNeg < 144 - (nI c).toNatClampNeg := by
            intro hs
            refine ⟨⟨c + 1, nI_1 c, by omega, fun a b ha hb hab h => ?_⟩, pz_mu (by omega) (by omega)⟩
            by_cases e : 12 * a + b = c
            · have e1 : a = c / 12 := by omega
              have e2 : b = c % 12 := by omega
              rw [e1, e2] at h ⊢
              exact hs h
            · exact hsub a b ha hb (by omega) h
          rw [nI_clamp (by omega)]
          have v1 : fb c = if ar (c / 12) (c % 12) then 1 else 0 := by
            rw [show fb c = fb (12 * (c / 12) + c % 12) from by rw [← ec]]
            exact hM _ _ l1 l2
          have v2 : fc2 c = if chP n mc P (c / 12) (c % 12) then 1 else 0 := by
            rw [show fc2 c = fc2 (12 * (c / 12) + c % 12) from by rw [← ec]]
            exact hC2 _ _ l1 l2
          rw [v1, v2]
          refine ⟨hin, fun q4 => step (fun h => ?_), fun q4 => ⟨hin, fun q5 => step (fun _ => ?_), fun q5 => h0 fc2 (fun hall => ?_)⟩⟩
          · rw [h] at q4; exact absurd q4 (by decide)
          · cases e : chP n mc P (c / 12) (c % 12)
            · rw [e] at q5; exact absurd rfl q5
            · rfl
          · have h : ar (c / 12) (c % 12) = true := by
              cases e : ar (c / 12) (c % 12)
              · rw [e] at q4; exact absurd rfl q4
              · rfl
            rw [hall _ _ h] at q5
            exact absurd q5 (by decide)
      · rw [e4, nI_leI (by omega) (by omega)] at q2
        have hm2 : m < 4 := by omega
        obtain ⟨o1, o2⟩ := hO m hm2
        have hs := sz_bd (m := m) S
        have him : vp_in (nI m) 4 := pz_inc (by omega) (by omega)
        refine ⟨fun x fc => ∃ a, x = nI a ∧ a ≤ sz n mc m ∧ MT (chQ n mc P m a 0) fc, fun x _ => 4 - x.toNatClampNeg, ⟨0, rfl, by omega, hC⟩, ?_⟩
        rintro _ fc3 ⟨a, rfl, ha, hC3⟩
        rw [nI_clamp (n := m) (by omega), o1]
        refine ⟨him, fun q3 => ?_, fun q3 => ?_⟩
        · rw [nI_leI (by omega) (by omega)] at q3
          refine ⟨⟨m + 1, nI_1 m, by omega, hC3.congr (fun i k => bool_ext ?_)⟩, pz_mu hm2 (by omega)⟩
          rw [chQ_iff, chQ_iff]
          constructor
          · rintro ⟨m', x', y', c1, c2, c3, c4, c5, c6⟩
            exact ⟨m', x', y', c1, c2, c3, by omega, c5, c6⟩
          · rintro ⟨m', x', y', c1, c2, c3, c4, c5, c6⟩
            refine ⟨m', x', y', c1, c2, c3, ?_, c5, c6⟩
            by_cases e : m' = m
            · subst e; omega
            · omega
        · rw [nI_leI (by omega) (by omega)] at q3
          have ha2 : a < sz n mc m := by omega
          refine ⟨fun y fc => ∃ b, y = nI b ∧ a < b ∧ b ≤ sz n mc m ∧ MT (chQ n mc P m a b) fc, fun y _ => 4 - y.toNatClampNeg, ⟨a + 1, nI_1 a, by omega, by omega, hC3.congr (fun i k => bool_ext ?_)⟩, ?_⟩
          · rw [chQ_iff, chQ_iff]
            constructor
            · rintro ⟨m', x', y', c1, c2, c3, c4, c5, c6⟩
              exact ⟨m', x', y', c1, c2, c3, by omega, c5, c6⟩
            · rintro ⟨m', x', y', c1, c2, c3, c4, c5, c6⟩
              exact ⟨m', x', y', c1, c2, c3, by omega, c5, c6⟩
          · rintro _ fc4 ⟨b, rfl, hab, hb, hC4⟩
            refine ⟨him, fun q4 => ?_, fun q4 => ?_⟩
            · rw [nI_leI (by omega) (by omega)] at q4
              refine ⟨⟨a + 1, nI_1 a, by omega, hC4.congr (fun i k => bool_ext ?_)⟩, pz_mu (by omega) (by omega)⟩
              rw [chQ_iff, chQ_iff]
              constructor
              · rintro ⟨m', x', y', c1, c2, c3, c4, c5, c6⟩
                exact ⟨m', x', y', c1, c2, c3, by omega, c5, c6⟩
              · rintro ⟨m', x', y', c1, c2, c3, c4, c5, c6⟩
                refine ⟨m', x', y', c1, c2, c3, ?_, c5, c6⟩
                by_cases e : m' = m
                · subst e; omega
                · omega
            · rw [nI_leI (by omega) (by omega)] at q4
              have hb2 : b < sz n mc m := by omega
              have sa := Oo_spec S hP hm2 ha2
              have sb := Oo_spec S hP hm2 hb2
              rw [pz_i4, pz_i4, nI_clamp (n := 4 * m + a) (by omega), nI_clamp (n := 4 * m + b) (by omega), o2 a ha2, o2 b hb2, pz_ix, nI_clamp (n := 12 * _ + _) (by omega)]
              refine ⟨pz_inc (by omega) (by omega), pz_inc (by omega) (by omega), pz_inc (by omega) (by omega), ⟨b + 1, nI_1 b, by omega, by omega, hC4.set _ (by omega) (by omega) (chQ_iff.mpr ⟨m, a, b, hm2, hb2, hab, by omega, rfl, rfl⟩) (fun i k hne => bool_ext ?_)⟩, pz_mu (by omega) (by omega)⟩
              rw [chQ_iff, chQ_iff]
              constructor
              · rintro ⟨m', x', y', c1, c2, c3, c4, c5, c6⟩
                refine ⟨m', x', y', c1, c2, c3, ?_, c5, c6⟩
                by_cases e : m' = m ∧ x' = a ∧ y' = b
                · obtain ⟨rfl, rfl, rfl⟩ := e
                  exact absurd ⟨c5.symm, c6.symm⟩ hne
                · omega
              · rintro ⟨m', x', y', c1, c2, c3, c4, c5, c6⟩
                exact ⟨m', x', y', c1, c2, c3, by omega, c5, c6⟩
  · rw [e144, nI_leI (by omega) (by omega)] at q
    rw [nI_clamp (by omega)]
    refine ⟨pz_inc (by omega) (by omega), ⟨k + 1, nI_1 k, by omega, fun i hi => ?_⟩, pz_mu (by omega) (by omega)⟩
    by_cases e : i = k
    · subst e; rw [pk_us]; rfl
    · rw [pk_un e]; exact hz i (by omega)
theorem sp_X3_isEarlier {n : Nat} {s p : Nat → Nat} {fp fs : Nat → Int32} {post : Int32 → Prop} (hn : n ≤ 12) (hs : Tb n fs s) (hp : Tb n fp p) (hb : ∀ i, i < n → s i ≤ 1000 ∧ p i ≤ 1000) (h1 : Lx n s p → post 1) (h0 : ¬ Lx n s p → post 0) : wp_X3_isEarlier (nI n) fp fs post := sp_X1_isEarlier hn hs hp hb h1 h0
/-- the reference's findings: nothing yet, or as Rs says -/
def Am (n : Nat) (d : Nat → Nat) (L : List (Nat → Nat)) (xp xl xc : Int32) (fst : Nat → Int32) : Prop := (L = [] ∧ xp = 0) ∨ (xp = 1 ∧ ∃ l c p, xl = nI l ∧ xc = nI c ∧ Tb n fst p ∧ l ≤ 600 ∧ Rs n d L l c p)
set_option maxHeartbeats 1000000 in
theorem sp_X3_weigh {n : Nat} {d h : Nat → Nat} {L : List (Nat → Nat)} {xp xl xc : Int32} {fd fst fh : Nat → Int32} {post : Int32 → Int32 → Int32 → (Nat → Int32) → Prop} (hn : n ≤ 12) (hd : Tb n fd d) (hh : Tb n fh h) (hb : ∀ i, i < n → h i + d i ≤ 600) (hA : Am n d L xp xl xc fst)
    (hp : ∀ xp' xl' xc' fst', Am n d (L ++ [h]) xp' xl' xc' fst' → post xp' xl' xc' fst') : wp_X3_weigh (nI n) xp xl xc fd fst fh post := by
  unfold wp_X3_weigh
  refine ⟨fun x y => ∃ k, y = nI k ∧ k ≤ n ∧ x = nI (mx (fun i => h i + d i) k), fun _ y => n - y.toNatClampNeg, ⟨0, rfl, by omega, rfl⟩, ?_⟩
  rintro _ _ ⟨k, rfl, hk, rfl⟩
  have hm : mx (fun i => h i + d i) k ≤ 600 := mx_le k (fun i hi => hb i (by omega))
  refine ⟨fun q => ?_, fun q => ?_⟩
  · rw [nI_leI (by omega) (by omega)] at q
    have e : k = n := by omega
    subst e
    have hm2 : mx (fun i => h i + d i) k = spn k d h := rfl
    rw [hm2] at hm ⊢
    -- the row is copied
    have copy : ∀ (y63 y111 : Int32), (∀ f', Tb k f' h → (y63 = 0 → post 1 xl y111 f') ∧ (¬ y63 = 0 → post 1 (nI (spn k d h)) y111 f')) → (∃ (I_132 : Int32 → (Nat → Int32) → Prop) (μ_132 : Int32 → (Nat → Int32) → Nat), I_132 0 fst ∧ ∀ (x4_132 : Int32) (M_starts_132 : Nat → Int32), I_132 x4_132 M_starts_132 → ((nI k ≤ x4_132 → (y63 = 0 → post 1 xl y111 M_starts_132) ∧ (¬ y63 = 0 → post 1 (nI (spn k d h)) y111 M_starts_132)) ∧ (¬ nI k ≤ x4_132 → vp_in x4_132 12 ∧ (vp_in x4_132 12 ∧ (I_132 (x4_132 + 1) (upd M_starts_132 x4_132.toNatClampNeg (fh x4_132.toNatClampNeg)) ∧ μ_132 (x4_132 + 1) (upd M_starts_132 x4_132.toNatClampNeg (fh x4_132.toNatClampNeg)) < μ_132 x4_132 M_starts_132))))) := by
      intro y63 y111 hf
      refine ⟨fun x f' => ∃ i, x = nI i ∧ i ≤ k ∧ Tb i f' h, fun x _ => k - x.toNatClampNeg, ⟨0, rfl, by omega, fun i hi => absurd hi (by omega)⟩, ?_⟩
      rintro _ f' ⟨i, rfl, hi, ht⟩
      refine ⟨fun q2 => ?_, fun q2 => ?_⟩
      · rw [nI_leI (by omega) (by omega)] at q2
        have e : i = k := by omega
        subst e; exact hf f' ht
      · rw [nI_leI (by omega) (by omega)] at q2
        have hi2 : i < k := by omega
        have hin : vp_in (nI i) 12 := pz_inc (by omega) (by omega)
        rw [nI_clamp (by omega)]
        refine ⟨hin, hin, ⟨i + 1, nI_1 i, by omega, fun b hb2 => ?_⟩, pz_mu hi2 (by omega)⟩
        by_cases e : b = i
        · subst e; rw [pk_us]; exact hh b (by omega)
        · rw [pk_un e]; exact ht b (by omega)
    rcases hA with ⟨eL, e0⟩ | ⟨e1, l, c, p, exl, exc, htp, hl, hR⟩
    · -- the first one
      have hfirst : ∀ f', Tb k f' h → Am k d (L ++ [h]) 1 (nI (spn k d h)) 1 f' := fun f' ht => Or.inr ⟨rfl, spn k d h, 1, h, rfl, rfl, ht, hm, Rs.better (fun t ht => by rw [eL] at ht; cases ht)⟩
      refine ⟨fun y => y = 1, ?_, fun _ => rfl, fun q2 => absurd e0 q2⟩
      rintro _ rfl
      refine ⟨fun y => y = 0, ?_, fun _ => rfl, fun q2 => absurd e0 q2⟩
      rintro _ rfl
      refine ⟨fun y => y = 1, ?_, fun q2 => absurd q2 (by decide), fun _ => rfl⟩
      rintro _ rfl
      refine ⟨True, fun _ => copy 1 1 (fun f' ht => ⟨fun q2 => absurd q2 (by decide), fun _ => hp _ _ _ _ (hfirst f' ht)⟩), fun _ => trivial, fun q2 => absurd q2 (by decide)⟩
    · subst exl; subst exc
      have n0 : ¬ xp = 0 := by rw [e1]; decide
      rcases Nat.lt_trichotomy (spn k d h) l with q2 | q2 | q2
      · -- better
        have hbet : ∀ f', Tb k f' h → Am k d (L ++ [h]) 1 (nI (spn k d h)) 1 f' := fun f' ht => Or.inr ⟨rfl, spn k d h, 1, h, rfl, rfl, ht, hm, Rs.better (fun t ht => by have := hR.1 t ht; omega)⟩
        refine ⟨fun y => y = 1, ?_, fun q3 => absurd q3 n0, fun _ => ⟨fun q3 => ?_, fun _ => rfl⟩⟩
        · rintro _ rfl
          refine ⟨fun y => y = 0, ?_, fun q3 => absurd q3 n0, fun _ => ⟨fun _ => rfl, fun q3 => ?_⟩⟩
          · rintro _ rfl
            refine ⟨fun y => y = 1, ?_, fun q3 => absurd q3 (by decide), fun _ => rfl⟩
            rintro _ rfl
            refine ⟨True, fun _ => copy 1 1 (fun f' ht => ⟨fun q3 => absurd q3 (by decide), fun _ => hp _ _ _ _ (hbet f' ht)⟩), fun _ => trivial, fun q3 => absurd q3 (by decide)⟩
          · rw [nI_eq (by omega) (by omega)] at q3; omega
        · rw [nI_leI (by omega) (by omega)] at q3; omega
      · -- as good
        have pb : ∀ i, i < k → p i ≤ 600 := fun i hi => by
          have h1 : p i + d i ≤ spn k d p := mx_ge (f := fun i => p i + d i) k i hi
          have := hR.2.2.2.1
          omega
        have hsame : ∀ q f', Tb k f' q → ((Lx k h p ∧ ∀ i, i < k → q i = h i) ∨ (¬ Lx k h p ∧ ∀ i, i < k → q i = p i)) → Am k d (L ++ [h]) 1 (nI l) (nI c + 1) f' := fun q f' ht hq => Or.inr ⟨rfl, l, c + 1, q, rfl, nI_1 c, ht, hl, hR.same q2 hq⟩
        refine ⟨fun y => y = 0, ?_, fun q3 => absurd q3 n0, fun _ => ⟨fun _ => rfl, fun q3 => absurd ((nI_leI (by omega) (by omega)).mpr (by omega)) q3⟩⟩
        rintro _ rfl
        refine ⟨fun y => y = 1, ?_, fun q3 => absurd q3 n0, fun _ => ⟨fun q3 => absurd (by rw [q2]) q3, fun _ => rfl⟩⟩
        rintro _ rfl
        refine ⟨fun y => y = nI c + 1, ?_, fun _ => ⟨fun q3 => absurd q3 (by decide), fun _ => rfl⟩, fun q3 => absurd rfl q3⟩
        rintro _ rfl
        refine ⟨Lx k h p, fun hx => copy 0 (nI c + 1) (fun f' ht => ⟨fun _ => hp _ _ _ _ (hsame h f' ht (Or.inl ⟨hx, fun _ _ => rfl⟩)), fun q3 => absurd rfl q3⟩), fun q3 => absurd rfl q3, fun _ => ⟨fun q3 => absurd q3 (by decide), fun _ => ?_⟩⟩
        refine sp_X3_isEarlier hn hh htp (fun i hi => by have := hb i hi; have := pb i hi; omega) (fun hx => ⟨fun q3 => absurd q3 (by decide), fun _ => hx⟩) (fun hx => ⟨fun _ => ⟨fun _ => hp _ _ _ _ (hsame p fst htp (Or.inr ⟨hx, fun _ _ => rfl⟩)), fun q3 => absurd rfl q3⟩, fun q3 => absurd rfl q3⟩)
      · -- worse
        have hwor : Am k d (L ++ [h]) 1 (nI l) (nI c) fst := Or.inr ⟨rfl, l, c, p, rfl, rfl, htp, hl, hR.worse q2⟩
        refine ⟨fun y => y = 0, ?_, fun q3 => absurd q3 n0, fun _ => ⟨fun _ => rfl, fun q3 => absurd ((nI_leI (by omega) (by omega)).mpr (by omega)) q3⟩⟩
        rintro _ rfl
        refine ⟨fun y => y = 0, ?_, fun q3 => absurd q3 n0, fun _ => ⟨fun _ => rfl, fun q3 => ?_⟩⟩
        · rintro _ rfl
          refine ⟨fun y => y = nI c, ?_, fun _ => ⟨fun _ => rfl, fun q3 => absurd rfl q3⟩, fun q3 => absurd rfl q3⟩
          rintro _ rfl
          refine ⟨False, fun f => f.elim, fun q3 => absurd rfl q3, fun _ => ⟨fun _ => ⟨fun _ => hp _ _ _ _ hwor, fun q3 => absurd rfl q3⟩, fun q3 => absurd rfl q3⟩⟩
        · rw [nI_eq (by omega) (by omega)] at q3; omega
  · rw [nI_leI (by omega) (by omega)] at q
    have hk2 : k < n := by omega
    have b1 := hb k hk2
    have hin : vp_in (nI k) 12 := pz_inc (by omega) (by omega)
    rw [hh.get hk2 (by omega), hd.get hk2 (by omega), nI_add]
    refine ⟨hin, hin, fun q2 => ⟨⟨k + 1, nI_1 k, by omega, ?_⟩, pz_mu hk2 (by omega)⟩, fun q2 => ⟨⟨k + 1, nI_1 k, by omega, ?_⟩, pz_mu hk2 (by omega)⟩⟩
    · rw [nI_leI (by omega) (by omega)] at q2
      show _ = nI (max (mx _ k) _)
      rw [Nat.max_eq_left q2]
    · rw [nI_leI (by omega) (by omega)] at q2
      show _ = nI (max (mx _ k) _)
      rw [Nat.max_eq_right (by dsimp only; omega)]
