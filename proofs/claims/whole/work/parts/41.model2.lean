/-! The reference: tails, length, paths -/
def SwT (n : Nat) (E : Nat → Nat → Prop) (d ts t0 : Nat → Nat) (i j : Nat) (g : Int32) (t : Nat → Nat) : Prop :=
  (∀ b, b < n → t0 b ≤ t b ∧ t b ≤ ts b) ∧ (∀ a b, (a < i ∨ (a = i ∧ b < j)) → a < n → b < n → E a b → t0 b + d b ≤ t a) ∧ (g = 0 ∨ g = 1) ∧ (g = 0 → ∀ b, b < n → t b = t0 b) ∧ (¬ g = 0 → ∃ b, b < n ∧ t0 b < t b)
set_option maxHeartbeats 2000000 in
theorem sp_X3_findTails {n : Nat} {jb d : Nat → Nat} {ar : Nat → Nat → Bool} {fj fd ft fb : Nat → Int32} {post : (Nat → Int32) → Prop} (hn : n ≤ 12) (hj : Tb n fj jb) (hjb : ∀ i, i < n → jb i < 4) (hd : Tb n fd d) (hdb : ∀ i, i < n → 1 ≤ d i ∧ d i ≤ 50) (hM : MT ar fb) (hE : ∀ a, ¬ Ed n jb ar a a)
    {ts : Nat → Nat} (hts : IsH n (Rv (Ed n jb ar)) d ts) (hp : ∀ ft', Tb n ft' ts → post ft') : wp_X3_findTails (nI n) fj fd ft fb post := by
  have tb : ∀ b, b < n → ts b ≤ 600 := fun b hb => by have := hts.bd hn hdb hb; omega
  unfold wp_X3_findTails
  refine ⟨fun x fh => ∃ k, x = nI k ∧ k ≤ n ∧ (∀ i, i < k → fh i = nI 0), fun x _ => n - x.toNatClampNeg, ⟨0, rfl, by omega, fun i hi => absurd hi (by omega)⟩, ?_⟩
  rintro _ ft ⟨k, rfl, hk, hz⟩
  refine ⟨fun q => ?_, fun q => ?_⟩
  · rw [nI_leI (by omega) (by omega)] at q
    have e : k = n := by omega
    subst e
    refine ⟨fun g ft => ∃ t, Tb k ft t ∧ (g = 0 ∨ g = 1) ∧ (∀ b, b < k → t b ≤ ts b) ∧ (g = 0 → Pot k (Rv (Ed k jb ar)) d t), fun g ft => if g = 0 then 0 else 1 + sm (fun b => ts b - (ft b).toNatClampNeg) k, ⟨fun _ => 0, fun i hi => hz i hi, Or.inr rfl, fun _ _ => Nat.zero_le _, fun e => absurd e (by decide)⟩, ?_⟩
    rintro g ft ⟨t, htt, hg, ht, hfix⟩
    refine ⟨fun q2 => ?_, fun q2 => ?_⟩
    · exact hp ft (htt.congr (fun b hb => Nat.le_antisymm (ht b hb) (hts.le (fun i hi => (hdb i hi).1) (hfix q2) b hb)))
    · refine ⟨fun g x ft => ∃ i t', x = nI i ∧ i ≤ k ∧ Tb k ft t' ∧ SwT k (Ed k jb ar) d ts t i 0 g t', fun _ x _ => k - x.toNatClampNeg, ⟨0, t, rfl, by omega, htt, fun b hb => ⟨Nat.le_refl _, ht b hb⟩, fun a b hab => absurd hab (by omega), Or.inl rfl, fun _ _ _ => rfl, fun q => absurd rfl q⟩, ?_⟩
      rintro g' _ ft' ⟨i, t', rfl, hi0, htt', hsw⟩
      refine ⟨fun q3 => ?_, fun q3 => ?_⟩
      · rw [nI_leI (by omega) (by omega)] at q3
        have e : i = k := by omega
        subst e
        obtain ⟨s1, s2, s3, s4, s5⟩ := hsw
        refine ⟨⟨t', htt', s3, fun b hb => (s1 b hb).2, fun e a b ha hb he => ?_⟩, ?_⟩
        · have := s2 b a (Or.inl hb) hb ha he
          rw [s4 e a ha]; exact this
        · show (if g' = 0 then 0 else 1 + sm (fun b => ts b - (ft' b).toNatClampNeg) i) < (if g = 0 then 0 else 1 + sm (fun b => ts b - (ft b).toNatClampNeg) i)
          rw [if_neg q2]
          by_cases e : g' = 0
          · rw [if_pos e]; omega
          · rw [if_neg e]
            have h2 : sm (fun b => ts b - (ft' b).toNatClampNeg) i < sm (fun b => ts b - (ft b).toNatClampNeg) i := by
              have cl : ∀ b, b < i → (ft b).toNatClampNeg = t b ∧ (ft' b).toNatClampNeg = t' b := fun b hb => by
                have h3 := tb b hb
                have h4 := ht b hb
                have h5 := s1 b hb
                rw [htt b hb, htt' b hb, nI_clamp (by omega), nI_clamp (by omega)]
                exact ⟨rfl, rfl⟩
              refine sm_lt i (fun b hb => ?_) ?_
              · have := cl b hb; have := s1 b hb
                omega
              · obtain ⟨b, hb, hlt⟩ := s5 e
                refine ⟨b, hb, ?_⟩
                have := cl b hb; have := s1 b hb
                omega
            omega
      · rw [nI_leI (by omega) (by omega)] at q3
        have hi : i < k := by omega
        refine ⟨fun g y ft => ∃ j t', y = nI j ∧ j ≤ k ∧ Tb k ft t' ∧ SwT k (Ed k jb ar) d ts t i j g t', fun _ y _ => k - y.toNatClampNeg, ⟨0, t', rfl, by omega, htt', hsw⟩, ?_⟩
        rintro g2 _ ft2 ⟨j, t2, rfl, hj2, htt2, s1, s2, s3, s4, s5⟩
        refine ⟨fun q4 => ?_, fun q4 => ?_⟩
        · rw [nI_leI (by omega) (by omega)] at q4
          have e : j = k := by omega
          subst e
          exact ⟨⟨i + 1, t2, nI_1 i, by omega, htt2, s1, fun a b hab ha hb he => s2 a b (by omega) ha hb he, s3, s4, s5⟩, pz_mu hi (by omega)⟩
        · rw [nI_leI (by omega) (by omega)] at q4
          have hj3 : j < k := by omega
          have ii : vp_in (nI i) 12 := pz_inc (by omega) (by omega)
          have ij : vp_in (nI j) 12 := pz_inc (by omega) (by omega)
          have d1 := (hdb j hj3).2
          have b1 := s1 i hi
          have b2 := s1 j hj3
          have b3 := tb i hi
          have b4 := tb j hj3
          refine ⟨ij, ij, sp_X3_leads hn hj hjb hM hi hj3 (fun he => ⟨fun q2 => absurd q2 (by decide), fun _ => ⟨ii, ?_⟩⟩) (fun he => ⟨fun _ => ⟨⟨j + 1, t2, nI_1 j, by omega, htt2, s1, fun a b hab ha hb hab2 => ?_, s3, s4, s5⟩, pz_mu hj3 (by omega)⟩, fun q2 => absurd rfl q2⟩)⟩
          · rw [htt2.get hi (by omega), hd.get hj3 (by omega), htt2.get hj3 (by omega), nI_add]
            refine ⟨fun q5 => ⟨⟨j + 1, t2, nI_1 j, by omega, htt2, s1, fun a b hab ha hb hab2 => ?_, s3, s4, s5⟩, pz_mu hj3 (by omega)⟩, fun q5 => ⟨ii, ?_⟩⟩
            · rw [nI_leI (by omega) (by omega)] at q5
              by_cases e : a = i ∧ b = j
              · obtain ⟨rfl, rfl⟩ := e
                omega
              · exact s2 a b (by omega) ha hb hab2
            · rw [nI_leI (by omega) (by omega)] at q5
              rw [nI_clamp (n := i) (by omega)]
              have hpt := hts.1 j i hj3 hi he
              refine ⟨⟨j + 1, fun b => if b = i then t2 j + d j else t2 b, nI_1 j, by omega, htt2.st i (t2 j + d j), fun b hb => ?_, fun a b hab ha hb hab2 => ?_, Or.inr rfl, fun q6 => absurd q6 (by decide), fun _ => ⟨i, hi, ?_⟩⟩, pz_mu hj3 (by omega)⟩
              · by_cases e : b = i
                · subst e; simp only [if_true]; omega
                · simp only [if_neg e]; exact s1 b hb
              · by_cases e : a = i
                · subst e; simp only [if_true]
                  by_cases e2 : b = j
                  · subst e2; omega
                  · have := s2 a b (by omega) ha hb hab2
                    omega
                · simp only [if_neg e]; exact s2 a b (by omega) ha hb hab2
              · simp only [if_true]; omega
          · by_cases e : a = i ∧ b = j
            · obtain ⟨rfl, rfl⟩ := e
              exact absurd hab2 he
            · exact s2 a b (by omega) ha hb hab2
  · rw [nI_leI (by omega) (by omega)] at q
    refine ⟨pz_inc (by omega) (by omega), ⟨k + 1, nI_1 k, by omega, fun i hi => ?_⟩, pz_mu (by omega) (by omega)⟩
    rw [nI_clamp (by omega)]
    by_cases e : i = k
    · subst e; rw [pk_us]; rfl
    · rw [pk_un e]; exact hz i (by omega)
/-- a look at the arcs of a shop: its heads and tails -/
theorem sp_X3_look {n nj : Nat} {jb mc d hs ts : Nat → Nat} {ar : Nat → Nat → Bool} {fj fd fh ft fb : Nat → Int32} {post : (Nat → Int32) → (Nat → Int32) → Prop} (S : Shop n nj jb mc d ar) (hj : Tb n fj jb) (hd : Tb n fd d) (hM : MT ar fb) (hh : IsH n (Ed n jb ar) d hs) (ht : IsH n (Rv (Ed n jb ar)) d ts) (hp : ∀ fh' ft', Tb n fh' hs → Tb n ft' ts → post fh' ft') : wp_X3_look (nI n) fj fd fh ft fb post := by
  have S0 := S
  obtain ⟨h1, h2, h3, h4, h5, h6, h7, h8⟩ := S
  have hjb : ∀ i, i < n → jb i < 4 := fun i hi => by have := h3 i hi; omega
  have hE : ∀ a, ¬ Ed n jb ar a a := fun a he => (S0.ed he).2.2 rfl
  unfold wp_X3_look
  refine sp_X3_findHeads h1 hj hjb hd h5 hM hE (fun fh' hs' hh' hth => ⟨fun q => absurd q (by decide), fun _ => ?_⟩) (fun fh' hno => absurd h8 hno)
  exact sp_X3_findTails h1 hj hjb hd h5 hM hE ht (fun ft' htt => hp fh' ft' (hth.congr (fun b hb => hh'.uniq (fun i hi => (h5 i hi).1) hh b hb)) htt)
theorem sp_X3_longest {n : Nat} {d h t : Nat → Nat} {fd fh ft : Nat → Int32} {post : Int32 → Prop} (hn : n ≤ 12) (hd : Tb n fd d) (hth : Tb n fh h) (htt : Tb n ft t) (hb : ∀ i, i < n → h i + d i + t i ≤ 10000) (hp : post (nI (mx (fun i => h i + d i + t i) n))) : wp_X3_longest (nI n) fd fh ft post := by
  unfold wp_X3_longest
  refine ⟨fun x y => ∃ k, y = nI k ∧ k ≤ n ∧ x = nI (mx (fun i => h i + d i + t i) k), fun _ y => n - y.toNatClampNeg, ⟨0, rfl, by omega, rfl⟩, ?_⟩
  rintro _ _ ⟨k, rfl, hk, rfl⟩
  have hm : mx (fun i => h i + d i + t i) k ≤ 10000 := mx_le k (fun i hi => hb i (by omega))
  refine ⟨fun q => ?_, fun q => ?_⟩
  · rw [nI_leI (by omega) (by omega)] at q
    have e : k = n := by omega
    subst e; exact hp
  · rw [nI_leI (by omega) (by omega)] at q
    have hk2 : k < n := by omega
    have h2 := hb k hk2
    have hin : vp_in (nI k) 12 := pz_inc (by omega) (by omega)
    rw [hd.get hk2 (by omega), hth.get hk2 (by omega), htt.get hk2 (by omega), nI_add, nI_add]
    refine ⟨hin, hin, hin, fun q2 => ⟨⟨k + 1, nI_1 k, by omega, ?_⟩, pz_mu hk2 (by omega)⟩, fun q2 => ⟨⟨k + 1, nI_1 k, by omega, ?_⟩, pz_mu hk2 (by omega)⟩⟩
    · rw [nI_leI (by omega) (by omega)] at q2
      show _ = nI (max (mx _ k) _)
      rw [Nat.max_eq_left q2]
    · rw [nI_leI (by omega) (by omega)] at q2
      show _ = nI (max (mx _ k) _)
      rw [Nat.max_eq_right (by dsimp only; omega)]
theorem sp_X3_isForced {n a b : Nat} {d h t : Nat → Nat} {fd fh ft : Nat → Int32} {below : Int32} {post : Int32 → Prop} (hn : n ≤ 12) (hd : Tb n fd d) (hth : Tb n fh h) (htt : Tb n ft t) (ha : a < n) (hb : b < n) (h1 : Ge (h b + d b + d a + t a) below → post 1) (h0 : ¬ Ge (h b + d b + d a + t a) below → post 0) : wp_X3_isForced fd fh ft (nI a) (nI b) below post := by
  unfold wp_X3_isForced
  have i1 : vp_in (nI a) 12 := pz_inc (by omega) (by omega)
  have i2 : vp_in (nI b) 12 := pz_inc (by omega) (by omega)
  rw [hd.get ha (by omega), hd.get hb (by omega), hth.get hb (by omega), htt.get ha (by omega), nI_add, nI_add, nI_add]
  exact ⟨i2, i2, i1, i1, fun q => h0 (fun q2 => q2 q), fun q => h1 q⟩
theorem pz_bit1 {m k : Nat} (hm : m < 2 ^ 31) (hk : k < 32) : (nI m >>> (nI k &&& 31)) &&& 1 = 1 ↔ m.testBit k = true := by
  rw [pz_bit hm hk]
  have hb : m / 2 ^ k % 2 < 2 := Nat.mod_lt _ (by decide)
  rw [show (1 : Int32) = nI 1 from rfl, nI_eq (by omega) (by omega)]
  cases q : m.testBit k
  · have := (pz_tb m k).mpr q
    constructor
    · intro e; omega
    · intro e; cases e
  · have h2 : ¬ m / 2 ^ k % 2 = 0 := fun e => by rw [(pz_tb m k).mp e] at q; cases q
    constructor
    · intro _; rfl
    · intro _; omega
set_option maxHeartbeats 2000000 in
theorem sp_X3_hasPath {n a b : Nat} {jb : Nat → Nat} {ar : Nat → Nat → Bool} {fj fb : Nat → Int32} {post : Int32 → Prop} (hn : n ≤ 12) (hj : Tb n fj jb) (hjb : ∀ i, i < n → jb i < 4) (hM : MT ar fb) (ha : a < n) (hb : b < n) (hab : a ≠ b) (h1 : Rc n (Ed n jb ar) a b → post 1) (h0 : ¬ Rc n (Ed n jb ar) a b → post 0) : wp_X3_hasPath (nI n) fj fb (nI a) (nI b) post := by
  unfold wp_X3_hasPath
  refine ⟨fun x y => ∃ R Kn, x = nI R ∧ y = nI Kn ∧ R < 4096 ∧ Kn < 4096 ∧ R.testBit a = true ∧ (∀ S : Nat → Bool, (∀ u v, u < n → v < n → Ed n jb ar u v → S u = true → S v = true) → S a = true → ∀ v, R.testBit v = true → S v = true) ∧ (∀ v, R.testBit v = true → v < n) ∧ (∀ u v, u < n → v < n → Kn.testBit u = true → Ed n jb ar u v → R.testBit v = true), fun x y => if y = x then 0 else n + 1 - cn (fun k => x.toNatClampNeg.testBit k) n, ?_, ?_⟩
  · have h12 := pz_tp (k := a) (by omega)
    refine ⟨2 ^ a, 0, pz_one (by omega), rfl, h12, by omega, by rw [Nat.testBit_two_pow]; simp, fun S _ hSa v hv => ?_, fun v hv => ?_, fun u v _ _ hu => ?_⟩
    · rw [Nat.testBit_two_pow] at hv
      have e : a = v := by simpa using hv
      rw [← e]; exact hSa
    · rw [Nat.testBit_two_pow] at hv
      have e : a = v := by simpa using hv
      omega
    · rw [Nat.zero_testBit] at hu; cases hu
  · rintro _ _ ⟨R, Kn, rfl, rfl, hR, hK, r1, r2, r3, r4⟩
    refine ⟨fun q => ?_, fun q => ?_⟩
    · rw [nI_eq (by omega) (by omega)] at q
      subst q
      refine ⟨fun q2 => h0 (fun hr => q2 ?_), fun q2 => h1 (fun S s1 s2 => ?_)⟩
      · rw [pz_bit1 (by omega) (by omega)]
        exact hr (fun k => Kn.testBit k) (fun v hv he => r4 a v ha hv r1 he) (fun u v hu hv he hs => r4 u v hu hv hs he)
      · rw [pz_bit1 (by omega) (by omega)] at q2
        have h3 := r2 (fun k => S k || decide (k = a)) (fun u v hu hv he hs => by
          simp only [Bool.or_eq_true, decide_eq_true_eq] at hs ⊢
          rcases hs with hs | rfl
          · exact Or.inl (s2 u v hu hv he hs)
          · exact Or.inl (s1 v hv he)) (by simp) b q2
        simp only [Bool.or_eq_true, decide_eq_true_eq] at h3
        exact h3.resolve_right (fun e => hab e.symm)
    · have hne : Kn ≠ R := fun e => q (by rw [e])
      -- what a set between may be
      refine ⟨fun x y => ∃ R' i, x = nI R' ∧ y = nI i ∧ i ≤ n ∧ R' < 4096 ∧ (∀ v, R.testBit v = true → R'.testBit v = true) ∧ (∀ S : Nat → Bool, (∀ u v, u < n → v < n → Ed n jb ar u v → S u = true → S v = true) → S a = true → ∀ v, R'.testBit v = true → S v = true) ∧ (∀ v, R'.testBit v = true → v < n) ∧ (∀ u v, u < i → v < n → R.testBit u = true → Ed n jb ar u v → R'.testBit v = true), fun _ y => n - y.toNatClampNeg, ⟨R, 0, rfl, rfl, by omega, hR, fun _ h => h, r2, r3, fun _ _ h => absurd h (by omega)⟩, ?_⟩
      rintro _ _ ⟨R', i, rfl, rfl, hi, hR', t1, t2, t3, t4⟩
      refine ⟨fun q3 => ?_, fun q3 => ?_⟩
      · rw [nI_leI (by omega) (by omega)] at q3
        have e : i = n := by omega
        subst e
        refine ⟨⟨R', R, rfl, rfl, hR', hR, t1 a r1, t2, t3, fun u v hu hv hs he => t4 u v hu hv hs he⟩, ?_⟩
        show (if nI R = nI R' then 0 else i + 1 - cn (fun k => (nI R').toNatClampNeg.testBit k) i) < (if nI Kn = nI R then 0 else i + 1 - cn (fun k => (nI R).toNatClampNeg.testBit k) i)
        rw [if_neg q, nI_clamp (by omega), nI_clamp (by omega)]
        have c1 := cn_bd (fun k => R.testBit k) i
        by_cases e : R = R'
        · rw [if_pos (by rw [e])]; omega
        · rw [if_neg (fun e2 => e ((nI_eq (by omega) (by omega)).mp e2))]
          obtain ⟨k, hk⟩ := tb_ne e
          have hk1 : R'.testBit k = true ∧ R.testBit k = false := by
            cases q4 : R.testBit k
            · rw [q4] at hk
              cases q5 : R'.testBit k
              · rw [q5] at hk; exact absurd rfl hk
              · exact ⟨rfl, rfl⟩
            · rw [q4, t1 k q4] at hk; exact absurd rfl hk
          have h2 : cn (fun k => R.testBit k) i < cn (fun k => R'.testBit k) i := cn_lt i (fun k _ h => t1 k h) ⟨k, t3 k hk1.1, hk1.1, hk1.2⟩
          have c2 := cn_bd (fun k => R'.testBit k) i
          omega
      · rw [nI_leI (by omega) (by omega)] at q3
        have hi2 : i < n := by omega
        refine ⟨fun x y => ∃ R2 j, x = nI R2 ∧ y = nI j ∧ j ≤ n ∧ R2 < 4096 ∧ (∀ v, R.testBit v = true → R2.testBit v = true) ∧ (∀ S : Nat → Bool, (∀ u v, u < n → v < n → Ed n jb ar u v → S u = true → S v = true) → S a = true → ∀ v, R2.testBit v = true → S v = true) ∧ (∀ v, R2.testBit v = true → v < n) ∧ (∀ u v, (u < i ∨ (u = i ∧ v < j)) → v < n → R.testBit u = true → Ed n jb ar u v → R2.testBit v = true), fun _ y => n - y.toNatClampNeg, ⟨R', 0, rfl, rfl, by omega, hR', t1, t2, t3, fun u v hu => t4 u v (hu.resolve_right (fun e => by omega))⟩, ?_⟩
        rintro _ _ ⟨R2, j, rfl, rfl, hj2, hR2, v1, v2, v3, v4⟩
        refine ⟨fun q5 => ?_, fun q5 => ?_⟩
        · rw [nI_leI (by omega) (by omega)] at q5
          exact ⟨⟨R2, i + 1, rfl, nI_1 i, by omega, hR2, v1, v2, v3, fun u v hu hv hs he => v4 u v (by omega) hv hs he⟩, pz_mu hi2 (by omega)⟩
        · rw [nI_leI (by omega) (by omega)] at q5
          have hj3 : j < n := by omega
          have keep : (R2.testBit i = true → ¬ Ed n jb ar i j) → (∃ R3 j', nI R2 = nI R3 ∧ nI j + 1 = nI j' ∧ j' ≤ n ∧ R3 < 4096 ∧ (∀ v, R.testBit v = true → R3.testBit v = true) ∧ (∀ S : Nat → Bool, (∀ u v, u < n → v < n → Ed n jb ar u v → S u = true → S v = true) → S a = true → ∀ v, R3.testBit v = true → S v = true) ∧ (∀ v, R3.testBit v = true → v < n) ∧ (∀ u v, (u < i ∨ (u = i ∧ v < j')) → v < n → R.testBit u = true → Ed n jb ar u v → R3.testBit v = true)) ∧ n - (nI j + 1).toNatClampNeg < n - (nI j).toNatClampNeg := by
            intro hx
            refine ⟨⟨R2, j + 1, rfl, nI_1 j, by omega, hR2, v1, v2, v3, fun u v hu hv hs he => ?_⟩, pz_mu hj3 (by omega)⟩
            by_cases e : u = i ∧ v = j
            · obtain ⟨rfl, rfl⟩ := e
              exact absurd he (hx (v1 u hs))
            · exact v4 u v (by omega) hv hs he
          rw [pz_bit1 (by omega) (by omega)]
          refine ⟨fun q6 => keep (fun e => absurd e q6), fun q6 => sp_X3_leads hn hj hjb hM hi2 hj3 (fun he => ⟨fun e => absurd e (by decide), fun _ => ?_⟩) (fun he => ⟨fun _ => keep (fun _ => he), fun e => absurd rfl e⟩)⟩
          have h2 := pz_tp (k := j) (by omega)
          rw [pz_one (by omega), pz_or (by omega) (by omega)]
          refine ⟨⟨R2 ||| 2 ^ j, j + 1, rfl, nI_1 j, by omega, pz_or12 hR2 h2, fun v hv => by rw [Nat.testBit_or, v1 v hv]; rfl, fun S s1 s2 v hv => ?_, fun v hv => ?_, fun u v hu hv hs hE => ?_⟩, pz_mu hj3 (by omega)⟩
          · rw [Nat.testBit_or, Nat.testBit_two_pow, Bool.or_eq_true] at hv
            rcases hv with hv | hv
            · exact v2 S s1 s2 v hv
            · have e : j = v := by simpa using hv
              rw [← e]
              exact s1 i j hi2 hj3 he (v2 S s1 s2 i q6)
          · rw [Nat.testBit_or, Nat.testBit_two_pow, Bool.or_eq_true] at hv
            rcases hv with hv | hv
            · exact v3 v hv
            · have e : j = v := by simpa using hv
              omega
          · rw [Nat.testBit_or, Nat.testBit_two_pow, Bool.or_eq_true]
            by_cases e : u = i ∧ v = j
            · exact Or.inr (by simp [e.2])
            · exact Or.inl (v4 u v (by omega) hv hs hE)
