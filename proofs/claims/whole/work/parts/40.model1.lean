/-! The reference: the small ones, steps, heads, tails -/
theorem sp_X3_in {a lo hi : Int32} {post : Int32 → Prop} (h1 : ¬ a < lo ∧ ¬ hi < a → post 1) (h0 : ¬ (¬ a < lo ∧ ¬ hi < a) → post 0) : wp_X3_in a lo hi post := by
  unfold wp_X3_in
  exact ⟨fun q => h0 (fun e => e.1 q), fun q => ⟨fun q2 => h0 (fun e => e.2 q2), fun q2 => h1 ⟨q, q2⟩⟩⟩
theorem pz_pred {n : Nat} {a : Int32} (hn : n ≤ 1000) : (¬ a < 0 ∧ ¬ nI n - 1 < a) ↔ Op n a := by
  have e : (nI n - 1).toInt = (n : Int) - 1 := by
    have := pk_sub_toInt (a := n) (b := 1) (by omega) (by omega)
    exact this
  rw [Int32.lt_iff_toInt_lt, Int32.lt_iff_toInt_lt, e, Int32.toInt_zero]
  constructor
  · rintro ⟨q1, q2⟩
    rcases pk_ix a (n := n) (by omega) with q | q | ⟨j, hj, q⟩
    · rw [Int32.lt_iff_toInt_lt, Int32.toInt_zero] at q; exact absurd q q1
    · rw [Int32.le_iff_toInt_le, nI_toInt (by omega)] at q; omega
    · exact ⟨j, hj, q⟩
  · rintro ⟨k, hk, rfl⟩
    rw [nI_toInt (by omega)]; omega
theorem sp_X3_isOperation {n : Nat} {a0 : Int32} {post : Int32 → Prop} (hn : n ≤ 12) (h1 : Op n a0 → post 1) (h0 : ¬ Op n a0 → post 0) : wp_X3_isOperation (nI n) a0 post := by
  unfold wp_X3_isOperation
  exact sp_X3_in (fun q => ⟨Or.inr rfl, h1 ((pz_pred (by omega)).mp q)⟩) (fun q => ⟨Or.inl rfl, h0 (fun e => q ((pz_pred (by omega)).mpr e))⟩)
theorem sp_X3_isPair {n : Nat} {mc : Nat → Nat} {fm : Nat → Int32} {a0 a1 : Int32} {post : Int32 → Prop} (hn : n ≤ 12) (hm : Tb n fm mc) (hmb : ∀ i, i < n → mc i < 4) (h1 : Pr n mc a0 a1 → post 1) (h0 : ¬ Pr n mc a0 a1 → post 0) : wp_X3_isPair (nI n) fm a0 a1 post := by
  unfold wp_X3_isPair
  refine sp_X3_isOperation hn (fun ho0 => ⟨fun q => absurd q (by decide), fun _ => ?_⟩) (fun ho0 => ⟨fun _ => h0 ?_, fun q => absurd rfl q⟩)
  · refine sp_X3_isOperation hn (fun ho1 => ⟨fun q => absurd q (by decide), fun _ => ?_⟩) (fun ho1 => ⟨fun _ => h0 ?_, fun q => absurd rfl q⟩)
    · obtain ⟨i, hi, rfl⟩ := ho0
      obtain ⟨k, hk, rfl⟩ := ho1
      refine ⟨fun q => h0 ?_, fun q => ⟨pz_inc (by omega) (by omega), pz_inc (by omega) (by omega), ?_⟩⟩
      · rintro ⟨i', k', hi', hk', e1, e2, ne, -⟩
        rw [nI_eq (by omega) (by omega)] at e1 e2 q
        omega
      · rw [hm.get hi (by omega), hm.get hk (by omega)]
        have b1 := hmb i hi
        have b2 := hmb k hk
        refine ⟨fun q2 => h0 ?_, fun q2 => h1 ?_⟩
        · rintro ⟨i', k', hi', hk', e1, e2, ne, e3⟩
          rw [nI_eq (by omega) (by omega)] at e1 e2
          subst e1; subst e2
          exact q2 (by rw [e3])
        · rw [nI_eq (by omega) (by omega)] at q2
          exact ⟨i, k, hi, hk, rfl, rfl, fun e => q (by rw [e]), q2⟩
    · rintro ⟨i, k, hi, hk, e1, e2, -⟩
      exact ho1 ⟨k, hk, e2⟩
  · rintro ⟨i, k, hi, hk, e1, e2, -⟩
    exact ho0 ⟨i, hi, e1⟩
theorem sp_X3_nextOf {n a : Nat} {jb : Nat → Nat} {fj : Nat → Int32} {post : Int32 → Prop} (hn : n ≤ 12) (hj : Tb n fj jb) (hjb : ∀ i, i < n → jb i < 4) (ha : a < n) (h1 : ∀ k, Nx n jb a k → post (nI k)) (h0 : (∀ k, ¬ Nx n jb a k) → post (-1)) : wp_X3_nextOf (nI n) fj (nI a) post := by
  unfold wp_X3_nextOf
  refine ⟨fun x => ∃ k, x = nI k ∧ a < k ∧ k ≤ n ∧ ∀ m, a < m → m < k → jb m ≠ jb a, fun x => n - x.toNatClampNeg, ⟨a + 1, nI_1 a, by omega, by omega, fun m _ _ => absurd (Nat.lt_irrefl a) (by omega)⟩, ?_⟩
  rintro _ ⟨k, rfl, hk1, hk2, hno⟩
  have out : (nI n ≤ nI k → post (-1)) := fun q => by
    rw [nI_leI (by omega) (by omega)] at q
    refine h0 (fun k' q2 => ?_)
    exact hno k' q2.1 (by have := q2.2.1; omega) q2.2.2.1
  refine ⟨fun q => ⟨out, fun q2 => absurd q q2⟩, fun q => ?_⟩
  rw [nI_leI (by omega) (by omega)] at q
  have hk3 : k < n := by omega
  have b1 := hjb k hk3
  have b2 := hjb a ha
  rw [hj.get hk3 (by omega), hj.get ha (by omega)]
  refine ⟨pz_inc (by omega) (by omega), pz_inc (by omega) (by omega), fun q2 => ⟨out, fun _ => h1 k ?_⟩, fun q2 => ⟨⟨k + 1, nI_1 k, by omega, by omega, fun m hm1 hm2 => ?_⟩, pz_mu hk3 (by omega)⟩⟩
  · rw [nI_eq (by omega) (by omega)] at q2
    exact ⟨hk1, hk3, q2, hno⟩
  · by_cases e : m = k
    · subst e; exact fun e2 => q2 (by rw [e2])
    · exact hno m hm1 (by omega)
/-- the table of arcs -/
def MT (ar : Nat → Nat → Bool) (f : Nat → Int32) : Prop := ∀ a b, a < 12 → b < 12 → f (12 * a + b) = if ar a b then 1 else 0
theorem pz_ix (a b : Nat) : (12 : Int32) * nI a + nI b = nI (12 * a + b) := by
  rw [show (12 : Int32) = nI 12 from rfl, pk_mul, nI_add]
theorem sp_X3_leads {n a b : Nat} {jb : Nat → Nat} {ar : Nat → Nat → Bool} {fj fb : Nat → Int32} {post : Int32 → Prop} (hn : n ≤ 12) (hj : Tb n fj jb) (hjb : ∀ i, i < n → jb i < 4) (hM : MT ar fb) (ha : a < n) (hb : b < n) (h1 : Ed n jb ar a b → post 1) (h0 : ¬ Ed n jb ar a b → post 0) : wp_X3_leads (nI n) fj fb (nI a) (nI b) post := by
  unfold wp_X3_leads
  rw [pz_ix, nI_clamp (n := 12 * a + b) (by omega), hM a b (by omega) (by omega)]
  refine ⟨pz_inc (by omega) (by omega), ?_⟩
  cases q : ar a b
  · refine ⟨fun q2 => absurd rfl q2, fun _ => sp_X3_nextOf hn hj hjb ha (fun k hk => ⟨fun q2 => h0 ?_, fun q2 => h1 ?_⟩) (fun hno => ⟨fun _ => h0 ?_, fun q2 => ?_⟩)⟩
    · rintro (e | e)
      · rw [q] at e; cases e
      · exact q2 (by rw [hk.uniq e])
    · have := hk.2.1
      rw [nI_eq (by omega) (by omega)] at q2
      subst q2; exact Or.inr hk
    · rintro (e | e)
      · rw [q] at e; cases e
      · exact hno b e
    · exact absurd q2.symm (pz_ne1 (by omega))
  · exact ⟨fun _ => h1 (Or.inl q), fun q2 => absurd q2 (by decide)⟩
/-- a sweep over all steps, as far as it has come: those of a below i, and of i to b below j -/
def Sw (n : Nat) (E : Nat → Nat → Prop) (d h0 : Nat → Nat) (B i j : Nat) (g : Int32) (h : Nat → Nat) : Prop :=
  (∀ b, b < n → h0 b ≤ h b) ∧ (∀ a b, (a < i ∨ (a = i ∧ b < j)) → a < n → b < n → E a b → h0 a + d a ≤ h b) ∧ (g = 0 ∨ g = 1) ∧ (g = 0 → ∀ b, b < n → h b = h0 b) ∧ (¬ g = 0 → ∃ b, b < n ∧ h0 b < h b) ∧ (∀ p, Pot n E d p → (∀ b, b < n → h0 b ≤ p b) → ∀ b, b < n → h b ≤ p b) ∧ (∀ b, b < n → h b ≤ B + 50 * (i + 1)) ∧ (i < n → h i ≤ B + 50 * i)
theorem Sw.next {n : Nat} {E : Nat → Nat → Prop} {d h0 h : Nat → Nat} {B i : Nat} {g : Int32} (hs : Sw n E d h0 B i n g h) : Sw n E d h0 B (i + 1) 0 g h := by
  obtain ⟨s1, s2, s3, s4, s5, s6, s7, s8⟩ := hs
  refine ⟨s1, fun a b hab ha hb he => s2 a b (by omega) ha hb he, s3, s4, s5, s6, fun b hb => ?_, fun hi => ?_⟩
  · have := s7 b hb; omega
  · have := s7 (i + 1) hi; omega
theorem Sw.zero {n : Nat} {E : Nat → Nat → Prop} {d h : Nat → Nat} {B : Nat} (hb : ∀ b, b < n → h b ≤ B) : Sw n E d h B 0 0 0 h :=
  ⟨fun _ _ => Nat.le_refl _, fun a b hab => absurd hab (by omega), Or.inl rfl, fun _ _ _ => rfl, fun q => absurd rfl q, fun _ _ hle => hle, fun b hb2 => by have := hb b hb2; omega, fun hi => by have := hb 0 hi; omega⟩
set_option maxHeartbeats 2000000 in
theorem sp_X3_findHeads {n : Nat} {jb d : Nat → Nat} {ar : Nat → Nat → Bool} {fj fd fh fb : Nat → Int32} {post : Int32 → (Nat → Int32) → Prop} (hn : n ≤ 12) (hj : Tb n fj jb) (hjb : ∀ i, i < n → jb i < 4) (hd : Tb n fd d) (hdb : ∀ i, i < n → 1 ≤ d i ∧ d i ≤ 50) (hM : MT ar fb) (hE : ∀ a, ¬ Ed n jb ar a a)
    (h1 : ∀ fh' hs, IsH n (Ed n jb ar) d hs → Tb n fh' hs → post 1 fh') (h0 : ∀ fh', (¬ ∃ g, Pot n (Ed n jb ar) d g) → post 0 fh') : wp_X3_findHeads (nI n) fj fd fh fb post := by
  unfold wp_X3_findHeads
  refine ⟨fun x fh => ∃ k, x = nI k ∧ k ≤ n ∧ (∀ i, i < k → fh i = nI 0), fun x _ => n - x.toNatClampNeg, ⟨0, rfl, by omega, fun i hi => absurd hi (by omega)⟩, ?_⟩
  rintro _ fh ⟨k, rfl, hk, hz⟩
  refine ⟨fun q => ?_, fun q => ?_⟩
  · rw [nI_leI (by omega) (by omega)] at q
    have e : k = n := by omega
    subst e
    -- the rounds: more, how many, heads
    refine ⟨fun g x fh => ∃ r h, x = nI r ∧ r ≤ k + 1 ∧ Tb k fh h ∧ (g = 0 ∨ g = 1) ∧ (∀ b, b < k → h b ≤ 650 * r) ∧ (g = 0 → Pot k (Ed k jb ar) d h) ∧ (∀ hs, IsH k (Ed k jb ar) d hs → (∀ b, b < k → h b ≤ hs b) ∧ (∀ b, b < k → rk k hs b < r → h b = hs b) ∧ (¬ g = 0 → r ≤ k)), fun _ x _ => k + 2 - x.toNatClampNeg, ⟨0, fun _ => 0, rfl, by omega, fun i hi => hz i hi, Or.inr rfl, fun _ _ => Nat.zero_le _, fun e => absurd e (by decide), fun hs _ => ⟨fun _ _ => Nat.zero_le _, fun _ _ h => absurd h (by omega), fun _ => by omega⟩⟩, ?_⟩
    rintro g _ fh ⟨r, h, rfl, hr, hth, hg, hbd, hfix, hpot⟩
    refine ⟨fun q2 => ?_, fun q2 => ?_⟩
    · obtain ⟨hs, hh⟩ := IsH.of_pot (fun i hi => (hdb i hi).1) ⟨h, hfix q2⟩
      refine h1 fh hs hh (hth.congr (fun b hb => ?_))
      exact Nat.le_antisymm ((hpot hs hh).1 b hb) (hh.le (fun i hi => (hdb i hi).1) (hfix q2) b hb)
    · refine ⟨fun g x fh => ∃ i h', x = nI i ∧ i ≤ k ∧ Tb k fh h' ∧ Sw k (Ed k jb ar) d h (650 * r) i 0 g h', fun _ x _ => k - x.toNatClampNeg, ⟨0, h, rfl, by omega, hth, Sw.zero hbd⟩, ?_⟩
      rintro g' _ fh' ⟨i, h', rfl, hi0, hth', hsw⟩
      refine ⟨fun q3 => ?_, fun q3 => ?_⟩
      · rw [nI_leI (by omega) (by omega)] at q3
        have e : i = k := by omega
        subst e
        obtain ⟨s1, s2, s3, s4, s5, s6, s7, s8⟩ := hsw
        have hfix' : g' = 0 → Pot i (Ed i jb ar) d h' := fun e a b ha hb he => by
          have := s2 a b (Or.inl ha) ha hb he
          rw [s4 e a ha]; exact this
        have hb' : ∀ b, b < i → h' b ≤ 650 * (r + 1) := fun b hb => by
          by_cases e0 : g' = 0
          · have := hbd b hb; rw [s4 e0 b hb]; omega
          · have := s7 b hb; omega
        rw [nI_1, nI_1]
        refine ⟨fun q4 => ?_, fun q4 => ?_⟩
        · rw [nI_leI (by omega) (by omega)] at q4
          refine ⟨⟨r + 1, h', rfl, by omega, hth', s3, hb', hfix', fun hs hh => ?_⟩, by
            show i + 2 - (nI (r + 1)).toNatClampNeg < i + 2 - (nI r).toNatClampNeg
            rw [nI_clamp (by omega), nI_clamp (by omega)]; omega⟩
          obtain ⟨p1, p2, p3⟩ := hpot hs hh
          refine ⟨s6 hs hh.1 p1, fun b hb hrb => ?_, fun e => ?_⟩
          · refine Nat.le_antisymm (s6 hs hh.1 p1 b hb) ?_
            rcases hh.2 b hb with e0 | ⟨a, ha2, hEa, e1⟩
            · omega
            · have d1 := (hdb a ha2).1
              have r1 := rk_lt (n := i) (h := hs) (a := a) (b := b) ha2 (by omega)
              have e2 := p2 a ha2 (by omega)
              have e3 := s2 a b (Or.inl ha2) ha2 hb hEa
              omega
          · have := p3 q2
            rcases Nat.lt_or_ge r i with q5 | q5
            · omega
            · exfalso
              obtain ⟨b, hb, hlt⟩ := s5 e
              have e1 := p2 b hb (by have := rk_n (h := hs) hb; omega)
              have e2 := s6 hs hh.1 p1 b hb
              omega
        · rw [nI_leI (by omega) (by omega)] at q4
          refine h0 fh' (fun hp => ?_)
          obtain ⟨hs, hh⟩ := IsH.of_pot (fun i hi => (hdb i hi).1) hp
          have := (hpot hs hh).2.2 q2
          omega
      · rw [nI_leI (by omega) (by omega)] at q3
        have hi : i < k := by omega
        have hB : 650 * r ≤ 100000 := by omega
        have fin : ∀ g fh h', Tb k fh h' → Sw k (Ed k jb ar) d h (650 * r) i k g h' → (∃ i' h'', nI i + 1 = nI i' ∧ i' ≤ k ∧ Tb k fh h'' ∧ Sw k (Ed k jb ar) d h (650 * r) i' 0 g h'') ∧ k - (nI i + 1).toNatClampNeg < k - (nI i).toNatClampNeg :=
          fun g fh h' t1 t2 => ⟨⟨i + 1, h', nI_1 i, by omega, t1, t2.next⟩, pz_mu hi (by omega)⟩
        refine ⟨fun g y fh => ∃ j h', y = nI j ∧ j ≤ k ∧ Tb k fh h' ∧ Sw k (Ed k jb ar) d h (650 * r) i j g h', fun _ y _ => k - y.toNatClampNeg, ⟨0, h', rfl, by omega, hth', hsw⟩, ?_⟩
        rintro g _ fh ⟨j, h', rfl, hj2, hth, s1, s2, s3, s4, s5, s6, s7, s8⟩
        refine ⟨fun q => ?_, fun q => ?_⟩
        · rw [nI_leI (by omega) (by omega)] at q
          have e : j = k := by omega
          subst e
          exact fin g fh h' hth ⟨s1, s2, s3, s4, s5, s6, s7, s8⟩
        · rw [nI_leI (by omega) (by omega)] at q
          have hj3 : j < k := by omega
          have ii : vp_in (nI i) 12 := pz_inc (by omega) (by omega)
          have ij : vp_in (nI j) 12 := pz_inc (by omega) (by omega)
          have d1 := (hdb i hi).2
          have b1 := s8 hi
          have b2 := s7 j hj3
          refine ⟨ii, ii, sp_X3_leads hn hj hjb hM hi hj3 (fun he => ⟨fun q2 => absurd q2 (by decide), fun _ => ⟨ij, ?_⟩⟩) (fun he => ⟨fun _ => ⟨⟨j + 1, h', nI_1 j, by omega, hth, s1, fun a b hab ha hb hab2 => ?_, s3, s4, s5, s6, s7, s8⟩, pz_mu hj3 (by omega)⟩, fun q2 => absurd rfl q2⟩)⟩
          · rw [hth.get hi (by omega), hd.get hi (by omega), hth.get hj3 (by omega), nI_add]
            refine ⟨fun q2 => ⟨⟨j + 1, h', nI_1 j, by omega, hth, s1, fun a b hab ha hb hab2 => ?_, s3, s4, s5, s6, s7, s8⟩, pz_mu hj3 (by omega)⟩, fun q2 => ⟨ij, ?_⟩⟩
            · rw [nI_leI (by omega) (by omega)] at q2
              by_cases e : a = i ∧ b = j
              · obtain ⟨rfl, rfl⟩ := e
                have := s1 a ha
                omega
              · exact s2 a b (by omega) ha hb hab2
            · rw [nI_leI (by omega) (by omega)] at q2
              rw [nI_clamp (n := j) (by omega)]
              have hne : ¬ i = j := fun e => hE i (by rw [← e] at he; exact he)
              refine ⟨⟨j + 1, fun b => if b = j then h' i + d i else h' b, nI_1 j, by omega, hth.st j (h' i + d i), fun b hb => ?_, fun a b hab ha hb hab2 => ?_, Or.inr rfl, fun q3 => absurd q3 (by decide), fun _ => ⟨j, hj3, ?_⟩, fun p hp hle b hb => ?_, fun b hb => ?_, fun _ => ?_⟩, pz_mu hj3 (by omega)⟩
              · by_cases e : b = j
                · subst e; simp only [if_true]; have := s1 b hb; omega
                · simp only [if_neg e]; exact s1 b hb
              · by_cases e : b = j
                · subst e; simp only [if_true]
                  by_cases e2 : a = i
                  · subst e2; have := s1 a ha; omega
                  · have := s2 a b (by omega) ha hb hab2
                    omega
                · simp only [if_neg e]; exact s2 a b (by omega) ha hb hab2
              · simp only [if_true]; have := s1 j hj3; omega
              · by_cases e : b = j
                · subst e; simp only [if_true]
                  have h1' := s6 p hp hle i hi
                  have h2 := hp i b hi hb he
                  omega
                · simp only [if_neg e]; exact s6 p hp hle b hb
              · by_cases e : b = j
                · subst e; simp only [if_true]; omega
                · simp only [if_neg e]; exact s7 b hb
              · simp only [if_neg hne]; exact b1
          · by_cases e : a = i ∧ b = j
            · obtain ⟨rfl, rfl⟩ := e
              exact absurd hab2 he
            · exact s2 a b (by omega) ha hb hab2
  · rw [nI_leI (by omega) (by omega)] at q
    refine ⟨pz_inc (by omega) (by omega), ⟨k + 1, nI_1 k, by omega, fun i hi => ?_⟩, pz_mu (by omega) (by omega)⟩
    rw [nI_clamp (by omega)]
    by_cases e : i = k
    · subst e; rw [pk_us]; rfl
    · rw [pk_un e]; exact hz i (by omega)
