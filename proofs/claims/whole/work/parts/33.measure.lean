/-! Floor: stretch and measure -/
/-- what relaxing one operation's steps does -/
def Str (n : Nat) (E : Nat → Nat → Prop) (d hs ts h t : Nat → Nat) (i K : Nat) (g : Int32) (h' t' : Nat → Nat) : Prop :=
  (∀ b, b < n → h b ≤ h' b ∧ h' b ≤ hs b) ∧ (∀ b, b < n → t b ≤ t' b ∧ t' b ≤ ts b) ∧ h' i = h i ∧ (∀ b, b < n → b ≠ i → t' b = t b) ∧ (∀ k, k < K → E i k → h i + d i ≤ h' k ∧ t k + d k ≤ t' i) ∧ (g = 0 ∨ g = 1) ∧ (g = 0 → (∀ b, b < n → h' b = h b) ∧ (∀ b, b < n → t' b = t b))
set_option maxHeartbeats 1000000 in
theorem sp_X0_stretch {n i : Nat} {jb d hs ts h t : Nat → Nat} {ar : Nat → Nat → Bool} {fd fn fa fh ft : Nat → Int32} {post : Int32 → (Nat → Int32) → (Nat → Int32) → Prop} (hn : n ≤ 12) (hx : NxT n jb fn) (ha : ArT n ar fa) (hi : i < n) (hd : Tb n fd d) (hdb : ∀ b, b < n → d b ≤ 50) (hE : ∀ a b, Ed n jb ar a b → a ≠ b)
    (hth : Tb n fh h) (htt : Tb n ft t) (hsb : ∀ b, b < n → hs b ≤ 1000 ∧ ts b ≤ 1000) (hps : Pot n (Ed n jb ar) d hs) (hpt : Pot n (Rv (Ed n jb ar)) d ts) (hh : ∀ b, b < n → h b ≤ hs b) (ht : ∀ b, b < n → t b ≤ ts b)
    (hpost : ∀ (g : Int32) (fh' ft' : Nat → Int32) (h' t' : Nat → Nat), Tb n fh' h' → Tb n ft' t' → Str n (Ed n jb ar) d hs ts h t i n g h' t' → post g fh' ft') :
    wp_X0_stretch (nI n) fd fn fa fh ft (nI i) post := by
  unfold wp_X0_stretch
  refine sp_X0_followers hn hx ha hi (fun f hf hfb => ?_)
  refine ⟨fun g x fh' ft' => ∃ K h' t', x = nI K ∧ K ≤ n ∧ Tb n fh' h' ∧ Tb n ft' t' ∧ Str n (Ed n jb ar) d hs ts h t i K g h' t', fun _ x _ _ => n - x.toNatClampNeg, ⟨0, h, t, rfl, by omega, hth, htt, fun b hb => ⟨Nat.le_refl _, hh b hb⟩, fun b hb => ⟨Nat.le_refl _, ht b hb⟩, rfl, fun _ _ _ => rfl, fun k hk => absurd hk (by omega), Or.inl rfl, fun _ => ⟨fun _ _ => rfl, fun _ _ => rfl⟩⟩, ?_⟩
  rintro g _ fh' ft' ⟨K, h', t', rfl, hK, hth', htt', s1, s2, s3, s4, s5, s6, s7⟩
  refine ⟨fun q => ?_, fun q => ?_⟩
  · rw [nI_leI (by omega) (by omega)] at q
    have e : K = n := by omega
    subst e
    exact ⟨s6, hpost g fh' ft' h' t' hth' htt' ⟨s1, s2, s3, s4, s5, s6, s7⟩⟩
  · rw [nI_leI (by omega) (by omega)] at q
    have hKn : K < n := by omega
    have iK : vp_in (nI K) 12 := pz_inc (by omega) (by omega)
    have ii : vp_in (nI i) 12 := pz_inc (by omega) (by omega)
    refine sp_X2_isIn (by omega) (by omega) (fun hbit => ⟨fun q2 => absurd q2 (by decide), fun _ => ?_⟩) (fun hbit => ⟨fun _ => ?_, fun q2 => absurd rfl q2⟩)
    · have hE1 : Ed n jb ar i K := (hfb K).mp hbit
      have hne := hE i K hE1
      have p1 := hps i K hi hKn hE1
      have p2 := hpt K i hKn hi hE1
      have a1 := s1 i hi
      have a2 := s1 K hKn
      have a3 := s2 i hi
      have a4 := s2 K hKn
      have b1 := hsb i hi
      have b2 := hsb K hKn
      have b3 := hdb i hi
      have b4 := hdb K hKn
      have e4 := s4 K hKn (fun e => hne e.symm)
      refine ⟨iK, ii, ii, ?_⟩
      rw [hth'.get hi (by omega), hth'.get hKn (by omega), hd.get hi (by omega), hd.get hKn (by omega), htt'.get hi (by omega), htt'.get hKn (by omega), nI_add, nI_add]
      -- the join behind the head's change
      refine ⟨fun g1 fh1 => ∃ h1, Tb n fh1 h1 ∧ (∀ b, b < n → h b ≤ h1 b ∧ h1 b ≤ hs b) ∧ h1 i = h i ∧ (∀ k, k < K + 1 → Ed n jb ar i k → h i + d i ≤ h1 k) ∧ (g1 = 0 ∨ g1 = 1) ∧ (g1 = 0 → (g = 0 ∧ ∀ b, b < n → h1 b = h b)), ?_, ?_⟩
      · rintro g1 fh1 ⟨h1, hth1, c1, c2, c3, c4, c5⟩
        refine ⟨ii, iK, iK, fun q3 => ?_, fun q3 => ⟨iK, iK, ii, ?_⟩⟩
        · rw [nI_leI (by omega) (by omega)] at q3
          refine ⟨⟨K + 1, h1, t', nI_1 K, by omega, hth1, htt', c1, s2, c2, s4, fun k hk hEk => ⟨c3 k hk hEk, ?_⟩, c4, fun e => ⟨(c5 e).2, (s7 (c5 e).1).2⟩⟩, pz_mu hKn (by omega)⟩
          by_cases ek : k = K
          · subst ek; omega
          · exact (s5 k (by omega) hEk).2
        · rw [nI_leI (by omega) (by omega)] at q3
          rw [nI_clamp (by omega)]
          refine ⟨⟨K + 1, h1, fun b => if b = i then d K + t' K else t' b, nI_1 K, by omega, hth1, htt'.st i (d K + t' K), c1, fun b hb => ?_, c2, fun b hb hbi => ?_, fun k hk hEk => ⟨c3 k hk hEk, ?_⟩, Or.inr rfl, fun e => absurd e (by decide)⟩, pz_mu hKn (by omega)⟩
          · by_cases eb : b = i
            · subst eb; simp only [if_true]; omega
            · simp only [if_neg eb]; exact s2 b hb
          · simp only [if_neg hbi]; exact s4 b hb hbi
          · simp only [if_true]
            by_cases ek : k = K
            · subst ek; omega
            · have := (s5 k (by omega) hEk).2
              omega
      · refine ⟨fun q3 => ?_, fun q3 => ⟨ii, ii, iK, ?_⟩⟩
        · rw [nI_leI (by omega) (by omega)] at q3
          refine ⟨h', hth', s1, s3, fun k hk hEk => ?_, s6, fun e => ⟨e, (s7 e).1⟩⟩
          by_cases ek : k = K
          · subst ek; omega
          · exact (s5 k (by omega) hEk).1
        · rw [nI_leI (by omega) (by omega)] at q3
          rw [nI_clamp (by omega)]
          refine ⟨fun b => if b = K then h' i + d i else h' b, hth'.st K (h' i + d i), fun b hb => ?_, ?_, fun k hk hEk => ?_, Or.inr rfl, fun e => absurd e (by decide)⟩
          · by_cases eb : b = K
            · subst eb; simp only [if_true]; omega
            · simp only [if_neg eb]; exact s1 b hb
          · simp only [if_neg hne]; exact s3
          · by_cases ek : k = K
            · subst ek; simp only [if_true]; omega
            · simp only [if_neg ek]; exact (s5 k (by omega) hEk).1
    · have hno : ¬ Ed n jb ar i K := fun e => by
        rw [(hfb K).mpr e] at hbit; cases hbit
      refine ⟨⟨K + 1, h', t', nI_1 K, by omega, hth', htt', s1, s2, s3, s4, fun k hk hEk => ?_, s6, s7⟩, pz_mu hKn (by omega)⟩
      by_cases ek : k = K
      · subst ek; exact absurd hEk hno
      · exact s5 k (by omega) hEk
set_option maxHeartbeats 1000000 in
/-- HEADS and TAILS are found, where there are any -/
theorem sp_X0_measure {n : Nat} {jb d hs ts : Nat → Nat} {ar : Nat → Nat → Bool} {fd fn fa fh ft : Nat → Int32} {post : (Nat → Int32) → (Nat → Int32) → Prop} (hn : n ≤ 12) (hx : NxT n jb fn) (ha : ArT n ar fa) (hd : Tb n fd d) (hdb : ∀ b, b < n → 1 ≤ d b ∧ d b ≤ 50) (hE : ∀ a b, Ed n jb ar a b → a ≠ b)
    (hs1 : IsH n (Ed n jb ar) d hs) (ht1 : IsH n (Rv (Ed n jb ar)) d ts) (hpost : ∀ fh' ft', Tb n fh' hs → Tb n ft' ts → post fh' ft') :
    wp_X0_measure (nI n) fd fn fa fh ft post := by
  have hsb : ∀ b, b < n → hs b ≤ 1000 ∧ ts b ≤ 1000 := fun b hb => by
    have h1 := hs1.bd hn hdb hb
    have h2 := ht1.bd hn hdb hb
    omega
  unfold wp_X0_measure
  refine ⟨fun x fh ft => ∃ k, x = nI k ∧ k ≤ n ∧ (∀ i, i < k → fh i = nI 0 ∧ ft i = nI 0), fun x _ _ => n - x.toNatClampNeg, ⟨0, rfl, by omega, fun i hi => absurd hi (by omega)⟩, ?_⟩
  rintro _ fh ft ⟨k, rfl, hk, hz⟩
  refine ⟨fun q => ?_, fun q => ?_⟩
  · rw [nI_leI (by omega) (by omega)] at q
    have e : k = n := by omega
    subst e
    refine ⟨fun g x fh ft => ∃ r h t, x = nI r ∧ r ≤ k ∧ Tb k fh h ∧ Tb k ft t ∧ (∀ b, b < k → h b ≤ hs b) ∧ (∀ b, b < k → t b ≤ ts b) ∧ (g = 0 ∨ g = 1) ∧ (∀ b, b < k → rk k hs b < r → h b = hs b) ∧ (∀ b, b < k → rk k ts b < r → t b = ts b) ∧ (g = 0 → Pot k (Ed k jb ar) d h ∧ Pot k (Rv (Ed k jb ar)) d t), fun _ x _ _ => k - x.toNatClampNeg, ⟨0, fun _ => 0, fun _ => 0, rfl, by omega, fun i hi => (hz i hi).1, fun i hi => (hz i hi).2, fun _ _ => Nat.zero_le _, fun _ _ => Nat.zero_le _, Or.inr rfl, fun _ _ h => absurd h (by omega), fun _ _ h => absurd h (by omega), fun e => absurd e (by decide)⟩, ?_⟩
    rintro g _ fh ft ⟨r, h, t, rfl, hr, hth, htt, hh, ht, hg, hrk, hrt, hfix⟩
    have fin : (∀ b, b < k → h b = hs b) → (∀ b, b < k → t b = ts b) → post fh ft := fun e1 e2 => hpost fh ft (hth.congr e1) (htt.congr e2)
    refine ⟨fun q2 => ?_, fun q2 => ⟨fun q3 => ?_, fun q3 => ?_⟩⟩
    · rw [nI_leI (by omega) (by omega)] at q2
      exact fin (fun b hb => hrk b hb (by have := rk_n (h := hs) hb; omega)) (fun b hb => hrt b hb (by have := rk_n (h := ts) hb; omega))
    · obtain ⟨p1, p2⟩ := hfix q3
      exact fin (fun b hb => Nat.le_antisymm (hh b hb) (hs1.le (fun i hi => (hdb i hi).1) p1 b hb)) (fun b hb => Nat.le_antisymm (ht b hb) (ht1.le (fun i hi => (hdb i hi).1) p2 b hb))
    · rw [nI_leI (by omega) (by omega)] at q2
      refine ⟨fun g x fh ft => ∃ i h' t', x = nI i ∧ i ≤ k ∧ Tb k fh h' ∧ Tb k ft t' ∧ (∀ b, b < k → h b ≤ h' b ∧ h' b ≤ hs b) ∧ (∀ b, b < k → t b ≤ t' b ∧ t' b ≤ ts b) ∧ (g = 0 ∨ g = 1) ∧ (∀ a b, a < i → b < k → Ed k jb ar a b → h a + d a ≤ h' b ∧ t b + d b ≤ t' a) ∧ (g = 0 → (∀ b, b < k → h' b = h b) ∧ (∀ b, b < k → t' b = t b)), fun _ x _ _ => k - x.toNatClampNeg, ⟨0, h, t, rfl, by omega, hth, htt, fun b hb => ⟨Nat.le_refl _, hh b hb⟩, fun b hb => ⟨Nat.le_refl _, ht b hb⟩, Or.inl rfl, fun _ _ h => absurd h (by omega), fun _ => ⟨fun _ _ => rfl, fun _ _ => rfl⟩⟩, ?_⟩
      rintro g' _ fh' ft' ⟨i, h', t', rfl, hi, hth', htt', c1, c2, c3, c4, c5⟩
      refine ⟨fun q4 => ?_, fun q4 => ?_⟩
      · rw [nI_leI (by omega) (by omega)] at q4
        have e : i = k := by omega
        subst e
        refine ⟨⟨r + 1, h', t', nI_1 r, by omega, hth', htt', fun b hb => (c1 b hb).2, fun b hb => (c2 b hb).2, c3, fun b hb hrb => ?_, fun b hb hrb => ?_, fun e => ?_⟩, pz_mu (by omega) (by omega)⟩
        · refine Nat.le_antisymm (c1 b hb).2 ?_
          rcases hs1.2 b hb with e0 | ⟨a, ha2, hEa, e1⟩
          · omega
          · have d1 := (hdb a ha2).1
            have r1 := rk_lt (n := i) (h := hs) (a := a) (b := b) ha2 (by omega)
            have e2 := hrk a ha2 (by omega)
            have e3 := (c4 a b ha2 hb hEa).1
            omega
        · refine Nat.le_antisymm (c2 b hb).2 ?_
          rcases ht1.2 b hb with e0 | ⟨a, ha2, hEa, e1⟩
          · omega
          · have d1 := (hdb a ha2).1
            have r1 := rk_lt (n := i) (h := ts) (a := a) (b := b) ha2 (by omega)
            have e2 := hrt a ha2 (by omega)
            have e3 := (c4 b a hb ha2 hEa).2
            omega
        · obtain ⟨e1, e2⟩ := c5 e
          refine ⟨fun a b ha2 hb2 hEa => ?_, fun a b ha2 hb2 hEa => ?_⟩
          · have := (c4 a b ha2 hb2 hEa).1
            rw [e1 a ha2]; exact this
          · have := (c4 b a hb2 ha2 hEa).2
            rw [e2 a ha2]; exact this
      · rw [nI_leI (by omega) (by omega)] at q4
        have hik : i < k := by omega
        refine sp_X0_stretch hn hx ha hik hd (fun b hb => (hdb b hb).2) hE hth' htt' hsb hs1.1 ht1.1 (fun b hb => (c1 b hb).2) (fun b hb => (c2 b hb).2) (fun g2 fh2 ft2 h2 t2 hth2 htt2 hst => ?_)
        obtain ⟨s1, s2, s3, s4, s5, s6, s7⟩ := hst
        have core : ∀ g3 : Int32, (g3 = 0 ∨ g3 = 1) → (g3 = 0 → g' = 0 ∧ g2 = 0) → (∃ i' h'' t'', nI i + 1 = nI i' ∧ i' ≤ k ∧ Tb k fh2 h'' ∧ Tb k ft2 t'' ∧ (∀ b, b < k → h b ≤ h'' b ∧ h'' b ≤ hs b) ∧ (∀ b, b < k → t b ≤ t'' b ∧ t'' b ≤ ts b) ∧ (g3 = 0 ∨ g3 = 1) ∧ (∀ a b, a < i' → b < k → Ed k jb ar a b → h a + d a ≤ h'' b ∧ t b + d b ≤ t'' a) ∧ (g3 = 0 → (∀ b, b < k → h'' b = h b) ∧ (∀ b, b < k → t'' b = t b))) := by
          intro g3 hg3 hz3
          refine ⟨i + 1, h2, t2, nI_1 i, by omega, hth2, htt2, fun b hb => ?_, fun b hb => ?_, hg3, fun a b ha2 hb2 hEa => ?_, fun e => ?_⟩
          · have := c1 b hb; have := s1 b hb; omega
          · have := c2 b hb; have := s2 b hb; omega
          · by_cases ea : a = i
            · subst ea
              have x1 := s5 b hb2 hEa
              have x2 := c1 a hik
              have x3 := c2 b hb2
              omega
            · have x1 := c4 a b (by omega) hb2 hEa
              have x2 := s1 b hb2
              have x3 := s2 a (by omega)
              omega
          · obtain ⟨e1, e2⟩ := hz3 e
            refine ⟨fun b hb => ?_, fun b hb => ?_⟩
            · rw [(s7 e2).1 b hb, (c5 e1).1 b hb]
            · rw [(s7 e2).2 b hb, (c5 e1).2 b hb]
        refine ⟨fun e => ⟨core g' c3 (fun e' => ⟨e', e⟩), pz_mu hik (by omega)⟩, fun e => ⟨core 1 (Or.inr rfl) (fun e' => absurd e' (by decide)), pz_mu hik (by omega)⟩⟩
  · rw [nI_leI (by omega) (by omega)] at q
    have hin : vp_in (nI k) 12 := pz_inc (by omega) (by omega)
    refine ⟨hin, hin, ⟨k + 1, nI_1 k, by omega, fun i hi => ?_⟩, pz_mu (by omega) (by omega)⟩
    rw [nI_clamp (by omega)]
    by_cases e : i = k
    · subst e; rw [pk_us, pk_us]; exact ⟨rfl, rfl⟩
    · rw [pk_un e, pk_un e]; exact hz i (by omega)
