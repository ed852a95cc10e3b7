/-! The reference: load -/
def mnb (f : Nat → Nat) (s : Nat) : Nat → Nat
  | 0 => 1000
  | i + 1 => if s.testBit i = true then min (mnb f s i) (f i) else mnb f s i
theorem mnb_le {f : Nat → Nat} {s : Nat} : ∀ i, mnb f s i ≤ 1000
  | 0 => Nat.le_refl _
  | i + 1 => by
    have := mnb_le (f := f) (s := s) i
    unfold mnb; split <;> omega
theorem mnb_lo {f : Nat → Nat} {s : Nat} : ∀ i k, k < i → s.testBit k = true → mnb f s i ≤ f k
  | 0, _, h, _ => absurd h (by omega)
  | i + 1, k, h, hk => by
    unfold mnb
    by_cases e : k = i
    · subst e; rw [if_pos hk]; omega
    · have := mnb_lo (f := f) (s := s) i k (by omega) hk
      split <;> omega
theorem mnb_ge {f : Nat → Nat} {s l : Nat} (hl : l ≤ 1000) : ∀ i, (∀ k, k < i → s.testBit k = true → l ≤ f k) → l ≤ mnb f s i
  | 0, _ => hl
  | i + 1, h => by
    have := mnb_ge (f := f) (s := s) hl i (fun k hk => h k (by omega))
    unfold mnb
    by_cases e : s.testBit i = true
    · rw [if_pos e]; have := h i (by omega) e; omega
    · rw [if_neg e]; exact this
/-- the sum over a set -/
def sms (d : Nat → Nat) (s : Nat) (i : Nat) : Nat := sm (fun k => if s.testBit k = true then d k else 0) i
theorem sms_bd {d : Nat → Nat} {s n : Nat} (hn : n ≤ 12) (hd : ∀ i, i < n → d i ≤ 50) : ∀ k, k ≤ n → sms d s k ≤ 600 := fun k hk => by
  have h1 := sm_le (f := fun i => if s.testBit i = true then d i else 0) (b := 50) k (fun i hi => by
    have := hd i (by omega)
    by_cases q : s.testBit i = true
    · rw [if_pos q]; exact this
    · rw [if_neg q]; omega)
  unfold sms; omega
theorem msk (T : Nat → Bool) : ∀ n, ∃ s, s < 2 ^ n ∧ ∀ i, s.testBit i = (T i && decide (i < n))
  | 0 => ⟨0, by decide, fun i => by rw [Nat.zero_testBit]; simp⟩
  | n + 1 => by
    obtain ⟨s, hs, ht⟩ := msk T n
    cases q : T n
    · refine ⟨s, by rw [Nat.pow_succ]; omega, fun i => ?_⟩
      rw [ht i]
      by_cases e : i = n
      · subst e; simp [q]
      · have : decide (i < n) = decide (i < n + 1) := by
          by_cases e2 : i < n
          · simp [e2]; omega
          · simp [e2]; omega
        rw [this]
    · refine ⟨s ||| 2 ^ n, Nat.or_lt_two_pow (by rw [Nat.pow_succ]; omega) (Nat.pow_lt_pow_right (by decide) (by omega)), fun i => ?_⟩
      rw [Nat.testBit_or, ht i, Nat.testBit_two_pow]
      by_cases e : i = n
      · subst e; simp [q]
      · have e3 : ¬ n = i := fun x => e x.symm
        have : decide (i < n) = decide (i < n + 1) := by
          by_cases e2 : i < n
          · simp [e2]; omega
          · simp [e2]; omega
        rw [this]; simp [e3]
def ldI (n : Nat) (mc d h t : Nat → Nat) (m s : Nat) (x4 x5 x6 x7 x8 : Int32) : Prop :=
  ∃ i, x8 = nI i ∧ i ≤ n ∧ x4 = nI (mnb h s i) ∧ x5 = nI (mnb t s i) ∧ x6 = nI (sms d s i) ∧ ((x7 = 0 ∧ ∃ k, k < i ∧ s.testBit k = true ∧ mc k ≠ m) ∨ (x7 = 1 ∧ ∀ k, k < i → s.testBit k = true → mc k = m))
def ldM (n : Nat) (_ _ _ _ x8 : Int32) : Nat := n - x8.toNatClampNeg
theorem ld_blk {n i A B C M : Nat} {h t d : Nat → Nat} {fd fh ft : Nat → Int32} {c : Int32} {I : Int32 → Int32 → Int32 → Int32 → Int32 → Prop} {μ : Int32 → Int32 → Int32 → Int32 → Int32 → Nat} (hn : n ≤ 12) (hi : i < n) (hd : Tb n fd d) (hth : Tb n fh h) (htt : Tb n ft t) (hb : h i ≤ 1000 ∧ t i ≤ 1000) (hA : A ≤ 1000) (hB : B ≤ 1000)
    (hI : I (nI (min A (h i))) (nI (min B (t i))) (nI (C + d i)) c (nI i + 1)) (hμ : ∀ p q r, μ p q r c (nI i + 1) < M) :
    vp_in (nI i) 12 ∧ (∃ (J : Int32 → Prop), (∀ (y : Int32), J y → (vp_in (nI i) 12 ∧ ((nI B ≤ (ft (nI i).toNatClampNeg) → vp_in (nI i) 12 ∧ (I y (nI B) (nI C + (fd (nI i).toNatClampNeg)) c (nI i + 1) ∧ μ y (nI B) (nI C + (fd (nI i).toNatClampNeg)) c (nI i + 1) < M)) ∧ (¬ nI B ≤ (ft (nI i).toNatClampNeg) → vp_in (nI i) 12 ∧ (vp_in (nI i) 12 ∧ (I y (ft (nI i).toNatClampNeg) (nI C + (fd (nI i).toNatClampNeg)) c (nI i + 1) ∧ μ y (ft (nI i).toNatClampNeg) (nI C + (fd (nI i).toNatClampNeg)) c (nI i + 1) < M)))))) ∧ ((nI A ≤ (fh (nI i).toNatClampNeg) → J (nI A)) ∧ (¬ nI A ≤ (fh (nI i).toNatClampNeg) → vp_in (nI i) 12 ∧ (J (fh (nI i).toNatClampNeg))))) := by
  have hin : vp_in (nI i) 12 := pz_inc (by omega) (by omega)
  rw [hd.get hi (by omega), hth.get hi (by omega), htt.get hi (by omega), nI_add]
  refine ⟨hin, fun y => y = nI (min A (h i)), ?_, fun q => ?_, fun q => ⟨hin, ?_⟩⟩
  · rintro _ rfl
    refine ⟨hin, fun q => ⟨hin, ?_, hμ _ _ _⟩, fun q => ⟨hin, hin, ?_, hμ _ _ _⟩⟩
    · rw [nI_leI (by omega) (by omega)] at q
      rw [Nat.min_eq_left q] at hI; exact hI
    · rw [nI_leI (by omega) (by omega)] at q
      rw [Nat.min_eq_right (a := B) (by omega)] at hI; exact hI
  · rw [nI_leI (by omega) (by omega)] at q
    rw [Nat.min_eq_left q]
  · rw [nI_leI (by omega) (by omega)] at q
    rw [Nat.min_eq_right (by omega)]
set_option maxHeartbeats 2000000 in
theorem sp_X3_load {n nj m : Nat} {jb mc d hs ts : Nat → Nat} {ar : Nat → Nat → Bool} {fj fm fd fh ft fb : Nat → Int32} {post : Int32 → (Nat → Int32) → (Nat → Int32) → Prop} (S : Shop n nj jb mc d ar) (hj : Tb n fj jb) (hm : Tb n fm mc) (hd : Tb n fd d) (hM : MT ar fb) (hh : IsH n (Ed n jb ar) d hs) (ht : IsH n (Rv (Ed n jb ar)) d ts) (hm4 : m < 4)
    (hp : ∀ v fh' ft', v ≤ 2600 → IsLd n mc d hs ts m v → Tb n fh' hs → Tb n ft' ts → post (nI v) fh' ft') : wp_X3_load (nI n) fj fm fd fb fh ft (nI m) post := by
  have S0 := S
  obtain ⟨hn, h2, h3, h4, h5, h6, h7, h8⟩ := S
  have bd : ∀ i, i < n → hs i ≤ 600 ∧ ts i ≤ 600 := fun i hi => by
    have a1 := hh.bd hn h5 hi
    have a2 := ht.bd hn h5 hi
    omega
  unfold wp_X3_load
  refine sp_X3_in (fun _ => ⟨fun _ => ?_, fun q => absurd q (by decide)⟩) (fun q => absurd ⟨nI_pos (by omega), ?_⟩ q)
  · refine sp_X3_look S0 hj hd hM hh ht (fun fh ft hth htt => ?_)
    have p12 : 2 ^ n ≤ 4096 := by
      have : 2 ^ n ≤ 2 ^ 12 := Nat.pow_le_pow_right (by decide) hn
      omega
    rw [pz_one (by omega)]
    refine ⟨fun x y => ∃ v s, x = nI v ∧ y = nI s ∧ 1 ≤ s ∧ s ≤ 2 ^ n ∧ v ≤ 2600 ∧ (∀ s', 1 ≤ s' → s' < s → (∀ k, k < n → s'.testBit k = true → mc k = m) → mnb hs s' n + sms d s' n + mnb ts s' n ≤ v) ∧ (v = 0 ∨ ∃ s', 1 ≤ s' ∧ s' < 2 ^ n ∧ (∀ k, k < n → s'.testBit k = true → mc k = m) ∧ v = mnb hs s' n + sms d s' n + mnb ts s' n), fun _ y => 2 ^ n - y.toNatClampNeg, ⟨0, 1, rfl, rfl, by omega, Nat.one_le_two_pow, by omega, fun s' a b => absurd b (by omega), Or.inl rfl⟩, ?_⟩
    rintro _ _ ⟨v, s, rfl, rfl, hs1, hs2, hv, g1, g2⟩
    refine ⟨fun q => ?_, fun q => ?_⟩
    · rw [nI_leI (by omega) (by omega)] at q
      have e : s = 2 ^ n := by omega
      subst e
      refine hp v fh ft hv ⟨fun T lh lt hT hne => ?_, ?_⟩ hth htt
      · obtain ⟨s', hs', hb'⟩ := msk T n
        obtain ⟨i, hi⟩ := hne
        have hTi := hT i hi
        have hbi : s'.testBit i = true := by rw [hb' i, hi]; simp [hTi.1]
        have h1 : 1 ≤ s' := by
          rcases Nat.eq_zero_or_pos s' with e | e
          · rw [e, Nat.zero_testBit] at hbi; cases hbi
          · exact e
        have hk : ∀ k, k < n → s'.testBit k = true → T k = true := fun k hk hb => by
          rw [hb' k] at hb
          simp only [Bool.and_eq_true] at hb
          exact hb.1
        have g3 := g1 s' h1 hs' (fun k hk1 hk2 => (hT k (hk k hk1 hk2)).2.1)
        have bi := bd i hTi.1
        have m1 : lh ≤ mnb hs s' n := mnb_ge (by omega) n (fun k hk1 hk2 => (hT k (hk k hk1 hk2)).2.2.1)
        have m2 : lt ≤ mnb ts s' n := mnb_ge (by omega) n (fun k hk1 hk2 => (hT k (hk k hk1 hk2)).2.2.2)
        have m3 : sm (fun i => if T i = true then d i else 0) n ≤ sms d s' n := by
          refine sm_mono n (fun k hk1 => ?_)
          by_cases e : T k = true
          · rw [if_pos e, if_pos (by rw [hb' k, e]; simp [hk1])]; exact Nat.le_refl _
          · rw [if_neg e]; exact Nat.zero_le _
        omega
      · rcases g2 with e | ⟨s', h1, h2', h3', e⟩
        · exact Or.inl e
        · refine Or.inr ⟨fun k => s'.testBit k && decide (k < n), mnb hs s' n, mnb ts s' n, fun k hk => ?_, ?_, ?_⟩
          · simp only [Bool.and_eq_true, decide_eq_true_eq] at hk
            exact ⟨hk.2, h3' k hk.2 hk.1, mnb_lo n k hk.2 hk.1, mnb_lo n k hk.2 hk.1⟩
          · obtain ⟨k, hk⟩ := tb_ne (a := s') (b := 0) (by omega)
            rw [Nat.zero_testBit] at hk
            have hk1 : s'.testBit k = true := by cases q4 : s'.testBit k
                                                 · exact absurd q4 hk
                                                 · rfl
            have hkn : k < n := by
              rcases Nat.lt_or_ge k n with q5 | q5
              · exact q5
              · have := Nat.testBit_lt_two_pow (x := s') (i := k) (Nat.lt_of_lt_of_le h2' (Nat.pow_le_pow_right (by decide) q5))
                rw [this] at hk1; cases hk1
            exact ⟨k, by simp [hk1, hkn]⟩
          · rw [e]
            unfold sms
            rw [sm_congr n (fun k hk => ?_)]
            by_cases e2 : s'.testBit k = true
            · rw [if_pos e2, if_pos (by simp [e2, hk])]
            · rw [if_neg e2, if_neg (by simp [e2])]
    · rw [nI_leI (by omega) (by omega)] at q
      have hs3 : s < 2 ^ n := by omega
      have mus : 2 ^ n - (nI s + 1).toNatClampNeg < 2 ^ n - (nI s).toNatClampNeg := by
        rw [nI_1, nI_clamp (by omega), nI_clamp (by omega)]; omega
      refine ⟨ldI n mc d hs ts m s, ldM n, ⟨0, rfl, by omega, rfl, rfl, rfl, Or.inr ⟨rfl, fun k hk => absurd hk (by omega)⟩⟩, ?_⟩
      rintro _ _ _ x7 _ ⟨i, rfl, hi, rfl, rfl, rfl, hall⟩
      have sb := sms_bd (s := s) hn (fun i hi => (h5 i hi).2) i hi
      have mb1 := mnb_le (f := hs) (s := s) i
      have mb2 := mnb_le (f := ts) (s := s) i
      refine ⟨fun q2 => ?_, fun q2 => ?_⟩
      · rw [nI_leI (by omega) (by omega)] at q2
        have e : i = n := by omega
        subst e
        refine ⟨fun q3 => ?_, fun q3 => ?_⟩
        · rcases hall with ⟨-, k, hk1, hk2, hk3⟩ | ⟨e, -⟩
          · refine ⟨⟨v, s + 1, rfl, nI_1 s, by omega, by omega, hv, fun s' a b c => ?_, g2⟩, mus⟩
            by_cases e : s' = s
            · subst e; exact absurd (c k hk1 hk2) hk3
            · exact g1 s' a (by omega) c
          · rw [e] at q3; exact absurd q3 (by decide)
        · rcases hall with ⟨e, -⟩ | ⟨-, hal⟩
          · exact absurd e q3
          · rw [nI_add, nI_add]
            refine ⟨fun q4 => ⟨⟨v, s + 1, rfl, nI_1 s, by omega, by omega, hv, fun s' a b c => ?_, g2⟩, mus⟩, fun q4 => ⟨⟨mnb hs s i + sms d s i + mnb ts s i, s + 1, rfl, nI_1 s, by omega, by omega, by omega, fun s' a b c => ?_, Or.inr ⟨s, hs1, hs3, hal, rfl⟩⟩, mus⟩⟩
            · rw [nI_leI (by omega) (by omega)] at q4
              by_cases e : s' = s
              · subst e; exact q4
              · exact g1 s' a (by omega) c
            · rw [nI_leI (by omega) (by omega)] at q4
              by_cases e : s' = s
              · subst e; exact Nat.le_refl _
              · have := g1 s' a (by omega) c
                omega
      · rw [nI_leI (by omega) (by omega)] at q2
        have hi2 : i < n := by omega
        have bi := bd i hi2
        have mci := h4 i hi2
        have hin : vp_in (nI i) 12 := pz_inc (by omega) (by omega)
        rw [pz_bit1 (by omega) (by omega)]
        refine ⟨fun q3 => ⟨⟨i + 1, nI_1 i, by omega, ?_, ?_, ?_, ?_⟩, pz_mu hi2 (by omega)⟩, fun q3 => ?_⟩
        · rw [show mnb hs s (i + 1) = mnb hs s i from by show (if _ then _ else _) = _; rw [if_neg q3]]
        · rw [show mnb ts s (i + 1) = mnb ts s i from by show (if _ then _ else _) = _; rw [if_neg q3]]
        · rw [show sms d s (i + 1) = sms d s i from by show sms d s i + (if _ then _ else _) = _; rw [if_neg q3]; rfl]
        · rcases hall with ⟨e, k, hk1, hk2, hk3⟩ | ⟨e, hal⟩
          · exact Or.inl ⟨e, k, by omega, hk2, hk3⟩
          · refine Or.inr ⟨e, fun k hk1 hk2 => ?_⟩
            by_cases e2 : k = i
            · subst e2; exact absurd hk2 q3
            · exact hal k (by omega) hk2
        · have step : ∀ c : Int32, ((c = 0 ∧ ∃ k, k < i + 1 ∧ s.testBit k = true ∧ mc k ≠ m) ∨ (c = 1 ∧ ∀ k, k < i + 1 → s.testBit k = true → mc k = m)) → ldI n mc d hs ts m s (nI (min (mnb hs s i) (hs i))) (nI (min (mnb ts s i) (ts i))) (nI (sms d s i + d i)) c (nI i + 1) := by
            intro c hc
            refine ⟨i + 1, nI_1 i, by omega, ?_, ?_, ?_, hc⟩
            · rw [show mnb hs s (i + 1) = min (mnb hs s i) (hs i) from by show (if _ then _ else _) = _; rw [if_pos q3]]
            · rw [show mnb ts s (i + 1) = min (mnb ts s i) (ts i) from by show (if _ then _ else _) = _; rw [if_pos q3]]
            · rw [show sms d s (i + 1) = sms d s i + d i from by show sms d s i + (if _ then _ else _) = _; rw [if_pos q3]]
          have lm : ∀ (p q r c : Int32), ldM n p q r c (nI i + 1) < ldM n (nI (mnb hs s i)) (nI (mnb ts s i)) (nI (sms d s i)) x7 (nI i) := fun _ _ _ _ => pz_mu hi2 (by omega)
          refine ⟨fun q4 => ?_, fun q4 => ⟨hin, fun q5 => ?_, fun q5 => ?_⟩⟩
          · refine ld_blk hn hi2 hd hth htt ⟨by omega, by omega⟩ mb1 mb2 (step 0 ?_) (fun p q r => lm p q r 0)
            rcases hall with ⟨-, k, hk1, hk2, hk3⟩ | ⟨e, -⟩
            · exact Or.inl ⟨rfl, k, by omega, hk2, hk3⟩
            · rw [e] at q4; exact absurd q4 (by decide)
          · refine ld_blk hn hi2 hd hth htt ⟨by omega, by omega⟩ mb1 mb2 (step 0 (Or.inl ⟨rfl, i, by omega, q3, fun e => q5 ?_⟩)) (fun p q r => lm p q r 0)
            rw [hm.get hi2 (by omega), e]
          · refine ld_blk hn hi2 hd hth htt ⟨by omega, by omega⟩ mb1 mb2 (step 1 (Or.inr ⟨rfl, fun k hk1 hk2 => ?_⟩)) (fun p q r => lm p q r 1)
            rw [hm.get hi2 (by omega), nI_eq (by omega) (by omega)] at q5
            rcases hall with ⟨e, -⟩ | ⟨-, hal⟩
            · exact absurd e q4
            · by_cases e2 : k = i
              · subst e2; exact q5
              · exact hal k (by omega) hk2
  · have e : (3 : Int32) = nI 3 := rfl
    rw [e, nI_ltI (by omega) (by omega)]; omega
