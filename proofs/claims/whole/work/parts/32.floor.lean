/-! Floor: arcs, next ones, followers, heads and tails -/
/-- k is the next one of i in its job -/
def Nx (n : Nat) (jb : Nat → Nat) (i k : Nat) : Prop := i < k ∧ k < n ∧ jb k = jb i ∧ ∀ m, i < m → m < k → jb m ≠ jb i
def Ed (n : Nat) (jb : Nat → Nat) (ar : Nat → Nat → Bool) (i k : Nat) : Prop := ar i k = true ∨ Nx n jb i k
/-- the row of next ones -/
def NxT (n : Nat) (jb : Nat → Nat) (f : Nat → Int32) : Prop := ∀ i, i < n → (f i = (-1) ∧ ∀ k, ¬ Nx n jb i k) ∨ ∃ k, Nx n jb i k ∧ f i = nI k
/-- the row of arcs: a set of places each -/
def ArT (n : Nat) (ar : Nat → Nat → Bool) (f : Nat → Int32) : Prop := ∀ i, i < n → ∃ m, m < 4096 ∧ f i = nI m ∧ ∀ k, m.testBit k = ar i k
theorem Nx.uniq {n : Nat} {jb : Nat → Nat} {i k k' : Nat} (h : Nx n jb i k) (h' : Nx n jb i k') : k = k' := by
  obtain ⟨a1, a2, a3, a4⟩ := h
  obtain ⟨b1, b2, b3, b4⟩ := h'
  rcases Nat.lt_trichotomy k k' with q | q | q
  · exact absurd a3 (b4 k a1 q)
  · exact q
  · exact absurd b3 (a4 k' b1 q)
theorem pz_tp {k : Nat} (hk : k < 12) : 2 ^ k < 4096 := by
  have : 2 ^ k < 2 ^ 12 := Nat.pow_lt_pow_right (by decide) hk
  omega
theorem pz_or12 {a b : Nat} (ha : a < 4096) (hb : b < 4096) : a ||| b < 4096 := Nat.or_lt_two_pow (n := 12) ha hb
theorem pz_big {m k : Nat} (hm : m < 4096) (h : m.testBit k = true) : k < 12 := by
  rcases Nat.lt_or_ge k 12 with q | q
  · exact q
  · have h1 := Nat.testBit_lt_two_pow (x := m) (i := k) (Nat.lt_of_lt_of_le hm (by
      have : 2 ^ 12 ≤ 2 ^ k := Nat.pow_le_pow_right (by decide) q
      omega))
    rw [h1] at h; cases h
theorem sp_X0_followers {n i : Nat} {jb : Nat → Nat} {ar : Nat → Nat → Bool} {fn fa : Nat → Int32} {post : Int32 → Prop} (hn : n ≤ 12) (hx : NxT n jb fn) (ha : ArT n ar fa) (hi : i < n) (h : ∀ f, f < 4096 → (∀ k, f.testBit k = true ↔ Ed n jb ar i k) → post (nI f)) : wp_X0_followers fn fa (nI i) post := by
  unfold wp_X0_followers
  have hin : vp_in (nI i) 12 := pz_inc (by omega) (by omega)
  rw [nI_clamp (by omega)]
  obtain ⟨m, hm, e1, hb⟩ := ha i hi
  refine ⟨hin, fun q => ⟨hin, hin, ?_⟩, fun q => ⟨hin, ?_⟩⟩
  · rcases hx i hi with ⟨e, -⟩ | ⟨k, hk, e⟩
    · exact absurd e q
    · have hk12 : k < 12 := by have := hk.2.1; omega
      have h2 := pz_tp hk12
      rw [e, pz_one (by omega), e1, pz_or (by omega) (by omega)]
      refine h _ (pz_or12 hm h2) (fun k' => ?_)
      rw [Nat.testBit_or, hb k', Nat.testBit_two_pow]
      simp only [Bool.or_eq_true, decide_eq_true_eq, Ed]
      constructor
      · rintro (q2 | rfl)
        · exact Or.inl q2
        · exact Or.inr hk
      · rintro (q2 | q2)
        · exact Or.inl q2
        · exact Or.inr (hk.uniq q2)
  · rcases hx i hi with ⟨e, hno⟩ | ⟨k, hk, e⟩
    · rw [e1]
      refine h m hm (fun k' => ?_)
      rw [hb k']
      exact ⟨Or.inl, fun q2 => q2.elim id (fun q3 => absurd q3 (hno k'))⟩
    · have := hk.2.1
      rw [e] at q
      exact absurd q (pz_ne1 (by omega))
theorem sp_X0_hasArc {n a b : Nat} {ar : Nat → Nat → Bool} {fa : Nat → Int32} {post : Int32 → Prop} (hn : n ≤ 12) (ha : ArT n ar fa) (hi : a < n) (hk : b < 12) (h1 : ar a b = true → post 1) (h0 : ar a b = false → post 0) : wp_X0_hasArc fa (nI a) (nI b) post := by
  unfold wp_X0_hasArc
  obtain ⟨m, hm, e1, hb⟩ := ha a hi
  rw [nI_clamp (by omega), e1]
  refine ⟨pz_inc (by omega) (by omega), sp_X2_isIn (by omega) (by omega) (fun q => ⟨Or.inr rfl, h1 ?_⟩) (fun q => ⟨Or.inl rfl, h0 ?_⟩)⟩
  · rw [← hb b]; exact q
  · rw [← hb b]; exact q
theorem sp_X0_isTied {n a b : Nat} {ar : Nat → Nat → Bool} {fa : Nat → Int32} {post : Int32 → Prop} (hn : n ≤ 12) (ha : ArT n ar fa) (hi : a < n) (hk : b < n) (h1 : (ar a b = true ∨ ar b a = true) → post 1) (h0 : ar a b = false → ar b a = false → post 0) : wp_X0_isTied fa (nI a) (nI b) post := by
  unfold wp_X0_isTied
  refine sp_X0_hasArc hn ha hi (by omega) (fun q => ⟨fun _ => h1 (Or.inl q), fun q2 => absurd q2 (by decide)⟩) (fun q => ⟨fun q2 => absurd rfl q2, fun _ => ?_⟩)
  exact sp_X0_hasArc hn ha hk (by omega) (fun q2 => ⟨fun q3 => absurd q3 (by decide), fun _ => h1 (Or.inr q2)⟩) (fun q2 => ⟨fun _ => h0 q q2, fun q3 => absurd rfl q3⟩)
theorem sp_X0_visits {n : Nat} {jb mc : Nat → Nat} {fj fm : Nat → Int32} {j m : Nat} {post : Int32 → Prop} (hn : n ≤ 12) (hj : Tb n fj jb) (hm : Tb n fm mc) (hjb : ∀ i, i < n → jb i < 4) (hmb : ∀ i, i < n → mc i < 4) (hj4 : j < 4) (hm4 : m < 4) (h1 : (∃ i, i < n ∧ jb i = j ∧ mc i = m) → post 1) (h0 : (¬ ∃ i, i < n ∧ jb i = j ∧ mc i = m) → post 0) : wp_X0_visits (nI n) fj fm (nI j) (nI m) post := by
  unfold wp_X0_visits
  refine ⟨fun x => ∃ k, x = nI k ∧ k ≤ n ∧ ∀ i, i < k → ¬ (jb i = j ∧ mc i = m), fun x => n - x.toNatClampNeg, ⟨0, rfl, by omega, fun i hi => absurd hi (by omega)⟩, ?_⟩
  rintro _ ⟨k, rfl, hk, hno⟩
  refine ⟨fun q => h0 ?_, fun q => ?_⟩
  · rw [nI_leI (by omega) (by omega)] at q
    rintro ⟨i, hi, e⟩
    exact hno i (by omega) e
  · rw [nI_leI (by omega) (by omega)] at q
    have hin : vp_in (nI k) 12 := pz_inc (by omega) (by omega)
    have b1 := hjb k (by omega)
    have b2 := hmb k (by omega)
    have step : ¬ (jb k = j ∧ mc k = m) → (∃ k', nI k + 1 = nI k' ∧ k' ≤ n ∧ ∀ i, i < k' → ¬ (jb i = j ∧ mc i = m)) ∧ n - (nI k + 1).toNatClampNeg < n - (nI k).toNatClampNeg := by
      intro hx
      refine ⟨⟨k + 1, nI_1 k, by omega, fun i hi => ?_⟩, pz_mu (by omega) (by omega)⟩
      by_cases e : i = k
      · subst e; exact hx
      · exact hno i (by omega)
    rw [hj.get (by omega) (by omega), hm.get (by omega) (by omega)]
    refine ⟨hin, fun q2 => step ?_, fun q2 => ⟨hin, fun q3 => step ?_, fun q3 => h1 ?_⟩⟩
    · rintro ⟨e, -⟩; exact q2 (by rw [e])
    · rintro ⟨-, e⟩; exact q3 (by rw [e])
    · rw [nI_eq (by omega) (by omega)] at q2 q3
      exact ⟨k, by omega, q2, q3⟩
