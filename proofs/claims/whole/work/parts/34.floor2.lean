/-! Floor: sums and maxima, paths -/
def mx (f : Nat → Nat) : Nat → Nat
  | 0 => 0
  | n + 1 => max (mx f n) (f n)
theorem mx_le {f : Nat → Nat} {b : Nat} : ∀ n, (∀ i, i < n → f i ≤ b) → mx f n ≤ b
  | 0, _ => Nat.zero_le _
  | n + 1, h => by
    have h1 := mx_le n (fun i hi => h i (by omega))
    have h2 := h n (by omega)
    unfold mx; omega
theorem mx_ge {f : Nat → Nat} : ∀ n i, i < n → f i ≤ mx f n
  | 0, _, h => absurd h (by omega)
  | n + 1, i, h => by
    unfold mx
    by_cases e : i = n
    · subst e; omega
    · have := mx_ge (f := f) n i (by omega)
      omega
theorem mx_at {f : Nat → Nat} : ∀ n, mx f n = 0 ∨ ∃ i, i < n ∧ mx f n = f i
  | 0 => Or.inl rfl
  | n + 1 => by
    unfold mx
    rcases Nat.le_total (mx f n) (f n) with q | q
    · exact Or.inr ⟨n, by omega, by omega⟩
    · rw [Nat.max_eq_left q]
      rcases mx_at (f := f) n with h | ⟨i, hi, h⟩
      · exact Or.inl h
      · exact Or.inr ⟨i, by omega, h⟩
theorem mx_congr {f g : Nat → Nat} : ∀ n, (∀ i, i < n → f i = g i) → mx f n = mx g n
  | 0, _ => rfl
  | n + 1, h => by
    unfold mx
    rw [mx_congr n (fun i hi => h i (by omega)), h n (by omega)]
theorem sp_X0_through {n i : Nat} {d h t : Nat → Nat} {fd fh ft : Nat → Int32} {post : Int32 → Prop} (hn : n ≤ 12) (hd : Tb n fd d) (hth : Tb n fh h) (htt : Tb n ft t) (hi : i < n) (hp : post (nI (h i + d i + t i))) : wp_X0_through fd fh ft (nI i) post := by
  unfold wp_X0_through
  have hin : vp_in (nI i) 12 := pz_inc (by omega) (by omega)
  rw [hd.get hi (by omega), hth.get hi (by omega), htt.get hi (by omega), nI_add, nI_add]
  exact ⟨hin, hin, hin, hp⟩
theorem sp_X0_longest {n : Nat} {d h t : Nat → Nat} {fd fh ft : Nat → Int32} {post : Int32 → Prop} (hn : n ≤ 12) (hd : Tb n fd d) (hth : Tb n fh h) (htt : Tb n ft t) (hb : ∀ i, i < n → h i + d i + t i ≤ 10000) (hp : post (nI (mx (fun i => h i + d i + t i) n))) : wp_X0_longest (nI n) fd fh ft post := by
  unfold wp_X0_longest
  refine ⟨fun x y => ∃ k, y = nI k ∧ k ≤ n ∧ x = nI (mx (fun i => h i + d i + t i) k), fun _ y => n - y.toNatClampNeg, ⟨0, rfl, by omega, rfl⟩, ?_⟩
  rintro _ _ ⟨k, rfl, hk, rfl⟩
  have hm : mx (fun i => h i + d i + t i) k ≤ 10000 := mx_le k (fun i hi => hb i (by omega))
  refine ⟨fun q => ?_, fun q => ?_⟩
  · rw [nI_leI (by omega) (by omega)] at q
    have e : k = n := by omega
    subst e; exact hp
  · rw [nI_leI (by omega) (by omega)] at q
    have h2 := hb k (by omega)
    refine sp_X0_through hn hd hth htt (by omega) ⟨⟨k + 1, nI_1 k, by omega, ?_⟩, pz_mu (by omega) (by omega)⟩
    rw [pz_max (by omega) (by omega)]; rfl
/-- a number is not below a bound -/
def Ge (v : Nat) (b : Int32) : Prop := ¬ nI v < b
theorem Ge.iff {v : Nat} {b : Int32} (hv : v < 2 ^ 31) : Ge v b ↔ b.toInt ≤ (v : Int) := by
  unfold Ge
  rw [Int32.lt_iff_toInt_lt, nI_toInt hv]; omega
theorem sp_X0_mustPrecede {n a b : Nat} {d h t : Nat → Nat} {fd fh ft : Nat → Int32} {below : Int32} {post : Int32 → Prop} (hn : n ≤ 12) (hd : Tb n fd d) (hth : Tb n fh h) (htt : Tb n ft t) (ha : a < n) (hb : b < n) (h1 : Ge (h b + d b + d a + t a) below → post 1) (h0 : ¬ Ge (h b + d b + d a + t a) below → post 0) : wp_X0_mustPrecede fd fh ft (nI a) (nI b) below post := by
  unfold wp_X0_mustPrecede
  have i1 : vp_in (nI a) 12 := pz_inc (by omega) (by omega)
  have i2 : vp_in (nI b) 12 := pz_inc (by omega) (by omega)
  rw [hd.get ha (by omega), hd.get hb (by omega), hth.get hb (by omega), htt.get ha (by omega), nI_add, nI_add, nI_add]
  exact ⟨i2, i2, i1, i1, fun q => h0 (fun q2 => q2 q), fun q => h1 q⟩
/-- b lies in every closed set that holds what follows a: there is a path from a to b -/
def Rc (n : Nat) (E : Nat → Nat → Prop) (a b : Nat) : Prop := ∀ S : Nat → Bool, (∀ v, v < n → E a v → S v = true) → (∀ u v, u < n → v < n → E u v → S u = true → S v = true) → S b = true
theorem cn_congr {p q : Nat → Bool} : ∀ n, (∀ i, i < n → p i = q i) → cn p n = cn q n
  | 0, _ => rfl
  | n + 1, h => by
    unfold cn
    rw [cn_congr n (fun i hi => h i (by omega)), h n (by omega)]
theorem tb_ne {a b : Nat} (h : a ≠ b) : ∃ k, a.testBit k ≠ b.testBit k := by
  refine Classical.byContradiction (fun q => h (Nat.eq_of_testBit_eq (fun k => Classical.byContradiction (fun q2 => q ⟨k, q2⟩))))
set_option maxHeartbeats 1000000 in
theorem sp_X0_leads {n a b : Nat} {jb : Nat → Nat} {ar : Nat → Nat → Bool} {fn fa : Nat → Int32} {post : Int32 → Prop} (hn : n ≤ 12) (hx : NxT n jb fn) (har : ArT n ar fa) (hbd : ∀ i k, i < n → Ed n jb ar i k → k < n) (ha : a < n) (hb : b < n) (h1 : Rc n (Ed n jb ar) a b → post 1) (h0 : ¬ Rc n (Ed n jb ar) a b → post 0) : wp_X0_leads (nI n) fn fa (nI a) (nI b) post := by
  unfold wp_X0_leads
  refine sp_X0_followers hn hx har ha (fun f hf hfb => ?_)
  -- what a set must be: it holds what follows a, and lies in every closed one
  have fin : ∀ R, R < 4096 → (∀ v, Ed n jb ar a v → R.testBit v = true) → (∀ S : Nat → Bool, (∀ v, v < n → Ed n jb ar a v → S v = true) → (∀ u v, u < n → v < n → Ed n jb ar u v → S u = true → S v = true) → ∀ v, R.testBit v = true → S v = true) → (∀ u v, u < n → R.testBit u = true → Ed n jb ar u v → R.testBit v = true) → wp_X2_isIn (nI R) (nI b) (fun (r : Int32) => (r = 0 ∨ r = 1) ∧ post r) := by
    intro R hR r1 r2 r3
    refine sp_X2_isIn (by omega) (by omega) (fun q => ⟨Or.inr rfl, h1 (fun S s1 s2 => r2 S s1 s2 b q)⟩) (fun q => ⟨Or.inl rfl, h0 (fun hr => ?_)⟩)
    have := hr (fun k => R.testBit k) (fun v _ hv => r1 v hv) (fun u v hu _ he hs => r3 u v hu hs he)
    rw [q] at this; cases this
  refine ⟨fun x y z => ∃ R Kn s, x = nI R ∧ y = nI Kn ∧ z = nI s ∧ s ≤ n ∧ R < 4096 ∧ Kn < 4096 ∧ (∀ v, Ed n jb ar a v → R.testBit v = true) ∧ (∀ S : Nat → Bool, (∀ v, v < n → Ed n jb ar a v → S v = true) → (∀ u v, u < n → v < n → Ed n jb ar u v → S u = true → S v = true) → ∀ v, R.testBit v = true → S v = true) ∧ (∀ v, R.testBit v = true → v < n) ∧ (∀ u v, u < n → Kn.testBit u = true → Ed n jb ar u v → R.testBit v = true) ∧ (Kn = R ∨ s + 1 ≤ cn (fun k => R.testBit k) n), fun _ _ z => n - z.toNatClampNeg, ?_, ?_⟩
  · refine ⟨f, 0, 0, rfl, rfl, rfl, by omega, hf, by omega, fun v hv => (hfb v).mpr hv, fun S s1 _ v hv => s1 v (hbd a v ha ((hfb v).mp hv)) ((hfb v).mp hv), fun v hv => hbd a v ha ((hfb v).mp hv), fun u v _ hu => ?_, ?_⟩
    · rw [Nat.zero_testBit] at hu; cases hu
    · by_cases e : f = 0
      · exact Or.inl e.symm
      · obtain ⟨k, hk⟩ := tb_ne e
        rw [Nat.zero_testBit] at hk
        have hk1 : f.testBit k = true := by cases q : f.testBit k
                                            · exact absurd q hk
                                            · rfl
        have hkn := hbd a k ha ((hfb k).mp hk1)
        have h2 : cn (fun _ => false) n < cn (fun k => f.testBit k) n := cn_lt n (fun _ _ q => by cases q) ⟨k, hkn, hk1, rfl⟩
        exact Or.inr (by omega)
  · rintro _ _ _ ⟨R, Kn, s, rfl, rfl, rfl, hs, hR, hK, r1, r2, r3, r4, r5⟩
    have same : Kn = R → wp_X2_isIn (nI R) (nI b) (fun (r : Int32) => (r = 0 ∨ r = 1) ∧ post r) := fun e => fin R hR r1 r2 (fun u v hu hb2 he => r4 u v hu (by rw [e]; exact hb2) he)
    refine ⟨fun q => same ?_, fun q => ⟨fun q2 => same ?_, fun q2 => ?_⟩⟩
    · rw [nI_leI (by omega) (by omega)] at q
      rcases r5 with e | e
      · exact e
      · have := cn_bd (fun k => R.testBit k) n
        omega
    · exact (nI_eq (by omega) (by omega)).mp q2
    · rw [nI_leI (by omega) (by omega)] at q
      have hne : Kn ≠ R := fun e => q2 (by rw [e])
      have hcn : s + 1 ≤ cn (fun k => R.testBit k) n := r5.resolve_left hne
      refine ⟨fun x y => ∃ R' i, x = nI R' ∧ y = nI i ∧ i ≤ n ∧ R' < 4096 ∧ (∀ v, R.testBit v = true → R'.testBit v = true) ∧ (∀ S : Nat → Bool, (∀ v, v < n → Ed n jb ar a v → S v = true) → (∀ u v, u < n → v < n → Ed n jb ar u v → S u = true → S v = true) → ∀ v, R'.testBit v = true → S v = true) ∧ (∀ v, R'.testBit v = true → v < n) ∧ (∀ u v, u < i → R.testBit u = true → Ed n jb ar u v → R'.testBit v = true), fun _ y => n - y.toNatClampNeg, ⟨R, 0, rfl, rfl, by omega, hR, fun _ h => h, r2, r3, fun _ _ h => absurd h (by omega)⟩, ?_⟩
      rintro _ _ ⟨R', i, rfl, rfl, hi, hR', t1, t2, t3, t4⟩
      refine ⟨fun q3 => ?_, fun q3 => ?_⟩
      · rw [nI_leI (by omega) (by omega)] at q3
        have e : i = n := by omega
        subst e
        refine ⟨⟨R', R, s + 1, rfl, rfl, nI_1 s, by omega, hR', hR, fun v hv => t1 v (r1 v hv), t2, t3, t4, ?_⟩, pz_mu (by omega) (by omega)⟩
        by_cases e : R = R'
        · exact Or.inl e
        · obtain ⟨k, hk⟩ := tb_ne e
          have hk1 : R'.testBit k = true ∧ R.testBit k = false := by
            cases q4 : R.testBit k
            · rw [q4] at hk
              cases q5 : R'.testBit k
              · rw [q5] at hk; exact absurd rfl hk
              · exact ⟨rfl, rfl⟩
            · rw [q4, t1 k q4] at hk; exact absurd rfl hk
          have h2 : cn (fun k => R.testBit k) i < cn (fun k => R'.testBit k) i := cn_lt i (fun k _ h => t1 k h) ⟨k, t3 k hk1.1, hk1.1, hk1.2⟩
          exact Or.inr (by omega)
      · rw [nI_leI (by omega) (by omega)] at q3
        refine sp_X2_isIn (by omega) (by omega) (fun hbit => ⟨fun e => absurd e (by decide), fun _ => ?_⟩) (fun hbit => ⟨fun _ => ?_, fun e => absurd rfl e⟩)
        · refine sp_X0_followers hn hx har (by omega) (fun f2 hf2 hfb2 => ?_)
          rw [pz_or (by omega) (by omega)]
          refine ⟨⟨R' ||| f2, i + 1, rfl, nI_1 i, by omega, pz_or12 hR' hf2, fun v hv => by rw [Nat.testBit_or, t1 v hv]; rfl, fun S s1 s2 v hv => ?_, fun v hv => ?_, fun u v hu hub he => ?_⟩, pz_mu (by omega) (by omega)⟩
          · rw [Nat.testBit_or, Bool.or_eq_true] at hv
            rcases hv with hv | hv
            · exact t2 S s1 s2 v hv
            · have he := (hfb2 v).mp hv
              exact s2 i v (by omega) (hbd i v (by omega) he) he (r2 S s1 s2 i hbit)
          · rw [Nat.testBit_or, Bool.or_eq_true] at hv
            rcases hv with hv | hv
            · exact t3 v hv
            · exact hbd i v (by omega) ((hfb2 v).mp hv)
          · rw [Nat.testBit_or, Bool.or_eq_true]
            by_cases e : u = i
            · subst e; exact Or.inr ((hfb2 v).mpr he)
            · exact Or.inl (t4 u v (by omega) hub he)
        · refine ⟨⟨R', i + 1, rfl, nI_1 i, by omega, hR', t1, t2, t3, fun u v hu hub he => ?_⟩, pz_mu (by omega) (by omega)⟩
          by_cases e : u = i
          · subst e; rw [hbit] at hub; cases hub
          · exact t4 u v (by omega) hub he
