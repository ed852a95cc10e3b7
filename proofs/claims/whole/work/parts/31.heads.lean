/-! Counts and sums below n; potentials, heads, tails -/
def cn (p : Nat → Bool) : Nat → Nat
  | 0 => 0
  | n + 1 => cn p n + (if p n then 1 else 0)
def sm (f : Nat → Nat) : Nat → Nat
  | 0 => 0
  | n + 1 => sm f n + f n
theorem cn_bd (p : Nat → Bool) : ∀ n, cn p n ≤ n
  | 0 => Nat.le_refl _
  | n + 1 => by
    have := cn_bd p n
    unfold cn; split <;> omega
theorem cn_mono {p q : Nat → Bool} : ∀ n, (∀ i, i < n → p i = true → q i = true) → cn p n ≤ cn q n
  | 0, _ => Nat.le_refl _
  | n + 1, h => by
    have h1 := cn_mono n (fun i hi => h i (by omega))
    have h2 := h n (by omega)
    unfold cn
    by_cases hp : p n = true
    · simp [hp, h2 hp]; exact h1
    · simp [hp]; omega
theorem cn_lt {p q : Nat → Bool} : ∀ n, (∀ i, i < n → p i = true → q i = true) → (∃ i, i < n ∧ q i = true ∧ p i = false) → cn p n < cn q n
  | 0, _, ⟨i, hi, _⟩ => absurd hi (by omega)
  | n + 1, h, ⟨i, hi, h3, h4⟩ => by
    have h1 := cn_mono n (fun i hi => h i (by omega))
    have h2 := h n (by omega)
    unfold cn
    by_cases e : i = n
    · subst e
      simp [h3, h4]; omega
    · have h5 := cn_lt n (fun i hi => h i (by omega)) ⟨i, by omega, h3, h4⟩
      by_cases hp : p n = true
      · simp [hp, h2 hp]; exact h5
      · simp [hp]; omega
theorem cn_ltn {p : Nat → Bool} {n : Nat} (h : ∃ i, i < n ∧ p i = false) : cn p n < n := by
  obtain ⟨i, hi, hp⟩ := h
  have h1 : cn p n < cn (fun _ => true) n := cn_lt n (fun _ _ _ => rfl) ⟨i, hi, rfl, hp⟩
  exact Nat.lt_of_lt_of_le h1 (cn_bd _ n)
theorem sm_mono {f g : Nat → Nat} : ∀ n, (∀ i, i < n → f i ≤ g i) → sm f n ≤ sm g n
  | 0, _ => Nat.le_refl _
  | n + 1, h => by
    have h1 := sm_mono n (fun i hi => h i (by omega))
    have h2 := h n (by omega)
    unfold sm; omega
theorem sm_lt {f g : Nat → Nat} : ∀ n, (∀ i, i < n → f i ≤ g i) → (∃ i, i < n ∧ f i < g i) → sm f n < sm g n
  | 0, _, ⟨i, hi, _⟩ => absurd hi (by omega)
  | n + 1, h, ⟨i, hi, h3⟩ => by
    have h1 := sm_mono n (fun i hi => h i (by omega))
    have h2 := h n (by omega)
    unfold sm
    by_cases e : i = n
    · subst e; omega
    · have h5 := sm_lt n (fun i hi => h i (by omega)) ⟨i, by omega, h3⟩
      omega
theorem sm_add {f g : Nat → Nat} {i d : Nat} : ∀ n, i < n → (∀ k, k < n → k ≠ i → f k ≤ g k) → f i + d ≤ g i → sm f n + d ≤ sm g n
  | 0, h, _, _ => absurd h (by omega)
  | n + 1, hi, h, hd => by
    unfold sm
    by_cases e : i = n
    · subst e
      have := sm_mono i (fun k hk => h k (by omega) (by omega))
      omega
    · have h1 := sm_add n (by omega) (fun k hk => h k (by omega)) hd
      have h2 := h n (by omega) (fun q => e q.symm)
      omega
theorem sm_le {f : Nat → Nat} {b : Nat} : ∀ n, (∀ i, i < n → f i ≤ b) → sm f n ≤ n * b
  | 0, _ => by simp [sm]
  | n + 1, h => by
    have h1 := sm_le n (fun i hi => h i (by omega))
    have h2 := h n (by omega)
    unfold sm; rw [Nat.succ_mul]; omega
/-- g grows along every step by the duration at least -/
def Pot (n : Nat) (E : Nat → Nat → Prop) (d g : Nat → Nat) : Prop := ∀ a b, a < n → b < n → E a b → g a + d a ≤ g b
def IsH (n : Nat) (E : Nat → Nat → Prop) (d h : Nat → Nat) : Prop := Pot n E d h ∧ ∀ b, b < n → h b = 0 ∨ ∃ a, a < n ∧ E a b ∧ h b = h a + d a
theorem IsH.le {n : Nat} {E : Nat → Nat → Prop} {d h g : Nat → Nat} (hd : ∀ i, i < n → 1 ≤ d i) (hh : IsH n E d h) (hg : Pot n E d g) : ∀ b, b < n → h b ≤ g b := by
  have key : ∀ (v b : Nat), b < n → h b = v → h b ≤ g b := by
    intro v
    induction v using Nat.strongRecOn with
    | _ v ih =>
      intro b hb hv
      rcases hh.2 b hb with h0 | ⟨a, ha, hE, h1⟩
      · omega
      · have h2 := hd a ha
        have h3 := ih (h a) (by omega) a ha rfl
        have h4 := hg a b ha hb hE
        omega
  exact fun b hb => key _ b hb rfl
theorem IsH.uniq {n : Nat} {E : Nat → Nat → Prop} {d h g : Nat → Nat} (hd : ∀ i, i < n → 1 ≤ d i) (hh : IsH n E d h) (hg : IsH n E d g) : ∀ b, b < n → h b = g b :=
  fun b hb => Nat.le_antisymm (hh.le hd hg.1 b hb) (hg.le hd hh.1 b hb)
theorem IsH.of_pot {n : Nat} {E : Nat → Nat → Prop} {d : Nat → Nat} (hd : ∀ i, i < n → 1 ≤ d i) (hp : ∃ g, Pot n E d g) : ∃ h, IsH n E d h := by
  obtain ⟨s, ⟨g, hg, hs⟩, hmin⟩ := pk_least (fun s => ∃ g, Pot n E d g ∧ sm g n = s) (by obtain ⟨g, hg⟩ := hp; exact ⟨_, g, hg, rfl⟩)
  refine ⟨g, hg, fun b hb => ?_⟩
  by_cases h0 : g b = 0
  · exact Or.inl h0
  · by_cases hx : ∃ a, a < n ∧ E a b ∧ g b = g a + d a
    · exact Or.inr hx
    · exfalso
      refine hmin (sm (fun i => if i = b then g b - 1 else g i) n) ?_ ⟨_, ?_, rfl⟩
      · rw [← hs]
        refine sm_lt n (fun i hi => ?_) ⟨b, hb, ?_⟩
        · by_cases e : i = b
          · subst e; simp
          · simp [e]
        · simp; omega
      · intro a c ha hc hE
        have h1 := hg a c ha hc hE
        by_cases e1 : c = b
        · subst e1
          by_cases e2 : a = c
          · subst e2
            have := hd a ha
            omega
          · have h2 : g c ≠ g a + d a := fun q => hx ⟨a, ha, hE, q⟩
            simp [e2]; omega
        · by_cases e2 : a = b
          · subst e2; simp [e1]; omega
          · simp [e1, e2]; exact h1
/-- how many have a smaller value -/
def rk (n : Nat) (h : Nat → Nat) (b : Nat) : Nat := cn (fun k => decide (h k < h b)) n
theorem rk_lt {n : Nat} {h : Nat → Nat} {a b : Nat} (ha : a < n) (hab : h a < h b) : rk n h a < rk n h b := by
  refine cn_lt n (fun i _ hi => ?_) ⟨a, ha, by simpa using hab, by simp⟩
  have : h i < h a := by simpa using hi
  simp; omega
theorem rk_n {n : Nat} {h : Nat → Nat} {b : Nat} (hb : b < n) : rk n h b < n := cn_ltn ⟨b, hb, by simp⟩
/-- a head is at most the durations of those that begin before -/
theorem IsH.sum {n : Nat} {E : Nat → Nat → Prop} {d h : Nat → Nat} (hd : ∀ i, i < n → 1 ≤ d i) (ht : ∀ b, b < n → h b = 0 ∨ ∃ a, a < n ∧ E a b ∧ h b = h a + d a) : ∀ b, b < n → h b ≤ sm (fun k => if h k < h b then d k else 0) n := by
  have key : ∀ (v b : Nat), b < n → h b = v → h b ≤ sm (fun k => if h k < h b then d k else 0) n := by
    intro v
    induction v using Nat.strongRecOn with
    | _ v ih =>
      intro b hb hv
      rcases ht b hb with h0 | ⟨a, ha, hE, h1⟩
      · omega
      · have h2 := hd a ha
        have h3 := ih (h a) (by omega) a ha rfl
        have h4 : sm (fun k => if h k < h a then d k else 0) n + d a ≤ sm (fun k => if h k < h b then d k else 0) n := by
          refine sm_add n ha (fun k _ _ => ?_) ?_
          · by_cases q : h k < h a
            · rw [if_pos q, if_pos (by omega)]; exact Nat.le_refl _
            · rw [if_neg q]; exact Nat.zero_le _
          · rw [if_neg (by omega), if_pos (by omega)]; omega
        omega
  exact fun b hb => key _ b hb rfl
theorem IsH.end_le {n : Nat} {E : Nat → Nat → Prop} {d h : Nat → Nat} (hd : ∀ i, i < n → 1 ≤ d i) (ht : ∀ b, b < n → h b = 0 ∨ ∃ a, a < n ∧ E a b ∧ h b = h a + d a) {b : Nat} (hb : b < n) : h b + d b ≤ sm d n := by
  have h1 := IsH.sum hd ht b hb
  have h2 : sm (fun k => if h k < h b then d k else 0) n + d b ≤ sm d n := by
    refine sm_add n hb (fun k _ _ => ?_) ?_
    · by_cases q : h k < h b
      · rw [if_pos q]; exact Nat.le_refl _
      · rw [if_neg q]; exact Nat.zero_le _
    · rw [if_neg (by omega)]; omega
  omega
theorem IsH.bd {n : Nat} {E : Nat → Nat → Prop} {d h : Nat → Nat} (hn : n ≤ 12) (hd : ∀ i, i < n → 1 ≤ d i ∧ d i ≤ 50) (hh : IsH n E d h) {b : Nat} (hb : b < n) : h b + d b ≤ 600 := by
  have h1 := IsH.end_le (fun i hi => (hd i hi).1) hh.2 hb
  have h2 := sm_le n (fun i hi => (hd i hi).2)
  omega
/-- one arc more, where no path leads back: S holds b, not a, and is closed -/
theorem Pot.add {n : Nat} {E E' : Nat → Nat → Prop} {d h : Nat → Nat} {a b : Nat} (S : Nat → Bool) (hp : Pot n E d h) (hE : ∀ u v, E' u v → E u v ∨ (u = a ∧ v = b)) (hb : S b = true) (ha : S a = false) (hc : ∀ u v, u < n → v < n → E u v → S u = true → S v = true) : Pot n E' d (fun i => if S i then h i + (h a + d a) else h i) := by
  intro u v hu hv he
  rcases hE u v he with h1 | ⟨rfl, rfl⟩
  · have h2 := hp u v hu hv h1
    by_cases hs : S u = true
    · simp [hs, hc u v hu hv h1 hs]; omega
    · by_cases hs2 : S v = true
      · simp [hs, hs2]; omega
      · simp [hs, hs2]; exact h2
  · simp [hb, ha]
theorem Pot.sub {n : Nat} {E E' : Nat → Nat → Prop} {d h : Nat → Nat} (hp : Pot n E d h) (hE : ∀ u v, E' u v → E u v) : Pot n E' d h := fun a b ha hb he => hp a b ha hb (hE a b he)
/-- tails are heads the other way -/
def Rv (E : Nat → Nat → Prop) : Nat → Nat → Prop := fun a b => E b a
theorem Pot.rev {n : Nat} {E : Nat → Nat → Prop} {d h : Nat → Nat} {M : Nat} (hp : Pot n E d h) (hM : ∀ i, i < n → h i + d i ≤ M) : Pot n (Rv E) d (fun i => M - (h i + d i)) := by
  intro a b ha hb he
  have h1 := hp b a hb ha he
  have h2 := hM a ha
  have h3 := hM b hb
  show M - (h a + d a) + d a ≤ M - (h b + d b)
  omega
