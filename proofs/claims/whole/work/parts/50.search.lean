/-! The search, abstractly: operations are placed by their starts -/
def lst (p : Nat → Bool) : Nat → Nat
  | 0 => 0
  | n + 1 => if lst p n < n then lst p n else if p n then n else n + 1
theorem lst_le (p : Nat → Bool) : ∀ n, lst p n ≤ n
  | 0 => Nat.le_refl _
  | n + 1 => by
    have := lst_le p n
    unfold lst; split
    · omega
    · split <;> omega
theorem lst_at {p : Nat → Bool} : ∀ {n}, lst p n < n → p (lst p n) = true
  | 0, h => absurd h (by omega)
  | n + 1, h => by
    unfold lst at h ⊢
    by_cases q : lst p n < n
    · rw [if_pos q]; exact lst_at q
    · rw [if_neg q] at h ⊢
      by_cases q2 : p n = true
      · rw [if_pos q2]; exact q2
      · rw [if_neg q2] at h; omega
theorem lst_lt {p : Nat → Bool} : ∀ {n k}, k < lst p n → p k = false
  | 0, k, h => absurd h (by simp [lst])
  | n + 1, k, h => by
    unfold lst at h
    by_cases q : lst p n < n
    · rw [if_pos q] at h; exact lst_lt h
    · rw [if_neg q] at h
      have h0 := lst_le p n
      by_cases q2 : p n = true
      · rw [if_pos q2] at h; exact lst_lt (n := n) (by omega)
      · rw [if_neg q2] at h
        by_cases e : k = n
        · subst e; simpa using q2
        · exact lst_lt (n := n) (by omega)
theorem lst_of {p : Nat → Bool} {n k : Nat} (hk : k < n) (hp : p k = true) (hm : ∀ j, j < k → p j = false) : lst p n = k := by
  rcases Nat.lt_trichotomy (lst p n) k with q | q | q
  · have := lst_at (p := p) (n := n) (by omega)
    rw [hm _ q] at this; cases this
  · exact q
  · have := lst_lt (p := p) (n := n) q
    rw [hp] at this; cases this
theorem lst_no {p : Nat → Bool} {n : Nat} (h : ∀ j, j < n → p j = false) : lst p n = n := by
  rcases Nat.lt_or_ge (lst p n) n with q | q
  · have := lst_at q
    rw [h _ q] at this; cases this
  · have := lst_le p n; omega
/-- when a job, a machine is free; the next one of a job; the earliest start -/
def jf (n : Nat) (jb d : Nat → Nat) (pl : Nat → Bool) (st : Nat → Nat) (j : Nat) : Nat := mx (fun i => if pl i = true ∧ jb i = j then st i + d i else 0) n
def tn (n : Nat) (jb : Nat → Nat) (pl : Nat → Bool) (j : Nat) : Nat := lst (fun i => decide (jb i = j) && !pl i) n
def er (n : Nat) (jb mc d : Nat → Nat) (pl : Nat → Bool) (st : Nat → Nat) (i : Nat) : Nat := max (jf n jb d pl st (jb i)) (jf n mc d pl st (mc i))
/-- its turn is over -/
def psd (e i lt li : Nat) : Prop := e < lt ∨ (e = lt ∧ i + 1 < li)
def okc (n : Nat) (jb mc d : Nat → Nat) (ar : Nat → Nat → Bool) (pl : Nat → Bool) (st : Nat → Nat) (lt li i : Nat) : Prop := i < n ∧ (∀ k, k < n → ar k i = true → pl k = true) ∧ ¬ psd (er n jb mc d pl st i) i lt li
def put (pl : Nat → Bool) (i : Nat) : Nat → Bool := fun k => pl k || decide (k = i)
def sts (st : Nat → Nat) (i b : Nat) : Nat → Nat := fun k => if k = i then b else st k
noncomputable def lv (n nj : Nat) (jb mc d : Nat → Nat) (ar : Nat → Nat → Bool) : Nat → (Nat → Bool) → (Nat → Nat) → Nat → Nat → List (Nat → Nat)
  | 0, _, st, _, _ => [st]
  | k + 1, pl, st, lt, li => (List.range nj).flatMap (fun j => @ite _ (okc n jb mc d ar pl st lt li (tn n jb pl j)) (Classical.propDecidable _) (lv n nj jb mc d ar k (put pl (tn n jb pl j)) (sts st (tn n jb pl j) (er n jb mc d pl st (tn n jb pl j))) (er n jb mc d pl st (tn n jb pl j)) (tn n jb pl j + 1)) [])
/-- a finished plan: the jobs' order and the arcs hold, no two of a machine meet, nothing can be earlier -/
def Gd (n : Nat) (jb mc d : Nat → Nat) (ar : Nat → Nat → Bool) (s : Nat → Nat) : Prop :=
  Pot n (Ed n jb ar) d s ∧ (∀ i k, i < n → k < n → i ≠ k → mc i = mc k → s i + d i ≤ s k ∨ s k + d k ≤ s i) ∧ ∀ b, b < n → s b = 0 ∨ ∃ a, a < n ∧ (Nx n jb a b ∨ (mc a = mc b ∧ a ≠ b)) ∧ s b = s a + d a
/-- a state of the search -/
def WF (n : Nat) (jb mc d : Nat → Nat) (ar : Nat → Nat → Bool) (pl : Nat → Bool) (st : Nat → Nat) (lt li : Nat) : Prop :=
  (∀ i k, i < n → k < n → jb i = jb k → i < k → pl k = true → pl i = true) ∧
  (∀ i k, ar i k = true → pl k = true → pl i = true) ∧
  (∀ i k, i < n → k < n → pl i = true → pl k = true → Ed n jb ar i k → st i + d i ≤ st k) ∧
  (∀ i k, i < n → k < n → pl i = true → pl k = true → i ≠ k → mc i = mc k → st i + d i ≤ st k ∨ st k + d k ≤ st i) ∧
  (∀ b, b < n → pl b = true → st b = 0 ∨ ∃ a, a < n ∧ pl a = true ∧ (Nx n jb a b ∨ (mc a = mc b ∧ a ≠ b)) ∧ st b = st a + d a) ∧
  (∀ i, i < n → pl i = true → st i < lt ∨ (st i = lt ∧ i + 1 ≤ li))
theorem jf_ge {n i : Nat} {jb d : Nat → Nat} {pl : Nat → Bool} {st : Nat → Nat} (hi : i < n) (hp : pl i = true) : st i + d i ≤ jf n jb d pl st (jb i) := by
  have := mx_ge (f := fun k => if pl k = true ∧ jb k = jb i then st k + d k else 0) n i hi
  rw [if_pos ⟨hp, rfl⟩] at this
  exact this
theorem jf_at {n j : Nat} {jb d : Nat → Nat} {pl : Nat → Bool} {st : Nat → Nat} : jf n jb d pl st j = 0 ∨ ∃ a, a < n ∧ pl a = true ∧ jb a = j ∧ jf n jb d pl st j = st a + d a := by
  rcases mx_at (f := fun k => if pl k = true ∧ jb k = j then st k + d k else 0) n with h | ⟨i, hi, h⟩
  · exact Or.inl h
  · by_cases q : pl i = true ∧ jb i = j
    · rw [if_pos q] at h
      exact Or.inr ⟨i, hi, q.1, q.2, h⟩
    · rw [if_neg q] at h
      exact Or.inl h
/-- behind an operation of a job there is a next one, where there is a later one -/
theorem Nx.ex {n a i : Nat} {jb : Nat → Nat} (hi : i < n) (hai : a < i) (hj : jb a = jb i) : ∃ c, Nx n jb a c ∧ c ≤ i := by
  obtain ⟨c, ⟨h1, h2, h3⟩, hm⟩ := pk_least (fun c => a < c ∧ c ≤ i ∧ jb c = jb a) ⟨i, hai, Nat.le_refl _, hj.symm⟩
  exact ⟨c, ⟨h1, by omega, h3, fun m hm1 hm2 e => hm m hm2 ⟨hm1, by omega, e⟩⟩, h2⟩
theorem tn_spec {n j : Nat} {jb : Nat → Nat} {pl : Nat → Bool} (h : tn n jb pl j < n) : jb (tn n jb pl j) = j ∧ pl (tn n jb pl j) = false ∧ ∀ k, k < tn n jb pl j → jb k = j → pl k = true := by
  have h1 := lst_at h
  simp only [Bool.and_eq_true, decide_eq_true_eq, Bool.not_eq_true'] at h1
  refine ⟨h1.1, h1.2, fun k hk hj => ?_⟩
  have h2 := lst_lt hk
  simp only [hj, decide_true, Bool.true_and, Bool.not_eq_false'] at h2
  exact h2
theorem tn_of {n i : Nat} {jb : Nat → Nat} {pl : Nat → Bool} (hi : i < n) (hp : pl i = false) (hb : ∀ k, k < i → jb k = jb i → pl k = true) : tn n jb pl (jb i) = i := by
  refine lst_of hi (by simp [hp]) (fun k hk => ?_)
  by_cases q : jb k = jb i
  · simp [hb k hk q]
  · simp [q]
/-- one is placed -/
theorem WF.step {n nj i lt li : Nat} {jb mc d : Nat → Nat} {ar : Nat → Nat → Bool} {pl : Nat → Bool} {st : Nat → Nat} (S : Shop n nj jb mc d ar) (W0 : WF n jb mc d ar pl st lt li) (hok : okc n jb mc d ar pl st lt li i) (hp : pl i = false) (hb : ∀ k, k < i → jb k = jb i → pl k = true) : WF n jb mc d ar (put pl i) (sts st i (er n jb mc d pl st i)) (er n jb mc d pl st i) (i + 1) := by
  obtain ⟨w1, w2, w3, w4, w5, w6⟩ := W0
  obtain ⟨hi, hneed, hpas⟩ := hok
  obtain ⟨-, -, -, -, hd, -, har, -⟩ := S
  have pi : ∀ k, put pl i k = true ↔ pl k = true ∨ k = i := fun k => by unfold put; simp
  have sne : ∀ k, k ≠ i → sts st i (er n jb mc d pl st i) k = st k := fun k hk => by unfold sts; rw [if_neg hk]
  have seq : sts st i (er n jb mc d pl st i) i = er n jb mc d pl st i := by unfold sts; rw [if_pos rfl]
  have pne : ∀ k, pl k = true → k ≠ i := fun k hk e => by rw [e, hp] at hk; cases hk
  have ej : ∀ a, a < n → pl a = true → jb a = jb i → st a + d a ≤ er n jb mc d pl st i := fun a ha hpa e => by
    have := jf_ge (jb := jb) (d := d) (st := st) ha hpa
    rw [e] at this
    unfold er; omega
  have em : ∀ a, a < n → pl a = true → mc a = mc i → st a + d a ≤ er n jb mc d pl st i := fun a ha hpa e => by
    have := jf_ge (jb := mc) (d := d) (st := st) ha hpa
    rw [e] at this
    unfold er; omega
  refine ⟨fun a k ha hk hj hak hpk => ?_, fun a k hak hpk => ?_, fun a k ha hk hpa hpk he => ?_, fun a k ha hk hpa hpk hne hm => ?_, fun b hb2 hpb => ?_, fun k hk hpk => ?_⟩
  · rw [pi] at hpk ⊢
    rcases hpk with hpk | rfl
    · exact Or.inl (w1 a k ha hk hj hak hpk)
    · exact Or.inl (hb a hak hj)
  · rw [pi] at hpk ⊢
    rcases hpk with hpk | rfl
    · exact Or.inl (w2 a k hak hpk)
    · exact Or.inl (hneed a (har a k hak).1 hak)
  · rw [pi] at hpa hpk
    rcases hpk with hpk | rfl
    · rcases hpa with hpa | rfl
      · rw [sne a (pne a hpa), sne k (pne k hpk)]; exact w3 a k ha hk hpa hpk he
      · exfalso
        rcases he with he | he
        · have := w2 a k he hpk
          rw [hp] at this; cases this
        · have := w1 a k ha hk he.2.2.1.symm he.1 hpk
          rw [hp] at this; cases this
    · rcases hpa with hpa | rfl
      · rw [sne a (pne a hpa), seq]
        rcases he with he | he
        · exact em a ha hpa (har a k he).2.2.2
        · exact ej a ha hpa he.2.2.1.symm
      · exfalso
        rcases he with he | he
        · exact (har a a he).2.2.1 rfl
        · exact absurd he.1 (by omega)
  · rw [pi] at hpa hpk
    rcases hpk with hpk | rfl
    · rcases hpa with hpa | rfl
      · rw [sne a (pne a hpa), sne k (pne k hpk)]; exact w4 a k ha hk hpa hpk hne hm
      · rw [seq, sne k (pne k hpk)]
        exact Or.inr (em k hk hpk hm.symm)
    · have hpa2 := hpa.resolve_right hne
      rw [seq, sne a (pne a hpa2)]
      exact Or.inl (em a ha hpa2 hm)
  · rw [pi] at hpb
    rcases hpb with hpb | rfl
    · rw [sne b (pne b hpb)]
      rcases w5 b hb2 hpb with e | ⟨a, ha, hpa, h1, h2⟩
      · exact Or.inl e
      · exact Or.inr ⟨a, ha, (pi a).mpr (Or.inl hpa), h1, by rw [sne a (pne a hpa)]; exact h2⟩
    · rw [seq]
      have jfe : ∀ a, a < n → pl a = true → jb a = jb b → jf n jb d pl st (jb b) = st a + d a → Nx n jb a b := by
        intro a ha hpa hja e
        have hab : a < b := by
          rcases Nat.lt_trichotomy a b with q | q | q
          · exact q
          · exact absurd q (pne a hpa)
          · have := w1 b a hb2 ha hja.symm q hpa
            rw [hp] at this; cases this
        obtain ⟨c, hc, hcb⟩ := Nx.ex hb2 hab hja
        by_cases ec : c = b
        · rw [ec] at hc; exact hc
        · exfalso
          have hpc := hb c (by omega) (by rw [hc.2.2.1, hja])
          have h1 := w3 a c ha hc.2.1 hpa hpc (Or.inr hc)
          have h2 := jf_ge (jb := jb) (d := d) (st := st) hc.2.1 hpc
          rw [hc.2.2.1, hja] at h2
          have := hd c hc.2.1
          omega
      rcases Nat.le_total (jf n mc d pl st (mc b)) (jf n jb d pl st (jb b)) with q | q
      · have e : er n jb mc d pl st b = jf n jb d pl st (jb b) := by unfold er; omega
        rcases jf_at (n := n) (jb := jb) (d := d) (pl := pl) (st := st) (j := jb b) with h0 | ⟨a, ha, hpa, hja, h1⟩
        · exact Or.inl (by omega)
        · exact Or.inr ⟨a, ha, (pi a).mpr (Or.inl hpa), Or.inl (jfe a ha hpa hja h1), by rw [sne a (pne a hpa)]; omega⟩
      · have e : er n jb mc d pl st b = jf n mc d pl st (mc b) := by unfold er; omega
        rcases jf_at (n := n) (jb := mc) (d := d) (pl := pl) (st := st) (j := mc b) with h0 | ⟨a, ha, hpa, hja, h1⟩
        · exact Or.inl (by omega)
        · exact Or.inr ⟨a, ha, (pi a).mpr (Or.inl hpa), Or.inr ⟨hja, pne a hpa⟩, by rw [sne a (pne a hpa)]; omega⟩
  · rw [pi] at hpk
    rcases hpk with hpk | rfl
    · rw [sne k (pne k hpk)]
      have h1 := w6 k hk hpk
      unfold psd at hpas
      omega
    · rw [seq]; exact Or.inr ⟨rfl, Nat.le_refl _⟩
/-- how many are left -/
def lf (n : Nat) (pl : Nat → Bool) : Nat := cn (fun i => !pl i) n
theorem lf_put {n i : Nat} {pl : Nat → Bool} (hi : i < n) (hp : pl i = false) : lf n (put pl i) + 1 = lf n pl := by
  have h := cn_up (p := fun k => !put pl i k) (b := i) (by unfold put; simp) n
  rw [if_pos hi] at h
  unfold lf
  rw [← h]
  refine cn_congr n (fun k _ => ?_)
  unfold put
  by_cases e : k = i
  · subst e; simp [hp]
  · simp [e]
theorem lf_zero {n : Nat} {pl : Nat → Bool} (h : lf n pl = 0) : ∀ i, i < n → pl i = true := by
  intro i hi
  cases q : pl i
  · exfalso
    have h2 : cn (fun _ => false) n < cn (fun i => !pl i) n := cn_lt n (fun _ _ q => by cases q) ⟨i, hi, by simp [q], rfl⟩
    unfold lf at h; omega
  · rfl
theorem mem_lv {n nj k lt li : Nat} {jb mc d : Nat → Nat} {ar : Nat → Nat → Bool} {pl : Nat → Bool} {st s : Nat → Nat} (h : s ∈ lv n nj jb mc d ar (k + 1) pl st lt li) : ∃ j, j < nj ∧ okc n jb mc d ar pl st lt li (tn n jb pl j) ∧ s ∈ lv n nj jb mc d ar k (put pl (tn n jb pl j)) (sts st (tn n jb pl j) (er n jb mc d pl st (tn n jb pl j))) (er n jb mc d pl st (tn n jb pl j)) (tn n jb pl j + 1) := by
  unfold lv at h
  rw [List.mem_flatMap] at h
  obtain ⟨j, hj, hs⟩ := h
  refine ⟨j, List.mem_range.mp hj, ?_⟩
  by_cases q : okc n jb mc d ar pl st lt li (tn n jb pl j)
  · rw [if_pos q] at hs; exact ⟨q, hs⟩
  · rw [if_neg q] at hs; cases hs
theorem jf_put {n i b j : Nat} {jb d : Nat → Nat} {pl : Nat → Bool} {st : Nat → Nat} (hp : pl i = false) : jf n jb d pl st j ≤ jf n jb d (put pl i) (sts st i b) j := by
  refine mx_le n (fun k hk => ?_)
  by_cases q : pl k = true ∧ jb k = j
  · rw [if_pos q]
    have hne : k ≠ i := fun e => by rw [e, hp] at q; cases q.1
    have h1 := jf_ge (n := n) (jb := jb) (d := d) (pl := put pl i) (st := sts st i b) hk (by unfold put; rw [q.1]; rfl)
    rw [q.2] at h1
    unfold sts at h1 ⊢
    rw [if_neg hne] at h1
    exact h1
  · rw [if_neg q]; exact Nat.zero_le _
/-- what a leaf is: good; as placed; not before the earliest starts -/
theorem lv_props {n nj : Nat} {jb mc d : Nat → Nat} {ar : Nat → Nat → Bool} (S : Shop n nj jb mc d ar) : ∀ (k : Nat) (pl : Nat → Bool) (st : Nat → Nat) (lt li : Nat), WF n jb mc d ar pl st lt li → lf n pl = k → ∀ s, s ∈ lv n nj jb mc d ar k pl st lt li → Gd n jb mc d ar s ∧ (∀ i, i < n → pl i = true → s i = st i) ∧ (∀ i, i < n → pl i = false → er n jb mc d pl st i ≤ s i) := by
  intro k
  induction k with
  | zero =>
    intro pl st lt li W0 hk s hs
    unfold lv at hs
    rw [List.mem_singleton] at hs
    subst hs
    have all := lf_zero hk
    obtain ⟨w1, w2, w3, w4, w5, w6⟩ := W0
    refine ⟨⟨fun a b ha hb he => w3 a b ha hb (all a ha) (all b hb) he, fun i k hi hk hne hm => w4 i k hi hk (all i hi) (all k hk) hne hm, fun b hb => ?_⟩, fun _ _ _ => rfl, fun i hi hp => by rw [all i hi] at hp; cases hp⟩
    rcases w5 b hb (all b hb) with e | ⟨a, ha, -, h1, h2⟩
    · exact Or.inl e
    · exact Or.inr ⟨a, ha, h1, h2⟩
  | succ k ih =>
    intro pl st lt li W0 hk s hs
    obtain ⟨j, hj, hok, hs⟩ := mem_lv hs
    generalize hi : tn n jb pl j = i at hok hs
    have hin : i < n := hok.1
    obtain ⟨t1, t2, t3⟩ := tn_spec (n := n) (jb := jb) (pl := pl) (j := j) (by rw [hi]; exact hin)
    rw [hi] at t1 t2 t3
    have W1 := W0.step S hok t2 (fun k hk e => t3 k hk (by rw [e, t1]))
    have h1 := ih _ _ _ _ W1 (by have := lf_put hin t2; omega) s hs
    obtain ⟨g1, g2, g3⟩ := h1
    refine ⟨g1, fun a ha hpa => ?_, fun a ha hpa => ?_⟩
    · have := g2 a ha (by unfold put; rw [hpa]; rfl)
      rw [this]; unfold sts
      rw [if_neg (fun e => by rw [e, t2] at hpa; cases hpa)]
    · by_cases e : a = i
      · subst e
        have := g2 a ha (by unfold put; simp)
        rw [this]; unfold sts; rw [if_pos rfl]; exact Nat.le_refl _
      · have := g3 a ha (by unfold put; simp [hpa, e])
        have m1 := jf_put (n := n) (b := er n jb mc d pl st i) (j := jb a) (jb := jb) (d := d) (st := st) t2
        have m2 := jf_put (n := n) (b := er n jb mc d pl st i) (j := mc a) (jb := mc) (d := d) (st := st) t2
        refine Nat.le_trans ?_ this
        unfold er at m1 m2 ⊢; omega
