/-! The reference's orders: permutations of at most four -/
def PT : List (List (List Nat)) := [[[]], [[0]], [[0, 1], [1, 0]], [[0, 1, 2], [0, 2, 1], [1, 0, 2], [1, 2, 0], [2, 0, 1], [2, 1, 0]],
  [[0, 1, 2, 3], [0, 1, 3, 2], [0, 2, 1, 3], [0, 2, 3, 1], [0, 3, 1, 2], [0, 3, 2, 1], [1, 0, 2, 3], [1, 0, 3, 2], [1, 2, 0, 3], [1, 2, 3, 0], [1, 3, 0, 2], [1, 3, 2, 0], [2, 0, 1, 3], [2, 0, 3, 1], [2, 1, 0, 3], [2, 1, 3, 0], [2, 3, 0, 1], [2, 3, 1, 0], [3, 0, 1, 2], [3, 0, 2, 1], [3, 1, 0, 2], [3, 1, 2, 0], [3, 2, 0, 1], [3, 2, 1, 0]]]
def pm (k p j : Nat) : Nat := ((PT.getD k []).getD p []).getD j 0
def fc (k : Nat) : Nat := (PT.getD k []).length
set_option maxRecDepth 100000 in
theorem pm_lt : ∀ k, k < 5 → ∀ p, p < fc k → ∀ j, j < k → pm k p j < k := by decide +kernel
set_option maxRecDepth 100000 in
theorem pm_inj : ∀ k, k < 5 → ∀ p, p < fc k → ∀ i, i < k → ∀ j, j < k → pm k p i = pm k p j → i = j := by decide +kernel
set_option maxRecDepth 100000 in
theorem pm_sur : ∀ k, k < 5 → ∀ p, p < fc k → ∀ c, c < k → ∃ j, j < k ∧ pm k p j = c := by decide +kernel
set_option maxRecDepth 100000 in
theorem pm_id : ∀ k, k < 5 → ∀ j, j < k → pm k 0 j = j := by decide +kernel
theorem fc_bd : ∀ k, k < 5 → 1 ≤ fc k ∧ fc k ≤ 24 := by decide +kernel
set_option maxRecDepth 100000 in
theorem pm_inv : ∀ k, k < 5 → ∀ p, p < fc k → ∃ q, q < fc k ∧ ∀ j, j < k → pm k p (pm k q j) = j := by decide +kernel
def difB (k p q : Nat) : Bool := decide (∃ x, x < k ∧ ∃ y, y < k ∧ x < y ∧ ∃ x', x' < k ∧ ∃ y', y' < k ∧ x' < y' ∧ pm k p x = pm k q y' ∧ pm k p y = pm k q x')
set_option maxRecDepth 100000 in
theorem pm_dif0 : ∀ k, k < 5 → ∀ p, p < fc k → ∀ q, q < fc k → p ≠ q → difB k p q = true := by decide +kernel
/-- two different ones have a pair the other way round -/
theorem pm_dif : ∀ k, k < 5 → ∀ p, p < fc k → ∀ q, q < fc k → p ≠ q → ∃ x, x < k ∧ ∃ y, y < k ∧ x < y ∧ ∃ x', x' < k ∧ ∃ y', y' < k ∧ x' < y' ∧ pm k p x = pm k q y' ∧ pm k p y = pm k q x' := fun k hk p hp q hq h => by
  have h1 := pm_dif0 k hk p hp q hq h
  unfold difB at h1
  exact of_decide_eq_true h1
def allA (k a b c e : Nat) : Bool := decide ((0 < k → a < k) ∧ (1 < k → b < k ∧ a ≠ b) ∧ (2 < k → c < k ∧ a ≠ c ∧ b ≠ c) ∧ (3 < k → e < k ∧ a ≠ e ∧ b ≠ e ∧ c ≠ e))
def allB (k a b c e : Nat) : Bool := decide (∃ p, p < fc k ∧ (0 < k → pm k p 0 = a) ∧ (1 < k → pm k p 1 = b) ∧ (2 < k → pm k p 2 = c) ∧ (3 < k → pm k p 3 = e))
def allC (k t : Nat) : Bool := !allA k (t % 4) (t / 4 % 4) (t / 16 % 4) (t / 64 % 4) || allB k (t % 4) (t / 4 % 4) (t / 16 % 4) (t / 64 % 4)
set_option maxRecDepth 100000 in
theorem pm_all1 : ∀ k, k < 5 → ∀ t, t < 256 → allC k t = true := by decide +kernel
theorem pm_all0 : ∀ k, k < 5 → ∀ a, a < 4 → ∀ b, b < 4 → ∀ c, c < 4 → ∀ e, e < 4 → allA k a b c e = true → allB k a b c e = true := fun k hk a ha b hb c hc e he h => by
  have h1 := pm_all1 k hk (a + 4 * b + 16 * c + 64 * e) (by omega)
  unfold allC at h1
  rw [show (a + 4 * b + 16 * c + 64 * e) % 4 = a by omega, show (a + 4 * b + 16 * c + 64 * e) / 4 % 4 = b by omega, show (a + 4 * b + 16 * c + 64 * e) / 16 % 4 = c by omega, show (a + 4 * b + 16 * c + 64 * e) / 64 % 4 = e by omega, h] at h1
  exact h1
/-- each one-to-one row is there -/
theorem pm_all : ∀ k, k < 5 → ∀ a, a < 4 → ∀ b, b < 4 → ∀ c, c < 4 → ∀ e, e < 4 → (0 < k → a < k) → (1 < k → b < k ∧ a ≠ b) → (2 < k → c < k ∧ a ≠ c ∧ b ≠ c) → (3 < k → e < k ∧ a ≠ e ∧ b ≠ e ∧ c ≠ e) → ∃ p, p < fc k ∧ (0 < k → pm k p 0 = a) ∧ (1 < k → pm k p 1 = b) ∧ (2 < k → pm k p 2 = c) ∧ (3 < k → pm k p 3 = e) := fun k hk a ha b hb c hc e he h1 h2 h3 h4 => by
  have h := pm_all0 k hk a ha b hb c hc e he (by unfold allA; exact decide_eq_true ⟨h1, h2, h3, h4⟩)
  unfold allB at h
  exact of_decide_eq_true h
set_option maxRecDepth 100000 in
theorem pm_last : ∀ k, k < 5 → ∀ p, p < fc k → (∀ b, b < 4 → b + 1 < k → pm k p (b + 1) < pm k p b) → p + 1 = fc k := by decide +kernel
/-- what swapping and turning the rest makes -/
def w1 (k p a j b : Nat) : Nat := if b = j then pm k p a else if b = a then pm k p j else pm k p b
def nxD (k p a b : Nat) : Bool := !(decide (a < b) && decide (b + 1 < k)) || decide (pm k p (b + 1) < pm k p b)
def nxE (k p a j b : Nat) : Bool := !decide (j < b) || decide (pm k p b < pm k p a)
def nxA (k p a : Nat) : Bool := decide (a + 2 ≤ k) && decide (pm k p a < pm k p (a + 1)) && decide (∀ b, b < k → nxD k p a b = true)
def nxB (k p a j : Nat) : Bool := decide (j < k) && decide (a < j) && decide (pm k p a < pm k p j) && decide (∀ b, b < k → nxE k p a j b = true)
def nxC (k p a j : Nat) : Bool := decide (p + 1 < fc k ∧ ∀ b, b < k → pm k (p + 1) b = if a < b then w1 k p a j (a + k - b) else w1 k p a j b)
def nxF (k p t : Nat) : Bool := !(nxA k p (t % 4) && nxB k p (t % 4) (t / 4)) || nxC k p (t % 4) (t / 4)
set_option maxRecDepth 100000 in
theorem pm_next1 : ∀ k, k < 5 → ∀ p, p < fc k → ∀ t, t < 16 → nxF k p t = true := by decide +kernel
theorem pm_next0 : ∀ k, k < 5 → ∀ p, p < fc k → ∀ a, a < 4 → nxA k p a = true → ∀ j, j < k → nxB k p a j = true → nxC k p a j = true := fun k hk p hp a ha h1 j hj h2 => by
  have h := pm_next1 k hk p hp (a + 4 * j) (by omega)
  unfold nxF at h
  rw [show (a + 4 * j) % 4 = a by omega, show (a + 4 * j) / 4 = j by omega, h1, h2] at h
  exact h
theorem pm_next : ∀ k, k < 5 → ∀ p, p < fc k → ∀ a, a < 4 → a + 2 ≤ k → (∀ b, b < 4 → a < b → b + 1 < k → pm k p (b + 1) < pm k p b) → pm k p a < pm k p (a + 1) → ∀ j, j < k → a < j → pm k p a < pm k p j → (∀ b, b < k → j < b → pm k p b < pm k p a) → p + 1 < fc k ∧ ∀ b, b < k → pm k (p + 1) b = if a < b then w1 k p a j (a + k - b) else w1 k p a j b := fun k hk p hp a ha h1 h2 h3 j hj h4 h5 h6 => by
  have d1 : ∀ b, b < k → nxD k p a b = true := fun b hb => by
    unfold nxD
    by_cases q : a < b ∧ b + 1 < k
    · simp [q.1, q.2, h2 b (by omega) q.1 q.2]
    · by_cases q1 : a < b
      · have q2 : ¬ b + 1 < k := fun x => q ⟨q1, x⟩
        simp [q2]
      · simp [q1]
  have d2 : ∀ b, b < k → nxE k p a j b = true := fun b hb => by
    unfold nxE
    by_cases q : j < b
    · simp [q, h6 b hb q]
    · simp [q]
  have h := pm_next0 k hk p hp a ha (by unfold nxA; rw [decide_eq_true h1, decide_eq_true h3, decide_eq_true d1]; rfl) j hj (by unfold nxB; rw [decide_eq_true hj, decide_eq_true h4, decide_eq_true h5, decide_eq_true d2]; rfl)
  unfold nxC at h
  exact of_decide_eq_true h
/-! A machine's operations -/
def sz (n : Nat) (mc : Nat → Nat) (m : Nat) : Nat := cn (fun x => decide (mc x = m)) n
def op (n : Nat) (mc : Nat → Nat) (m c : Nat) : Nat := lst (fun i => decide (mc i = m) && decide (cn (fun x => decide (mc x = m)) i = c)) n
theorem cn_rng {p : Nat → Bool} {a : Nat} : ∀ b, a ≤ b → cn p a ≤ cn p b
  | 0, h => by rw [show a = 0 by omega]; exact Nat.le_refl _
  | b + 1, h => by
    by_cases e : a = b + 1
    · rw [e]; exact Nat.le_refl _
    · have := cn_rng (p := p) b (show a ≤ b by omega)
      show _ ≤ cn p b + _
      omega
theorem cn_hit {p : Nat → Bool} {c : Nat} : ∀ n, c < cn p n → ∃ i, i < n ∧ p i = true ∧ cn p i = c
  | 0, h => absurd h (by simp [cn])
  | n + 1, h => by
    rcases Nat.lt_or_ge c (cn p n) with q | q
    · obtain ⟨i, h1, h2⟩ := cn_hit n q
      exact ⟨i, by omega, h2⟩
    · unfold cn at h
      by_cases hp : p n = true
      · rw [if_pos hp] at h
        exact ⟨n, by omega, hp, by omega⟩
      · rw [if_neg hp] at h; omega
theorem cn_s {p : Nat → Bool} {i : Nat} (h : p i = true) : cn p (i + 1) = cn p i + 1 := by
  show cn p i + (if p i then 1 else 0) = _
  rw [h]; rfl
theorem op_of {n m i : Nat} {mc : Nat → Nat} (hi : i < n) (hm : mc i = m) : op n mc m (cn (fun x => decide (mc x = m)) i) = i := by
  refine lst_of hi (by simp [hm]) (fun k hk => ?_)
  by_cases q : mc k = m
  · have h1 := cn_s (p := fun x => decide (mc x = m)) (i := k) (by simp [q])
    have h2 := cn_rng (p := fun x => decide (mc x = m)) (a := k + 1) i (by omega)
    have : ¬ cn (fun x => decide (mc x = m)) k = cn (fun x => decide (mc x = m)) i := by omega
    simp [this]
  · simp [q]
theorem op_spec {n m c : Nat} {mc : Nat → Nat} (h : c < sz n mc m) : op n mc m c < n ∧ mc (op n mc m c) = m ∧ cn (fun x => decide (mc x = m)) (op n mc m c) = c := by
  obtain ⟨i, hi, h1, h2⟩ := cn_hit n h
  have hm : mc i = m := by simpa using h1
  have h3 := op_of hi hm
  rw [h2] at h3
  rw [h3]; exact ⟨hi, hm, h2⟩
theorem op_lt {n m c c' : Nat} {mc : Nat → Nat} (h : c < c') (h' : c' < sz n mc m) : op n mc m c < op n mc m c' := by
  obtain ⟨a1, a2, a3⟩ := op_spec (show c < sz n mc m by omega)
  obtain ⟨b1, b2, b3⟩ := op_spec h'
  rcases Nat.lt_or_ge (op n mc m c) (op n mc m c') with q | q
  · exact q
  · have := cn_rng (p := fun x => decide (mc x = m)) (a := op n mc m c') (op n mc m c) q
    omega
theorem op_lti {n m c c' : Nat} {mc : Nat → Nat} (h : c < sz n mc m) (h' : c' < sz n mc m) : op n mc m c ≤ op n mc m c' ↔ c ≤ c' := by
  rcases Nat.lt_trichotomy c c' with q | q | q
  · have := op_lt q h'; omega
  · subst q; omega
  · have := op_lt q h; omega
theorem pos_lt {n i : Nat} {mc : Nat → Nat} (hi : i < n) : cn (fun x => decide (mc x = mc i)) i < sz n mc (mc i) := by
  have h1 := cn_s (p := fun x => decide (mc x = mc i)) (i := i) (by simp)
  have h2 := cn_rng (p := fun x => decide (mc x = mc i)) (a := i + 1) n (by omega)
  unfold sz; omega
theorem cn_le1 {p : Nat → Bool} : ∀ n, (∀ i k, i < n → k < n → p i = true → p k = true → i = k) → cn p n ≤ 1
  | 0, _ => Nat.zero_le _
  | n + 1, h => by
    have h1 := cn_le1 n (fun i k hi hk => h i k (by omega) (by omega))
    unfold cn
    by_cases q : p n = true
    · rw [if_pos q, cn_zero n (fun i hi => by
        cases e : p i
        · rfl
        · have := h i n (by omega) (by omega) e q; omega)]
      exact Nat.le_refl _
    · rw [if_neg q]; omega
theorem cn_split {p : Nat → Bool} {jb : Nat → Nat} {J : Nat} : ∀ n, (∀ i, i < n → jb i < J) → cn p n = sm (fun j => cn (fun i => p i && decide (jb i = j)) n) J
  | 0, _ => by
    have : sm (fun j => cn (fun i => p i && decide (jb i = j)) 0) J ≤ J * 0 := sm_le J (fun _ _ => Nat.le_refl _)
    show 0 = _
    omega
  | n + 1, h => by
    have ih := cn_split (p := p) (jb := jb) (J := J) n (fun i hi => h i (by omega))
    have hn := h n (by omega)
    show cn p n + (if p n then 1 else 0) = _
    rw [ih]
    have key : ∀ K, sm (fun j => cn (fun i => p i && decide (jb i = j)) (n + 1)) K = sm (fun j => cn (fun i => p i && decide (jb i = j)) n) K + (if jb n < K then (if p n then 1 else 0) else 0) := by
      intro K
      induction K with
      | zero => rfl
      | succ K ihK =>
        show sm _ K + (cn _ n + (if (p n && decide (jb n = K)) then 1 else 0)) = sm _ K + cn _ n + _
        rw [ihK]
        by_cases e : jb n = K
        · subst e
          rw [if_neg (show ¬ jb n < jb n by omega), if_pos (show jb n < jb n + 1 by omega)]
          simp; omega
        · have e2 : (if jb n < K + 1 then (if p n then 1 else 0) else 0) = (if jb n < K then (if p n then 1 else 0) else (0 : Nat)) := by
            by_cases q : jb n < K
            · rw [if_pos q, if_pos (by omega)]
            · rw [if_neg q, if_neg (by omega)]
          rw [e2]; simp [e]; omega
    rw [key J, if_pos hn]
theorem sz_bd {n nj m : Nat} {jb mc d : Nat → Nat} {ar : Nat → Nat → Bool} (S : Shop n nj jb mc d ar) : sz n mc m < 5 := by
  have h1 := cn_split (p := fun x => decide (mc x = m)) (jb := jb) (J := nj) n S.2.2.1
  have h2 := sm_le (f := fun j => cn (fun i => decide (mc i = m) && decide (jb i = j)) n) (b := 1) nj (fun j _ => cn_le1 n (fun i k hi hk e1 e2 => by
    simp only [Bool.and_eq_true, decide_eq_true_eq] at e1 e2
    exact Classical.byContradiction (fun q => S.2.2.2.2.2.1 i k hi hk q (by rw [e1.2, e2.2]) (by rw [e1.1, e2.1]))))
  have := S.2.1
  unfold sz; omega
/-- the operation at a place of a machine's order -/
def Oo (n : Nat) (mc : Nat → Nat) (P : Nat → Nat) (m x : Nat) : Nat := op n mc m (pm (sz n mc m) (P m) x)
def okP (n : Nat) (mc : Nat → Nat) (P : Nat → Nat) : Prop := ∀ m, m < 4 → P m < fc (sz n mc m)
/-- the arcs of the orders -/
noncomputable def chP (n : Nat) (mc : Nat → Nat) (P : Nat → Nat) (i k : Nat) : Bool := @decide (∃ m x y, m < 4 ∧ y < sz n mc m ∧ x < y ∧ Oo n mc P m x = i ∧ Oo n mc P m y = k) (Classical.propDecidable _)
theorem chP_iff {n i k : Nat} {mc P : Nat → Nat} : chP n mc P i k = true ↔ ∃ m x y, m < 4 ∧ y < sz n mc m ∧ x < y ∧ Oo n mc P m x = i ∧ Oo n mc P m y = k := by
  unfold chP; rw [@decide_eq_true_eq _ (Classical.propDecidable _)]
theorem Oo_spec {n nj m x : Nat} {jb mc d P : Nat → Nat} {ar : Nat → Nat → Bool} (S : Shop n nj jb mc d ar) (hP : okP n mc P) (hm : m < 4) (hx : x < sz n mc m) : Oo n mc P m x < n ∧ mc (Oo n mc P m x) = m := by
  have h := op_spec (n := n) (mc := mc) (m := m) (pm_lt _ (sz_bd S) _ (hP m hm) x hx)
  exact ⟨h.1, h.2.1⟩
theorem Oo_inj {n nj m x y : Nat} {jb mc d P : Nat → Nat} {ar : Nat → Nat → Bool} (S : Shop n nj jb mc d ar) (hP : okP n mc P) (hm : m < 4) (hx : x < sz n mc m) (hy : y < sz n mc m) (h : Oo n mc P m x = Oo n mc P m y) : x = y := by
  have hs := sz_bd (m := m) S
  have l1 := pm_lt _ hs _ (hP m hm) x hx
  have l2 := pm_lt _ hs _ (hP m hm) y hy
  have h1 := (op_spec (n := n) (mc := mc) (m := m) l1).2.2
  have h2 := (op_spec (n := n) (mc := mc) (m := m) l2).2.2
  unfold Oo at h
  rw [h, h2] at h1
  exact pm_inj _ hs _ (hP m hm) x hx y hy h1.symm
theorem Oo_sur {n nj i : Nat} {jb mc d P : Nat → Nat} {ar : Nat → Nat → Bool} (S : Shop n nj jb mc d ar) (hP : okP n mc P) (hi : i < n) : ∃ x, x < sz n mc (mc i) ∧ Oo n mc P (mc i) x = i := by
  obtain ⟨x, hx, e⟩ := pm_sur _ (sz_bd (m := mc i) S) _ (hP (mc i) (S.2.2.2.1 i hi)) _ (pos_lt hi)
  refine ⟨x, hx, ?_⟩
  unfold Oo
  rw [e]; exact op_of hi rfl
theorem chP_in {n nj i k : Nat} {jb mc d P : Nat → Nat} {ar : Nat → Nat → Bool} (S : Shop n nj jb mc d ar) (hP : okP n mc P) (h : chP n mc P i k = true) : i < n ∧ k < n ∧ i ≠ k ∧ mc i = mc k := by
  obtain ⟨m, x, y, hm, hy, hxy, e1, e2⟩ := chP_iff.mp h
  have a1 := Oo_spec S hP hm (show x < sz n mc m by omega)
  have a2 := Oo_spec S hP hm hy
  rw [e1] at a1
  rw [e2] at a2
  refine ⟨a1.1, a2.1, fun e => ?_, by rw [a1.2, a2.2]⟩
  have := Oo_inj S hP hm (show x < sz n mc m by omega) hy (by rw [e1, e2, e])
  omega
theorem chP_tot {n nj i k : Nat} {jb mc d P : Nat → Nat} {ar : Nat → Nat → Bool} (S : Shop n nj jb mc d ar) (hP : okP n mc P) (hi : i < n) (hk : k < n) (hne : i ≠ k) (hm : mc i = mc k) : chP n mc P i k = true ∨ chP n mc P k i = true := by
  obtain ⟨x, hx, ex⟩ := Oo_sur S hP hi
  obtain ⟨y, hy, ey⟩ := Oo_sur S hP hk
  have h4 := S.2.2.2.1 i hi
  rw [hm] at hx ex
  rcases Nat.lt_trichotomy x y with q | q | q
  · exact Or.inl (chP_iff.mpr ⟨mc k, x, y, by omega, hy, q, ex, ey⟩)
  · subst q; rw [ex] at ey; exact absurd ey hne
  · exact Or.inr (chP_iff.mpr ⟨mc k, y, x, by omega, hx, q, ey, ex⟩)
/-- heads of orders that hold the arcs: a good plan -/
theorem Gd.of {n nj : Nat} {jb mc d P h : Nat → Nat} {ar : Nat → Nat → Bool} (S : Shop n nj jb mc d ar) (hP : okP n mc P) (hsub : ∀ i k, ar i k = true → chP n mc P i k = true) (hh : IsH n (Ed n jb (chP n mc P)) d h) : Gd n jb mc d ar h := by
  refine ⟨hh.1.sub (fun u v => Ed.sub hsub), fun i k hi hk hne hm => ?_, fun b hb => ?_⟩
  · rcases chP_tot S hP hi hk hne hm with q | q
    · exact Or.inl (hh.1 i k hi hk (Or.inl q))
    · exact Or.inr (hh.1 k i hk hi (Or.inl q))
  · rcases hh.2 b hb with e | ⟨a, ha, hE, e⟩
    · exact Or.inl e
    · refine Or.inr ⟨a, ha, ?_, e⟩
      rcases hE with q | q
      · have := chP_in S hP q
        exact Or.inr ⟨this.2.2.2, this.2.2.1⟩
      · exact Or.inl q
/-- the orders by the starts of a plan -/
def srt (n : Nat) (mc P s : Nat → Nat) : Prop := ∀ m, m < 4 → ∀ x y, y < sz n mc m → x < y → s (Oo n mc P m x) < s (Oo n mc P m y)
theorem Gd.heads {n nj : Nat} {jb mc d P s : Nat → Nat} {ar : Nat → Nat → Bool} (S : Shop n nj jb mc d ar) (hP : okP n mc P) (hG : Gd n jb mc d ar s) (hs : srt n mc P s) : (∀ i k, ar i k = true → chP n mc P i k = true) ∧ IsH n (Ed n jb (chP n mc P)) d s := by
  obtain ⟨g1, g2, g3⟩ := hG
  have hd := S.2.2.2.2.1
  have har := S.2.2.2.2.2.2.1
  -- by the starts
  have lt_of : ∀ i k, chP n mc P i k = true → s i < s k := fun i k h => by
    obtain ⟨m, x, y, hm, hy, hxy, rfl, rfl⟩ := chP_iff.mp h
    exact hs m hm x y hy hxy
  have of_lt : ∀ i k, i < n → k < n → i ≠ k → mc i = mc k → s i < s k → chP n mc P i k = true := fun i k hi hk hne hm h => by
    rcases chP_tot S hP hi hk hne hm with q | q
    · exact q
    · have := lt_of k i q; omega
  refine ⟨fun i k h => ?_, fun a b ha hb he => ?_, fun b hb => ?_⟩
  · obtain ⟨a1, a2, a3, a4⟩ := har i k h
    have h1 := g1 i k a1 a2 (Or.inl h)
    have := (hd i a1).1
    exact of_lt i k a1 a2 a3 a4 (by omega)
  · rcases he with q | q
    · have h1 := lt_of a b q
      obtain ⟨-, -, c3, c4⟩ := chP_in S hP q
      rcases g2 a b ha hb c3 c4 with h2 | h2
      · exact h2
      · omega
    · exact g1 a b ha hb (Or.inr q)
  · rcases g3 b hb with e | ⟨a, ha, hr, e⟩
    · exact Or.inl e
    · refine Or.inr ⟨a, ha, ?_, e⟩
      rcases hr with q | ⟨q1, q2⟩
      · exact Or.inr q
      · have := (hd a ha).1
        exact Or.inl (of_lt a b ha hb q2 q1 (by omega))
theorem srt.of {n nj : Nat} {jb mc d P s : Nat → Nat} {ar : Nat → Nat → Bool} (S : Shop n nj jb mc d ar) (hP : okP n mc P) (hh : Pot n (Ed n jb (chP n mc P)) d s) : srt n mc P s := by
  intro m hm x y hy hxy
  have a1 := Oo_spec S hP hm (show x < sz n mc m by omega)
  have a2 := Oo_spec S hP hm hy
  have h1 := hh _ _ a1.1 a2.1 (Or.inl (chP_iff.mpr ⟨m, x, y, hm, hy, hxy, rfl, rfl⟩))
  have := (S.2.2.2.2.1 _ a1.1).1
  omega
theorem srt.uniq {n nj : Nat} {jb mc d P Q s : Nat → Nat} {ar : Nat → Nat → Bool} (S : Shop n nj jb mc d ar) (hP : okP n mc P) (hQ : okP n mc Q) (h1 : srt n mc P s) (h2 : srt n mc Q s) : ∀ m, m < 4 → P m = Q m := by
  intro m hm
  refine Classical.byContradiction (fun q => ?_)
  obtain ⟨x, hx, y, hy, hxy, x', hx', y', hy', hxy', e1, e2⟩ := pm_dif _ (sz_bd (m := m) S) _ (hP m hm) _ (hQ m hm) q
  have a1 := h1 m hm x y hy hxy
  have a2 := h2 m hm x' y' hy' hxy'
  unfold Oo at a1 a2
  rw [e1, e2] at a1
  omega
/-- each machine's operations can be sorted -/
theorem sort1 {k : Nat} (hk : k < 5) {v : Nat → Nat} (hv : ∀ a b, a < k → b < k → v a = v b → a = b) : ∃ p, p < fc k ∧ ∀ x y, y < k → x < y → v (pm k p x) < v (pm k p y) := by
  have r1 : ∀ c, c < k → rk k v c < k := fun c hc => rk_n hc
  have r2 : ∀ a b, a < k → b < k → a ≠ b → rk k v a ≠ rk k v b := fun a b ha hb hne e => by
    rcases Nat.lt_trichotomy (v a) (v b) with q | q | q
    · have := rk_lt (n := k) ha q; omega
    · exact hne (hv a b ha hb q)
    · have := rk_lt (n := k) hb q; omega
  obtain ⟨p, hp, p0, p1, p2, p3⟩ := pm_all k hk (if 0 < k then rk k v 0 else 0) (by split; have := r1 0 (by omega); omega; omega) (if 1 < k then rk k v 1 else 0) (by split; have := r1 1 (by omega); omega; omega) (if 2 < k then rk k v 2 else 0) (by split; have := r1 2 (by omega); omega; omega) (if 3 < k then rk k v 3 else 0) (by split; have := r1 3 (by omega); omega; omega)
    (fun h => by rw [if_pos h]; exact r1 0 h)
    (fun h => by rw [if_pos h, if_pos (show 0 < k by omega)]; exact ⟨r1 1 h, r2 0 1 (by omega) h (by decide)⟩)
    (fun h => by rw [if_pos h, if_pos (show 0 < k by omega), if_pos (show 1 < k by omega)]; exact ⟨r1 2 h, r2 0 2 (by omega) h (by decide), r2 1 2 (by omega) h (by decide)⟩)
    (fun h => by rw [if_pos h, if_pos (show 0 < k by omega), if_pos (show 1 < k by omega), if_pos (show 2 < k by omega)]; exact ⟨r1 3 h, r2 0 3 (by omega) h (by decide), r2 1 3 (by omega) h (by decide), r2 2 3 (by omega) h (by decide)⟩)
  have hr : ∀ c, c < k → pm k p c = rk k v c := by
    intro c hc
    have h4 : c = 0 ∨ c = 1 ∨ c = 2 ∨ c = 3 := by omega
    rcases h4 with rfl | rfl | rfl | rfl
    · rw [p0 hc, if_pos hc]
    · rw [p1 hc, if_pos hc]
    · rw [p2 hc, if_pos hc]
    · rw [p3 hc, if_pos hc]
  obtain ⟨q, hq, hinv⟩ := pm_inv k hk p hp
  refine ⟨q, hq, fun x y hy hxy => ?_⟩
  have lx := pm_lt k hk q hq x (by omega)
  have ly := pm_lt k hk q hq y hy
  have ex := hinv x (by omega)
  have ey := hinv y hy
  rw [hr _ lx] at ex
  rw [hr _ ly] at ey
  rcases Nat.lt_trichotomy (v (pm k q x)) (v (pm k q y)) with h | h | h
  · exact h
  · have := hv _ _ lx ly h
    rw [this] at ex; omega
  · have := rk_lt (n := k) ly h
    omega
theorem srt.ex {n nj : Nat} {jb mc d s : Nat → Nat} {ar : Nat → Nat → Bool} (S : Shop n nj jb mc d ar) (hG : Gd n jb mc d ar s) : ∃ P, okP n mc P ∧ srt n mc P s := by
  have one : ∀ m, ∃ p, p < fc (sz n mc m) ∧ ∀ x y, y < sz n mc m → x < y → s (op n mc m (pm (sz n mc m) p x)) < s (op n mc m (pm (sz n mc m) p y)) := by
    intro m
    refine sort1 (v := fun c => s (op n mc m c)) (sz_bd S) (fun a b ha hb e => ?_)
    refine Classical.byContradiction (fun q => ?_)
    obtain ⟨a1, a2, a3⟩ := op_spec ha
    obtain ⟨b1, b2, b3⟩ := op_spec hb
    have hne : op n mc m a ≠ op n mc m b := fun e2 => q (by rw [← a3, ← b3, e2])
    have d1 := (S.2.2.2.2.1 _ a1).1
    have d2 := (S.2.2.2.2.1 _ b1).1
    rcases hG.2.1 _ _ a1 b1 hne (by rw [a2, b2]) with h | h
    · omega
    · omega
  refine ⟨fun m => Classical.choose (one m), fun m _ => (Classical.choose_spec (one m)).1, fun m _ x y hy hxy => ?_⟩
  exact (Classical.choose_spec (one m)).2 x y hy hxy
