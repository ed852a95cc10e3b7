/-! Numbers: Int32 by Nat; sets of at most 31 numbers as ints -/
theorem pz_0 : (0 : Int32) = nI 0 := rfl
theorem pz_1 : (1 : Int32) = nI 1 := rfl
theorem pz_in {k n : Nat} (hk : k < 2 ^ 31) (hn : n < 2 ^ 31) : vp_in (nI k) n ↔ k < n := by
  rw [vp_in_iff, nI_toInt hk]; omega
theorem pz_inc {k n : Nat} (h : k < n) (hn : n ≤ 1000) : vp_in (nI k) n := vp_in_nI h (by omega)
theorem pz_ne1 {k : Nat} (h : k < 2 ^ 31) : ¬ nI k = (-1) := by
  intro q
  have a := nI_toInt h
  rw [q] at a
  have : ((-1 : Int32)).toInt = -1 := rfl
  omega
theorem pz_max {a b : Nat} (ha : a < 2 ^ 31) (hb : b < 2 ^ 31) : (if nI a < nI b then nI b else nI a) = nI (max a b) := by
  by_cases h : a < b
  · rw [if_pos ((nI_ltI ha hb).mpr h), Nat.max_eq_right (by omega)]
  · rw [if_neg (fun q => h ((nI_ltI ha hb).mp q)), Nat.max_eq_left (by omega)]
/-- a loop's counter: one step on, the measure falls -/
theorem pz_mu {k n : Nat} (h : k < n) (hn : n ≤ 1000) : n - (nI k + 1).toNatClampNeg < n - (nI k).toNatClampNeg := by
  rw [nI_1, nI_clamp (by omega), nI_clamp (by omega)]; omega
theorem pz_sh : ∀ k, k < 32 → ((nI k &&& 31).toBitVec.smod 32).toNat = k := by decide
theorem pz_bit {m k : Nat} (hm : m < 2 ^ 31) (hk : k < 32) : (nI m >>> (nI k &&& 31)) &&& 1 = nI (m / 2 ^ k % 2) := by
  rw [pk_shrN hm _ k (pz_sh k hk)]
  exact pk_andN (by have := Nat.div_le_self m (2 ^ k); omega) 1 rfl
theorem pz_tb (m k : Nat) : m / 2 ^ k % 2 = 0 ↔ m.testBit k = false := by
  rw [Nat.testBit_eq_decide_div_mod_eq]
  have : m / 2 ^ k % 2 = 0 ∨ m / 2 ^ k % 2 = 1 := by omega
  rcases this with h | h <;> simp [h]
theorem pz_one {k : Nat} (hk : k < 31) : (1 : Int32) <<< (nI k &&& 31) = nI (2 ^ k) := by
  have h := pk_shlN (n := 1) (nI k &&& 31) k (pz_sh k (by omega)) (by
    have : 2 ^ k ≤ 2 ^ 30 := Nat.pow_le_pow_right (by decide) (by omega)
    omega)
  rw [Nat.one_mul] at h
  exact h
theorem pz_tn {n : Nat} (h : n < 2 ^ 32) : (nI n).toBitVec.toNat = n := pk_tn h
theorem pz_inj {x y : Int32} (h : x.toBitVec = y.toBitVec) : x = y := Int32.toBitVec_inj.mp h
theorem pz_or {a b : Nat} (ha : a < 2 ^ 31) (hb : b < 2 ^ 31) : nI a ||| nI b = nI (a ||| b) := by
  apply pz_inj
  apply BitVec.eq_of_toNat_eq
  rw [Int32.toBitVec_or, BitVec.toNat_or, pz_tn (by omega), pz_tn (by omega), pz_tn]
  exact Nat.or_lt_two_pow (by omega) (by omega)
theorem pz_and {a b : Nat} (ha : a < 2 ^ 31) (hb : b < 2 ^ 31) : nI a &&& nI b = nI (a &&& b) := by
  apply pz_inj
  apply BitVec.eq_of_toNat_eq
  rw [Int32.toBitVec_and, BitVec.toNat_and, pz_tn (by omega), pz_tn (by omega), pz_tn]
  exact Nat.and_lt_two_pow _ (by omega)
theorem pz_xor {a b : Nat} (ha : a < 2 ^ 31) (hb : b < 2 ^ 31) : nI a ^^^ nI b = nI (a ^^^ b) := by
  apply pz_inj
  apply BitVec.eq_of_toNat_eq
  rw [Int32.toBitVec_xor, BitVec.toNat_xor, pz_tn (by omega), pz_tn (by omega), pz_tn]
  exact Nat.xor_lt_two_pow (by omega) (by omega)
/-- the first n places of a row, as numbers -/
def Tb (n : Nat) (f : Nat → Int32) (g : Nat → Nat) : Prop := ∀ i, i < n → f i = nI (g i)
theorem Tb.st {n : Nat} {f : Nat → Int32} {g : Nat → Nat} (h : Tb n f g) (k x : Nat) : Tb n (upd f k (nI x)) (fun i => if i = k then x else g i) := by
  intro i hi
  by_cases e : i = k
  · subst e; rw [pk_us]; simp
  · rw [pk_un e, h i hi]; simp [e]
theorem Tb.congr {n : Nat} {f : Nat → Int32} {g g' : Nat → Nat} (h : Tb n f g) (e : ∀ i, i < n → g i = g' i) : Tb n f g' := fun i hi => by rw [h i hi, e i hi]
theorem Tb.get {n : Nat} {f : Nat → Int32} {g : Nat → Nat} (h : Tb n f g) {i : Nat} (hi : i < n) (hn : n ≤ 1000) : f (nI i).toNatClampNeg = nI (g i) := by
  rw [nI_clamp (by omega)]; exact h i hi
/-- is an operation -/
def Op (n : Nat) (a : Int32) : Prop := ∃ k, k < n ∧ a = nI k
def Pr (n : Nat) (mc : Nat → Nat) (a b : Int32) : Prop := ∃ i k, i < n ∧ k < n ∧ a = nI i ∧ b = nI k ∧ i ≠ k ∧ mc i = mc k
theorem Op.not {n : Nat} {a : Int32} (hn : n ≤ 1000) (h : ¬ Op n a) : a < 0 ∨ nI n ≤ a := by
  rcases pk_ix a (n := n) (by omega) with q | q | ⟨j, hj, q⟩
  · exact Or.inl q
  · exact Or.inr q
  · exact absurd ⟨j, hj, q⟩ h
theorem Op.yes {n : Nat} {a : Int32} (hn : n ≤ 1000) (h : Op n a) : ¬ a < 0 ∧ ¬ nI n ≤ a := by
  obtain ⟨k, hk, rfl⟩ := h
  exact ⟨nI_pos (by omega), nI_ge hk (by omega)⟩
/-! Floor: the small ones -/
theorem sp_X0_isJob {n : Nat} {a0 : Int32} {post : Int32 → Prop} (hn : n ≤ 12) (h1 : Op n a0 → post 1) (h0 : ¬ Op n a0 → post 0) : wp_X0_isJob (nI n) a0 post := by
  unfold wp_X0_isJob
  by_cases h : Op n a0
  · have := h.yes (by omega)
    exact ⟨fun q => absurd q this.1, fun _ => ⟨fun q => absurd q this.2, fun _ => h1 h⟩⟩
  · rcases Op.not (by omega) h with q | q
    · exact ⟨fun _ => h0 h, fun q' => absurd q q'⟩
    · exact ⟨fun _ => h0 h, fun _ => ⟨fun _ => h0 h, fun q' => absurd q q'⟩⟩
theorem sp_X0_isOperation {n : Nat} {a0 : Int32} {post : Int32 → Prop} (hn : n ≤ 12) (h1 : Op n a0 → post 1) (h0 : ¬ Op n a0 → post 0) : wp_X0_isOperation (nI n) a0 post := sp_X0_isJob hn h1 h0
theorem sp_X0_isPair {n : Nat} {mc : Nat → Nat} {fm : Nat → Int32} {a0 a1 : Int32} {post : Int32 → Prop} (hn : n ≤ 12) (hm : Tb n fm mc) (hmb : ∀ i, i < n → mc i < 4) (h1 : Pr n mc a0 a1 → post 1) (h0 : ¬ Pr n mc a0 a1 → post 0) : wp_X0_isPair (nI n) fm a0 a1 post := by
  unfold wp_X0_isPair
  refine sp_X0_isOperation hn (fun ho0 => ⟨fun q => absurd q (by decide), fun _ => ?_⟩) (fun ho0 => ⟨fun _ => h0 ?_, fun q => absurd rfl q⟩)
  · refine sp_X0_isOperation hn (fun ho1 => ⟨fun q => absurd q (by decide), fun _ => ?_⟩) (fun ho1 => ⟨fun _ => h0 ?_, fun q => absurd rfl q⟩)
    · obtain ⟨i, hi, rfl⟩ := ho0
      obtain ⟨k, hk, rfl⟩ := ho1
      refine ⟨fun q => h0 ?_, fun q => ⟨pz_inc (by omega) (by omega), pz_inc (by omega) (by omega), ?_⟩⟩
      · rintro ⟨i', k', hi', hk', e1, e2, ne, -⟩
        rw [nI_eq (by omega) (by omega)] at e1 e2 q
        omega
      · rw [hm.get hi (by omega), hm.get hk (by omega)]
        have b1 := hmb i hi
        have b2 := hmb k hk
        refine ⟨fun q2 => h0 ?_, fun q2 => h1 ?_⟩
        · rintro ⟨i', k', hi', hk', e1, e2, ne, e3⟩
          rw [nI_eq (by omega) (by omega)] at e1 e2
          subst e1; subst e2
          exact q2 (by rw [e3])
        · rw [nI_eq (by omega) (by omega)] at q2
          exact ⟨i, k, hi, hk, rfl, rfl, fun e => q (by rw [e]), q2⟩
    · rintro ⟨i, k, hi, hk, e1, e2, -⟩
      exact ho1 ⟨k, hk, e2⟩
  · rintro ⟨i, k, hi, hk, e1, e2, -⟩
    exact ho0 ⟨i, hi, e1⟩
theorem sp_X2_isIn {m k : Nat} {post : Int32 → Prop} (hm : m < 2 ^ 31) (hk : k < 32) (h1 : m.testBit k = true → post 1) (h0 : m.testBit k = false → post 0) : wp_X2_isIn (nI m) (nI k) post := by
  unfold wp_X2_isIn
  rw [pz_bit hm hk]
  have hb : m / 2 ^ k % 2 < 2 := Nat.mod_lt _ (by decide)
  refine ⟨fun q => h0 ?_, fun q => h1 ?_⟩
  · rw [pz_0, nI_eq (by omega) (by omega)] at q
    exact (pz_tb m k).mp q
  · cases hb2 : m.testBit k
    · exact absurd (by rw [(pz_tb m k).mpr hb2]; rfl) q
    · rfl
