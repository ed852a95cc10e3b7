/-! Floor: pairs, arcs, loads -/
theorem cn_zero {p : Nat → Bool} : ∀ n, (∀ i, i < n → p i = false) → cn p n = 0
  | 0, _ => rfl
  | n + 1, h => by
    unfold cn
    rw [cn_zero n (fun i hi => h i (by omega)), h n (by omega)]; rfl
theorem sm_congr {f g : Nat → Nat} : ∀ n, (∀ i, i < n → f i = g i) → sm f n = sm g n
  | 0, _ => rfl
  | n + 1, h => by
    unfold sm
    rw [sm_congr n (fun i hi => h i (by omega)), h n (by omega)]
/-- pairs of operations of one machine -/
def pq (mc : Nat → Nat) (n : Nat) : Nat := sm (fun a => cn (fun b => decide (a < b) && decide (mc a = mc b)) n) n
theorem sp_X0_pairs {n : Nat} {mc : Nat → Nat} {fm : Nat → Int32} {post : Int32 → Prop} (hn : n ≤ 12) (hm : Tb n fm mc) (hmb : ∀ i, i < n → mc i < 4) (hp : post (nI (pq mc n))) : wp_X0_pairs (nI n) fm post := by
  unfold wp_X0_pairs
  have bd : ∀ k, k ≤ n → sm (fun a => cn (fun b => decide (a < b) && decide (mc a = mc b)) n) k ≤ 144 := fun k hk => by
    have h1 := sm_le (f := fun a => cn (fun b => decide (a < b) && decide (mc a = mc b)) n) (b := 12) k (fun i _ => Nat.le_trans (cn_bd _ n) hn)
    omega
  refine ⟨fun x y => ∃ k, y = nI k ∧ k ≤ n ∧ x = nI (sm (fun a => cn (fun b => decide (a < b) && decide (mc a = mc b)) n) k), fun _ y => n - y.toNatClampNeg, ⟨0, rfl, by omega, rfl⟩, ?_⟩
  rintro _ _ ⟨a, rfl, ha, rfl⟩
  refine ⟨fun q => ?_, fun q => ?_⟩
  · rw [nI_leI (by omega) (by omega)] at q
    have e : a = n := by omega
    subst e; exact hp
  · rw [nI_leI (by omega) (by omega)] at q
    have b1 := bd a ha
    refine ⟨fun x y => ∃ k, y = nI k ∧ a < k ∧ k ≤ n ∧ x = nI (sm (fun a => cn (fun b => decide (a < b) && decide (mc a = mc b)) n) a + cn (fun b => decide (a < b) && decide (mc a = mc b)) k), fun _ y => n - y.toNatClampNeg, ⟨a + 1, nI_1 a, by omega, by omega, ?_⟩, ?_⟩
    · rw [cn_zero (a + 1) (fun i hi => by simp; omega)]; rfl
    · rintro _ _ ⟨k, rfl, hk1, hk2, rfl⟩
      refine ⟨fun q2 => ?_, fun q2 => ?_⟩
      · rw [nI_leI (by omega) (by omega)] at q2
        have e : k = n := by omega
        subst e
        exact ⟨⟨a + 1, nI_1 a, by omega, rfl⟩, pz_mu (by omega) (by omega)⟩
      · rw [nI_leI (by omega) (by omega)] at q2
        have c1 := hmb a (by omega)
        have c2 := hmb k (by omega)
        rw [hm.get (i := a) (by omega) (by omega), hm.get (i := k) (by omega) (by omega)]
        refine ⟨pz_inc (by omega) (by omega), pz_inc (by omega) (by omega), fun q3 => ⟨⟨k + 1, nI_1 k, by omega, by omega, ?_⟩, pz_mu (by omega) (by omega)⟩, fun q3 => ⟨⟨k + 1, nI_1 k, by omega, by omega, ?_⟩, pz_mu (by omega) (by omega)⟩⟩
        · have e : ¬ mc a = mc k := fun e => q3 (by rw [e])
          show _ = nI (_ + (cn _ k + _))
          simp [e]
        · rw [nI_eq (by omega) (by omega)] at q3
          rw [nI_1]
          show _ = nI (_ + (cn _ k + _))
          simp [hk1, q3, Nat.add_assoc]
/-- how many arcs -/
def nar (ar : Nat → Nat → Bool) (n : Nat) : Nat := sm (fun i => cn (ar i) 12) n
theorem nar_bd (ar : Nat → Nat → Bool) {n : Nat} (hn : n ≤ 12) : nar ar n ≤ 144 := by
  have h1 := sm_le (f := fun i => cn (ar i) 12) (b := 12) n (fun i _ => cn_bd _ 12)
  unfold nar; omega
theorem sp_X0_tiedPairs {n : Nat} {ar : Nat → Nat → Bool} {fa : Nat → Int32} {post : Int32 → Prop} (hn : n ≤ 12) (ha : ArT n ar fa) (hp : post (nI (nar ar n))) : wp_X0_tiedPairs (nI n) fa post := by
  unfold wp_X0_tiedPairs
  refine ⟨fun x y => ∃ k, y = nI k ∧ k ≤ n ∧ x = nI (nar ar k), fun _ y => n - y.toNatClampNeg, ⟨0, rfl, by omega, rfl⟩, ?_⟩
  rintro _ _ ⟨k, rfl, hk, rfl⟩
  refine ⟨fun q => ?_, fun q => ⟨?_, ?_⟩⟩
  · rw [nI_leI (by omega) (by omega)] at q
    have e : k = n := by omega
    subst e; exact hp
  · rw [nI_leI (by omega) (by omega)] at q
    exact pz_inc (by omega) (by omega)
  · rw [nI_leI (by omega) (by omega)] at q
    obtain ⟨m, hm, e, ht⟩ := ha k (by omega)
    rw [nI_clamp (by omega), e]
    refine sp_J6_bitCount hm ⟨⟨k + 1, nI_1 k, by omega, ?_⟩, pz_mu (by omega) (by omega)⟩
    rw [nI_add, cn_congr (q := ar k) 12 (fun i _ => ht i)]
    rfl
/-- the durations of those of a machine from a head and a tail on -/
def wk (n : Nat) (mc d h t : Nat → Nat) (m lh lt : Nat) : Nat := sm (fun i => if mc i = m ∧ lh ≤ h i ∧ lt ≤ t i then d i else 0) n
theorem wk_bd {n : Nat} {mc d h t : Nat → Nat} {m lh lt : Nat} (hn : n ≤ 12) (hdb : ∀ i, i < n → d i ≤ 50) : ∀ k, k ≤ n → sm (fun i => if mc i = m ∧ lh ≤ h i ∧ lt ≤ t i then d i else 0) k ≤ 600 := fun k hk => by
  have h1 := sm_le (f := fun i => if mc i = m ∧ lh ≤ h i ∧ lt ≤ t i then d i else 0) (b := 50) k (fun i hi => by
    have := hdb i (by omega)
    by_cases q : mc i = m ∧ lh ≤ h i ∧ lt ≤ t i
    · rw [if_pos q]; exact this
    · rw [if_neg q]; omega)
  omega
theorem sp_X0_workFrom {n m lh lt : Nat} {mc d h t : Nat → Nat} {fm fd fh ft : Nat → Int32} {post : Int32 → Prop} (hn : n ≤ 12) (hm : Tb n fm mc) (hmb : ∀ i, i < n → mc i < 4) (hd : Tb n fd d) (hdb : ∀ i, i < n → d i ≤ 50) (hth : Tb n fh h) (htt : Tb n ft t) (hb : ∀ i, i < n → h i ≤ 1000 ∧ t i ≤ 1000) (hm4 : m < 4) (hlh : lh ≤ 1000) (hlt : lt ≤ 1000) (hp : post (nI (wk n mc d h t m lh lt))) : wp_X0_workFrom (nI n) fm fd fh ft (nI m) (nI lh) (nI lt) post := by
  unfold wp_X0_workFrom
  refine ⟨fun x y => ∃ k, y = nI k ∧ k ≤ n ∧ x = nI (sm (fun i => if mc i = m ∧ lh ≤ h i ∧ lt ≤ t i then d i else 0) k), fun _ y => n - y.toNatClampNeg, ⟨0, rfl, by omega, rfl⟩, ?_⟩
  rintro _ _ ⟨k, rfl, hk, rfl⟩
  refine ⟨fun q => ?_, fun q => ?_⟩
  · rw [nI_leI (by omega) (by omega)] at q
    have e : k = n := by omega
    subst e; exact hp
  · rw [nI_leI (by omega) (by omega)] at q
    have hk2 : k < n := by omega
    have c1 := hmb k hk2
    have c2 := hb k hk2
    have hin : vp_in (nI k) 12 := pz_inc (by omega) (by omega)
    have no : ¬ (mc k = m ∧ lh ≤ h k ∧ lt ≤ t k) → (∃ k', nI k + 1 = nI k' ∧ k' ≤ n ∧ nI (sm (fun i => if mc i = m ∧ lh ≤ h i ∧ lt ≤ t i then d i else 0) k) = nI (sm (fun i => if mc i = m ∧ lh ≤ h i ∧ lt ≤ t i then d i else 0) k')) ∧ n - (nI k + 1).toNatClampNeg < n - (nI k).toNatClampNeg := by
      intro hx
      refine ⟨⟨k + 1, nI_1 k, by omega, ?_⟩, pz_mu hk2 (by omega)⟩
      show _ = nI (sm _ k + _)
      dsimp only
      rw [if_neg hx]; rfl
    rw [hm.get hk2 (by omega), hth.get hk2 (by omega), htt.get hk2 (by omega), hd.get hk2 (by omega)]
    refine ⟨hin, fun q2 => no (fun e => q2 (by rw [e.1])), fun q2 => ⟨hin, fun q3 => no (fun e => ?_), fun q3 => ⟨hin, fun q4 => no (fun e => ?_), fun q4 => ⟨hin, ⟨k + 1, nI_1 k, by omega, ?_⟩, pz_mu hk2 (by omega)⟩⟩⟩⟩
    · rw [nI_ltI (by omega) (by omega)] at q3; omega
    · rw [nI_ltI (by omega) (by omega)] at q4; omega
    · rw [nI_eq (by omega) (by omega)] at q2
      rw [nI_ltI (by omega) (by omega)] at q3 q4
      rw [nI_add]
      show _ = nI (sm _ k + _)
      dsimp only
      rw [if_pos (show mc k = m ∧ lh ≤ h k ∧ lt ≤ t k from ⟨q2, by omega, by omega⟩)]
/-- THE LOAD of a machine -/
def IsLd (n : Nat) (mc d h t : Nat → Nat) (m v : Nat) : Prop :=
  (∀ (T : Nat → Bool) (lh lt : Nat), (∀ i, T i = true → i < n ∧ mc i = m ∧ lh ≤ h i ∧ lt ≤ t i) → (∃ i, T i = true) → lh + sm (fun i => if T i = true then d i else 0) n + lt ≤ v) ∧
  (v = 0 ∨ ∃ (T : Nat → Bool) (lh lt : Nat), (∀ i, T i = true → i < n ∧ mc i = m ∧ lh ≤ h i ∧ lt ≤ t i) ∧ (∃ i, T i = true) ∧ v = lh + sm (fun i => if T i = true then d i else 0) n + lt)
theorem IsLd.uniq {n : Nat} {mc d h t : Nat → Nat} {m v w : Nat} (h1 : IsLd n mc d h t m v) (h2 : IsLd n mc d h t m w) : v = w := by
  apply Nat.le_antisymm
  · rcases h1.2 with e | ⟨T, lh, lt, a, b, e⟩
    · omega
    · rw [e]; exact h2.1 T lh lt a b
  · rcases h2.2 with e | ⟨T, lh, lt, a, b, e⟩
    · omega
    · rw [e]; exact h1.1 T lh lt a b
theorem sm_pos {f : Nat → Nat} {n : Nat} (h : 0 < sm f n) : ∃ i, i < n ∧ 0 < f i := by
  induction n with
  | zero => exact absurd h (by simp [sm])
  | succ n ih =>
    by_cases q : 0 < f n
    · exact ⟨n, by omega, q⟩
    · obtain ⟨i, hi, hf⟩ := ih (by unfold sm at h; omega)
      exact ⟨i, by omega, hf⟩
theorem IsLd.of {n : Nat} {mc d h t : Nat → Nat} {m v : Nat} (hd : ∀ i, i < n → 1 ≤ d i) (h1 : ∀ a b, a < n → b < n → mc a = m → mc b = m → 0 < wk n mc d h t m (h a) (t b) → h a + wk n mc d h t m (h a) (t b) + t b ≤ v)
    (h2 : v = 0 ∨ ∃ a b, a < n ∧ b < n ∧ 0 < wk n mc d h t m (h a) (t b) ∧ v = h a + wk n mc d h t m (h a) (t b) + t b) : IsLd n mc d h t m v := by
  refine ⟨fun T lh lt hT hne => ?_, ?_⟩
  · obtain ⟨va, ⟨a, ha, rfl⟩, hamin⟩ := pk_least (fun v => ∃ a, T a = true ∧ h a = v) (by obtain ⟨i, hi⟩ := hne; exact ⟨_, i, hi, rfl⟩)
    obtain ⟨vb, ⟨b, hb, rfl⟩, hbmin⟩ := pk_least (fun v => ∃ a, T a = true ∧ t a = v) (by obtain ⟨i, hi⟩ := hne; exact ⟨_, i, hi, rfl⟩)
    have hTa := hT a ha
    have hTb := hT b hb
    have hw : sm (fun i => if T i = true then d i else 0) n ≤ wk n mc d h t m (h a) (t b) := by
      refine sm_mono n (fun i hi => ?_)
      by_cases q : T i = true
      · have hTi := hT i q
        have m1 : ¬ h i < h a := fun q2 => hamin _ q2 ⟨i, q, rfl⟩
        have m2 : ¬ t i < t b := fun q2 => hbmin _ q2 ⟨i, q, rfl⟩
        rw [if_pos q, if_pos ⟨hTi.2.1, by omega, by omega⟩]; exact Nat.le_refl _
      · rw [if_neg q]; exact Nat.zero_le _
    have hpos : 0 < sm (fun i => if T i = true then d i else 0) n := by
      have h3 := sm_add (f := fun _ => 0) (g := fun i => if T i = true then d i else 0) (i := a) (d := d a) n hTa.1 (fun _ _ _ => Nat.zero_le _) (by simp [ha])
      have := hd a hTa.1
      omega
    have h4 := h1 a b hTa.1 hTb.1 hTa.2.1 hTb.2.1 (by omega)
    omega
  · rcases h2 with e | ⟨a, b, ha, hb, hpos, e⟩
    · exact Or.inl e
    · refine Or.inr ⟨fun i => decide (i < n) && decide (mc i = m ∧ h a ≤ h i ∧ t b ≤ t i), h a, t b, fun i hi => ?_, ?_, ?_⟩
      · simp only [Bool.and_eq_true, decide_eq_true_eq] at hi
        exact ⟨hi.1, hi.2⟩
      · obtain ⟨i, hi, hf⟩ := sm_pos hpos
        refine ⟨i, ?_⟩
        simp only [Bool.and_eq_true, decide_eq_true_eq]
        refine ⟨hi, Classical.byContradiction (fun q => ?_)⟩
        rw [if_neg q] at hf
        omega
      · rw [e]
        unfold wk
        rw [sm_congr n (fun i hi => ?_)]
        by_cases q : mc i = m ∧ h a ≤ h i ∧ t b ≤ t i
        · rw [if_pos q, if_pos (by simp [hi, q])]
        · rw [if_neg q, if_neg (by simp [q])]
set_option maxHeartbeats 1000000 in
theorem sp_X0_burden {n m : Nat} {mc d h t : Nat → Nat} {fm fd fh ft : Nat → Int32} {post : Int32 → Prop} (hn : n ≤ 12) (hm : Tb n fm mc) (hmb : ∀ i, i < n → mc i < 4) (hd : Tb n fd d) (hdb : ∀ i, i < n → 1 ≤ d i ∧ d i ≤ 50) (hth : Tb n fh h) (htt : Tb n ft t) (hb : ∀ i, i < n → h i ≤ 1000 ∧ t i ≤ 1000) (hm4 : m < 4) (hp : ∀ v, v ≤ 2600 → IsLd n mc d h t m v → post (nI v)) : wp_X0_burden (nI n) fm fd fh ft (nI m) post := by
  unfold wp_X0_burden
  refine ⟨fun x y => ∃ a v, y = nI a ∧ a ≤ n ∧ x = nI v ∧ v ≤ 2600 ∧ (∀ a' b', a' < a → b' < n → mc a' = m → mc b' = m → 0 < wk n mc d h t m (h a') (t b') → h a' + wk n mc d h t m (h a') (t b') + t b' ≤ v) ∧ (v = 0 ∨ ∃ a b, a < n ∧ b < n ∧ 0 < wk n mc d h t m (h a) (t b) ∧ v = h a + wk n mc d h t m (h a) (t b) + t b), fun _ y => n - y.toNatClampNeg, ⟨0, 0, rfl, by omega, rfl, by omega, fun _ _ h => absurd h (by omega), Or.inl rfl⟩, ?_⟩
  rintro _ _ ⟨a, v, rfl, ha, rfl, hv, h1, h2⟩
  refine ⟨fun q => ?_, fun q => ?_⟩
  · rw [nI_leI (by omega) (by omega)] at q
    have e : a = n := by omega
    subst e
    exact hp v hv (IsLd.of (fun i hi => (hdb i hi).1) h1 h2)
  · rw [nI_leI (by omega) (by omega)] at q
    have ha2 : a < n := by omega
    refine ⟨fun x y => ∃ b v, y = nI b ∧ b ≤ n ∧ x = nI v ∧ v ≤ 2600 ∧ (∀ a' b', a' < a ∨ (a' = a ∧ b' < b) → b' < n → mc a' = m → mc b' = m → 0 < wk n mc d h t m (h a') (t b') → h a' + wk n mc d h t m (h a') (t b') + t b' ≤ v) ∧ (v = 0 ∨ ∃ a b, a < n ∧ b < n ∧ 0 < wk n mc d h t m (h a) (t b) ∧ v = h a + wk n mc d h t m (h a) (t b) + t b), fun _ y => n - y.toNatClampNeg, ⟨0, v, rfl, by omega, rfl, hv, fun a' b' q1 => h1 a' b' (q1.resolve_right (fun q2 => by omega)), h2⟩, ?_⟩
    rintro _ _ ⟨b, w, rfl, hb2, rfl, hw, g1, g2⟩
    refine ⟨fun q2 => ?_, fun q2 => ?_⟩
    · rw [nI_leI (by omega) (by omega)] at q2
      have e : b = n := by omega
      subst e
      exact ⟨⟨a + 1, w, nI_1 a, by omega, rfl, hw, fun a' b' q1 q3 => g1 a' b' (by omega) q3, g2⟩, pz_mu ha2 (by omega)⟩
    · rw [nI_leI (by omega) (by omega)] at q2
      have hb3 : b < n := by omega
      have ia : vp_in (nI a) 12 := pz_inc (by omega) (by omega)
      have ib : vp_in (nI b) 12 := pz_inc (by omega) (by omega)
      have ca := hmb a ha2
      have cb := hmb b hb3
      have da := hb a ha2
      have db := hb b hb3
      have no : ¬ (mc a = m ∧ mc b = m ∧ 0 < wk n mc d h t m (h a) (t b)) → (∃ b' w', nI b + 1 = nI b' ∧ b' ≤ n ∧ nI w = nI w' ∧ w' ≤ 2600 ∧ (∀ a' b'', a' < a ∨ (a' = a ∧ b'' < b') → b'' < n → mc a' = m → mc b'' = m → 0 < wk n mc d h t m (h a') (t b'') → h a' + wk n mc d h t m (h a') (t b'') + t b'' ≤ w') ∧ (w' = 0 ∨ ∃ a b, a < n ∧ b < n ∧ 0 < wk n mc d h t m (h a) (t b) ∧ w' = h a + wk n mc d h t m (h a) (t b) + t b)) ∧ n - (nI b + 1).toNatClampNeg < n - (nI b).toNatClampNeg := by
        intro hx
        refine ⟨⟨b + 1, w, nI_1 b, by omega, rfl, hw, fun a' b' q1 q3 q4 q5 q6 => ?_, g2⟩, pz_mu hb3 (by omega)⟩
        by_cases e : a' = a ∧ b' = b
        · obtain ⟨rfl, rfl⟩ := e
          exact absurd ⟨q4, q5, q6⟩ hx
        · exact g1 a' b' (by omega) q3 q4 q5 q6
      rw [hm.get ha2 (by omega), hm.get hb3 (by omega), hth.get ha2 (by omega), htt.get hb3 (by omega)]
      refine ⟨ia, fun q3 => no (fun e => q3 (by rw [e.1])), fun q3 => ⟨ib, fun q4 => no (fun e => q4 (by rw [e.2.1])), fun q4 => ⟨ia, ib, ?_⟩⟩⟩
      rw [nI_eq (by omega) (by omega)] at q3 q4
      have wb := wk_bd (mc := mc) (d := d) (h := h) (t := t) (m := m) (lh := h a) (lt := t b) hn (fun i hi => (hdb i hi).2) n (Nat.le_refl _)
      have wb2 : wk n mc d h t m (h a) (t b) ≤ 600 := wb
      refine sp_X0_workFrom hn hm hmb hd (fun i hi => (hdb i hi).2) hth htt hb hm4 (by omega) (by omega) ⟨fun q5 => no (fun e => ?_), fun q5 => ⟨ia, ib, ?_⟩⟩
      · rw [pz_0, nI_leI (by omega) (by omega)] at q5
        omega
      · rw [pz_0, nI_leI (by omega) (by omega)] at q5
        rw [nI_add, nI_add, pz_max (by omega) (by omega)]
        refine ⟨⟨b + 1, _, nI_1 b, by omega, rfl, by omega, fun a' b' q1 q6 q7 q8 q9 => ?_, ?_⟩, pz_mu hb3 (by omega)⟩
        · by_cases e : a' = a ∧ b' = b
          · obtain ⟨rfl, rfl⟩ := e
            omega
          · have := g1 a' b' (by omega) q6 q7 q8 q9
            omega
        · rcases Nat.le_total w (h a + wk n mc d h t m (h a) (t b) + t b) with q10 | q10
          · exact Or.inr ⟨a, b, ha2, hb3, by omega, by omega⟩
          · rw [Nat.max_eq_left q10]; exact g2
