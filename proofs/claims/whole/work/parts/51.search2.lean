/-! The search: bounds, and each good plan is met once -/
def spn (n : Nat) (d s : Nat → Nat) : Nat := mx (fun i => s i + d i) n
def wlf (n : Nat) (mc d : Nat → Nat) (pl : Nat → Bool) (m : Nat) : Nat := sm (fun i => if pl i = false ∧ mc i = m then d i else 0) n
theorem wlf_put {n i : Nat} {mc d : Nat → Nat} {pl : Nat → Bool} (hi : i < n) (hp : pl i = false) (m : Nat) : wlf n mc d pl m ≤ wlf n mc d (put pl i) m + (if mc i = m then d i else 0) := by
  have key : ∀ k, sm (fun i => if pl i = false ∧ mc i = m then d i else 0) k ≤ sm (fun k => if put pl i k = false ∧ mc k = m then d k else 0) k + (if mc i = m then d i else 0) * (if i < k then 1 else 0) := by
    intro k
    induction k with
    | zero => simp [sm]
    | succ k ih =>
      show sm _ k + (if pl k = false ∧ mc k = m then d k else 0) ≤ sm _ k + (if put pl i k = false ∧ mc k = m then d k else 0) + _
      by_cases e : k = i
      · subst e
        rw [if_neg (show ¬ k < k by omega)] at ih
        rw [if_pos (show k < k + 1 by omega)]
        by_cases q : mc k = m
        · rw [if_pos ⟨hp, q⟩, if_pos q]
          rw [if_pos q] at ih
          have h3 : ¬ (put pl k k = false ∧ mc k = m) := fun x => by have := x.1; unfold put at this; simp at this
          rw [if_neg h3]; omega
        · rw [if_neg (fun x => q x.2), if_neg q]
          rw [if_neg q] at ih
          omega
      · have e2 : (if i < k + 1 then 1 else 0) = (if i < k then 1 else (0 : Nat)) := by
          by_cases q : i < k
          · rw [if_pos q, if_pos (by omega)]
          · rw [if_neg q, if_neg (by omega)]
        rw [e2]
        have e3 : put pl i k = pl k := by unfold put; simp [e]
        rw [e3]; omega
  have h := key n
  rw [if_pos hi] at h
  unfold wlf; omega
theorem jf_i {n i b : Nat} {jb d : Nat → Nat} {pl : Nat → Bool} {st : Nat → Nat} (hi : i < n) : b + d i ≤ jf n jb d (put pl i) (sts st i b) (jb i) := by
  have h1 := jf_ge (n := n) (jb := jb) (d := d) (pl := put pl i) (st := sts st i b) hi (by unfold put; simp)
  unfold sts at h1 ⊢
  rw [if_pos rfl] at h1
  exact h1
/-- a machine's work comes behind what it has done -/
theorem lv_load {n nj : Nat} {jb mc d : Nat → Nat} {ar : Nat → Nat → Bool} (S : Shop n nj jb mc d ar) (m : Nat) : ∀ (k : Nat) (pl : Nat → Bool) (st : Nat → Nat) (lt li : Nat), lf n pl = k → ∀ s, s ∈ lv n nj jb mc d ar k pl st lt li → jf n mc d pl st m + wlf n mc d pl m ≤ spn n d s := by
  intro k
  induction k with
  | zero =>
    intro pl st lt li hk s hs
    unfold lv at hs
    rw [List.mem_singleton] at hs
    subst hs
    have all := lf_zero hk
    have e : wlf n mc d pl m = 0 := by
      have : sm (fun i => if pl i = false ∧ mc i = m then d i else 0) n ≤ sm (fun _ => 0) n := sm_mono n (fun i hi => by
        rw [if_neg (fun x => by rw [all i hi] at x; cases x.1)]; exact Nat.le_refl _)
      have h2 : sm (fun _ => 0) n ≤ n * 0 := sm_le n (fun _ _ => Nat.le_refl _)
      unfold wlf; omega
    rw [e]
    rcases jf_at (n := n) (jb := mc) (d := d) (pl := pl) (st := s) (j := m) with h0 | ⟨a, ha, -, -, h1⟩
    · omega
    · have := mx_ge (f := fun i => s i + d i) n a ha
      unfold spn; omega
  | succ k ih =>
    intro pl st lt li hk s hs
    obtain ⟨j, hj, hok, hs⟩ := mem_lv hs
    generalize hi : tn n jb pl j = i at hok hs
    have hin : i < n := hok.1
    obtain ⟨t1, t2, t3⟩ := tn_spec (n := n) (jb := jb) (pl := pl) (j := j) (by rw [hi]; exact hin)
    rw [hi] at t1 t2 t3
    have h1 := ih _ _ _ _ (by have := lf_put hin t2; omega) s hs
    have h2 := wlf_put (mc := mc) (d := d) hin t2 m
    have h3 := jf_put (n := n) (b := er n jb mc d pl st i) (j := m) (jb := mc) (d := d) (st := st) t2
    by_cases q : mc i = m
    · subst q
      rw [if_pos rfl] at h2
      have h4 := jf_i (n := n) (jb := mc) (d := d) (pl := pl) (st := st) (b := er n jb mc d pl st i) hin
      have h5 : jf n mc d pl st (mc i) ≤ er n jb mc d pl st i := by unfold er; omega
      omega
    · rw [if_neg q] at h2
      omega
/-- behind a start come its duration and its tail -/
theorem Gd.tail {n : Nat} {jb mc d s ts : Nat → Nat} {ar : Nat → Nat → Bool} (hd : ∀ i, i < n → 1 ≤ d i) (hG : Gd n jb mc d ar s) (ht : IsH n (Rv (Ed n jb ar)) d ts) : ∀ i, i < n → s i + d i + ts i ≤ spn n d s := by
  have key : ∀ (v i : Nat), i < n → ts i = v → s i + d i + ts i ≤ spn n d s := by
    intro v
    induction v using Nat.strongRecOn with
    | _ v ih =>
      intro i hi hv
      rcases ht.2 i hi with e | ⟨k, hk, hE, e⟩
      · have := mx_ge (f := fun i => s i + d i) n i hi
        unfold spn; omega
      · have h1 := hd k hk
        have h2 := ih (ts k) (by omega) k hk rfl
        have h3 := hG.1 i k hi hk hE
        omega
  exact fun i hi => key _ i hi rfl
theorem jf_ne {n i b j : Nat} {jb d : Nat → Nat} {pl : Nat → Bool} {st : Nat → Nat} (hj : jb i ≠ j) : jf n jb d (put pl i) (sts st i b) j = jf n jb d pl st j := by
  refine mx_congr n (fun k hk => ?_)
  by_cases e : k = i
  · subst e
    rw [if_neg (fun x => hj x.2), if_neg (fun x => hj x.2)]
  · have e3 : put pl i k = pl k := by unfold put; simp [e]
    have e4 : sts st i b k = st k := by unfold sts; rw [if_neg e]
    rw [e3, e4]
/-- one whose turn is over, and that none can put off: no leaf -/
theorem lv_stranded {n nj i : Nat} {jb mc d : Nat → Nat} {ar : Nat → Nat → Bool} (hi : i < n) : ∀ (k : Nat) (pl : Nat → Bool) (st : Nat → Nat) (lt li : Nat), lf n pl = k → pl i = false → (∀ a, a < i → jb a = jb i → pl a = true) → psd (er n jb mc d pl st i) i lt li → (∀ a, a < n → pl a = false → mc a = mc i → a ≠ i → ar i a = true) → lv n nj jb mc d ar k pl st lt li = [] := by
  intro k
  induction k with
  | zero =>
    intro pl st lt li hk hp
    rw [lf_zero hk i hi] at hp; cases hp
  | succ k ih =>
    intro pl st lt li hk hp hb hpas hoth
    refine List.eq_nil_iff_forall_not_mem.mpr (fun s hs => ?_)
    obtain ⟨j, hj, hok, hs⟩ := mem_lv hs
    generalize hc : tn n jb pl j = c at hok hs
    have hcn : c < n := hok.1
    obtain ⟨t1, t2, t3⟩ := tn_spec (n := n) (jb := jb) (pl := pl) (j := j) (by rw [hc]; exact hcn)
    rw [hc] at t1 t2 t3
    have hci : c ≠ i := fun e => by rw [e] at hok; exact hok.2.2 hpas
    have hmc : mc c ≠ mc i := fun e => by
      have h1 := hoth c hcn t2 e hci
      have h2 := hok.2.1 i hi h1
      rw [hp] at h2; cases h2
    have hjc : jb c ≠ jb i := fun e => by
      have h1 : tn n jb pl (jb i) = i := tn_of hi hp hb
      rw [← e, t1, hc] at h1
      exact hci h1
    rw [ih (put pl c) (sts st c (er n jb mc d pl st c)) (er n jb mc d pl st c) (c + 1) (by have := lf_put hcn t2; omega) (by unfold put; simp [hp, Ne.symm hci]) (fun a ha e => by unfold put; rw [hb a ha e]; rfl) ?_ (fun a ha hpa hma hne => ?_)] at hs
    · cases hs
    · have e1 : er n jb mc d (put pl c) (sts st c (er n jb mc d pl st c)) i = er n jb mc d pl st i := by
        unfold er
        rw [jf_ne hjc, jf_ne hmc]
      rw [e1]
      have h2 := hok.2.2
      unfold psd at h2 hpas ⊢
      omega
    · refine hoth a ha ?_ hma hne
      unfold put at hpa
      simp only [Bool.or_eq_false_iff] at hpa
      exact hpa.1
/-- a plan that agrees with what is placed, and whose others come behind the last one -/
def Cs (n : Nat) (pl : Nat → Bool) (st : Nat → Nat) (lt li : Nat) (s : Nat → Nat) : Prop := (∀ i, i < n → pl i = true → s i = st i) ∧ ∀ i, i < n → pl i = false → lt < s i ∨ (lt = s i ∧ li ≤ i)
def Wl (pl : Nat → Bool) (li : Nat) : Prop := li = 0 ∨ pl (li - 1) = true
theorem lv_cs {n nj : Nat} {jb mc d : Nat → Nat} {ar : Nat → Nat → Bool} (S : Shop n nj jb mc d ar) : ∀ (k : Nat) (pl : Nat → Bool) (st : Nat → Nat) (lt li : Nat), WF n jb mc d ar pl st lt li → Wl pl li → lf n pl = k → ∀ s, s ∈ lv n nj jb mc d ar k pl st lt li → Cs n pl st lt li s := by
  intro k
  induction k with
  | zero =>
    intro pl st lt li W0 _ hk s hs
    exact ⟨(lv_props S 0 pl st lt li W0 hk s hs).2.1, fun i hi hp => by rw [lf_zero hk i hi] at hp; cases hp⟩
  | succ k ih =>
    intro pl st lt li W0 hl hk s hs
    have hp1 := (lv_props S (k + 1) pl st lt li W0 hk s hs).2.1
    obtain ⟨j, hj, hok, hs⟩ := mem_lv hs
    generalize hi : tn n jb pl j = i at hok hs
    have hin : i < n := hok.1
    obtain ⟨t1, t2, t3⟩ := tn_spec (n := n) (jb := jb) (pl := pl) (j := j) (by rw [hi]; exact hin)
    rw [hi] at t1 t2 t3
    have W1 := W0.step S hok t2 (fun k hk e => t3 k hk (by rw [e, t1]))
    have hl1 : Wl (put pl i) (i + 1) := Or.inr (by unfold put; simp)
    obtain ⟨c1, c2⟩ := ih _ _ _ _ W1 hl1 (by have := lf_put hin t2; omega) s hs
    have hne : i + 1 ≠ li := fun e => by
      rcases hl with h0 | h0
      · omega
      · rw [← e, Nat.add_sub_cancel, t2] at h0; cases h0
    have h2 := hok.2.2
    unfold psd at h2
    refine ⟨hp1, fun a ha hpa => ?_⟩
    by_cases e : a = i
    · subst e
      have := c1 a ha (by unfold put; simp)
      unfold sts at this
      rw [if_pos rfl] at this
      omega
    · have := c2 a ha (by unfold put; simp [hpa, e])
      omega
/-- the one that is next in a good plan -/
theorem Gd.next {n nj k lt li : Nat} {jb mc d : Nat → Nat} {ar : Nat → Nat → Bool} {pl : Nat → Bool} {st s : Nat → Nat} (S : Shop n nj jb mc d ar) (W0 : WF n jb mc d ar pl st lt li) (hk : lf n pl = k + 1) (hG : Gd n jb mc d ar s) (hC : Cs n pl st lt li s) :
    ∃ i, i < n ∧ pl i = false ∧ okc n jb mc d ar pl st lt li i ∧ tn n jb pl (jb i) = i ∧ er n jb mc d pl st i = s i ∧ ∀ a, a < n → pl a = false → s i < s a ∨ (s i = s a ∧ i ≤ a) := by
  have hne : ∃ i, i < n ∧ pl i = false := by
    refine Classical.byContradiction (fun q => ?_)
    have : lf n pl = 0 := cn_zero n (fun i hi => by
      cases e : pl i
      · exact absurd ⟨i, hi, e⟩ q
      · rfl)
    omega
  obtain ⟨v, ⟨i0, hi0, hp0, e0⟩, hv⟩ := pk_least (fun v => ∃ i, i < n ∧ pl i = false ∧ s i = v) (by obtain ⟨i, h1, h2⟩ := hne; exact ⟨_, i, h1, h2, rfl⟩)
  obtain ⟨i, ⟨hi, hp, e1⟩, hmin⟩ := pk_least (fun i => i < n ∧ pl i = false ∧ s i = v) ⟨i0, hi0, hp0, e0⟩
  have least : ∀ a, a < n → pl a = false → s i < s a ∨ (s i = s a ∧ i ≤ a) := by
    intro a ha hpa
    rcases Nat.lt_trichotomy (s i) (s a) with q | q | q
    · exact Or.inl q
    · rcases Nat.lt_or_ge a i with q2 | q2
      · exact absurd ⟨ha, hpa, by omega⟩ (hmin a q2)
      · exact Or.inr ⟨q, q2⟩
    · exact absurd ⟨a, ha, hpa, rfl⟩ (hv (s a) (by omega))
  obtain ⟨g1, g2, g3⟩ := hG
  obtain ⟨c1, c2⟩ := hC
  obtain ⟨w1, w2, w3, w4, w5, w6⟩ := W0
  obtain ⟨-, -, -, -, hd, -, har, -⟩ := S
  -- those with a smaller start are placed
  have sml : ∀ a, a < n → s a < s i → pl a = true := fun a ha h => by
    cases e : pl a
    · have := least a ha e; omega
    · rfl
  -- along a job starts grow
  have jobs : ∀ (m a b : Nat), b - a ≤ m → a < b → b < n → jb a = jb b → s a + d a ≤ s b := by
    intro m
    induction m with
    | zero => intro a b h1 h2; omega
    | succ m ih =>
      intro a b hm hab hb hj
      obtain ⟨c, hc, hcb⟩ := Nx.ex hb hab hj
      have h1 := g1 a c (by omega) hc.2.1 (Or.inr hc)
      by_cases e : c = b
      · rw [← e]; exact h1
      · have h2 := ih c b (by have := hc.1; omega) (by omega) hb (by rw [hc.2.2.1]; exact hj)
        have := hd c hc.2.1
        omega
  have hbef : ∀ a, a < i → jb a = jb i → pl a = true := fun a ha e => by
    have h1 := jobs _ a i (Nat.le_refl _) ha hi e
    have := hd a (by omega)
    exact sml a (by omega) (by omega)
  have heq : er n jb mc d pl st i = s i := by
    apply Nat.le_antisymm
    · have a1 : jf n jb d pl st (jb i) ≤ s i := by
        rcases jf_at (n := n) (jb := jb) (d := d) (pl := pl) (st := st) (j := jb i) with h0 | ⟨a, ha, hpa, hja, h1⟩
        · omega
        · have hai : a < i := by
            rcases Nat.lt_trichotomy a i with q | q | q
            · exact q
            · rw [q, hp] at hpa; cases hpa
            · have := w1 i a hi ha hja.symm q hpa
              rw [hp] at this; cases this
          have h2 := jobs _ a i (Nat.le_refl _) hai hi hja
          rw [c1 a ha hpa] at h2
          omega
      have a2 : jf n mc d pl st (mc i) ≤ s i := by
        rcases jf_at (n := n) (jb := mc) (d := d) (pl := pl) (st := st) (j := mc i) with h0 | ⟨a, ha, hpa, hja, h1⟩
        · omega
        · have hne2 : a ≠ i := fun e => by rw [e, hp] at hpa; cases hpa
          rcases g2 a i ha hi hne2 hja with h2 | h2
          · rw [c1 a ha hpa] at h2; omega
          · exfalso
            have h3 := w6 a ha hpa
            have h4 := c2 i hi hp
            have h5 := hd i hi
            rw [c1 a ha hpa] at h2
            omega
      unfold er; omega
    · rcases g3 i hi with e | ⟨a, ha, hr, e⟩
      · omega
      · have h5 := hd a ha
        have hpa := sml a ha (by omega)
        rw [c1 a ha hpa] at e
        rcases hr with hr | ⟨hr, -⟩
        · have h1 := jf_ge (jb := jb) (d := d) (st := st) ha hpa
          rw [← hr.2.2.1] at h1
          unfold er; omega
        · have h1 := jf_ge (jb := mc) (d := d) (st := st) ha hpa
          rw [hr] at h1
          unfold er; omega
  refine ⟨i, hi, hp, ⟨hi, fun k hk hki => ?_, ?_⟩, tn_of hi hp hbef, heq, least⟩
  · have h1 := g1 k i hk hi (Or.inl hki)
    have := hd k hk
    exact sml k hk (by omega)
  · rw [heq]
    have := c2 i hi hp
    unfold psd; omega
theorem cP_flat {α β : Type} (p : β → Bool) (f : Nat → List β) : ∀ m, ((List.range m).flatMap f).countP p = sm (fun j => (f j).countP p) m
  | 0 => rfl
  | m + 1 => by
    rw [List.range_succ, List.flatMap_append, List.countP_append, cP_flat (α := α) p f m]
    show _ = sm _ m + _
    simp
theorem sm_one {f : Nat → Nat} {j : Nat} : ∀ m, j < m → f j = 1 → (∀ k, k < m → k ≠ j → f k = 0) → sm f m = 1
  | 0, h, _, _ => absurd h (by omega)
  | m + 1, h, h1, h2 => by
    unfold sm
    by_cases e : j = m
    · subst e
      have h3 : sm f j ≤ j * 0 := sm_le j (fun k hk => by rw [h2 k (by omega) (by omega)]; exact Nat.le_refl _)
      omega
    · rw [sm_one m (by omega) h1 (fun k hk => h2 k (by omega)), h2 m (by omega) (fun q => e q.symm)]
noncomputable def eqv (n : Nat) (s0 : Nat → Nat) (s : Nat → Nat) : Bool := decide (∀ i, i < n → s i = s0 i)
theorem eqv_iff {n : Nat} {s0 s : Nat → Nat} : eqv n s0 s = true ↔ ∀ i, i < n → s i = s0 i := by unfold eqv; rw [decide_eq_true_eq]
theorem Gd.congr {n : Nat} {jb mc d : Nat → Nat} {ar : Nat → Nat → Bool} {s t : Nat → Nat} (h : Gd n jb mc d ar s) (e : ∀ i, i < n → s i = t i) : Gd n jb mc d ar t := by
  obtain ⟨g1, g2, g3⟩ := h
  refine ⟨fun a b ha hb he => by rw [← e a ha, ← e b hb]; exact g1 a b ha hb he, fun i k hi hk hne hm => by rw [← e i hi, ← e k hk]; exact g2 i k hi hk hne hm, fun b hb => ?_⟩
  rcases g3 b hb with h0 | ⟨a, ha, h1, h2⟩
  · exact Or.inl (by rw [← e b hb]; exact h0)
  · exact Or.inr ⟨a, ha, h1, by rw [← e b hb, ← e a ha]; exact h2⟩
theorem lv_zero {n nj k lt li : Nat} {jb mc d : Nat → Nat} {ar : Nat → Nat → Bool} {pl : Nat → Bool} {st s0 : Nat → Nat} (S : Shop n nj jb mc d ar) (W0 : WF n jb mc d ar pl st lt li) (hl : Wl pl li) (hk : lf n pl = k) (hno : ¬ (Gd n jb mc d ar s0 ∧ Cs n pl st lt li s0)) : (lv n nj jb mc d ar k pl st lt li).countP (eqv n s0) = 0 := by
  rw [List.countP_eq_zero]
  intro s hs he
  rw [eqv_iff] at he
  have h1 := (lv_props S k pl st lt li W0 hk s hs).1.congr he
  have h2 := lv_cs S k pl st lt li W0 hl hk s hs
  exact hno ⟨h1, fun i hi hp => by rw [← he i hi]; exact h2.1 i hi hp, fun i hi hp => by rw [← he i hi]; exact h2.2 i hi hp⟩
theorem lv_one {n nj : Nat} {jb mc d : Nat → Nat} {ar : Nat → Nat → Bool} {s0 : Nat → Nat} (S : Shop n nj jb mc d ar) (hG : Gd n jb mc d ar s0) : ∀ (k : Nat) (pl : Nat → Bool) (st : Nat → Nat) (lt li : Nat), WF n jb mc d ar pl st lt li → Wl pl li → lf n pl = k → Cs n pl st lt li s0 → (lv n nj jb mc d ar k pl st lt li).countP (eqv n s0) = 1 := by
  intro k
  induction k with
  | zero =>
    intro pl st lt li W0 hl hk hC
    have he : eqv n s0 st = true := by
      rw [eqv_iff]
      exact fun i hi => (hC.1 i hi (lf_zero hk i hi)).symm
    unfold lv
    rw [List.countP_singleton, if_pos he]
  | succ k ih =>
    intro pl st lt li W0 hl hk hC
    obtain ⟨i, hi, hp, hok, ht, he, hleast⟩ := Gd.next S W0 hk hG hC
    have hj : jb i < nj := S.2.2.1 i hi
    unfold lv
    rw [cP_flat (α := Nat)]
    have low : ∀ j, okc n jb mc d ar pl st lt li (tn n jb pl j) → jb (tn n jb pl j) = j ∧ pl (tn n jb pl j) = false ∧ WF n jb mc d ar (put pl (tn n jb pl j)) (sts st (tn n jb pl j) (er n jb mc d pl st (tn n jb pl j))) (er n jb mc d pl st (tn n jb pl j)) (tn n jb pl j + 1) ∧ Wl (put pl (tn n jb pl j)) (tn n jb pl j + 1) ∧ lf n (put pl (tn n jb pl j)) = k := by
      intro j hokj
      obtain ⟨t1, t2, t3⟩ := tn_spec hokj.1
      exact ⟨t1, t2, W0.step S hokj t2 (fun k hk e => t3 k hk (by rw [e, t1])), Or.inr (by unfold put; simp), by have := lf_put hokj.1 t2; omega⟩
    refine sm_one nj hj ?_ (fun j hj2 hne => ?_)
    · rw [ht, if_pos hok]
      obtain ⟨-, -, l3, l4, l5⟩ := low (jb i) (by rw [ht]; exact hok)
      rw [ht] at l3 l4 l5
      refine ih _ _ _ _ l3 l4 l5 ⟨fun a ha hpa => ?_, fun a ha hpa => ?_⟩
      · unfold sts
        by_cases e : a = i
        · subst e; rw [if_pos rfl, he]
        · rw [if_neg e]
          unfold put at hpa
          simp only [Bool.or_eq_true, decide_eq_true_eq] at hpa
          exact hC.1 a ha (hpa.resolve_right e)
      · unfold put at hpa
        simp only [Bool.or_eq_false_iff, decide_eq_false_iff_not] at hpa
        have := hleast a ha hpa.1
        rw [he]
        omega
    · by_cases q : okc n jb mc d ar pl st lt li (tn n jb pl j)
      · rw [if_pos q]
        obtain ⟨l1, l2, l3, l4, l5⟩ := low j q
        refine lv_zero S l3 l4 l5 (fun hx => ?_)
        obtain ⟨-, x1, x2⟩ := hx
        have hci : tn n jb pl j ≠ i := fun e => hne (by rw [← l1, e])
        have y1 := x1 (tn n jb pl j) q.1 (by unfold put; simp)
        unfold sts at y1
        rw [if_pos rfl] at y1
        have y2 := x2 i hi (by unfold put; simp [hp, Ne.symm hci])
        have y3 := hleast (tn n jb pl j) q.1 l2
        omega
      · rw [if_neg q]; rfl
