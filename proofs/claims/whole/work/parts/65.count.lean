/-! Bounds and counts -/
noncomputable def ldv (n : Nat) (mc d h t : Nat → Nat) (m : Nat) : Nat := lg (fun v => IsLd n mc d h t m v)
theorem ldv_eq {n m v : Nat} {mc d h t : Nat → Nat} (hv : IsLd n mc d h t m v) : ldv n mc d h t m = v := (lg_spec (P := fun v => IsLd n mc d h t m v) ⟨v, hv⟩).uniq hv
theorem sp_X0_bound {n : Nat} {mc d h t : Nat → Nat} {fm fd fh ft : Nat → Int32} {post : Int32 → Prop} (hn : n ≤ 12) (hm : Tb n fm mc) (hmb : ∀ i, i < n → mc i < 4) (hd : Tb n fd d) (hdb : ∀ i, i < n → 1 ≤ d i ∧ d i ≤ 50) (hth : Tb n fh h) (htt : Tb n ft t) (hb : ∀ i, i < n → h i ≤ 1000 ∧ t i ≤ 1000) (hp : post (nI (max (mx (fun i => h i + d i + t i) n) (mx (ldv n mc d h t) 4)))) : wp_X0_bound (nI n) fm fd fh ft post := by
  unfold wp_X0_bound
  have hs : ∀ i, i < n → h i + d i + t i ≤ 10000 := fun i hi => by
    have := hb i hi
    have := hdb i hi
    omega
  have hl : mx (fun i => h i + d i + t i) n ≤ 10000 := mx_le n hs
  refine sp_X0_longest hn hd hth htt hs ?_
  refine ⟨fun x y => ∃ k, y = nI k ∧ k ≤ 4 ∧ x = nI (max (mx (fun i => h i + d i + t i) n) (mx (ldv n mc d h t) k)) ∧ mx (ldv n mc d h t) k ≤ 2600, fun _ y => 4 - y.toNatClampNeg, ⟨0, rfl, by omega, by rw [show mx (ldv n mc d h t) 0 = 0 from rfl, Nat.max_eq_left (Nat.zero_le _)], Nat.zero_le _⟩, ?_⟩
  rintro _ _ ⟨k, rfl, hk, rfl, hv⟩
  refine ⟨fun q => ?_, fun q => ?_⟩
  · rw [show (4 : Int32) = nI 4 from rfl, nI_leI (by omega) (by omega)] at q
    have e : k = 4 := by omega
    subst e; exact hp
  · rw [show (4 : Int32) = nI 4 from rfl, nI_leI (by omega) (by omega)] at q
    have hk2 : k < 4 := by omega
    refine sp_X0_burden hn hm hmb hd hdb hth htt hb hk2 (fun v hv2 hI => ?_)
    have e := ldv_eq hI
    have e2 : mx (ldv n mc d h t) (k + 1) = max (mx (ldv n mc d h t) k) v := by rw [← e]; rfl
    refine ⟨⟨k + 1, nI_1 k, by omega, ?_, by rw [e2]; omega⟩, pz_mu hk2 (by omega)⟩
    rw [pz_max (by omega) (by omega), e2, Nat.max_assoc]
theorem Pr.iff {n a b : Nat} {mc : Nat → Nat} (hn : n ≤ 12) (ha : a < n) (hb : b < n) : Pr n mc (nI a) (nI b) ↔ a ≠ b ∧ mc a = mc b := by
  constructor
  · rintro ⟨i, k, hi, hk, e1, e2, h1, h2⟩
    rw [nI_eq (by omega) (by omega)] at e1 e2
    subst e1; subst e2; exact ⟨h1, h2⟩
  · rintro ⟨h1, h2⟩
    exact ⟨a, b, ha, hb, rfl, rfl, h1, h2⟩
def opn (mc : Nat → Nat) (ar : Nat → Nat → Bool) (a b : Nat) : Bool := decide (a < b) && (decide (mc a = mc b) && (!ar a b && !ar b a))
set_option maxHeartbeats 2000000 in
theorem sp_X3_count {n nj : Nat} {jb mc d hs ts : Nat → Nat} {ar : Nat → Nat → Bool} {xp xl a0 : Int32} {fj fm fd fb fh ft : Nat → Int32} {post : Int32 → (Nat → Int32) → (Nat → Int32) → Prop} (S : Shop n nj jb mc d ar) (hj : Tb n fj jb) (hm : Tb n fm mc) (hd : Tb n fd d) (hM : MT ar fb) (hh : IsH n (Ed n jb ar) d hs) (ht : IsH n (Rv (Ed n jb ar)) d ts)
    (h0 : a0 = 0 → post (nI nj) fh ft) (h1 : a0 = 1 → post (nI n) fh ft) (h2 : a0 = 2 → post (nI (sm (fun a => cn (ar a) n) n)) fh ft) (h3 : a0 = 3 → post (nI (sm (fun a => cn (opn mc ar a) n) n)) fh ft)
    (h4 : a0 = 4 → ∀ fh' ft', post (nI (max (mx (fun i => hs i + d i + ts i) n) (mx (ldv n mc d hs ts) 4))) fh' ft') (h5 : a0 = 5 → (xp = 0 → post (-1) fh ft) ∧ (¬ xp = 0 → post xl fh ft)) (h6 : a0.toInt < 0 ∨ 5 < a0.toInt → post (-2) fh ft) :
    wp_X3_count (nI nj) (nI n) xp xl fj fm fd fb fh ft a0 post := by
  have hn := S.1
  have hmb := S.2.2.2.1
  have bd : ∀ i, i < n → hs i + d i + ts i ≤ 10000 := fun i hi => by
    have := S.bd hh ht hi; omega
  have hl : mx (fun i => hs i + d i + ts i) n ≤ 10000 := mx_le n bd
  unfold wp_X3_count
  refine ⟨fun x y z => ∃ k, z = nI k ∧ k ≤ n ∧ x = nI (sm (fun a => cn (ar a) n) k) ∧ y = nI (sm (fun a => cn (opn mc ar a) n) k), fun _ _ z => n - z.toNatClampNeg, ⟨0, rfl, by omega, rfl, rfl⟩, ?_⟩
  rintro _ _ _ ⟨k, rfl, hk, rfl, rfl⟩
  refine ⟨fun q => ?_, fun q => ?_⟩
  · rw [nI_leI (by omega) (by omega)] at q
    have e : k = n := by omega
    subst e
    refine ⟨h0, h1, h2, h3, fun e4 => ?_, h5, h6⟩
    unfold wp_X3_length
    refine sp_X3_look S hj hd hM hh ht (fun fh' ft' t1 t2 => sp_X3_longest hn hd t1 t2 bd ?_)
    refine ⟨fun x y _ _ => ∃ m, y = nI m ∧ m ≤ 4 ∧ x = nI (max (mx (fun i => hs i + d i + ts i) k) (mx (ldv k mc d hs ts) m)) ∧ mx (ldv k mc d hs ts) m ≤ 2600, fun _ y _ _ => 4 - y.toNatClampNeg, ⟨0, rfl, by omega, by rw [show mx (ldv k mc d hs ts) 0 = 0 from rfl, Nat.max_eq_left (Nat.zero_le _)], Nat.zero_le _⟩, ?_⟩
    rintro _ _ fh2 ft2 ⟨m, rfl, hm4, rfl, hv⟩
    refine ⟨fun q2 => ?_, fun q2 => ?_⟩
    · rw [show (4 : Int32) = nI 4 from rfl, nI_leI (by omega) (by omega)] at q2
      have e : m = 4 := by omega
      subst e; exact h4 e4 fh2 ft2
    · rw [show (4 : Int32) = nI 4 from rfl, nI_leI (by omega) (by omega)] at q2
      have hm2 : m < 4 := by omega
      refine sp_X3_load S hj hm hd hM hh ht hm2 (fun v fh3 ft3 hv2 hI t3 t4 => ?_)
      have e := ldv_eq hI
      have e2 : mx (ldv k mc d hs ts) (m + 1) = max (mx (ldv k mc d hs ts) m) v := by rw [← e]; rfl
      have e3 := Nat.max_assoc (mx (fun i => hs i + d i + ts i) k) (mx (ldv k mc d hs ts) m) v
      refine ⟨fun q3 => ⟨⟨m + 1, nI_1 m, by omega, ?_, by rw [e2]; omega⟩, pz_mu hm2 (by omega)⟩, fun q3 => ⟨⟨m + 1, nI_1 m, by omega, ?_, by rw [e2]; omega⟩, pz_mu hm2 (by omega)⟩⟩
      · rw [nI_leI (by omega) (by omega)] at q3
        rw [e2, ← e3, Nat.max_eq_left q3]
      · rw [nI_leI (by omega) (by omega)] at q3
        rw [e2, ← e3, Nat.max_eq_right (by omega)]
  · rw [nI_leI (by omega) (by omega)] at q
    have hk2 : k < n := by omega
    refine ⟨fun x y z => ∃ b, z = nI b ∧ b ≤ n ∧ x = nI (sm (fun a => cn (ar a) n) k + cn (ar k) b) ∧ y = nI (sm (fun a => cn (opn mc ar a) n) k + cn (opn mc ar k) b), fun _ _ z => n - z.toNatClampNeg, ⟨0, rfl, by omega, rfl, rfl⟩, ?_⟩
    rintro _ _ _ ⟨b, rfl, hb, rfl, rfl⟩
    refine ⟨fun q2 => ?_, fun q2 => ?_⟩
    · rw [nI_leI (by omega) (by omega)] at q2
      have e : b = n := by omega
      subst e
      exact ⟨⟨k + 1, nI_1 k, by omega, rfl, rfl⟩, pz_mu hk2 (by omega)⟩
    · rw [nI_leI (by omega) (by omega)] at q2
      have hb2 : b < n := by omega
      have i1 : vp_in (nI (12 * k + b)) 144 := pz_inc (by omega) (by omega)
      have i2 : vp_in (nI (12 * b + k)) 144 := pz_inc (by omega) (by omega)
      rw [pz_ix, pz_ix, nI_clamp (n := 12 * k + b) (by omega), nI_clamp (n := 12 * b + k) (by omega), hM k b (by omega) (by omega), hM b k (by omega) (by omega)]
      have c1 : cn (ar k) (b + 1) = cn (ar k) b + (if ar k b then 1 else 0) := rfl
      have c2 : cn (opn mc ar k) (b + 1) = cn (opn mc ar k) b + (if opn mc ar k b then 1 else 0) := rfl
      have no : opn mc ar k b = false → ∀ y, y = nI (sm (fun a => cn (ar a) n) k + cn (ar k) (b + 1)) → (∃ b', nI b + 1 = nI b' ∧ b' ≤ n ∧ y = nI (sm (fun a => cn (ar a) n) k + cn (ar k) b') ∧ nI (sm (fun a => cn (opn mc ar a) n) k + cn (opn mc ar k) b) = nI (sm (fun a => cn (opn mc ar a) n) k + cn (opn mc ar k) b')) ∧ n - (nI b + 1).toNatClampNeg < n - (nI b).toNatClampNeg := fun h y hy => ⟨⟨b + 1, nI_1 b, by omega, hy, by rw [c2, h]; rfl⟩, pz_mu hb2 (by omega)⟩
      refine ⟨i1, fun y => y = nI (sm (fun a => cn (ar a) n) k + cn (ar k) (b + 1)), ?_, fun q3 => ?_, fun q3 => ?_⟩
      · intro y hy
        refine ⟨fun q3 => no ?_ y hy, fun q3 => ?_⟩
        · rw [nI_leI (by omega) (by omega)] at q3
          unfold opn
          rw [decide_eq_false (by omega)]; rfl
        · rw [nI_leI (by omega) (by omega)] at q3
          refine sp_X3_isPair hn hm hmb (fun hP => ⟨fun q4 => absurd q4 (by decide), fun _ => ⟨i1, fun q4 => no ?_ y hy, fun q4 => ⟨i2, fun q5 => no ?_ y hy, fun q5 => ?_⟩⟩⟩) (fun hP => ⟨fun _ => no ?_ y hy, fun q4 => absurd rfl q4⟩)
          · have e : ar k b = true := by
              cases e : ar k b
              · rw [e] at q4; exact absurd rfl q4
              · rfl
            unfold opn; rw [e]; simp
          · have e : ar b k = true := by
              cases e : ar b k
              · rw [e] at q5; exact absurd rfl q5
              · rfl
            unfold opn; rw [e]; simp
          · have e1 : ar k b = false := by
              cases e : ar k b
              · rfl
              · rw [e] at q4; exact absurd q4 (by decide)
            have e2 : ar b k = false := by
              cases e : ar b k
              · rfl
              · rw [e] at q5; exact absurd q5 (by decide)
            have hP2 := ((Pr.iff hn hk2 hb2).mp hP).2
            have e3 : opn mc ar k b = true := by
              unfold opn
              rw [e1, e2, decide_eq_true (by omega), decide_eq_true hP2]; rfl
            exact ⟨⟨b + 1, nI_1 b, by omega, hy, by rw [c2, e3, nI_1]; rfl⟩, pz_mu hb2 (by omega)⟩
          · have e : ¬ mc k = mc b := fun e => hP ((Pr.iff hn hk2 hb2).mpr ⟨by omega, e⟩)
            unfold opn; rw [decide_eq_false e]; simp
      · show _ = _
        rw [c1]
        cases e : ar k b
        · rfl
        · rw [e] at q3; exact absurd q3 (by decide)
      · show _ = _
        rw [c1]
        cases e : ar k b
        · rw [e] at q3; exact absurd rfl q3
        · rw [nI_1]; rfl
/-! pairs = arcs and open ones -/
theorem sm_pls (f g : Nat → Nat) : ∀ n, sm (fun i => f i + g i) n = sm f n + sm g n
  | 0 => rfl
  | n + 1 => by
    show sm (fun i => f i + g i) n + (f n + g n) = (sm f n + f n) + (sm g n + g n)
    rw [sm_pls f g n]; omega
theorem sm_zero : ∀ n, sm (fun _ => 0) n = 0
  | 0 => rfl
  | n + 1 => by show sm (fun _ => 0) n + 0 = 0; rw [sm_zero n]
theorem sm_swap (f : Nat → Nat → Nat) (m : Nat) : ∀ n, sm (fun a => sm (fun b => f a b) m) n = sm (fun b => sm (fun a => f a b) n) m
  | 0 => (sm_zero m).symm
  | n + 1 => by
    show sm (fun a => sm (fun b => f a b) m) n + sm (fun b => f n b) m = sm (fun b => sm (fun a => f a b) n + f n b) m
    rw [sm_swap f m n, sm_pls]
theorem cn_sm (p : Nat → Bool) : ∀ n, cn p n = sm (fun i => if p i then 1 else 0) n
  | 0 => rfl
  | n + 1 => by
    show cn p n + _ = sm _ n + _
    rw [cn_sm p n]
theorem pq_eq {n nj : Nat} {jb mc d : Nat → Nat} {ar : Nat → Nat → Bool} (S : Shop n nj jb mc d ar) : pq mc n = sm (fun a => cn (ar a) n) n + sm (fun a => cn (opn mc ar a) n) n := by
  have har := S.2.2.2.2.2.2.1
  obtain ⟨hs, ts, hh, ht⟩ := S.heads
  have hd := S.2.2.2.2.1
  have anti : ∀ a b, ar a b = true → ar b a = true → False := fun a b h1 h2 => by
    obtain ⟨a1, a2, -, -⟩ := har a b h1
    have e1 := hh.1 a b a1 a2 (Or.inl h1)
    have e2 := hh.1 b a a2 a1 (Or.inl h2)
    have := hd a a1
    omega
  have split : sm (fun a => cn (ar a) n) n = sm (fun a => sm (fun b => if decide (a < b) && ar a b then 1 else 0) n) n + sm (fun a => sm (fun b => if decide (b < a) && ar a b then 1 else 0) n) n := by
    rw [← sm_pls]
    refine sm_congr n (fun a _ => ?_)
    rw [cn_sm, ← sm_pls]
    refine sm_congr n (fun b _ => ?_)
    cases e : ar a b
    · simp
    · have := (har a b e).2.2.1
      rcases Nat.lt_or_gt_of_ne this with q | q
      · simp [q, Nat.not_lt_of_gt q]
      · simp [q, Nat.not_lt_of_gt q]
  have sw : sm (fun a => sm (fun b => if decide (b < a) && ar a b then 1 else 0) n) n = sm (fun a => sm (fun b => if decide (a < b) && ar b a then 1 else 0) n) n := sm_swap (fun a b => if decide (b < a) && ar a b then 1 else 0) n n
  rw [split, sw, ← sm_pls, ← sm_pls]
  unfold pq
  refine sm_congr n (fun a _ => ?_)
  rw [cn_sm, cn_sm, ← sm_pls, ← sm_pls]
  refine sm_congr n (fun b _ => ?_)
  unfold opn
  by_cases q : a < b
  · cases e1 : ar a b <;> cases e2 : ar b a
    · by_cases q2 : mc a = mc b <;> simp [q, q2]
    · have := (har b a e2).2.2.2
      simp [q, this]
    · have := (har a b e1).2.2.2
      simp [q, this]
    · exact absurd e2 (fun e2 => anti a b e1 e2)
  · simp [q]
theorem nar_eq {n nj : Nat} {jb mc d : Nat → Nat} {ar : Nat → Nat → Bool} (S : Shop n nj jb mc d ar) : nar ar n = sm (fun a => cn (ar a) n) n := by
  unfold nar
  refine sm_congr n (fun a _ => ?_)
  have key : ∀ m, cn (ar a) (n + m) = cn (ar a) n := by
    intro m
    induction m with
    | zero => rfl
    | succ m ih =>
      show cn (ar a) (n + m) + (if ar a (n + m) then 1 else 0) = _
      rw [ih]
      have : ar a (n + m) = false := by
        cases e : ar a (n + m)
        · rfl
        · have := (S.2.2.2.2.2.2.1 a (n + m) e).2.1; omega
      rw [this]; rfl
  have hn := S.1
  have := key (12 - n)
  rw [show n + (12 - n) = 12 by omega] at this
  exact this
