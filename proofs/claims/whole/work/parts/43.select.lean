/-! Forced arcs: the least good set of arcs above the told ones -/
theorem Shop.up {n nj a b : Nat} {jb mc d : Nat → Nat} {ar : Nat → Nat → Bool} (S : Shop n nj jb mc d ar) (ha : a < n) (hb : b < n) (hne : a ≠ b) (hmc : mc a = mc b) (hr : ¬ Rc n (Ed n jb ar) b a) : Shop n nj jb mc d (Up ar a b) := by
  have S0 := S
  obtain ⟨h1, h2, h3, h4, h5, h6, h7, g, hg⟩ := S
  refine ⟨h1, h2, h3, h4, h5, h6, fun i k hik => ?_, ?_⟩
  · unfold Up at hik
    simp only [Bool.or_eq_true, Bool.and_eq_true, decide_eq_true_eq] at hik
    rcases hik with hik | ⟨rfl, rfl⟩
    · exact h7 i k hik
    · exact ⟨ha, hb, hne, hmc⟩
  · have hS : ∃ S : Nat → Bool, (∀ v, v < n → Ed n jb ar b v → S v = true) ∧ (∀ u v, u < n → v < n → Ed n jb ar u v → S u = true → S v = true) ∧ S a = false := by
      refine Classical.byContradiction (fun q => hr (fun S s1 s2 => ?_))
      cases e : S a
      · exact absurd ⟨S, s1, s2, e⟩ q
      · rfl
    obtain ⟨S, s1, s2, s3⟩ := hS
    refine ⟨_, Pot.add (E := Ed n jb ar) (a := a) (b := b) (fun v => S v || decide (v = b)) hg (fun u v he => ?_) (by simp) (by simp [s3, hne]) (fun u v hu hv he hs => ?_)⟩
    · rcases he with he | he
      · unfold Up at he
        simp only [Bool.or_eq_true, Bool.and_eq_true, decide_eq_true_eq] at he
        rcases he with he | he
        · exact Or.inl (Or.inl he)
        · exact Or.inr he
      · exact Or.inl (Or.inr he)
    · simp only [Bool.or_eq_true, decide_eq_true_eq] at hs ⊢
      rcases hs with hs | rfl
      · exact Or.inl (s2 u v hu hv he hs)
      · exact Or.inl (s1 v hv he)
/-- good: above ar0, a shop, what is forced is tied, the length is below -/
def GS (n nj : Nat) (jb mc d : Nat → Nat) (below : Int32) (ar0 G : Nat → Nat → Bool) : Prop :=
  (∀ i k, ar0 i k = true → G i k = true) ∧ Shop n nj jb mc d G ∧ ∃ hs ts, IsH n (Ed n jb G) d hs ∧ IsH n (Rv (Ed n jb G)) d ts ∧ (∀ a b, a < n → b < n → a ≠ b → mc a = mc b → G a b = false → G b a = false → ¬ Ge (hs b + d b + d a + ts a) below) ∧ ¬ Ge (mx (fun i => hs i + d i + ts i) n) below
theorem Ge.mono {v w : Nat} {b : Int32} (h : Ge v b) (hvw : v ≤ w) (hw : w < 2 ^ 31) : Ge w b := by
  rw [Ge.iff hw]
  rw [Ge.iff (by omega)] at h
  omega
theorem Ed.sub {n : Nat} {jb : Nat → Nat} {ar G : Nat → Nat → Bool} (h : ∀ i k, ar i k = true → G i k = true) {i k : Nat} (he : Ed n jb ar i k) : Ed n jb G i k := he.elim (fun q => Or.inl (h i k q)) Or.inr
theorem Shop.bd {n nj : Nat} {jb mc d hs ts : Nat → Nat} {ar : Nat → Nat → Bool} (S : Shop n nj jb mc d ar) (hh : IsH n (Ed n jb ar) d hs) (ht : IsH n (Rv (Ed n jb ar)) d ts) {i : Nat} (hi : i < n) : hs i ≤ 600 ∧ ts i ≤ 600 ∧ d i ≤ 50 ∧ 1 ≤ d i := by
  obtain ⟨h1, h2, h3, h4, h5, h6, h7, h8⟩ := S
  have a1 := hh.bd h1 h5 hi
  have a2 := ht.bd h1 h5 hi
  have a3 := h5 i hi
  omega
/-- a good set holds what is forced -/
theorem GS.step {n nj a b : Nat} {jb mc d hs ts : Nat → Nat} {below : Int32} {ar0 ar G : Nat → Nat → Bool} (hG : GS n nj jb mc d below ar0 G) (S : Shop n nj jb mc d ar) (hsub : ∀ i k, ar i k = true → G i k = true) (hh : IsH n (Ed n jb ar) d hs) (ht : IsH n (Rv (Ed n jb ar)) d ts) (ha : a < n) (hb : b < n) (hne : a ≠ b) (hmc : mc a = mc b) (hf : Ge (hs b + d b + d a + ts a) below) : G a b = true := by
  obtain ⟨g1, SG, hG', tG, gh, gt, g2, g3⟩ := hG
  have hd : ∀ i, i < n → 1 ≤ d i := fun i hi => (S.2.2.2.2.1 i hi).1
  have m1 := hh.le hd (gh.1.sub (fun u v => Ed.sub hsub)) b hb
  have m2 := ht.le hd (gt.1.sub (fun u v (q : Ed n jb ar v u) => Ed.sub hsub q)) a ha
  have b1 := SG.bd gh gt ha
  have b2 := SG.bd gh gt hb
  have hf2 : Ge (hG' b + d b + d a + tG a) below := hf.mono (by omega) (by omega)
  cases q : G a b
  · cases q2 : G b a
    · exact absurd hf2 (g2 a b ha hb hne hmc q q2)
    · exfalso
      have p := gh.1 b a hb ha (Or.inl q2)
      have m3 := mx_ge (f := fun i => hG' i + d i + tG i) n a ha
      have m4 : mx (fun i => hG' i + d i + tG i) n ≤ 2000 := mx_le n (fun i hi => by have := SG.bd gh gt hi; omega)
      exact g3 (hf2.mono (by omega) (by omega))
  · rfl
theorem GS.anti {n nj a b : Nat} {jb mc d : Nat → Nat} {below : Int32} {ar0 G : Nat → Nat → Bool} (hG : GS n nj jb mc d below ar0 G) (h1 : G a b = true) (h2 : G b a = true) : False := by
  obtain ⟨g1, SG, -⟩ := hG
  obtain ⟨-, -, -, -, h5, -, h7, g, hg⟩ := SG
  obtain ⟨a1, a2, -, -⟩ := h7 a b h1
  have p1 := hg a b a1 a2 (Or.inl h1)
  have p2 := hg b a a2 a1 (Or.inl h2)
  have := h5 a a1
  omega
theorem GS.path {n nj a b : Nat} {jb mc d : Nat → Nat} {below : Int32} {ar0 ar G : Nat → Nat → Bool} (hG : GS n nj jb mc d below ar0 G) (hsub : ∀ i k, ar i k = true → G i k = true) (ha : a < n) (hb : b < n) (h1 : G a b = true) (hr : Rc n (Ed n jb ar) b a) : False := by
  obtain ⟨g1, SG, hG', tG, gh, gt, g2, g3⟩ := hG
  have hd : ∀ i, i < n → 1 ≤ d i := fun i hi => (SG.2.2.2.2.1 i hi).1
  have h2 := hr (fun v => decide (hG' b < hG' v)) (fun v hv he => ?_) (fun u v hu hv he hs => ?_)
  · have p := gh.1 a b ha hb (Or.inl h1)
    simp only [decide_eq_true_eq] at h2
    omega
  · have p := gh.1 b v hb hv (Ed.sub hsub he)
    have := hd b hb
    simp only [decide_eq_true_eq]; omega
  · have p := gh.1 u v hu hv (Ed.sub hsub he)
    simp only [decide_eq_true_eq] at hs ⊢; omega
theorem GS.len {n nj : Nat} {jb mc d hs ts : Nat → Nat} {below : Int32} {ar0 ar G : Nat → Nat → Bool} (hG : GS n nj jb mc d below ar0 G) (S : Shop n nj jb mc d ar) (hsub : ∀ i k, ar i k = true → G i k = true) (hh : IsH n (Ed n jb ar) d hs) (ht : IsH n (Rv (Ed n jb ar)) d ts) : ¬ Ge (mx (fun i => hs i + d i + ts i) n) below := by
  obtain ⟨g1, SG, hG', tG, gh, gt, g2, g3⟩ := hG
  have hd : ∀ i, i < n → 1 ≤ d i := fun i hi => (S.2.2.2.2.1 i hi).1
  intro hf
  have m4 : mx (fun i => hG' i + d i + tG i) n ≤ 2000 := mx_le n (fun i hi => by have := SG.bd gh gt hi; omega)
  refine g3 (hf.mono (mx_le n (fun i hi => ?_)) (by omega))
  have m1 := hh.le hd (gh.1.sub (fun u v => Ed.sub hsub)) i hi
  have m2 := ht.le hd (gt.1.sub (fun u v (q : Ed n jb ar v u) => Ed.sub hsub q)) i hi
  have m3 := mx_ge (f := fun i => hG' i + d i + tG i) n i hi
  omega
/-- one arc more in the count -/
theorem cn_up {p : Nat → Bool} {b : Nat} (hp : p b = false) : ∀ n, cn (fun k => p k || decide (k = b)) n = cn p n + (if b < n then 1 else 0)
  | 0 => rfl
  | n + 1 => by
    have ih := cn_up hp n
    unfold cn
    rw [ih]
    by_cases e : n = b
    · subst e
      simp [hp]
    · have e2 : (b < n + 1) = (b < n) := by
        apply propext; constructor <;> intro q <;> omega
      simp only [e, decide_false, Bool.or_false, e2]
      omega
theorem nar_up {n a b : Nat} {ar : Nat → Nat → Bool} (h : ar a b = false) (ha : a < n) (hb : b < 12) : nar (Up ar a b) n = nar ar n + 1 := by
  unfold nar
  have key : ∀ k, sm (fun i => cn (Up ar a b i) 12) k = sm (fun i => cn (ar i) 12) k + (if a < k then 1 else 0) := by
    intro k
    induction k with
    | zero => rfl
    | succ k ih =>
      show sm _ k + cn (Up ar a b k) 12 = sm _ k + cn (ar k) 12 + _
      rw [ih]
      by_cases e : k = a
      · subst e
        have : cn (Up ar k b k) 12 = cn (ar k) 12 + 1 := by
          have h2 := cn_up (p := ar k) h 12
          rw [if_pos hb] at h2
          rw [← h2]
          exact cn_congr 12 (fun i _ => by unfold Up; simp)
        rw [this, if_neg (by omega), if_pos (by omega)]; omega
      · have : cn (Up ar a b k) 12 = cn (ar k) 12 := cn_congr 12 (fun i _ => by unfold Up; simp [e])
        have e2 : (a < k + 1) = (a < k) := by
          apply propext; constructor <;> intro q <;> omega
        rw [this]; simp only [e2]; omega
  rw [key n, if_pos ha]
theorem nar_mono {n : Nat} {ar ar' : Nat → Nat → Bool} (h : ∀ i k, ar i k = true → ar' i k = true) : nar ar n ≤ nar ar' n := sm_mono n (fun i _ => cn_mono 12 (fun k _ => h i k))
theorem cn_lt12 {p : Nat → Bool} {i : Nat} (hi : i < 12) (h : p i = false) : cn p 12 ≤ 11 := by
  have := cn_ltn (p := p) (n := 12) ⟨i, hi, h⟩
  omega
theorem nar_bd2 {n nj : Nat} {jb mc d : Nat → Nat} {ar : Nat → Nat → Bool} (S : Shop n nj jb mc d ar) : nar ar n ≤ 132 := by
  have hn := S.1
  have h1 := sm_le (f := fun i => cn (ar i) 12) (b := 11) n (fun i hi => cn_lt12 (p := ar i) (i := i) (by omega) (by
    cases q : ar i i
    · rfl
    · exact absurd rfl (S.2.2.2.2.2.2.1 i i q).2.2.1))
  unfold nar; omega
/-- the rows of a shop's arcs, heads and tails -/
def FSt (n nj : Nat) (jb mc d : Nat → Nat) (ar : Nat → Nat → Bool) (fa fh ft : Nat → Int32) : Prop :=
  Shop n nj jb mc d ar ∧ ArT n ar fa ∧ ∃ hs ts, IsH n (Ed n jb ar) d hs ∧ IsH n (Rv (Ed n jb ar)) d ts ∧ Tb n fh hs ∧ Tb n ft ts
/-- nothing is forced in ar between a and those below b that isn't tied -/
def Nf (n : Nat) (jb mc d : Nat → Nat) (below : Int32) (ar : Nat → Nat → Bool) (a K : Nat) : Prop :=
  ∀ hs ts, IsH n (Ed n jb ar) d hs → IsH n (Rv (Ed n jb ar)) d ts → ∀ b, b < K → b < n → a ≠ b → mc a = mc b → ar a b = false → ar b a = false → ¬ Ge (hs b + d b + d a + ts a) below
set_option maxHeartbeats 2000000 in
theorem sp_X0_forceFrom {n nj a : Nat} {jb mc d : Nat → Nat} {ar0 ar : Nat → Nat → Bool} {below : Int32} {fm fd fn fa fh ft : Nat → Int32} {post : Int32 → (Nat → Int32) → (Nat → Int32) → (Nat → Int32) → Prop} (ha : a < n) (hm : Tb n fm mc) (hd : Tb n fd d) (hx : NxT n jb fn) (hF : FSt n nj jb mc d ar fa fh ft) (hle : ∀ G, GS n nj jb mc d below ar0 G → ∀ i k, ar i k = true → G i k = true)
    (h1 : ∀ ar' fa' fh' ft', FSt n nj jb mc d ar' fa' fh' ft' → (∀ i k, ar i k = true → ar' i k = true) → (∀ G, GS n nj jb mc d below ar0 G → ∀ i k, ar' i k = true → G i k = true) → (nar ar' n = nar ar n → ar' = ar ∧ Nf n jb mc d below ar a n) → post 1 fa' fh' ft')
    (h0 : ∀ ar' fa' fh' ft', FSt n nj jb mc d ar' fa' fh' ft' → (∀ i k, ar i k = true → ar' i k = true) → (¬ ∃ G, GS n nj jb mc d below ar0 G) → post 0 fa' fh' ft') :
    wp_X0_forceFrom (nI n) fm fd fn fa fh ft (nI a) below post := by
  have hn := hF.1.1
  have hmb := hF.1.2.2.2.1
  unfold wp_X0_forceFrom
  refine ⟨fun x fa fh ft => ∃ b ar', x = nI b ∧ b ≤ n ∧ FSt n nj jb mc d ar' fa fh ft ∧ (∀ i k, ar i k = true → ar' i k = true) ∧ (∀ G, GS n nj jb mc d below ar0 G → ∀ i k, ar' i k = true → G i k = true) ∧ ((ar' = ar ∧ Nf n jb mc d below ar a b) ∨ nar ar n < nar ar' n), fun x _ _ _ => n - x.toNatClampNeg, ⟨0, ar, rfl, by omega, hF, fun _ _ h => h, hle, Or.inl ⟨rfl, fun _ _ _ _ b hb => absurd hb (by omega)⟩⟩, ?_⟩
  rintro _ fa fh ft ⟨b, ar', rfl, hb, hF', hsub, hle', hprog⟩
  have hF0 := hF'
  obtain ⟨S, hA, hs, ts, hh, ht, hth, htt⟩ := hF'
  refine ⟨fun q => ?_, fun q => ?_⟩
  · rw [nI_leI (by omega) (by omega)] at q
    have e : b = n := by omega
    subst e
    exact h1 ar' fa fh ft hF0 hsub hle' (fun e => hprog.resolve_right (by omega))
  · rw [nI_leI (by omega) (by omega)] at q
    have hb2 : b < n := by omega
    -- nothing is done at b
    have skip : ¬ (a ≠ b ∧ mc a = mc b ∧ ar' a b = false ∧ ar' b a = false ∧ Ge (hs b + d b + d a + ts a) below) → (∃ b' ar'', nI b + 1 = nI b' ∧ b' ≤ n ∧ FSt n nj jb mc d ar'' fa fh ft ∧ (∀ i k, ar i k = true → ar'' i k = true) ∧ (∀ G, GS n nj jb mc d below ar0 G → ∀ i k, ar'' i k = true → G i k = true) ∧ ((ar'' = ar ∧ Nf n jb mc d below ar a b') ∨ nar ar n < nar ar'' n)) ∧ n - (nI b + 1).toNatClampNeg < n - (nI b).toNatClampNeg := by
      intro hno
      refine ⟨⟨b + 1, ar', nI_1 b, by omega, hF0, hsub, hle', ?_⟩, pz_mu hb2 (by omega)⟩
      rcases hprog with ⟨e, hN⟩ | e
      · subst e
        refine Or.inl ⟨rfl, fun hs' ts' hh' ht' b' hb1 hb2' hne hmc e1 e2 hf => ?_⟩
        by_cases e3 : b' = b
        · subst e3
          have u1 := hh'.uniq (fun i hi => (S.2.2.2.2.1 i hi).1) hh b' hb2'
          have u2 := ht'.uniq (fun i hi => (S.2.2.2.2.1 i hi).1) ht a ha
          rw [u1, u2] at hf
          exact hno ⟨hne, hmc, e1, e2, hf⟩
        · exact hN hs' ts' hh' ht' b' (by omega) hb2' hne hmc e1 e2 hf
      · exact Or.inr e
    refine sp_X0_isPair hn hm hmb (fun hp => ⟨fun e => absurd e (by decide), fun _ => ?_⟩) (fun hp => ⟨fun _ => skip (fun q2 => hp ⟨a, b, ha, hb2, rfl, rfl, q2.1, q2.2.1⟩), fun e => absurd rfl e⟩)
    obtain ⟨a', b', ha', hb', e1, e2, hne, hmc⟩ := hp
    rw [nI_eq (by omega) (by omega)] at e1 e2
    subst e1; subst e2
    refine sp_X0_isTied hn hA ha hb2 (fun q2 => ⟨fun _ => skip (fun q3 => ?_), fun e => absurd e (by decide)⟩) (fun t1 t2 => ⟨fun e => absurd rfl e, fun _ => ?_⟩)
    · rcases q2 with q2 | q2
      · rw [q3.2.2.1] at q2; cases q2
      · rw [q3.2.2.2.1] at q2; cases q2
    refine sp_X0_mustPrecede hn hd hth htt ha hb2 (fun hf => ⟨fun e => absurd e (by decide), fun _ => ?_⟩) (fun hf => ⟨fun _ => skip (fun q3 => hf q3.2.2.2.2), fun e => absurd rfl e⟩)
    refine sp_X0_mustPrecede hn hd hth htt hb2 ha (fun hf2 => ⟨fun _ => h0 ar' fa fh ft hF0 hsub ?_, fun e => absurd e (by decide)⟩) (fun hf2 => ⟨fun e => absurd rfl e, fun _ => ?_⟩)
    · rintro ⟨G, hG⟩
      exact hG.anti (hG.step S (hle' G hG) hh ht ha hb2 hne hmc hf) (hG.step S (hle' G hG) hh ht hb2 ha (fun e => hne e.symm) hmc.symm hf2)
    refine sp_X0_leads hn hx hA (fun i k _ he => (S.ed he).2.1) hb2 ha (fun hr => ⟨fun e => absurd e (by decide), fun _ => h0 ar' fa fh ft hF0 hsub ?_⟩) (fun hr => ⟨fun _ => ?_, fun e => absurd rfl e⟩)
    · rintro ⟨G, hG⟩
      exact hG.path (hle' G hG) ha hb2 (hG.step S (hle' G hG) hh ht ha hb2 hne hmc hf) hr
    have S' := S.up ha hb2 hne hmc hr
    refine sp_X0_putArc S' hx hA hd ha hb2 (fun fa' fh' ft' hs' ts' k1 k2 k3 k4 k5 => ⟨⟨b + 1, Up ar' a b, nI_1 b, by omega, ⟨S', k1, hs', ts', k2, k3, k4, k5⟩, fun i k h => ?_, fun G hG i k h => ?_, Or.inr ?_⟩, pz_mu hb2 (by omega)⟩)
    · unfold Up; rw [hsub i k h]; rfl
    · unfold Up at h
      simp only [Bool.or_eq_true, Bool.and_eq_true, decide_eq_true_eq] at h
      rcases h with h | ⟨rfl, rfl⟩
      · exact hle' G hG i k h
      · exact hG.step S (hle' G hG) hh ht ha hb2 hne hmc hf
    · have h2 := nar_up (n := n) t1 ha (show b < 12 by omega)
      have h3 := nar_mono (n := n) hsub
      omega
