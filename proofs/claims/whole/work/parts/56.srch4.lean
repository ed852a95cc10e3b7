/-! Search: prepare, run -/
theorem lv_len {n nj : Nat} {jb mc d : Nat → Nat} {ar : Nat → Nat → Bool} (hnj : nj ≤ 4) : ∀ (k : Nat) (pl : Nat → Bool) (st : Nat → Nat) (lt li : Nat), (lv n nj jb mc d ar k pl st lt li).length ≤ 4 ^ k := by
  intro k
  induction k with
  | zero => intro pl st lt li; exact Nat.le_refl _
  | succ k ih =>
    intro pl st lt li
    rw [lv_s, fl_len]
    have h1 := sm_le (f := fun j => (lvj n nj jb mc d ar k pl st lt li j).length) (b := 4 ^ k) nj (fun j _ => by
      by_cases q : okc n jb mc d ar pl st lt li (tn n jb pl j)
      · rw [lvj_ok q]; exact ih _ _ _ _
      · rw [lvj_no q]; exact Nat.zero_le _)
    refine Nat.le_trans h1 ?_
    rw [Nat.pow_succ, Nat.mul_comm]
    exact Nat.mul_le_mul_left _ hnj
theorem sp_X1_forerunners {n i : Nat} {ar : Nat → Nat → Bool} {fa : Nat → Int32} {post : Int32 → Prop} (hn : n ≤ 12) (ha : ArT n ar fa) (har : ∀ a b, ar a b = true → a < n) (hi : i < n) (hp : ∀ r, Bs r (fun k => ar k i) → post r) : wp_X1_forerunners (nI n) fa (nI i) post := by
  unfold wp_X1_forerunners
  refine ⟨fun x y => ∃ k, y = nI k ∧ k ≤ n ∧ Bs x (fun a => decide (a < k) && ar a i), fun _ y => n - y.toNatClampNeg, ⟨0, rfl, by omega, 0, by omega, rfl, fun k => by rw [Nat.zero_testBit]; simp⟩, ?_⟩
  rintro x _ ⟨k, rfl, hk, hx⟩
  refine ⟨fun q => hp x (hx.congr (fun a => ?_)), fun q => ?_⟩
  · rw [nI_leI (by omega) (by omega)] at q
    cases e : ar a i
    · simp
    · have := har a i e
      simp; omega
  · rw [nI_leI (by omega) (by omega)] at q
    have hk2 : k < n := by omega
    have step : ∀ a, a ≠ k → (decide (a < k) && ar a i) = (decide (a < k + 1) && ar a i) := fun a hne => by
      by_cases e2 : a < k
      · have : a < k + 1 := by omega
        simp [e2, this]
      · have : ¬ a < k + 1 := by omega
        simp [e2, this]
    refine sp_X0_hasArc hn ha hk2 (by omega) (fun e => ⟨fun q2 => absurd q2 (by decide), fun _ => ⟨⟨k + 1, nI_1 k, by omega, ?_⟩, pz_mu hk2 (by omega)⟩⟩) (fun e => ⟨fun _ => ⟨⟨k + 1, nI_1 k, by omega, hx.congr (fun a => ?_)⟩, pz_mu hk2 (by omega)⟩, fun q2 => absurd rfl q2⟩)
    · obtain ⟨m, hm, rfl, hb⟩ := hx
      have h2 := pz_tp (k := k) (by omega)
      rw [pz_one (by omega), pz_or (by omega) (by omega)]
      refine ⟨_, pz_or12 hm h2, rfl, fun a => ?_⟩
      rw [Nat.testBit_or, hb a, Nat.testBit_two_pow]
      by_cases e2 : a = k
      · subst e2; simp [e]
      · have e3 : ¬ k = a := fun x => e2 x.symm
        have := step a e2
        simp [e3] at this ⊢; exact this
    · by_cases e2 : a = k
      · subst e2; simp [e]
      · exact step a e2
theorem WF.root {n : Nat} {jb mc d : Nat → Nat} {ar : Nat → Nat → Bool} : WF n jb mc d ar (fun _ => false) (fun _ => 0) 0 0 := by
  exact ⟨fun _ _ _ _ _ _ h => absurd h Bool.false_ne_true, fun _ _ _ h => absurd h Bool.false_ne_true, fun _ _ _ _ h => absurd h Bool.false_ne_true, fun _ _ _ _ h => absurd h Bool.false_ne_true, fun _ _ h => absurd h Bool.false_ne_true, fun _ _ h => absurd h Bool.false_ne_true⟩
theorem lf_root (n : Nat) : lf n (fun _ => false) = n := by
  have : ∀ k, cn (fun _ => !false) k = k := by
    intro k
    induction k with
    | zero => rfl
    | succ k ih => unfold cn; rw [ih]; rfl
  exact this n
theorem jf_root (n : Nat) (kx d : Nat → Nat) (st : Nat → Nat) (j : Nat) : jf n kx d (fun _ => false) st j = 0 := by
  rcases jf_at (n := n) (jb := kx) (d := d) (pl := fun _ => false) (st := st) (j := j) with h | ⟨a, -, h, -⟩
  · exact h
  · cases h
set_option maxHeartbeats 2000000 in
theorem sp_X1_run {n nj : Nat} {jb mc d hs ts : Nat → Nat} {ar : Nat → Nat → Bool} {fj fm fd fn fa fh ft ff : Nat → Int32} {x1 x2 x3 : Int32} {fpl fs fne ftu fjf fmf fwl fwt : Nat → Int32} {post : Int32 → Int32 → Int32 → (Nat → Int32) → (Nat → Int32) → (Nat → Int32) → (Nat → Int32) → (Nat → Int32) → (Nat → Int32) → (Nat → Int32) → (Nat → Int32) → Prop} (F : Fl n nj jb mc d hs ts ar fj fm fd fn fa fh ft) (hff : FsT n nj jb ff)
    (hpost : ∀ l c p x fpl' g1 g2 g3 g4 g5 g6 g7, Ac n d (sm d n) (lv n nj jb mc d ar n (fun _ => false) (fun _ => 0) 0 0) l c p → l ≤ 600 → (c = 0 ∨ Tb n fpl' p) → post (nI l) (nI c) x fpl' g1 g2 g3 g4 g5 g6 g7) :
    wp_X1_run x1 x2 x3 fpl fs fne ftu fjf fmf fwl fwt (nI nj) (nI n) ff fj fm fd fn fa fh ft post := by
  have F0 := F
  obtain ⟨S, hj, hm, hd, hx, ha, hh, ht, hth, htt⟩ := F
  have hn := S.1
  have hnj := S.2.1
  have hsum := S.sum
  have hmb := S.2.2.2.1
  have hdb := S.2.2.2.2.1
  have har : ∀ a b, ar a b = true → a < n := fun a b e => (S.2.2.2.2.2.2.1 a b e).1
  unfold wp_X1_run wp_X1_prepare
  refine ⟨fun x tu jf => ∃ k, x = nI k ∧ k ≤ nj ∧ ∀ j, j < k → tu j = ff j ∧ jf j = nI 0, fun x _ _ => nj - x.toNatClampNeg, ⟨0, rfl, by omega, fun j hj => absurd hj (by omega)⟩, ?_⟩
  rintro _ tu jf1 ⟨k, rfl, hk, hz⟩
  refine ⟨fun q => ?_, fun q => ?_⟩
  · rw [nI_leI (by omega) (by omega)] at q
    have e : k = nj := by omega
    subst e
    refine ⟨fun x mf wl wt => ∃ m, x = nI m ∧ m ≤ 4 ∧ ∀ a, a < m → mf a = nI 0 ∧ wl a = nI 0 ∧ wt a = nI 0, fun x _ _ _ => 4 - x.toNatClampNeg, ⟨0, rfl, by omega, fun j hj => absurd hj (by omega)⟩, ?_⟩
    rintro _ mf1 wl1 wt1 ⟨m, rfl, hm4, hz2⟩
    have e4 : (4 : Int32) = nI 4 := rfl
    refine ⟨fun q2 => ?_, fun q2 => ?_⟩
    · rw [e4, nI_leI (by omega) (by omega)] at q2
      have e : m = 4 := by omega
      subst e
      refine ⟨fun x xl ne wl wt => ∃ i, x = nI i ∧ i ≤ n ∧ xl = nI (sm d i) ∧ (∀ a, a < i → Bs (ne a) (fun k => ar k a)) ∧ Tb 4 wl (fun m => sm (fun a => if mc a = m then d a else 0) i) ∧ ∀ m, m < 4 → Bs (wt m) (fun k => decide (k < i) && decide (mc k = m)), fun x _ _ _ _ => n - x.toNatClampNeg, ⟨0, rfl, by omega, rfl, fun a ha => absurd ha (by omega), fun m hm => (hz2 m hm).2.1, fun m hm => ⟨0, by omega, (hz2 m hm).2.2, fun k => by rw [Nat.zero_testBit]; simp⟩⟩, ?_⟩
      rintro _ _ ne1 wl2 wt2 ⟨i, rfl, hi, rfl, g1, g2, g3⟩
      refine ⟨fun q3 => ?_, fun q3 => ?_⟩
      · rw [nI_leI (by omega) (by omega)] at q3
        have e : i = n := by omega
        subst e
        have R : SR i k jb mc d ar (fun _ => false) (fun _ => 0) 0 fs ne1 tu jf1 mf1 wl2 wt2 := by
          refine ⟨fun _ h => absurd h Bool.false_ne_true, ⟨0, by omega, rfl, fun k => Nat.zero_testBit k⟩, fun _ _ h => absurd h Bool.false_ne_true, g1, fun j hj2 => ?_, fun j hj2 => ?_, fun m hm2 => ?_, fun m hm2 => ?_, fun m hm2 => (g3 m hm2).congr (fun a => ?_)⟩
          · rw [(hz j hj2).1]
            rcases hff j hj2 with ⟨f1, f2⟩ | ⟨a, f0, f1, f2, f3⟩
            · exact Or.inr ⟨lst_no (fun a ha2 => by simp [f2 a ha2]), f1⟩
            · have h1 : tn i jb (fun _ => false) j = a := lst_of f0 (by simp [f1]) (fun b hb => by simp [f2 b hb])
              rw [h1]; exact Or.inl ⟨f0, f3⟩
          · rw [(hz j hj2).2, jf_root]
          · rw [(hz2 m hm2).1, jf_root]
          · rw [g2 m hm2]; unfold wlf; simp
          · simp
        have h3 := sp_X1_extend (fne := ne1) F0 13 i (by omega) (fun _ => false) (fun _ => 0) 0 0 0 (-1) fpl fs tu jf1 mf1 wl2 wt2 [] (sm d i) 0 (fun _ => 0) (fun l c p' fpl' fs' tu' jf' mf' wl' wt' => post l c p' fpl' fs' ne1 tu' jf' mf' wl' wt') WF.root R (lf_root i) (by omega) (Or.inl ⟨rfl, rfl⟩) (Or.inl ⟨rfl, rfl, rfl⟩) (Nat.le_refl _) (Or.inl rfl) (by
            have h4 := lv_len (n := i) (jb := jb) (mc := mc) (d := d) (ar := ar) hnj i (fun _ => false) (fun _ => 0) 0 0
            have h5 : 4 ^ i ≤ 4 ^ 12 := Nat.pow_le_pow_right (by decide) hn
            rw [List.length_nil]
            omega) (fun l' c' p' fpl' fs' k1 k2 k3 _ => hpost l' c' p' _ fpl' fs' ne1 tu jf1 mf1 wl2 wt2 k1 (by omega) k3)
        rw [Nat.sub_self] at h3
        exact h3
      · rw [nI_leI (by omega) (by omega)] at q3
        have hi2 : i < n := by omega
        have b1 := hmb i hi2
        have b2 := hdb i hi2
        have hin : vp_in (nI i) 12 := pz_inc (by omega) (by omega)
        have him : vp_in (nI (mc i)) 4 := pz_inc (by omega) (by omega)
        rw [hm.get hi2 (by omega), hd.get hi2 (by omega), nI_clamp (n := mc i) (by omega), nI_clamp (n := i) (by omega)]
        refine ⟨hin, hin, him, hin, him, hin, him, him, sp_X1_forerunners hn ha har hi2 (fun r hr => ⟨hin, ⟨i + 1, nI_1 i, by omega, ?_, fun a ha2 => ?_, fun m hm2 => ?_, fun m hm2 => ?_⟩, pz_mu hi2 (by omega)⟩)⟩
        · rw [nI_add]; rfl
        · by_cases e : a = i
          · subst e; rw [pk_us]; exact hr
          · rw [pk_un e]; exact g1 a (by omega)
        · show _ = nI (sm _ i + _)
          by_cases e : m = mc i
          · subst e; rw [pk_us, g2 (mc i) b1, nI_add]; dsimp only; rw [if_pos (show mc i = mc i from rfl)]
          · rw [pk_un e, g2 m hm2]; dsimp only; rw [if_neg (show ¬ mc i = m from Ne.symm e)]; rfl
        · by_cases e : m = mc i
          · subst e
            obtain ⟨w, hw, e1, hb⟩ := g3 (mc i) b1
            have h2 := pz_tp (k := i) (by omega)
            rw [pk_us, e1, pz_one (by omega), pz_or (by omega) (by omega)]
            refine ⟨_, pz_or12 hw h2, rfl, fun a => ?_⟩
            rw [Nat.testBit_or, hb a, Nat.testBit_two_pow]
            by_cases e2 : a = i
            · subst e2; simp
            · have e3 : ¬ i = a := fun x => e2 x.symm
              by_cases e4 : a < i
              · have : a < i + 1 := by omega
                simp [e4, this, e3]
              · have : ¬ a < i + 1 := by omega
                simp [e4, this, e3]
          · rw [pk_un e]
            refine (g3 m hm2).congr (fun a => ?_)
            by_cases e2 : a = i
            · subst e2; simp [Ne.symm e]
            · by_cases e4 : a < i
              · have : a < i + 1 := by omega
                simp [e4, this]
              · have : ¬ a < i + 1 := by omega
                simp [e4, this]
    · rw [e4, nI_leI (by omega) (by omega)] at q2
      have hin : vp_in (nI m) 4 := pz_inc (by omega) (by omega)
      rw [nI_clamp (n := m) (by omega)]
      refine ⟨hin, hin, hin, ⟨m + 1, nI_1 m, by omega, fun a ha2 => ?_⟩, pz_mu (by omega) (by omega)⟩
      by_cases e : a = m
      · subst e; rw [pk_us, pk_us, pk_us]; exact ⟨rfl, rfl, rfl⟩
      · rw [pk_un e, pk_un e, pk_un e]; exact hz2 a (by omega)
  · rw [nI_leI (by omega) (by omega)] at q
    have hin : vp_in (nI k) 4 := pz_inc (by omega) (by omega)
    rw [nI_clamp (n := k) (by omega)]
    refine ⟨hin, hin, hin, ⟨k + 1, nI_1 k, by omega, fun j hj2 => ?_⟩, pz_mu (by omega) (by omega)⟩
    by_cases e : j = k
    · subst e; rw [pk_us, pk_us]; exact ⟨rfl, rfl⟩
    · rw [pk_un e, pk_un e]; exact hz j (by omega)
