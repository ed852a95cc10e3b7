/-! force, and the reference's select -/
theorem Ge.le {v : Nat} {b : Int32} : Ge v b ↔ b ≤ nI v := by
  unfold Ge
  rw [Int32.lt_iff_toInt_lt, Int32.le_iff_toInt_le]; omega
theorem cpy_at {f g : Nat → Int32} {n i : Nat} (hn : n < 2 ^ 31) (hi : i < n) : va_cpy f g (0 : Int32).toNatClampNeg (0 : Int32).toNatClampNeg (nI n).toNatClampNeg i = f i := by
  rw [sb_cl0, nI_clamp hn]; exact sb_cpy0 hi
theorem ArT.cpy {n : Nat} {ar : Nat → Nat → Bool} {f g : Nat → Int32} (hn : n ≤ 12) (h : ArT n ar f) : ArT n ar (va_cpy f g (0 : Int32).toNatClampNeg (0 : Int32).toNatClampNeg (nI n).toNatClampNeg) := fun i hi => by
  rw [cpy_at (by omega) hi]; exact h i hi
theorem FSt.good {n nj : Nat} {jb mc d : Nat → Nat} {below : Int32} {ar0 ar : Nat → Nat → Bool} {hs ts : Nat → Nat} (S : Shop n nj jb mc d ar) (hsub : ∀ i k, ar0 i k = true → ar i k = true) (hh : IsH n (Ed n jb ar) d hs) (ht : IsH n (Rv (Ed n jb ar)) d ts) (hN : ∀ a, a < n → Nf n jb mc d below ar a n) (hl : ¬ Ge (mx (fun i => hs i + d i + ts i) n) below) : GS n nj jb mc d below ar0 ar :=
  ⟨hsub, S, hs, ts, hh, ht, fun a b ha hb hne hmc e1 e2 => hN a ha hs ts hh ht b hb hb hne hmc e1 e2, hl⟩
set_option maxHeartbeats 4000000 in
theorem sp_X0_force {n nj : Nat} {jb mc d : Nat → Nat} {ar0 : Nat → Nat → Bool} {below : Int32} {fm fd fn fa fh ft fk : Nat → Int32} {post : Int32 → (Nat → Int32) → (Nat → Int32) → (Nat → Int32) → (Nat → Int32) → Prop} (hm : Tb n fm mc) (hd : Tb n fd d) (hx : NxT n jb fn) (hF : FSt n nj jb mc d ar0 fa fh ft)
    (h1 : ∀ F fa' fh' ft' fk', FSt n nj jb mc d F fa' fh' ft' → GS n nj jb mc d below ar0 F → (∀ G, GS n nj jb mc d below ar0 G → ∀ i k, F i k = true → G i k = true) → post (nI (nar F n - nar ar0 n)) fa' fh' ft' fk')
    (h0 : ∀ fa' fh' ft' fk', FSt n nj jb mc d ar0 fa' fh' ft' → (¬ ∃ G, GS n nj jb mc d below ar0 G) → post (-5) fa' fh' ft' fk') :
    wp_X0_force (nI n) fm fd fn fa fh ft fk below post := by
  have S0 := hF.1
  have hn := S0.1
  have hA0 := hF.2.1
  unfold wp_X0_force
  have c1 : ¬ nI n < 0 := nI_pos (by omega)
  have c2 : (nI n).toNatClampNeg ≤ 12 := by rw [nI_clamp (by omega)]; exact hn
  refine ⟨c1, c2, c2, sp_X0_tiedPairs hn hA0 ?_⟩
  refine ⟨fun x3 x4 x5 fa fh ft => ∃ r ar, x5 = nI r ∧ r ≤ 144 ∧ FSt n nj jb mc d ar fa fh ft ∧ (∀ i k, ar0 i k = true → ar i k = true) ∧ (∀ G, GS n nj jb mc d below ar0 G → ∀ i k, ar i k = true → G i k = true) ∧ (x4 = 0 ∨ x4 = 1) ∧ (x4 = 0 → ¬ ∃ G, GS n nj jb mc d below ar0 G) ∧ (x4 = 1 → (r = 0 ∧ x3 = (-1)) ∨ ∃ p, x3 = nI p ∧ r ≤ p + 1 ∧ p ≤ nar ar n ∧ (p = nar ar n → ∀ a, a < n → Nf n jb mc d below ar a n)), fun _ _ x5 _ _ _ => 144 - x5.toNatClampNeg, ⟨0, ar0, rfl, by omega, hF, fun _ _ h => h, fun G hG => hG.1, Or.inr rfl, fun e => absurd e (by decide), fun _ => Or.inl ⟨rfl, rfl⟩⟩, ?_⟩
  rintro x3 x4 _ fa fh ft ⟨r, ar, rfl, hr, hF', hsub, hle, ho, hno, hyes⟩
  have hF2 := hF'
  obtain ⟨S, hA, hs, ts, hh, ht, hth, htt⟩ := hF'
  have nb := nar_bd2 S
  -- all is put back
  have back : (¬ ∃ G, GS n nj jb mc d below ar0 G) → ∀ fa1 : Nat → Int32, ¬ nI n < 0 ∧ (nI n).toNatClampNeg ≤ 12 ∧ (nI n).toNatClampNeg ≤ 12 ∧ (wp_X0_measure (nI n) fd fn (va_cpy (va_cpy fa1 fk (0 : Int32).toNatClampNeg (0 : Int32).toNatClampNeg (nI n).toNatClampNeg) fa (0 : Int32).toNatClampNeg (0 : Int32).toNatClampNeg (nI n).toNatClampNeg) fh ft (fun (F_head_129 : Nat → Int32) (F_tail_129 : Nat → Int32) => post (-5) (va_cpy (va_cpy fa1 fk (0 : Int32).toNatClampNeg (0 : Int32).toNatClampNeg (nI n).toNatClampNeg) fa (0 : Int32).toNatClampNeg (0 : Int32).toNatClampNeg (nI n).toNatClampNeg) F_head_129 F_tail_129 (va_cpy fa1 fk (0 : Int32).toNatClampNeg (0 : Int32).toNatClampNeg (nI n).toNatClampNeg))) ∨ ¬ ArT n ar0 fa1 := by
    intro hng fa1
    by_cases q : ArT n ar0 fa1
    · have hA2 := (q.cpy hn (g := fk)).cpy hn (g := fa)
      exact Or.inl ⟨c1, c2, c2, sp_X0_measure2 S0 hx hA2 hd (fun fh' ft' hs' ts' k1 k2 k3 k4 => h0 _ fh' ft' _ ⟨S0, hA2, hs', ts', k1, k2, k3, k4⟩ hng)⟩
    · exact Or.inr q
  refine ⟨(x4 = 0 → ¬ ∃ G, GS n nj jb mc d below ar0 G) ∧ (x4 = 1 → x3 = nI (nar ar n) ∧ ∀ a, a < n → Nf n jb mc d below ar a n), ?_, ?_⟩
  · rintro ⟨j1, j2⟩
    refine ⟨fun q => (back (j1 q) _).resolve_right (fun q2 => q2 hA0), fun q => ?_⟩
    obtain ⟨e3, hN⟩ := j2 (ho.resolve_left q)
    refine sp_X0_longest hn hd hth htt (fun i hi => by have := S.bd hh ht hi; omega) ⟨fun q2 => (back ?_ _).resolve_right (fun q3 => q3 hA0), fun q2 => ?_⟩
    · rintro ⟨G, hG⟩
      exact hG.len S (hle G hG) hh ht (Ge.le.mpr q2)
    · rw [e3, pk_sub (nar_mono hsub)]
      exact h1 ar fa fh ft _ hF2 (FSt.good S hsub hh ht hN (fun e => q2 (Ge.le.mp e))) hle
  · have e144 : (144 : Int32) = nI 144 := rfl
    refine ⟨fun q => ⟨hno, fun e => ?_⟩, fun q => ⟨fun q2 => ⟨hno, fun e => ?_⟩, fun q2 => ?_⟩⟩
    · rw [e144, nI_leI (by omega) (by omega)] at q
      rcases hyes e with ⟨e0, -⟩ | ⟨p, -, hp1, hp2, -⟩ <;> omega
    · rw [e] at q2; exact absurd q2 (by decide)
    · rw [e144, nI_leI (by omega) (by omega)] at q
      have e4 := ho.resolve_left q2
      refine sp_X0_tiedPairs hn hA ⟨fun q3 => ⟨hno, fun _ => ⟨q3, ?_⟩⟩, fun q3 => sp_X0_tiedPairs hn hA ?_⟩
      · rcases hyes e4 with ⟨-, e0⟩ | ⟨p, e0, -, hp2, hp⟩
        · rw [e0] at q3; exact absurd q3.symm (pz_ne1 (by omega))
        · rw [e0] at q3
          exact hp ((nI_eq (by omega) (by omega)).mp q3)
      · have hrp : r + 1 ≤ nar ar n + 1 := by
          rcases hyes e4 with ⟨e0, -⟩ | ⟨p, e0, hp1, hp2, -⟩
          · omega
          · have : p ≠ nar ar n := fun e => q3 (by rw [e0, e])
            omega
        refine ⟨fun x4 x6 fa fh ft => ∃ a ar2, x6 = nI a ∧ a ≤ n ∧ FSt n nj jb mc d ar2 fa fh ft ∧ (∀ i k, ar i k = true → ar2 i k = true) ∧ (∀ G, GS n nj jb mc d below ar0 G → ∀ i k, ar2 i k = true → G i k = true) ∧ (x4 = 0 ∨ x4 = 1) ∧ (x4 = 0 → ¬ ∃ G, GS n nj jb mc d below ar0 G) ∧ (x4 = 1 → nar ar2 n = nar ar n → ar2 = ar ∧ ∀ a', a' < a → Nf n jb mc d below ar a' n), fun _ x6 _ _ _ => n - x6.toNatClampNeg, ⟨0, ar, rfl, by omega, hF2, fun _ _ h => h, hle, ho, hno, fun _ _ => ⟨rfl, fun a' h => absurd h (by omega)⟩⟩, ?_⟩
        rintro x4' _ fa' fh' ft' ⟨a, ar2, rfl, ha, hF3, hsub2, hle2, ho2, hno2, hyes2⟩
        have leave : (x4' = 1 → a = n) → (∃ r' ar', nI r + 1 = nI r' ∧ r' ≤ 144 ∧ FSt n nj jb mc d ar' fa' fh' ft' ∧ (∀ i k, ar0 i k = true → ar' i k = true) ∧ (∀ G, GS n nj jb mc d below ar0 G → ∀ i k, ar' i k = true → G i k = true) ∧ (x4' = 0 ∨ x4' = 1) ∧ (x4' = 0 → ¬ ∃ G, GS n nj jb mc d below ar0 G) ∧ (x4' = 1 → (r' = 0 ∧ nI (nar ar n) = (-1)) ∨ ∃ p, nI (nar ar n) = nI p ∧ r' ≤ p + 1 ∧ p ≤ nar ar' n ∧ (p = nar ar' n → ∀ a, a < n → Nf n jb mc d below ar' a n))) ∧ 144 - (nI r + 1).toNatClampNeg < 144 - (nI r).toNatClampNeg := by
          intro hlast
          refine ⟨⟨r + 1, ar2, nI_1 r, by omega, hF3, fun i k h => hsub2 i k (hsub i k h), hle2, ho2, hno2, fun e => Or.inr ⟨nar ar n, rfl, hrp, nar_mono hsub2, fun e2 a' ha' => ?_⟩⟩, pz_mu (by omega) (by omega)⟩
          obtain ⟨e3, hN⟩ := hyes2 e e2.symm
          rw [e3]; exact hN a' (by rw [hlast e]; exact ha')
        refine ⟨fun q4 => leave (fun _ => ?_), fun q4 => ⟨fun q5 => leave (fun e => ?_), fun q5 => ?_⟩⟩
        · rw [nI_leI (by omega) (by omega)] at q4; omega
        · rw [e] at q5; exact absurd q5 (by decide)
        · rw [nI_leI (by omega) (by omega)] at q4
          have ha2 : a < n := by omega
          have e5 := ho2.resolve_left q5
          refine sp_X0_forceFrom ha2 hm hd hx hF3 hle2 (fun ar3 fa3 fh3 ft3 k1 k2 k3 k4 => ⟨⟨a + 1, ar3, nI_1 a, by omega, k1, fun i k h => k2 i k (hsub2 i k h), k3, Or.inr rfl, fun e => absurd e (by decide), fun _ e => ?_⟩, pz_mu ha2 (by omega)⟩) (fun ar3 fa3 fh3 ft3 k1 k2 k3 => ⟨⟨a + 1, ar3, nI_1 a, by omega, k1, fun i k h => k2 i k (hsub2 i k h), fun G hG => absurd ⟨G, hG⟩ k3, Or.inl rfl, fun _ => k3, fun e => absurd e (by decide)⟩, pz_mu ha2 (by omega)⟩)
          have m1 := nar_mono (n := n) k2
          have m2 := nar_mono (n := n) hsub2
          obtain ⟨e6, hN1⟩ := k4 (by omega)
          obtain ⟨e7, hN2⟩ := hyes2 e5 (by omega)
          subst e6
          subst e7
          refine ⟨rfl, fun a' ha' => ?_⟩
          by_cases e8 : a' = a
          · subst e8; exact hN1
          · exact hN2 a' (by omega)
