/-! Drafts and plans: check, at -/
def Late (n : Nat) (jb d : Nat → Nat) (ar : Nat → Nat → Bool) (dr : Nat → Nat) (i : Nat) : Prop := ∃ k, k < n ∧ Ed n jb ar i k ∧ dr k < dr i + d i
def Meet (n : Nat) (mc d dr : Nat → Nat) (i : Nat) : Prop := ∃ k, k < n ∧ i < k ∧ mc k = mc i ∧ dr i < dr k + d k ∧ dr k < dr i + d i
theorem sp_X2_draftEnd {n i : Nat} {d dr : Nat → Nat} {fd fr : Nat → Int32} {post : Int32 → Prop} (hn : n ≤ 12) (hd : Tb n fd d) (hr : Tb n fr dr) (hi : i < n) (hp : post (nI (dr i + d i))) : wp_X2_draftEnd fr fd (nI i) post := by
  unfold wp_X2_draftEnd
  have hin : vp_in (nI i) 12 := pz_inc (by omega) (by omega)
  rw [hr.get hi (by omega), hd.get hi (by omega), nI_add]
  exact ⟨hin, hin, hp⟩
theorem sp_X2_endsTooLate {n i : Nat} {jb d dr : Nat → Nat} {ar : Nat → Nat → Bool} {fd fr fn fa : Nat → Int32} {post : Int32 → Prop} (hn : n ≤ 12) (hx : NxT n jb fn) (ha : ArT n ar fa) (hd : Tb n fd d) (hr : Tb n fr dr) (hdb : ∀ i, i < n → d i ≤ 50) (hrb : ∀ i, i < n → dr i ≤ 1000) (hi : i < n) (h1 : Late n jb d ar dr i → post 1) (h0 : ¬ Late n jb d ar dr i → post 0) : wp_X2_endsTooLate fr (nI n) fd fn fa (nI i) post := by
  unfold wp_X2_endsTooLate
  refine sp_X0_followers hn hx ha hi (fun f hf hE => ?_)
  refine ⟨fun x => ∃ k, x = nI k ∧ k ≤ n ∧ ∀ k', k' < k → Ed n jb ar i k' → ¬ dr k' < dr i + d i, fun x => n - x.toNatClampNeg, ⟨0, rfl, by omega, fun _ h => absurd h (by omega)⟩, ?_⟩
  rintro _ ⟨k, rfl, hk, hall⟩
  refine ⟨fun q => ?_, fun q => ?_⟩
  · rw [nI_leI (by omega) (by omega)] at q
    exact h0 (fun ⟨k', a1, a2, a3⟩ => hall k' (by omega) a2 a3)
  · rw [nI_leI (by omega) (by omega)] at q
    have hk2 : k < n := by omega
    have go : (Ed n jb ar i k → ¬ dr k < dr i + d i) → (∃ k', nI k + 1 = nI k' ∧ k' ≤ n ∧ ∀ k'', k'' < k' → Ed n jb ar i k'' → ¬ dr k'' < dr i + d i) ∧ n - (nI k + 1).toNatClampNeg < n - (nI k).toNatClampNeg := fun h => ⟨⟨k + 1, nI_1 k, by omega, fun k' hk' => by
      by_cases e : k' = k
      · subst e; exact h
      · exact hall k' (by omega)⟩, pz_mu hk2 (by omega)⟩
    have b1 := hdb i hi
    have b2 := hrb i hi
    have b3 := hrb k hk2
    refine sp_X2_isIn (by omega) (by omega) (fun hb => ⟨fun q2 => absurd q2 (by decide), fun _ => sp_X2_draftEnd hn hd hr hi ⟨pz_inc (by omega) (by omega), ?_⟩⟩) (fun hb => ⟨fun _ => go (fun he => ?_), fun q2 => absurd rfl q2⟩)
    · rw [hr.get hk2 (by omega)]
      refine ⟨fun q2 => go (fun _ => ?_), fun q2 => h1 ⟨k, hk2, (hE k).mp hb, ?_⟩⟩
      · rw [nI_leI (by omega) (by omega)] at q2; omega
      · rw [nI_leI (by omega) (by omega)] at q2; omega
    · have := (hE k).mpr he
      rw [hb] at this; cases this
theorem sp_X3_isOverBehind {n i : Nat} {jb d dr : Nat → Nat} {ar : Nat → Nat → Bool} {fj fd fr fb : Nat → Int32} {post : Int32 → Prop} (hn : n ≤ 12) (hj : Tb n fj jb) (hjb : ∀ i, i < n → jb i < 4) (hM : MT ar fb) (hd : Tb n fd d) (hr : Tb n fr dr) (hdb : ∀ i, i < n → d i ≤ 50) (hrb : ∀ i, i < n → dr i ≤ 1000) (hi : i < n) (h1 : Late n jb d ar dr i → post 1) (h0 : ¬ Late n jb d ar dr i → post 0) : wp_X3_isOverBehind (nI n) fj fd fb fr (nI i) post := by
  unfold wp_X3_isOverBehind
  refine ⟨fun x => ∃ k, x = nI k ∧ k ≤ n ∧ ∀ k', k' < k → Ed n jb ar i k' → ¬ dr k' < dr i + d i, fun x => n - x.toNatClampNeg, ⟨0, rfl, by omega, fun _ h => absurd h (by omega)⟩, ?_⟩
  rintro _ ⟨k, rfl, hk, hall⟩
  refine ⟨fun q => ?_, fun q => ?_⟩
  · rw [nI_leI (by omega) (by omega)] at q
    exact h0 (fun ⟨k', a1, a2, a3⟩ => hall k' (by omega) a2 a3)
  · rw [nI_leI (by omega) (by omega)] at q
    have hk2 : k < n := by omega
    have go : (Ed n jb ar i k → ¬ dr k < dr i + d i) → (∃ k', nI k + 1 = nI k' ∧ k' ≤ n ∧ ∀ k'', k'' < k' → Ed n jb ar i k'' → ¬ dr k'' < dr i + d i) ∧ n - (nI k + 1).toNatClampNeg < n - (nI k).toNatClampNeg := fun h => ⟨⟨k + 1, nI_1 k, by omega, fun k' hk' => by
      by_cases e : k' = k
      · subst e; exact h
      · exact hall k' (by omega)⟩, pz_mu hk2 (by omega)⟩
    have b1 := hdb i hi
    have b2 := hrb i hi
    have b3 := hrb k hk2
    have i1 : vp_in (nI i) 12 := pz_inc (by omega) (by omega)
    refine sp_X3_leads hn hj hjb hM hi hk2 (fun he => ⟨fun q2 => absurd q2 (by decide), fun _ => ⟨i1, i1, pz_inc (by omega) (by omega), ?_⟩⟩) (fun he => ⟨fun _ => go (fun h => absurd h he), fun q2 => absurd rfl q2⟩)
    rw [hr.get hk2 (by omega), hr.get hi (by omega), hd.get hi (by omega), nI_add]
    refine ⟨fun q2 => go (fun _ => ?_), fun q2 => h1 ⟨k, hk2, he, ?_⟩⟩
    · rw [nI_leI (by omega) (by omega)] at q2; omega
    · rw [nI_leI (by omega) (by omega)] at q2; omega
section meets
variable {n i : Nat} {mc d dr : Nat → Nat} {fm fd fr : Nat → Int32} {post : Int32 → Prop}
theorem sp_X2_meetsGreater (hn : n ≤ 12) (hm : Tb n fm mc) (hmb : ∀ i, i < n → mc i < 4) (hd : Tb n fd d) (hr : Tb n fr dr) (hdb : ∀ i, i < n → d i ≤ 50) (hrb : ∀ i, i < n → dr i ≤ 1000) (hi : i < n) (h1 : Meet n mc d dr i → post 1) (h0 : ¬ Meet n mc d dr i → post 0) : wp_X2_meetsGreater fr (nI n) fm fd (nI i) post := by
  unfold wp_X2_meetsGreater
  refine ⟨fun x => ∃ k, x = nI k ∧ k ≤ n ∧ i < k ∧ ∀ k', k' < k → i < k' → mc k' = mc i → dr i < dr k' + d k' → ¬ dr k' < dr i + d i, fun x => n - x.toNatClampNeg, ⟨i + 1, nI_1 i, by omega, by omega, fun _ _ h => absurd h (by omega)⟩, ?_⟩
  rintro _ ⟨k, rfl, hk, hik, hall⟩
  refine ⟨fun q => ?_, fun q => ?_⟩
  · rw [nI_leI (by omega) (by omega)] at q
    exact h0 (fun ⟨k', a1, a2, a3, a4, a5⟩ => hall k' (by omega) a2 a3 a4 a5)
  · rw [nI_leI (by omega) (by omega)] at q
    have hk2 : k < n := by omega
    have go : (mc k = mc i → dr i < dr k + d k → ¬ dr k < dr i + d i) → (∃ k', nI k + 1 = nI k' ∧ k' ≤ n ∧ i < k' ∧ ∀ k'', k'' < k' → i < k'' → mc k'' = mc i → dr i < dr k'' + d k'' → ¬ dr k'' < dr i + d i) ∧ n - (nI k + 1).toNatClampNeg < n - (nI k).toNatClampNeg := fun h => ⟨⟨k + 1, nI_1 k, by omega, by omega, fun k' hk' => by
      by_cases e : k' = k
      · subst e; exact fun _ => h
      · exact hall k' (by omega)⟩, pz_mu hk2 (by omega)⟩
    have b1 := hdb i hi
    have b2 := hrb i hi
    have b3 := hrb k hk2
    have b4 := hdb k hk2
    have b5 := hmb i hi
    have b6 := hmb k hk2
    have i1 : vp_in (nI i) 12 := pz_inc (by omega) (by omega)
    have i2 : vp_in (nI k) 12 := pz_inc (by omega) (by omega)
    rw [hm.get hk2 (by omega), hm.get hi (by omega), hr.get hi (by omega), hr.get hk2 (by omega)]
    refine ⟨i2, i1, fun q2 => go (fun e => absurd (by rw [e]) q2), fun q2 => ⟨i1, sp_X2_draftEnd hn hd hr hk2 ⟨fun q3 => go (fun _ h => ?_), fun q3 => ⟨i2, sp_X2_draftEnd hn hd hr hi ⟨fun q4 => go (fun _ _ => ?_), fun q4 => h1 ⟨k, hk2, hik, ?_, ?_, ?_⟩⟩⟩⟩⟩⟩
    · rw [nI_leI (by omega) (by omega)] at q3; omega
    · rw [nI_leI (by omega) (by omega)] at q4; omega
    · rw [nI_eq (by omega) (by omega)] at q2; exact q2
    · rw [nI_leI (by omega) (by omega)] at q3; omega
    · rw [nI_leI (by omega) (by omega)] at q4; omega
theorem sp_X3_meets (hn : n ≤ 12) (hm : Tb n fm mc) (hmb : ∀ i, i < n → mc i < 4) (hd : Tb n fd d) (hr : Tb n fr dr) (hdb : ∀ i, i < n → d i ≤ 50) (hrb : ∀ i, i < n → dr i ≤ 1000) (hi : i < n) (h1 : Meet n mc d dr i → post 1) (h0 : ¬ Meet n mc d dr i → post 0) : wp_X3_meets (nI n) fm fd fr (nI i) post := by
  unfold wp_X3_meets
  refine ⟨fun x => ∃ k, x = nI k ∧ k ≤ n ∧ i < k ∧ ∀ k', k' < k → i < k' → mc k' = mc i → dr i < dr k' + d k' → ¬ dr k' < dr i + d i, fun x => n - x.toNatClampNeg, ⟨i + 1, nI_1 i, by omega, by omega, fun _ _ h => absurd h (by omega)⟩, ?_⟩
  rintro _ ⟨k, rfl, hk, hik, hall⟩
  refine ⟨fun q => ?_, fun q => ?_⟩
  · rw [nI_leI (by omega) (by omega)] at q
    exact h0 (fun ⟨k', a1, a2, a3, a4, a5⟩ => hall k' (by omega) a2 a3 a4 a5)
  · rw [nI_leI (by omega) (by omega)] at q
    have hk2 : k < n := by omega
    have go : (mc k = mc i → dr i < dr k + d k → ¬ dr k < dr i + d i) → (∃ k', nI k + 1 = nI k' ∧ k' ≤ n ∧ i < k' ∧ ∀ k'', k'' < k' → i < k'' → mc k'' = mc i → dr i < dr k'' + d k'' → ¬ dr k'' < dr i + d i) ∧ n - (nI k + 1).toNatClampNeg < n - (nI k).toNatClampNeg := fun h => ⟨⟨k + 1, nI_1 k, by omega, by omega, fun k' hk' => by
      by_cases e : k' = k
      · subst e; exact fun _ => h
      · exact hall k' (by omega)⟩, pz_mu hk2 (by omega)⟩
    have b1 := hdb i hi
    have b2 := hrb i hi
    have b3 := hrb k hk2
    have b4 := hdb k hk2
    have b5 := hmb i hi
    have b6 := hmb k hk2
    have i1 : vp_in (nI i) 12 := pz_inc (by omega) (by omega)
    have i2 : vp_in (nI k) 12 := pz_inc (by omega) (by omega)
    rw [hm.get hk2 (by omega), hm.get hi (by omega), hr.get hi (by omega), hr.get hk2 (by omega), hd.get hi (by omega), hd.get hk2 (by omega), nI_add, nI_add]
    refine ⟨i2, i1, fun q2 => go (fun e => absurd (by rw [e]) q2), fun q2 => ⟨i1, i2, i2, fun q3 => go (fun _ h => ?_), fun q3 => ⟨i2, i1, i1, fun q4 => go (fun _ _ => ?_), fun q4 => h1 ⟨k, hk2, hik, ?_, ?_, ?_⟩⟩⟩⟩
    · rw [nI_leI (by omega) (by omega)] at q3; omega
    · rw [nI_leI (by omega) (by omega)] at q4; omega
    · rw [nI_eq (by omega) (by omega)] at q2; exact q2
    · rw [nI_leI (by omega) (by omega)] at q3; omega
    · rw [nI_leI (by omega) (by omega)] at q4; omega
end meets
section chk
variable {n nj : Nat} {jb mc d dr : Nat → Nat} {ar : Nat → Nat → Bool} {fj fm fd fr fn fa fb : Nat → Int32} {post : Int32 → Prop}
theorem sp_X2_check (S : Shop n nj jb mc d ar) (hm : Tb n fm mc) (hd : Tb n fd d) (hx : NxT n jb fn) (ha : ArT n ar fa) (hr : Tb n fr dr) (hrb : ∀ i, i < n → dr i ≤ 1000)
    (hA : ∀ i, i < n → Late n jb d ar dr i → (∀ k, k < i → ¬ Late n jb d ar dr k) → post ((-10) - nI i)) (hB : (∀ i, i < n → ¬ Late n jb d ar dr i) → ∀ i, i < n → Meet n mc d dr i → (∀ k, k < i → ¬ Meet n mc d dr k) → post ((-30) - nI i)) (hC : (∀ i, i < n → ¬ Late n jb d ar dr i) → (∀ i, i < n → ¬ Meet n mc d dr i) → post (nI (mx (fun i => dr i + d i) n))) : wp_X2_check fr (nI n) fm fd fn fa post := by
  have hn := S.1
  have hmb := S.2.2.2.1
  have hdb : ∀ i, i < n → d i ≤ 50 := fun i hi => (S.2.2.2.2.1 i hi).2
  have hmx : ∀ k, k ≤ n → mx (fun i => dr i + d i) k ≤ 1050 := fun k hk => mx_le k (fun i hi => by have := hdb i (by omega); have := hrb i (by omega); omega)
  unfold wp_X2_check
  refine ⟨fun x => ∃ k, x = nI k ∧ k ≤ n ∧ ∀ k', k' < k → ¬ Late n jb d ar dr k', fun x => n - x.toNatClampNeg, ⟨0, rfl, by omega, fun _ h => absurd h (by omega)⟩, ?_⟩
  rintro _ ⟨k, rfl, hk, hall⟩
  refine ⟨fun q => ?_, fun q => ?_⟩
  · rw [nI_leI (by omega) (by omega)] at q
    have nL : ∀ i, i < n → ¬ Late n jb d ar dr i := fun i hi => hall i (by omega)
    refine ⟨fun x => ∃ k, x = nI k ∧ k ≤ n ∧ ∀ k', k' < k → ¬ Meet n mc d dr k', fun x => n - x.toNatClampNeg, ⟨0, rfl, by omega, fun _ h => absurd h (by omega)⟩, ?_⟩
    rintro _ ⟨k2, rfl, hk2, hall2⟩
    refine ⟨fun q2 => ?_, fun q2 => ?_⟩
    · rw [nI_leI (by omega) (by omega)] at q2
      have nM : ∀ i, i < n → ¬ Meet n mc d dr i := fun i hi => hall2 i (by omega)
      refine ⟨fun x y => ∃ k, y = nI k ∧ k ≤ n ∧ x = nI (mx (fun i => dr i + d i) k), fun _ y => n - y.toNatClampNeg, ⟨0, rfl, by omega, rfl⟩, ?_⟩
      rintro _ _ ⟨k3, rfl, hk3, rfl⟩
      refine ⟨fun q3 => ?_, fun q3 => ?_⟩
      · rw [nI_leI (by omega) (by omega)] at q3
        have e : k3 = n := by omega
        subst e; exact hC nL nM
      · rw [nI_leI (by omega) (by omega)] at q3
        have hk4 : k3 < n := by omega
        have b1 := hmx k3 hk3
        have b2 := hdb k3 hk4
        have b3 := hrb k3 hk4
        refine sp_X2_draftEnd hn hd hr hk4 ⟨⟨k3 + 1, nI_1 k3, by omega, ?_⟩, pz_mu hk4 (by omega)⟩
        rw [pz_max (by omega) (by omega)]; rfl
    · rw [nI_leI (by omega) (by omega)] at q2
      have hk4 : k2 < n := by omega
      refine sp_X2_meetsGreater hn hm hmb hd hr hdb hrb hk4 (fun h => ⟨fun q3 => absurd q3 (by decide), fun _ => hB nL k2 hk4 h hall2⟩) (fun h => ⟨fun _ => ⟨⟨k2 + 1, nI_1 k2, by omega, fun k' hk' => ?_⟩, pz_mu hk4 (by omega)⟩, fun q3 => absurd rfl q3⟩)
      by_cases e : k' = k2
      · subst e; exact h
      · exact hall2 k' (by omega)
  · rw [nI_leI (by omega) (by omega)] at q
    have hk4 : k < n := by omega
    refine sp_X2_endsTooLate hn hx ha hd hr hdb hrb hk4 (fun h => ⟨fun q3 => absurd q3 (by decide), fun _ => hA k hk4 h hall⟩) (fun h => ⟨fun _ => ⟨⟨k + 1, nI_1 k, by omega, fun k' hk' => ?_⟩, pz_mu hk4 (by omega)⟩, fun q3 => absurd rfl q3⟩)
    by_cases e : k' = k
    · subst e; exact h
    · exact hall k' (by omega)
theorem sp_X3_check (S : Shop n nj jb mc d ar) (hj : Tb n fj jb) (hm : Tb n fm mc) (hd : Tb n fd d) (hM : MT ar fb) (hr : Tb n fr dr) (hrb : ∀ i, i < n → dr i ≤ 1000)
    (hA : ∀ i, i < n → Late n jb d ar dr i → (∀ k, k < i → ¬ Late n jb d ar dr k) → post ((-10) - nI i)) (hB : (∀ i, i < n → ¬ Late n jb d ar dr i) → ∀ i, i < n → Meet n mc d dr i → (∀ k, k < i → ¬ Meet n mc d dr k) → post ((-30) - nI i)) (hC : (∀ i, i < n → ¬ Late n jb d ar dr i) → (∀ i, i < n → ¬ Meet n mc d dr i) → post (nI (mx (fun i => dr i + d i) n))) : wp_X3_check (nI n) fj fm fd fb fr post := by
  have hn := S.1
  have hmb := S.2.2.2.1
  have hjb : ∀ i, i < n → jb i < 4 := fun i hi => by
    have h1 := S.2.2.1 i hi
    have h2 := S.2.1
    omega
  have hdb : ∀ i, i < n → d i ≤ 50 := fun i hi => (S.2.2.2.2.1 i hi).2
  have hmx : ∀ k, k ≤ n → mx (fun i => dr i + d i) k ≤ 1050 := fun k hk => mx_le k (fun i hi => by have := hdb i (by omega); have := hrb i (by omega); omega)
  unfold wp_X3_check
  refine ⟨fun x => ∃ k, x = nI k ∧ k ≤ n ∧ ∀ k', k' < k → ¬ Late n jb d ar dr k', fun x => n - x.toNatClampNeg, ⟨0, rfl, by omega, fun _ h => absurd h (by omega)⟩, ?_⟩
  rintro _ ⟨k, rfl, hk, hall⟩
  refine ⟨fun q => ?_, fun q => ?_⟩
  · rw [nI_leI (by omega) (by omega)] at q
    have nL : ∀ i, i < n → ¬ Late n jb d ar dr i := fun i hi => hall i (by omega)
    refine ⟨fun x y => ∃ k, y = nI k ∧ k ≤ n ∧ x = nI (mx (fun i => dr i + d i) k) ∧ ∀ k', k' < k → ¬ Meet n mc d dr k', fun _ y => n - y.toNatClampNeg, ⟨0, rfl, by omega, rfl, fun _ h => absurd h (by omega)⟩, ?_⟩
    rintro _ _ ⟨k2, rfl, hk2, rfl, hall2⟩
    refine ⟨fun q2 => ?_, fun q2 => ?_⟩
    · rw [nI_leI (by omega) (by omega)] at q2
      have e : k2 = n := by omega
      subst e; exact hC nL hall2
    · rw [nI_leI (by omega) (by omega)] at q2
      have hk4 : k2 < n := by omega
      have b1 := hmx k2 hk2
      have b2 := hdb k2 hk4
      have b3 := hrb k2 hk4
      have i1 : vp_in (nI k2) 12 := pz_inc (by omega) (by omega)
      refine sp_X3_meets hn hm hmb hd hr hdb hrb hk4 (fun h => ⟨fun q3 => absurd q3 (by decide), fun _ => hB nL k2 hk4 h hall2⟩) (fun h => ⟨fun _ => ⟨i1, i1, ?_⟩, fun q3 => absurd rfl q3⟩)
      have hall3 : ∀ k', k' < k2 + 1 → ¬ Meet n mc d dr k' := fun k' hk' => by
        by_cases e : k' = k2
        · subst e; exact h
        · exact hall2 k' (by omega)
      rw [hr.get hk4 (by omega), hd.get hk4 (by omega), nI_add]
      have em : mx (fun i => dr i + d i) (k2 + 1) = max (mx (fun i => dr i + d i) k2) (dr k2 + d k2) := rfl
      refine ⟨fun q3 => ⟨⟨k2 + 1, nI_1 k2, by omega, ?_, hall3⟩, pz_mu hk4 (by omega)⟩, fun q3 => ⟨⟨k2 + 1, nI_1 k2, by omega, ?_, hall3⟩, pz_mu hk4 (by omega)⟩⟩
      · rw [nI_leI (by omega) (by omega)] at q3
        rw [em, Nat.max_eq_left q3]
      · rw [nI_leI (by omega) (by omega)] at q3
        rw [em, Nat.max_eq_right (by omega)]
  · rw [nI_leI (by omega) (by omega)] at q
    have hk4 : k < n := by omega
    refine sp_X3_isOverBehind hn hj hjb hM hd hr hdb hrb hk4 (fun h => ⟨fun q3 => absurd q3 (by decide), fun _ => hA k hk4 h hall⟩) (fun h => ⟨fun _ => ⟨⟨k + 1, nI_1 k, by omega, fun k' hk' => ?_⟩, pz_mu hk4 (by omega)⟩, fun q3 => absurd rfl q3⟩)
    by_cases e : k' = k
    · subst e; exact h
    · exact hall k' (by omega)
end chk
theorem sp_X2_isMachine {a0 : Int32} {post : Int32 → Prop} (h1 : Op 4 a0 → post 1) (h0 : ¬ Op 4 a0 → post 0) : wp_X2_isMachine a0 post := sp_X0_isJob (n := 4) (by omega) h1 h0
/-- runs at that time on that machine -/
def Hit (mc d p : Nat → Nat) (m : Nat) (t : Int32) (i : Nat) : Prop := mc i = m ∧ ¬ t < nI (p i) ∧ ¬ nI (p i + d i) ≤ t
section at_
variable {n m : Nat} {mc d p : Nat → Nat} {fm fd fp : Nat → Int32} {t : Int32} {post : Int32 → Prop}
theorem hit_in {a d : Nat} (hd : 1 ≤ d) (hb : a + d ≤ 1000) : (¬ t < nI a ∧ ¬ (nI a + nI d) - 1 < t) ↔ (¬ t < nI a ∧ ¬ nI (a + d) ≤ t) := by
  have e : (nI a + nI d) - 1 = nI (a + d - 1) := by rw [nI_add]; exact pk_sub (b := 1) (by omega)
  rw [e]
  simp only [Int32.lt_iff_toInt_lt, Int32.le_iff_toInt_le]
  rw [nI_toInt (by omega), nI_toInt (by omega), nI_toInt (by omega)]
  omega
theorem sp_X2_at (hn : n ≤ 12) (hm : Tb n fm mc) (hmb : ∀ i, i < n → mc i < 4) (hd : Tb n fd d) (hp : Tb n fp p) (hm4 : m < 4) (h1 : ∀ i, i < n → Hit mc d p m t i → (∀ k, k < i → ¬ Hit mc d p m t k) → post (nI i)) (h0 : (∀ i, i < n → ¬ Hit mc d p m t i) → post (-1)) : wp_X2_at 1 fp (nI n) fm fd (nI m) t post := by
  unfold wp_X2_at
  refine sp_X2_isMachine (fun _ => ⟨fun _ => ⟨fun _ => ?_, fun q => absurd q (by decide)⟩, fun q => absurd q (by decide)⟩) (fun h => absurd ⟨m, hm4, rfl⟩ h)
  refine ⟨fun x => ∃ k, x = nI k ∧ k ≤ n ∧ ∀ k', k' < k → ¬ Hit mc d p m t k', fun x => n - x.toNatClampNeg, ⟨0, rfl, by omega, fun _ h => absurd h (by omega)⟩, ?_⟩
  rintro _ ⟨k, rfl, hk, hall⟩
  refine ⟨fun q => ?_, fun q => ?_⟩
  · rw [nI_leI (by omega) (by omega)] at q
    exact h0 (fun i hi => hall i (by omega))
  · rw [nI_leI (by omega) (by omega)] at q
    have hk2 : k < n := by omega
    have i1 : vp_in (nI k) 12 := pz_inc (by omega) (by omega)
    have b1 := hmb k hk2
    have go : ¬ Hit mc d p m t k → (∃ k', nI k + 1 = nI k' ∧ k' ≤ n ∧ ∀ k'', k'' < k' → ¬ Hit mc d p m t k'') ∧ n - (nI k + 1).toNatClampNeg < n - (nI k).toNatClampNeg := fun h => ⟨⟨k + 1, nI_1 k, by omega, fun k' hk' => by
      by_cases e : k' = k
      · subst e; exact h
      · exact hall k' (by omega)⟩, pz_mu hk2 (by omega)⟩
    rw [hm.get hk2 (by omega), hp.get hk2 (by omega), hd.get hk2 (by omega), nI_add]
    refine ⟨i1, i1, fun q2 => go (fun h => q2 (by rw [h.1])), fun q2 => ⟨fun q3 => go (fun h => h.2.1 q3), fun q3 => ⟨i1, fun q4 => go (fun h => h.2.2 q4), fun q4 => h1 k hk2 ⟨?_, q3, q4⟩ hall⟩⟩⟩
    rw [nI_eq (by omega) (by omega)] at q2; exact q2
theorem sp_X3_at (hn : n ≤ 12) (hm : Tb n fm mc) (hmb : ∀ i, i < n → mc i < 4) (hd : Tb n fd d) (hdb : ∀ i, i < n → 1 ≤ d i ∧ d i ≤ 50) (hp : Tb n fp p) (hpb : ∀ i, i < n → p i ≤ 900) (hm4 : m < 4) (h1 : ∀ i, i < n → Hit mc d p m t i → (∀ k, k < i → ¬ Hit mc d p m t k) → post (nI i)) (h0 : (∀ i, i < n → ¬ Hit mc d p m t i) → post (-1)) : wp_X3_at (nI n) 1 fm fd fp (nI m) t post := by
  unfold wp_X3_at
  refine sp_X3_in (fun _ => ⟨fun _ => ?_, fun q => absurd q (by decide)⟩) (fun h => absurd ((pz_pred (n := 4) (by omega)).mpr ⟨m, hm4, rfl⟩) h)
  refine ⟨fun x => ∃ k, x = nI k ∧ k ≤ n ∧ ∀ k', k' < k → ¬ Hit mc d p m t k', fun x => n - x.toNatClampNeg, ⟨0, rfl, by omega, fun _ h => absurd h (by omega)⟩, ?_⟩
  rintro _ ⟨k, rfl, hk, hall⟩
  refine ⟨fun q => ?_, fun q => ⟨fun q1 => absurd q1 (by decide), fun _ => ?_⟩⟩
  · rw [nI_leI (by omega) (by omega)] at q
    exact h0 (fun i hi => hall i (by omega))
  · rw [nI_leI (by omega) (by omega)] at q
    have hk2 : k < n := by omega
    have i1 : vp_in (nI k) 12 := pz_inc (by omega) (by omega)
    have b1 := hmb k hk2
    have b2 := hdb k hk2
    have b3 := hpb k hk2
    have go : ¬ Hit mc d p m t k → (∃ k', nI k + 1 = nI k' ∧ k' ≤ n ∧ ∀ k'', k'' < k' → ¬ Hit mc d p m t k'') ∧ n - (nI k + 1).toNatClampNeg < n - (nI k).toNatClampNeg := fun h => ⟨⟨k + 1, nI_1 k, by omega, fun k' hk' => by
      by_cases e : k' = k
      · subst e; exact h
      · exact hall k' (by omega)⟩, pz_mu hk2 (by omega)⟩
    rw [hm.get hk2 (by omega), hp.get hk2 (by omega), hd.get hk2 (by omega)]
    refine ⟨i1, fun q2 => go (fun h => q2 (by rw [h.1])), fun q2 => ⟨i1, i1, i1, sp_X3_in (fun h => ⟨fun q3 => absurd q3 (by decide), fun _ => h1 k hk2 ⟨?_, (hit_in b2.1 (by omega)).mp h⟩ hall⟩) (fun h => ⟨fun _ => go (fun h2 => h ((hit_in b2.1 (by omega)).mpr h2.2)), fun q3 => absurd rfl q3⟩)⟩⟩
    rw [nI_eq (by omega) (by omega)] at q2; exact q2
end at_
