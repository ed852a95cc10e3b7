/-! The class and the reference side by side -/
def Iv (n nj : Nat) (jb mc d : Nat → Nat) (ar : Nat → Nat → Bool) (dr : Nat → Nat) (Jp : Int32) (Jd : Nat → Int32) (Sl Sf : Int32) (Sp ff fl fj fm fd fn fa fh ft : Nat → Int32) (Mp Ml Mo : Int32) (gj gm gd gb gdr gst : Nat → Int32) : Prop :=
  (FSt n nj jb mc d ar fa fh ft) ∧ (FsT n nj jb ff) ∧ (LsT n nj jb fl) ∧ (Tb n fj jb) ∧ (Tb n fm mc) ∧ (Tb n fd d) ∧ (NxT n jb fn) ∧ (Tb n Jd dr) ∧ (∀ i, i < n → dr i ≤ 1000) ∧ (Tb n gj jb) ∧ (Tb n gm mc) ∧ (Tb n gd d) ∧ (MT ar gb) ∧ (Tb n gdr dr) ∧ ((Jp = 0 ∧ Mp = 0) ∨ (Jp = 1 ∧ Mp = 1 ∧ ∃ l c p, Sl = nI l ∧ Ml = nI l ∧ Sf = nI c ∧ Mo = nI c ∧ Tb n Sp p ∧ Tb n gst p ∧ l ≤ 600 ∧ Rs n d (LA n jb mc d ar) l c p))
section ivs
variable {n nj : Nat} {jb mc d : Nat → Nat} {ar : Nat → Nat → Bool} {dr : Nat → Nat} {Jp : Int32} {Jd : Nat → Int32} {Sl Sf : Int32} {Sp ff fl fj fm fd fn fa fh ft : Nat → Int32} {Mp Ml Mo : Int32} {gj gm gd gb gdr gst : Nat → Int32}
theorem Iv.h_F (h : Iv n nj jb mc d ar dr Jp Jd Sl Sf Sp ff fl fj fm fd fn fa fh ft Mp Ml Mo gj gm gd gb gdr gst) : FSt n nj jb mc d ar fa fh ft := h.1
theorem Iv.h_ff (h : Iv n nj jb mc d ar dr Jp Jd Sl Sf Sp ff fl fj fm fd fn fa fh ft Mp Ml Mo gj gm gd gb gdr gst) : FsT n nj jb ff := h.2.1
theorem Iv.h_fl (h : Iv n nj jb mc d ar dr Jp Jd Sl Sf Sp ff fl fj fm fd fn fa fh ft Mp Ml Mo gj gm gd gb gdr gst) : LsT n nj jb fl := h.2.2.1
theorem Iv.h_fj (h : Iv n nj jb mc d ar dr Jp Jd Sl Sf Sp ff fl fj fm fd fn fa fh ft Mp Ml Mo gj gm gd gb gdr gst) : Tb n fj jb := h.2.2.2.1
theorem Iv.h_fm (h : Iv n nj jb mc d ar dr Jp Jd Sl Sf Sp ff fl fj fm fd fn fa fh ft Mp Ml Mo gj gm gd gb gdr gst) : Tb n fm mc := h.2.2.2.2.1
theorem Iv.h_fd (h : Iv n nj jb mc d ar dr Jp Jd Sl Sf Sp ff fl fj fm fd fn fa fh ft Mp Ml Mo gj gm gd gb gdr gst) : Tb n fd d := h.2.2.2.2.2.1
theorem Iv.h_fn (h : Iv n nj jb mc d ar dr Jp Jd Sl Sf Sp ff fl fj fm fd fn fa fh ft Mp Ml Mo gj gm gd gb gdr gst) : NxT n jb fn := h.2.2.2.2.2.2.1
theorem Iv.h_jd (h : Iv n nj jb mc d ar dr Jp Jd Sl Sf Sp ff fl fj fm fd fn fa fh ft Mp Ml Mo gj gm gd gb gdr gst) : Tb n Jd dr := h.2.2.2.2.2.2.2.1
theorem Iv.h_db (h : Iv n nj jb mc d ar dr Jp Jd Sl Sf Sp ff fl fj fm fd fn fa fh ft Mp Ml Mo gj gm gd gb gdr gst) : ∀ i, i < n → dr i ≤ 1000 := h.2.2.2.2.2.2.2.2.1
theorem Iv.h_gj (h : Iv n nj jb mc d ar dr Jp Jd Sl Sf Sp ff fl fj fm fd fn fa fh ft Mp Ml Mo gj gm gd gb gdr gst) : Tb n gj jb := h.2.2.2.2.2.2.2.2.2.1
theorem Iv.h_gm (h : Iv n nj jb mc d ar dr Jp Jd Sl Sf Sp ff fl fj fm fd fn fa fh ft Mp Ml Mo gj gm gd gb gdr gst) : Tb n gm mc := h.2.2.2.2.2.2.2.2.2.2.1
theorem Iv.h_gd (h : Iv n nj jb mc d ar dr Jp Jd Sl Sf Sp ff fl fj fm fd fn fa fh ft Mp Ml Mo gj gm gd gb gdr gst) : Tb n gd d := h.2.2.2.2.2.2.2.2.2.2.2.1
theorem Iv.h_gb (h : Iv n nj jb mc d ar dr Jp Jd Sl Sf Sp ff fl fj fm fd fn fa fh ft Mp Ml Mo gj gm gd gb gdr gst) : MT ar gb := h.2.2.2.2.2.2.2.2.2.2.2.2.1
theorem Iv.h_gdr (h : Iv n nj jb mc d ar dr Jp Jd Sl Sf Sp ff fl fj fm fd fn fa fh ft Mp Ml Mo gj gm gd gb gdr gst) : Tb n gdr dr := h.2.2.2.2.2.2.2.2.2.2.2.2.2.1
theorem Iv.h_pl (h : Iv n nj jb mc d ar dr Jp Jd Sl Sf Sp ff fl fj fm fd fn fa fh ft Mp Ml Mo gj gm gd gb gdr gst) : (Jp = 0 ∧ Mp = 0) ∨ (Jp = 1 ∧ Mp = 1 ∧ ∃ l c p, Sl = nI l ∧ Ml = nI l ∧ Sf = nI c ∧ Mo = nI c ∧ Tb n Sp p ∧ Tb n gst p ∧ l ≤ 600 ∧ Rs n d (LA n jb mc d ar) l c p) := h.2.2.2.2.2.2.2.2.2.2.2.2.2.2
end ivs
def Ia (Jp : Int32) (Jd : Nat → Int32) (Sl Sf : Int32) (Sp : Nat → Int32) (Fj Fs : Int32) (ff fl fj fm fd fn fa fh ft : Nat → Int32) (Mj Mm Mp Ml Mo : Int32) (gj gm gd gb gdr gst : Nat → Int32) : Prop :=
  ∃ n nj jb mc d ar dr, Fj = nI nj ∧ Fs = nI n ∧ Mj = nI nj ∧ Mm = nI n ∧ Iv n nj jb mc d ar dr Jp Jd Sl Sf Sp ff fl fj fm fd fn fa fh ft Mp Ml Mo gj gm gd gb gdr gst
theorem Shop.sub {n nj : Nat} {jb mc d : Nat → Nat} {ar ar' : Nat → Nat → Bool} (S : Shop n nj jb mc d ar) (h : ∀ i k, ar' i k = true → ar i k = true) : Shop n nj jb mc d ar' := by
  obtain ⟨h1, h2, h3, h4, h5, h6, h7, g, hg⟩ := S
  exact ⟨h1, h2, h3, h4, h5, h6, fun i k q => h7 i k (h i k q), g, fun a b ha hb he => hg a b ha hb (he.elim (fun q => Or.inl (h a b q)) Or.inr)⟩
theorem Shop.jbs {n nj : Nat} {jb mc d : Nat → Nat} {ar : Nat → Nat → Bool} (S : Shop n nj jb mc d ar) : ∀ i, i < n → jb i < 4 := fun i hi => by
  have h1 := S.2.2.1 i hi
  have h2 := S.2.1
  omega
theorem nar_same {n nj : Nat} {jb mc d : Nat → Nat} {ar F : Nat → Nat → Bool} (S : Shop n nj jb mc d F) (h : ∀ i k, ar i k = true → F i k = true) (e : nar F n = nar ar n) : F = ar := by
  funext i; funext k
  cases e1 : ar i k
  · cases e2 : F i k
    · rfl
    · have hb := S.2.2.2.2.2.2.1 i k e2
      have hn := S.1
      have h1 := nar_up (n := n) e1 hb.1 (by omega)
      have h2 := nar_mono (n := n) (ar := Up ar i k) (ar' := F) (fun a b q => by
        unfold Up at q
        rw [Bool.or_eq_true] at q
        rcases q with q | q
        · exact h a b q
        · rw [Bool.and_eq_true, decide_eq_true_eq, decide_eq_true_eq] at q
          rw [q.1, q.2]; exact e2)
      omega
  · exact h i k e1
section ops
variable {Jp : Int32} {Jd : Nat → Int32} {Sl Sf : Int32} {Sp : Nat → Int32} {Fj Fs : Int32} {ff fl fj fm fd fn fa fh ft : Nat → Int32} {Mj Mm Mp Ml Mo : Int32} {gj gm gd gb gdr gst : Nat → Int32}
theorem op_clear {post : Int32 → Int32 → Int32 → Int32 → Int32 → Int32 → Int32 → Int32 → (Nat → Int32) → (Nat → Int32) → Prop} (h : Ia Jp Jd Sl Sf Sp Fj Fs ff fl fj fm fd fn fa fh ft Mj Mm Mp Ml Mo gj gm gd gb gdr gst)
    (hp : ∀ r jp Fj' Fs' mj mm mp gb' gdr', Ia jp Jd Sl Sf Sp Fj' Fs' ff fl fj fm fd fn fa fh ft mj mm mp Ml Mo gj gm gd gb' gdr' gst → post r jp Fj' Fs' r mj mm mp gb' gdr') :
    wp_X2_clear Jp Fj Fs (fun r jp Fj' Fs' => wp_X3_clear Mj Mm Mp gb gdr (fun r' mj mm mp gb' gdr' => post r jp Fj' Fs' r' mj mm mp gb' gdr')) := by
  obtain ⟨n, nj, jb, mc, d, ar, dr, rfl, rfl, rfl, rfl, h⟩ := h
  unfold wp_X2_clear wp_X0_empty wp_X3_clear
  refine ⟨fun x f => ∃ k, x = nI k ∧ k ≤ 144 ∧ ∀ i, i < k → f i = 0, fun x _ => 144 - x.toNatClampNeg, ⟨0, rfl, by omega, fun _ h => absurd h (by omega)⟩, ?_⟩
  rintro _ gb' ⟨k, rfl, hk, hz⟩
  refine ⟨fun q => ?_, fun q => ?_⟩
  · rw [show (144 : Int32) = nI 144 from rfl, nI_leI (by omega) (by omega)] at q
    refine ⟨fun x f => ∃ k, x = nI k ∧ k ≤ 12, fun x _ => 12 - x.toNatClampNeg, ⟨0, rfl, by omega⟩, ?_⟩
    rintro _ gdr' ⟨k2, rfl, hk2⟩
    refine ⟨fun q2 => ?_, fun q2 => ?_⟩
    · unfold wp_X3_forget
      refine hp _ _ _ _ _ _ _ _ _ ⟨0, 0, jb, mc, d, fun _ _ => false, fun _ => 0, rfl, rfl, rfl, rfl, ?_⟩
      have no : ∀ {P : Prop} (i : Nat), i < 0 → P := fun i hi => absurd hi (Nat.not_lt_zero i)
      have S : Shop 0 0 jb mc d (fun _ _ => false) := ⟨by omega, by omega, fun i hi => no i hi, fun i hi => no i hi, fun i hi => no i hi, fun i _ hi => no i hi, fun _ _ h => absurd h Bool.false_ne_true, fun _ => 0, fun i _ hi => no i hi⟩
      obtain ⟨hs, ts, h1, h2⟩ := S.heads
      exact ⟨⟨S, fun i hi => no i hi, hs, ts, h1, h2, fun i hi => no i hi, fun i hi => no i hi⟩, fun i hi => no i hi, fun i hi => no i hi, fun i hi => no i hi, fun i hi => no i hi, fun i hi => no i hi, fun i hi => no i hi, fun i hi => no i hi, fun i hi => no i hi, fun i hi => no i hi, fun i hi => no i hi, fun i hi => no i hi, fun a b ha hb => by rw [hz _ (by omega)]; rfl, fun i hi => no i hi, Or.inl ⟨rfl, rfl⟩⟩
    · rw [show (12 : Int32) = nI 12 from rfl, nI_leI (by omega) (by omega)] at q2
      exact ⟨pz_inc (by omega) (by omega), ⟨k2 + 1, nI_1 k2, by omega⟩, pz_mu (by omega) (by omega)⟩
  · rw [show (144 : Int32) = nI 144 from rfl, nI_leI (by omega) (by omega)] at q
    rw [nI_clamp (by omega)]
    refine ⟨pz_inc (by omega) (by omega), ⟨k + 1, nI_1 k, by omega, fun i hi => ?_⟩, pz_mu (by omega) (by omega)⟩
    by_cases e : i = k
    · subst e; rw [pk_us]; rfl
    · rw [pk_un e]; exact hz i (by omega)
theorem op_job {post : Int32 → Int32 → (Nat → Int32) → (Nat → Int32) → Int32 → Int32 → Prop} (h : Ia Jp Jd Sl Sf Sp Fj Fs ff fl fj fm fd fn fa fh ft Mj Mm Mp Ml Mo gj gm gd gb gdr gst)
    (hp : ∀ r Fj' ff' fl' mj, Ia Jp Jd Sl Sf Sp Fj' Fs ff' fl' fj fm fd fn fa fh ft mj Mm Mp Ml Mo gj gm gd gb gdr gst → post r Fj' ff' fl' r mj) :
    wp_X2_job Fj ff fl (fun r Fj' ff' fl' => wp_X3_job Mj (fun r' mj => post r Fj' ff' fl' r' mj)) := by
  have h0 := h
  obtain ⟨n, nj, jb, mc, d, ar, dr, rfl, rfl, rfl, rfl, h⟩ := h
  have S := h.h_F.1
  have h4 := S.2.1
  unfold wp_X2_job wp_X3_job
  refine ⟨fun q => ?_, fun q => ?_⟩
  · rw [show (4 : Int32) = nI 4 from rfl, nI_leI (by omega) (by omega)] at q
    have e : nj = 4 := by omega
    subst e
    exact ⟨fun q2 => absurd rfl q2, fun _ => hp _ _ _ _ _ h0⟩
  · rw [show (4 : Int32) = nI 4 from rfl, nI_leI (by omega) (by omega)] at q
    refine sp_X0_addJob (by omega) S.2.2.1 h.h_ff h.h_fl (fun ff' fl' a1 a2 => ⟨fun _ => ?_, fun q2 => ?_⟩)
    · rw [nI_1, show nI (nj + 1) - (1 : Int32) = nI nj from pk_sub (b := 1) (by omega)]
      obtain ⟨s1, s2, s3, s4, s5, s6, s7, s8⟩ := S
      exact hp _ _ _ _ _ ⟨n, nj + 1, jb, mc, d, ar, dr, rfl, rfl, rfl, rfl, ⟨⟨s1, by omega, fun i hi => Nat.lt_succ_of_lt (s3 i hi), s4, s5, s6, s7, s8⟩, h.h_F.2⟩, a1, a2, h.2.2.2⟩
    · rw [show (4 : Int32) = nI 4 from rfl, nI_eq (by omega) (by omega)] at q2; omega
/-- the call may add an operation -/
def Ok (n nj : Nat) (jb mc : Nat → Nat) (a0 a1 a2 : Int32) (j m x : Nat) : Prop := j < nj ∧ m < 4 ∧ 1 ≤ x ∧ x ≤ 50 ∧ a0 = nI j ∧ a1 = nI m ∧ a2 = nI x ∧ ¬ ∃ i, i < n ∧ jb i = j ∧ mc i = m
theorem rng50 {a : Int32} (h1 : ¬ a < 1) (h2 : a ≤ 50) : ∃ x, 1 ≤ x ∧ x ≤ 50 ∧ a = nI x := by
  obtain ⟨j, hj, e⟩ := nI_of2 (x := a) (M := 50) (n := 50) rfl (fun q => h1 (by
    rw [Int32.lt_iff_toInt_lt] at q ⊢
    have e0 : (0 : Int32).toInt = 0 := rfl
    have e1 : (1 : Int32).toInt = 1 := rfl
    omega)) h2
  refine ⟨j, ?_, hj, e⟩
  rcases Nat.eq_zero_or_pos j with q | q
  · subst q; rw [e] at h1; exact absurd (by decide) h1
  · exact q
theorem rng50' {x : Nat} (h1 : 1 ≤ x) (h2 : x ≤ 50) : ¬ nI x < 1 ∧ nI x ≤ 50 := by
  rw [show (1 : Int32) = nI 1 from rfl, show (50 : Int32) = nI 50 from rfl, nI_ltI (by omega) (by omega), nI_leI (by omega) (by omega)]
  omega
theorem sp_X2_operation {n nj : Nat} {jb mc d : Nat → Nat} {ar : Nat → Nat → Bool} {a0 a1 a2 : Int32} {post : Int32 → Int32 → (Nat → Int32) → Int32 → (Nat → Int32) → (Nat → Int32) → (Nat → Int32) → (Nat → Int32) → (Nat → Int32) → (Nat → Int32) → (Nat → Int32) → (Nat → Int32) → (Nat → Int32) → Prop} (F : FSt n nj jb mc d ar fa fh ft) (hff : FsT n nj jb ff) (hfl : LsT n nj jb fl) (hj : Tb n fj jb) (hm : Tb n fm mc) (hd : Tb n fd d) (hx : NxT n jb fn)
    (hb : (¬ ∃ j m x, Ok n nj jb mc a0 a1 a2 j m x) → post (-2) Jp Jd (nI n) ff fl fj fm fd fn fa fh ft) (hf : (∃ j m x, Ok n nj jb mc a0 a1 a2 j m x) → n = 12 → post (-3) Jp Jd (nI n) ff fl fj fm fd fn fa fh ft)
    (h1 : ∀ j m x, Ok n nj jb mc a0 a1 a2 j m x → n < 12 → ∀ Jd' ff' fl' fj' fm' fd' fn' fa' fh' ft', (∀ i, i < n + 1 → Jd' i = nI 0) → FsT (n + 1) nj (Ap n jb j) ff' → LsT (n + 1) nj (Ap n jb j) fl' → Tb (n + 1) fj' (Ap n jb j) → Tb (n + 1) fm' (Ap n mc m) → Tb (n + 1) fd' (Ap n d x) → NxT (n + 1) (Ap n jb j) fn' → FSt (n + 1) nj (Ap n jb j) (Ap n mc m) (Ap n d x) ar fa' fh' ft' → post (nI n) 0 Jd' (nI (n + 1)) ff' fl' fj' fm' fd' fn' fa' fh' ft') :
    wp_X2_operation Jp Jd (nI nj) (nI n) ff fl fj fm fd fn fa fh ft a0 a1 a2 post := by
  obtain ⟨S, hA, hs, ts, hh, ht, t1, t2⟩ := F
  have hn := S.1
  have h4 := S.2.1
  unfold wp_X2_operation
  refine sp_X0_isJob (by omega) (fun o1 => ⟨fun q => absurd q (by decide), fun _ => sp_X2_isMachine (fun o2 => ⟨fun q => absurd q (by decide), fun _ => ⟨fun q => hb ?_, fun q => ⟨fun q2 => ?_, fun q2 => hb ?_⟩⟩⟩) (fun o2 => ⟨fun _ => hb ?_, fun q => absurd rfl q⟩)⟩) (fun o1 => ⟨fun _ => hb ?_, fun q => absurd rfl q⟩)
  · rintro ⟨j, m, x, k1, k2, k3, k4, k5, k6, k7, k8⟩
    rw [k7] at q; exact (rng50' k3 k4).1 q
  · obtain ⟨j, hj4, rfl⟩ := o1
    obtain ⟨m, hm4, rfl⟩ := o2
    obtain ⟨x, x1, x2, rfl⟩ := rng50 q q2
    refine sp_X0_visits hn hj hm S.jbs S.2.2.2.1 (by omega) hm4 (fun hv => ⟨fun q3 => absurd q3 (by decide), fun _ => hb ?_⟩) (fun hv => ⟨fun _ => ?_, fun q3 => absurd rfl q3⟩)
    · rintro ⟨j', m', x', k1, k2, k3, k4, k5, k6, k7, k8⟩
      rw [nI_eq (by omega) (by omega)] at k5 k6
      subst k5; subst k6
      exact k8 hv
    · have hok : Ok n nj jb mc (nI j) (nI m) (nI x) j m x := ⟨hj4, hm4, x1, x2, rfl, rfl, rfl, hv⟩
      refine ⟨fun q3 => ?_, fun q3 => hf ⟨j, m, x, hok⟩ ?_⟩
      · rw [show (12 : Int32) = nI 12 from rfl, nI_ltI (by omega) (by omega)] at q3
        refine sp_X0_addOperation S q3 hj4 hm4 ⟨x1, x2⟩ hv hff hfl hj hm hd hx hA (fun ff' fl' fj' fm' fd' fn' fa' fh' ft' hs' ts' g1 g2 g3 g4 g5 g6 g7 g8 g9 g10 g11 => ?_)
        refine ⟨fun y f => ∃ k, y = nI k ∧ k ≤ n + 1 ∧ ∀ i, i < k → f i = nI 0, fun y _ => n + 1 - y.toNatClampNeg, ⟨0, rfl, by omega, fun _ h => absurd h (by omega)⟩, ?_⟩
        rintro _ Jd' ⟨k, rfl, hk, hz⟩
        refine ⟨fun q4 => ?_, fun q4 => ?_⟩
        · rw [nI_leI (by omega) (by omega)] at q4
          exact h1 j m x hok q3 Jd' ff' fl' fj' fm' fd' fn' fa' fh' ft' (fun i hi => hz i (by omega)) g1 g2 g3 g4 g5 g6 ⟨S.app q3 hj4 hm4 ⟨x1, x2⟩ hv, g7, hs', ts', g8, g9, g10, g11⟩
        · rw [nI_leI (by omega) (by omega)] at q4
          rw [nI_clamp (by omega)]
          refine ⟨pz_inc (by omega) (by omega), ⟨k + 1, nI_1 k, by omega, fun i hi => ?_⟩, pz_mu (by omega) (by omega)⟩
          by_cases e : i = k
          · subst e; rw [pk_us]; rfl
          · rw [pk_un e]; exact hz i (by omega)
      · rw [show (12 : Int32) = nI 12 from rfl, nI_ltI (by omega) (by omega)] at q3; omega
  · rintro ⟨j, m, x, k1, k2, k3, k4, k5, k6, k7, k8⟩
    rw [k7] at q2; exact q2 (rng50' k3 k4).2
  · rintro ⟨j, m, x, k1, k2, k3, k4, k5, k6, k7, k8⟩
    exact o2 ⟨m, k2, k6⟩
  · rintro ⟨j, m, x, k1, k2, k3, k4, k5, k6, k7, k8⟩
    exact o1 ⟨j, k1, k5⟩
theorem sp_X3_operation {n nj : Nat} {jb mc d : Nat → Nat} {ar : Nat → Nat → Bool} {a0 a1 a2 : Int32} {post : Int32 → Int32 → Int32 → (Nat → Int32) → (Nat → Int32) → (Nat → Int32) → (Nat → Int32) → Prop} (S : Shop n nj jb mc d ar) (hj : Tb n gj jb) (hm : Tb n gm mc) (hd : Tb n gd d)
    (hb : (¬ ∃ j m x, Ok n nj jb mc a0 a1 a2 j m x) → post (-2) (nI n) Mp gj gm gd gdr) (hf : (∃ j m x, Ok n nj jb mc a0 a1 a2 j m x) → n = 12 → post (-3) (nI n) Mp gj gm gd gdr)
    (h1 : ∀ j m x, Ok n nj jb mc a0 a1 a2 j m x → n < 12 → ∀ gdr' gj' gm' gd', (∀ i, i < n + 1 → gdr' i = nI 0) → Tb (n + 1) gj' (Ap n jb j) → Tb (n + 1) gm' (Ap n mc m) → Tb (n + 1) gd' (Ap n d x) → post (nI n) (nI (n + 1)) 0 gj' gm' gd' gdr') :
    wp_X3_operation (nI nj) (nI n) Mp gj gm gd gdr a0 a1 a2 post := by
  have hn := S.1
  have h4 := S.2.1
  unfold wp_X3_operation
  refine sp_X3_in (fun o1 => ⟨fun q => absurd q (by decide), fun _ => sp_X3_in (fun o2 => ⟨fun q => absurd q (by decide), fun _ => sp_X3_in (fun o3 => ⟨fun _ => ?_, fun q => absurd q (by decide)⟩) (fun o3 => ⟨fun q => absurd rfl q, fun _ => hb ?_⟩)⟩) (fun o2 => ⟨fun _ => hb ?_, fun q => absurd rfl q⟩)⟩) (fun o1 => ⟨fun _ => hb ?_, fun q => absurd rfl q⟩)
  · obtain ⟨j, hj4, rfl⟩ := (pz_pred (by omega)).mp o1
    obtain ⟨m, hm4, rfl⟩ := (pz_pred (n := 4) (by omega)).mp o2
    obtain ⟨x, x1, x2, rfl⟩ := rng50 o3.1 (by
      have := o3.2
      rw [Int32.lt_iff_toInt_lt] at this
      rw [Int32.le_iff_toInt_le]; omega)
    refine ⟨fun y => ∃ k, y = nI k ∧ k ≤ n ∧ ∀ i, i < k → ¬ (jb i = j ∧ mc i = m), fun y => n - y.toNatClampNeg, ⟨0, rfl, by omega, fun _ h => absurd h (by omega)⟩, ?_⟩
    rintro _ ⟨k, rfl, hk, hall⟩
    refine ⟨fun q => ?_, fun q => ?_⟩
    · rw [nI_leI (by omega) (by omega)] at q
      have hok : Ok n nj jb mc (nI j) (nI m) (nI x) j m x := ⟨hj4, hm4, x1, x2, rfl, rfl, rfl, fun ⟨i, hi, e⟩ => hall i (by omega) e⟩
      refine ⟨fun q2 => ?_, fun q2 => hf ⟨j, m, x, hok⟩ ?_⟩
      · have hn2 : n < 12 := by
          rcases Nat.lt_or_ge n 12 with h | h
          · exact h
          · have e : n = 12 := by omega
            subst e; exact absurd rfl q2
        have i1 : vp_in (nI n) 12 := pz_inc (by omega) (by omega)
        rw [nI_clamp (n := n) (by omega), nI_1, show nI (n + 1) - (1 : Int32) = nI n from pk_sub (b := 1) (by omega)]
        refine ⟨i1, i1, i1, fun y f => ∃ k, y = nI k ∧ k ≤ 12 ∧ ∀ i, i < k → f i = nI 0, fun y _ => 12 - y.toNatClampNeg, ⟨0, rfl, by omega, fun _ h => absurd h (by omega)⟩, ?_⟩
        rintro _ gdr' ⟨k2, rfl, hk2, hz⟩
        refine ⟨fun q3 => ?_, fun q3 => ?_⟩
        · rw [show (12 : Int32) = nI 12 from rfl, nI_leI (by omega) (by omega)] at q3
          unfold wp_X3_forget
          exact h1 j m x hok hn2 gdr' _ _ _ (fun i hi => hz i (by omega)) (hj.app j) (hm.app m) (hd.app x)
        · rw [show (12 : Int32) = nI 12 from rfl, nI_leI (by omega) (by omega)] at q3
          rw [nI_clamp (by omega)]
          refine ⟨pz_inc (by omega) (by omega), ⟨k2 + 1, nI_1 k2, by omega, fun i hi => ?_⟩, pz_mu (by omega) (by omega)⟩
          by_cases e : i = k2
          · subst e; rw [pk_us]; rfl
          · rw [pk_un e]; exact hz i (by omega)
      · rw [show (12 : Int32) = nI 12 from rfl, nI_eq (by omega) (by omega)] at q2; exact q2
    · rw [nI_leI (by omega) (by omega)] at q
      have hk2 : k < n := by omega
      have b1 := S.jbs k hk2
      have b2 := S.2.2.2.1 k hk2
      have i1 : vp_in (nI k) 12 := pz_inc (by omega) (by omega)
      have go : ¬ (jb k = j ∧ mc k = m) → (∃ k', nI k + 1 = nI k' ∧ k' ≤ n ∧ ∀ i, i < k' → ¬ (jb i = j ∧ mc i = m)) ∧ n - (nI k + 1).toNatClampNeg < n - (nI k).toNatClampNeg := fun h => ⟨⟨k + 1, nI_1 k, by omega, fun k' hk' => by
        by_cases e : k' = k
        · subst e; exact h
        · exact hall k' (by omega)⟩, pz_mu hk2 (by omega)⟩
      rw [hj.get hk2 (by omega), hm.get hk2 (by omega)]
      refine ⟨i1, fun q2 => go (fun e => q2 (by rw [e.1])), fun q2 => ⟨i1, fun q3 => go (fun e => q3 (by rw [e.2])), fun q3 => hb ?_⟩⟩
      rw [nI_eq (by omega) (by omega)] at q2 q3
      rintro ⟨j', m', x', k1, k2, k3, k4, k5, k6, k7, k8⟩
      rw [nI_eq (by omega) (by omega)] at k5 k6
      exact k8 ⟨k, hk2, by omega, by omega⟩
  · rintro ⟨j, m, x, k1, k2, k3, k4, k5, k6, k7, k8⟩
    have h := rng50' k3 k4
    rw [← k7] at h
    refine o3 ⟨h.1, fun q => ?_⟩
    have h2 := h.2
    rw [Int32.lt_iff_toInt_lt] at q
    rw [Int32.le_iff_toInt_le] at h2
    omega
  · rintro ⟨j, m, x, k1, k2, k3, k4, k5, k6, k7, k8⟩
    exact o2 ((pz_pred (n := 4) (by omega)).mpr ⟨m, k2, k6⟩)
  · rintro ⟨j, m, x, k1, k2, k3, k4, k5, k6, k7, k8⟩
    exact o1 ((pz_pred (by omega)).mpr ⟨j, k1, k5⟩)
theorem op_operation {a0 a1 a2 : Int32} {post : Int32 → Int32 → (Nat → Int32) → Int32 → (Nat → Int32) → (Nat → Int32) → (Nat → Int32) → (Nat → Int32) → (Nat → Int32) → (Nat → Int32) → (Nat → Int32) → (Nat → Int32) → (Nat → Int32) → Int32 → Int32 → Int32 → (Nat → Int32) → (Nat → Int32) → (Nat → Int32) → (Nat → Int32) → Prop} (h : Ia Jp Jd Sl Sf Sp Fj Fs ff fl fj fm fd fn fa fh ft Mj Mm Mp Ml Mo gj gm gd gb gdr gst)
    (hp : ∀ r jp Jd' Fs' ff' fl' fj' fm' fd' fn' fa' fh' ft' mm mp gj' gm' gd' gdr', Ia jp Jd' Sl Sf Sp Fj Fs' ff' fl' fj' fm' fd' fn' fa' fh' ft' Mj mm mp Ml Mo gj' gm' gd' gb gdr' gst → post r jp Jd' Fs' ff' fl' fj' fm' fd' fn' fa' fh' ft' r mm mp gj' gm' gd' gdr') :
    wp_X2_operation Jp Jd Fj Fs ff fl fj fm fd fn fa fh ft a0 a1 a2 (fun r jp Jd' Fs' ff' fl' fj' fm' fd' fn' fa' fh' ft' => wp_X3_operation Mj Mm Mp gj gm gd gdr a0 a1 a2 (fun r' mm mp gj' gm' gd' gdr' => post r jp Jd' Fs' ff' fl' fj' fm' fd' fn' fa' fh' ft' r' mm mp gj' gm' gd' gdr')) := by
  have h0 := h
  obtain ⟨n, nj, jb, mc, d, ar, dr, rfl, rfl, rfl, rfl, h⟩ := h
  have S := h.h_F.1
  refine sp_X2_operation h.h_F h.h_ff h.h_fl h.h_fj h.h_fm h.h_fd h.h_fn (fun k => sp_X3_operation S h.h_gj h.h_gm h.h_gd (fun _ => hp _ _ _ _ _ _ _ _ _ _ _ _ _ _ _ _ _ _ _ h0) (fun k2 => absurd k2 k) (fun j m x k2 => absurd ⟨j, m, x, k2⟩ k)) (fun k e => sp_X3_operation S h.h_gj h.h_gm h.h_gd (fun k2 => absurd k k2) (fun _ _ => hp _ _ _ _ _ _ _ _ _ _ _ _ _ _ _ _ _ _ _ h0) (fun _ _ _ _ q => absurd e (by omega))) (fun j m x k hn Jd' ff' fl' fj' fm' fd' fn' fa' fh' ft' g1 g2 g3 g4 g5 g6 g7 g8 => sp_X3_operation S h.h_gj h.h_gm h.h_gd (fun k2 => absurd ⟨j, m, x, k⟩ k2) (fun _ e => absurd e (by omega)) (fun j' m' x' k' _ gdr' gj' gm' gd' l1 l2 l3 l4 => hp _ _ _ _ _ _ _ _ _ _ _ _ _ _ _ _ _ _ _ ⟨n + 1, nj, Ap n jb j, Ap n mc m, Ap n d x, ar, fun _ => 0, rfl, rfl, rfl, rfl, ?_⟩))
  have hS := g8.1
  have h4 := S.2.1
  have hx : j = j' ∧ m = m' ∧ x = x' := by
    obtain ⟨k1, k2, k3, k4, k5, k6, k7, k8⟩ := k
    obtain ⟨c1, c2, c3, c4, c5, c6, c7, c8⟩ := k'
    rw [c5, nI_eq (by omega) (by omega)] at k5
    rw [c6, nI_eq (by omega) (by omega)] at k6
    rw [c7, nI_eq (by omega) (by omega)] at k7
    exact ⟨k5.symm, k6.symm, k7.symm⟩
  obtain ⟨rfl, rfl, rfl⟩ := hx
  exact ⟨g8, g2, g3, g4, g5, g6, g7, g1, fun _ _ => Nat.zero_le _, l2, l3, l4, h.h_gb, l1, Or.inl ⟨rfl, rfl⟩⟩
end ops
