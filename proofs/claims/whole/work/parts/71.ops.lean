section ops
variable {Jp : Int32} {Jd : Nat → Int32} {Sl Sf : Int32} {Sp : Nat → Int32} {Fj Fs : Int32} {ff fl fj fm fd fn fa fh ft : Nat → Int32} {Mj Mm Mp Ml Mo : Int32} {gj gm gd gb gdr gst : Nat → Int32}
theorem Pr.not {n a b : Nat} {mc : Nat → Nat} (hn : n ≤ 12) (ha : a < n) (hb : b < n) (h1 : a ≠ b) (h2 : mc a = mc b) {P : Prop} (h : ¬ Pr n mc (nI a) (nI b)) : P := absurd ⟨a, b, ha, hb, rfl, rfl, h1, h2⟩ h
theorem op_arc {a0 a1 : Int32} {post : Int32 → Int32 → Prop} (h : Ia Jp Jd Sl Sf Sp Fj Fs ff fl fj fm fd fn fa fh ft Mj Mm Mp Ml Mo gj gm gd gb gdr gst)
    (hp : ∀ r, post r r) : wp_X2_arc Fs fm fa a0 a1 (fun r => wp_X3_arc Mm gm gb a0 a1 (fun r' => post r r')) := by
  obtain ⟨n, nj, jb, mc, d, ar, dr, rfl, rfl, rfl, rfl, h⟩ := h
  have S := h.h_F.1
  have hn := S.1
  have hmb := S.2.2.2.1
  unfold wp_X2_arc wp_X3_arc
  refine sp_X0_isPair hn h.h_fm hmb (fun hP => ⟨fun _ => ?_, fun q => absurd q (by decide)⟩) (fun hP => ⟨fun q => absurd rfl q, fun _ => sp_X3_isPair hn h.h_gm hmb (fun hP2 => absurd hP2 hP) (fun _ => ⟨fun q => absurd rfl q, fun _ => hp _⟩)⟩)
  obtain ⟨a, b, ha, hb, rfl, rfl, hne, hmc⟩ := hP
  have v := h.h_gb a b (by omega) (by omega)
  have i1 : vp_in (nI (12 * a + b)) 144 := pz_inc (by omega) (by omega)
  refine sp_X0_hasArc hn h.h_F.2.1 ha (by omega) (fun e => ⟨fun q => absurd q (by decide), fun _ => sp_X3_isPair hn h.h_gm hmb (fun _ => ⟨fun _ => ?_, fun q => absurd q (by decide)⟩) (Pr.not hn ha hb hne hmc)⟩) (fun e => ⟨fun _ => sp_X3_isPair hn h.h_gm hmb (fun _ => ⟨fun _ => ?_, fun q => absurd q (by decide)⟩) (Pr.not hn ha hb hne hmc), fun q => absurd rfl q⟩)
  · rw [pz_ix, nI_clamp (by omega), v, e]
    exact ⟨i1, fun q => absurd q (by decide), fun _ => hp _⟩
  · rw [pz_ix, nI_clamp (by omega), v, e]
    exact ⟨i1, fun _ => hp _, fun q => absurd rfl q⟩
theorem op_before {a0 a1 : Int32} {post : Int32 → Int32 → (Nat → Int32) → (Nat → Int32) → (Nat → Int32) → Int32 → Int32 → (Nat → Int32) → Prop} (h : Ia Jp Jd Sl Sf Sp Fj Fs ff fl fj fm fd fn fa fh ft Mj Mm Mp Ml Mo gj gm gd gb gdr gst)
    (hp : ∀ r jp fa' fh' ft' mp gb', Ia jp Jd Sl Sf Sp Fj Fs ff fl fj fm fd fn fa' fh' ft' Mj Mm mp Ml Mo gj gm gd gb' gdr gst → post r jp fa' fh' ft' r mp gb') :
    wp_X2_before Jp Fs fm fd fn fa fh ft a0 a1 (fun r jp fa' fh' ft' => wp_X3_before Mm Mp gj gm gb a0 a1 (fun r' mp gb' => post r jp fa' fh' ft' r' mp gb')) := by
  have h0 := h
  obtain ⟨n, nj, jb, mc, d, ar, dr, rfl, rfl, rfl, rfl, h⟩ := h
  have S := h.h_F.1
  have hn := S.1
  have hmb := S.2.2.2.1
  unfold wp_X2_before wp_X3_before
  refine sp_X0_isPair hn h.h_fm hmb (fun hP => ⟨fun _ => ?_, fun q => absurd q (by decide)⟩) (fun hP => ⟨fun q => absurd rfl q, fun _ => sp_X3_isPair hn h.h_gm hmb (fun hP2 => absurd hP2 hP) (fun _ => ⟨fun q => absurd rfl q, fun _ => hp _ _ _ _ _ _ _ h0⟩)⟩)
  obtain ⟨a, b, ha, hb, rfl, rfl, hne, hmc⟩ := hP
  have v := h.h_gb a b (by omega) (by omega)
  have i1 : vp_in (nI (12 * a + b)) 144 := pz_inc (by omega) (by omega)
  rw [pz_ix, nI_clamp (n := 12 * a + b) (by omega), v]
  refine sp_X0_leads hn h.h_fn h.h_F.2.1 (fun i k _ he => (S.ed he).2.1) hb ha (fun hR => ⟨fun q => absurd q (by decide), fun _ => ?_⟩) (fun hR => ⟨fun _ => ?_, fun q => absurd rfl q⟩)
  · exact sp_X3_isPair hn h.h_gm hmb (fun _ => ⟨fun _ => sp_X3_hasPath hn h.h_gj S.jbs h.h_gb hb ha (Ne.symm hne) (fun _ => ⟨fun q => absurd q (by decide), fun _ => hp _ _ _ _ _ _ _ h0⟩) (fun hR2 => absurd hR hR2), fun q => absurd q (by decide)⟩) (Pr.not hn ha hb hne hmc)
  · refine sp_X0_hasArc hn h.h_F.2.1 ha (by omega) (fun e => ⟨fun q => absurd q (by decide), fun _ => ?_⟩) (fun e => ⟨fun _ => ?_, fun q => absurd rfl q⟩)
    · refine sp_X3_isPair hn h.h_gm hmb (fun _ => ⟨fun _ => sp_X3_hasPath hn h.h_gj S.jbs h.h_gb hb ha (Ne.symm hne) (fun hR2 => absurd hR2 hR) (fun _ => ⟨fun _ => ⟨i1, fun q => ?_, fun _ => hp _ _ _ _ _ _ _ h0⟩, fun q => absurd rfl q⟩), fun q => absurd q (by decide)⟩) (Pr.not hn ha hb hne hmc)
      rw [e] at q; exact absurd q (by decide)
    · have S2 := S.up ha hb hne hmc hR
      refine sp_X0_putArc S2 h.h_fn h.h_F.2.1 h.h_fd ha hb (fun fa' fh' ft' hs ts k1 k2 k3 k4 k5 => ?_)
      refine sp_X3_isPair hn h.h_gm hmb (fun _ => ⟨fun _ => sp_X3_hasPath hn h.h_gj S.jbs h.h_gb hb ha (Ne.symm hne) (fun hR2 => absurd hR2 hR) (fun _ => ⟨fun _ => ⟨i1, fun _ => ⟨i1, ?_⟩, fun q => ?_⟩, fun q => absurd rfl q⟩), fun q => absurd q (by decide)⟩) (Pr.not hn ha hb hne hmc)
      · unfold wp_X3_forget
        exact hp _ _ _ _ _ _ _ ⟨n, nj, jb, mc, d, Up ar a b, dr, rfl, rfl, rfl, rfl, ⟨S2, k1, hs, ts, k2, k3, k4, k5⟩, h.h_ff, h.h_fl, h.h_fj, h.h_fm, h.h_fd, h.h_fn, h.h_jd, h.h_db, h.h_gj, h.h_gm, h.h_gd, h.h_gb.put (by omega) (by omega), h.h_gdr, Or.inl ⟨rfl, rfl⟩⟩
      · rw [e] at q; exact absurd rfl q
theorem MT.drop {ar : Nat → Nat → Bool} {f : Nat → Int32} (h : MT ar f) {a b : Nat} (ha : a < 12) (hb : b < 12) : MT (Dn ar a b) (upd (upd f (12 * a + b) (vp_nar .boolean 0)) (12 * b + a) (vp_nar .boolean 0)) := by
  intro i k hi hk
  rw [vn0]
  unfold Dn
  by_cases e2 : 12 * i + k = 12 * b + a
  · have e3 : i = b := by omega
    have e4 : k = a := by omega
    subst e3; subst e4
    rw [pk_us]; simp
  · rw [pk_un e2]
    have n2 : ¬ (i = b ∧ k = a) := fun q => e2 (by rw [q.1, q.2])
    by_cases e : 12 * i + k = 12 * a + b
    · have e3 : i = a := by omega
      have e4 : k = b := by omega
      subst e3; subst e4
      rw [pk_us]; simp
    · rw [pk_un e, h i k hi hk]
      have n1 : ¬ (i = a ∧ k = b) := fun q => e (by rw [q.1, q.2])
      have f1 : (decide (i = a) && decide (k = b)) = false := by
        rw [Bool.and_eq_false_iff, decide_eq_false_iff_not, decide_eq_false_iff_not]
        by_cases q : i = a
        · exact Or.inr (fun q2 => n1 ⟨q, q2⟩)
        · exact Or.inl q
      have f2 : (decide (i = b) && decide (k = a)) = false := by
        rw [Bool.and_eq_false_iff, decide_eq_false_iff_not, decide_eq_false_iff_not]
        by_cases q : i = b
        · exact Or.inr (fun q2 => n2 ⟨q, q2⟩)
        · exact Or.inl q
      rw [f1, f2]; simp
theorem op_free {a0 a1 : Int32} {post : Int32 → Int32 → (Nat → Int32) → (Nat → Int32) → (Nat → Int32) → Int32 → Int32 → (Nat → Int32) → Prop} (h : Ia Jp Jd Sl Sf Sp Fj Fs ff fl fj fm fd fn fa fh ft Mj Mm Mp Ml Mo gj gm gd gb gdr gst)
    (hp : ∀ r jp fa' fh' ft' mp gb', Ia jp Jd Sl Sf Sp Fj Fs ff fl fj fm fd fn fa' fh' ft' Mj Mm mp Ml Mo gj gm gd gb' gdr gst → post r jp fa' fh' ft' r mp gb') :
    wp_X2_free Jp Fs fm fd fn fa fh ft a0 a1 (fun r jp fa' fh' ft' => wp_X3_free Mm Mp gm gb a0 a1 (fun r' mp gb' => post r jp fa' fh' ft' r' mp gb')) := by
  have h0 := h
  obtain ⟨n, nj, jb, mc, d, ar, dr, rfl, rfl, rfl, rfl, h⟩ := h
  have S := h.h_F.1
  have hn := S.1
  have hmb := S.2.2.2.1
  unfold wp_X2_free wp_X3_free
  refine sp_X0_isPair hn h.h_fm hmb (fun hP => ⟨fun _ => ?_, fun q => absurd q (by decide)⟩) (fun hP => ⟨fun q => absurd rfl q, fun _ => sp_X3_isPair hn h.h_gm hmb (fun hP2 => absurd hP2 hP) (fun _ => ⟨fun q => absurd rfl q, fun _ => hp _ _ _ _ _ _ _ h0⟩)⟩)
  obtain ⟨a, b, ha, hb, rfl, rfl, hne, hmc⟩ := hP
  have v := h.h_gb a b (by omega) (by omega)
  have v2 := h.h_gb b a (by omega) (by omega)
  have i1 : vp_in (nI (12 * a + b)) 144 := pz_inc (by omega) (by omega)
  have i2 : vp_in (nI (12 * b + a)) 144 := pz_inc (by omega) (by omega)
  rw [pz_ix, pz_ix, nI_clamp (n := 12 * a + b) (by omega), nI_clamp (n := 12 * b + a) (by omega), v, v2]
  refine sp_X0_isTied hn h.h_F.2.1 ha hb (fun e => ⟨fun _ => ?_, fun q => absurd q (by decide)⟩) (fun e1 e2 => ⟨fun q => absurd rfl q, fun _ => sp_X3_isPair hn h.h_gm hmb (fun _ => ⟨fun _ => ⟨i1, False, fun f => f.elim, fun q => ?_, fun _ => ⟨i2, fun q => ?_, fun _ => hp _ _ _ _ _ _ _ h0⟩⟩, fun q => absurd q (by decide)⟩) (Pr.not hn ha hb hne hmc)⟩)
  · have S2 : Shop n nj jb mc d (Dn ar a b) := S.sub (fun i k q => by
      unfold Dn at q
      rw [Bool.and_eq_true] at q; exact q.1)
    refine sp_X0_dropArcs S2 h.h_fn h.h_F.2.1 h.h_fd ha hb (fun fa' fh' ft' hs ts k1 k2 k3 k4 k5 => ?_)
    refine sp_X3_isPair hn h.h_gm hmb (fun _ => ⟨fun _ => ⟨i1, True, fun _ => ⟨i1, i2, ?_⟩, fun _ => trivial, fun q => ⟨i2, fun _ => trivial, fun q2 => ?_⟩⟩, fun q => absurd q (by decide)⟩) (Pr.not hn ha hb hne hmc)
    · unfold wp_X3_forget
      exact hp _ _ _ _ _ _ _ ⟨n, nj, jb, mc, d, Dn ar a b, dr, rfl, rfl, rfl, rfl, ⟨S2, k1, hs, ts, k2, k3, k4, k5⟩, h.h_ff, h.h_fl, h.h_fj, h.h_fm, h.h_fd, h.h_fn, h.h_jd, h.h_db, h.h_gj, h.h_gm, h.h_gd, h.h_gb.drop (by omega) (by omega), h.h_gdr, Or.inl ⟨rfl, rfl⟩⟩
    · rcases e with e | e
      · rw [e] at q; exact absurd q (by decide)
      · rw [e] at q2; exact absurd q2 (by decide)
  · rw [e1] at q; exact absurd rfl q
  · rw [e2] at q; exact absurd rfl q
def TV (a1 r0 r1 r2 r3 r4 r5 r6 : Int32) : Int32 := if a1 = 0 then r0 else if a1 = 1 then r1 else if a1 = 2 then r2 else if a1 = 3 then r3 else if a1 = 4 then r4 else if a1 = 5 then r5 else if a1 = 6 then r6 else (-2)
theorem TV_out {a1 r0 r1 r2 r3 r4 r5 r6 : Int32} (h : a1.toInt < 0 ∨ 6 < a1.toInt) : TV a1 r0 r1 r2 r3 r4 r5 r6 = (-2) := by
  have ne : ∀ k : Int32, 0 ≤ k.toInt → k.toInt ≤ 6 → ¬ a1 = k := fun k h1 h2 e => by rw [e] at h; omega
  unfold TV
  rw [if_neg (ne 0 (by decide) (by decide)), if_neg (ne 1 (by decide) (by decide)), if_neg (ne 2 (by decide) (by decide)), if_neg (ne 3 (by decide) (by decide)), if_neg (ne 4 (by decide) (by decide)), if_neg (ne 5 (by decide) (by decide)), if_neg (ne 6 (by decide) (by decide))]
theorem nI_ite {p q : Nat} (hp : p < 2 ^ 31) (hq : q < 2 ^ 31) {post : Int32 → Prop} (h : post (if p = q then 1 else 0)) : (¬ nI p = nI q → post 0) ∧ (nI p = nI q → post 1) := by
  rw [nI_eq hp hq]
  by_cases e : p = q
  · rw [if_pos e] at h
    exact ⟨fun q => absurd e q, fun _ => h⟩
  · rw [if_neg e] at h
    exact ⟨fun _ => h, fun q => absurd q e⟩
theorem op_told {a0 a1 : Int32} {post : Int32 → Int32 → (Nat → Int32) → (Nat → Int32) → Prop} (h : Ia Jp Jd Sl Sf Sp Fj Fs ff fl fj fm fd fn fa fh ft Mj Mm Mp Ml Mo gj gm gd gb gdr gst) {gh gt : Nat → Int32}
    (hp : ∀ r gh' gt', post r r gh' gt') : wp_X2_told Jp Sp Fs fj fm fd fh ft a0 a1 (fun r => wp_X3_told Mm Mp gj gm gd gb gst gh gt a0 a1 (fun r' gh' gt' => post r r' gh' gt')) := by
  obtain ⟨n, nj, jb, mc, d, ar, dr, rfl, rfl, rfl, rfl, h⟩ := h
  obtain ⟨S, hA, hs, ts, hh, ht, t1, t2⟩ := h.h_F
  have hn := S.1
  have bd : ∀ i, i < n → hs i + d i + ts i ≤ 10000 := fun i hi => by
    have := S.bd hh ht hi; omega
  have hl : mx (fun i => hs i + d i + ts i) n ≤ 10000 := mx_le n bd
  unfold wp_X2_told
  refine sp_X0_isOperation hn (fun ho => ⟨fun _ => ?_, fun q => absurd q (by decide)⟩) (fun ho => ⟨fun q => absurd rfl q, fun _ => ?_⟩)
  · obtain ⟨i, hi, rfl⟩ := ho
    have hbi := bd i hi
    have i1 : vp_in (nI i) 12 := pz_inc (by omega) (by omega)
    have M : ∀ r, r = TV a1 (nI (jb i)) (nI (mc i)) (nI (d i)) (nI (hs i)) (nI (ts i)) (if hs i + d i + ts i = mx (fun i => hs i + d i + ts i) n then 1 else 0) (if Mp = 0 then (-1) else gst i) → wp_X3_told (nI n) Mp gj gm gd gb gst gh gt (nI i) a1 (fun r' gh' gt' => post r r' gh' gt') := by
      intro r er
      unfold wp_X3_told
      refine sp_X3_isOperation hn (fun _ => ⟨fun _ => sp_X3_look S h.h_gj h.h_gd h.h_gb hh ht (fun gh' gt' u1 u2 => ?_), fun q => absurd q (by decide)⟩) (fun q => absurd ⟨i, hi, rfl⟩ q)
      rw [h.h_gj.get hi (by omega), h.h_gm.get hi (by omega), h.h_gd.get hi (by omega), u1.get hi (by omega), u2.get hi (by omega), nI_add, nI_add, nI_clamp (n := i) (by omega)]
      refine ⟨fun q => ⟨i1, ?_⟩, fun q => ⟨i1, ?_⟩, fun q => ⟨i1, ?_⟩, fun q => ⟨i1, ?_⟩, fun q => ⟨i1, ?_⟩, fun q => ⟨i1, i1, i1, sp_X3_longest hn h.h_gd u1 u2 bd (nI_ite (post := fun x => post r x gh' gt') (by omega) (by omega) ?_)⟩, fun q => ⟨fun q2 => ?_, fun q2 => ⟨i1, ?_⟩⟩, fun q => ?_⟩
      · subst q; rw [er]; exact hp _ _ _
      · subst q; rw [er]; exact hp _ _ _
      · subst q; rw [er]; exact hp _ _ _
      · subst q; rw [er]; exact hp _ _ _
      · subst q; rw [er]; exact hp _ _ _
      · subst q; rw [er]; exact hp _ _ _
      · subst q; rw [er]; show post (if Mp = 0 then (-1) else gst i) _ _ _; rw [if_pos q2]; exact hp _ _ _
      · subst q; rw [er]; show post (if Mp = 0 then (-1) else gst i) _ _ _; rw [if_neg q2]; exact hp _ _ _
      · rw [er, TV_out q]; exact hp _ _ _
    rw [h.h_fj.get hi (by omega), h.h_fm.get hi (by omega), h.h_fd.get hi (by omega), t1.get hi (by omega), t2.get hi (by omega), nI_clamp (n := i) (by omega)]
    refine ⟨fun q => ⟨i1, M _ ?_⟩, fun q => ⟨i1, M _ ?_⟩, fun q => ⟨i1, M _ ?_⟩, fun q => ⟨i1, M _ ?_⟩, fun q => ⟨i1, M _ ?_⟩, fun q => sp_X0_through hn h.h_fd t1 t2 hi (sp_X0_longest hn h.h_fd t1 t2 bd (nI_ite (post := fun x => wp_X3_told (nI n) Mp gj gm gd gb gst gh gt (nI i) a1 (fun r' gh' gt' => post x r' gh' gt')) (by omega) (by omega) (M _ ?_))), fun q => ⟨fun q2 => M _ ?_, fun q2 => ⟨i1, M _ ?_⟩⟩, fun q => M _ ?_⟩
    · subst q; rfl
    · subst q; rfl
    · subst q; rfl
    · subst q; rfl
    · subst q; rfl
    · subst q; rfl
    · subst q; show _ = (if Mp = 0 then (-1) else gst i)
      rcases h.h_pl with ⟨e1, e2⟩ | ⟨e1, e2, -⟩
      · rw [if_pos e2]
      · rw [e1] at q2; exact absurd q2 (by decide)
    · subst q; show _ = (if Mp = 0 then (-1) else gst i)
      rcases h.h_pl with ⟨e1, e2⟩ | ⟨e1, e2, l, c, p, -, -, -, -, v1, v2, -⟩
      · exact absurd e1 q2
      · rw [if_neg (by rw [e2]; decide), v1 i hi, v2 i hi]
    · exact (TV_out q).symm
  · unfold wp_X3_told
    exact sp_X3_isOperation hn (fun q => absurd q ho) (fun _ => ⟨fun q => absurd rfl q, fun _ => hp _ _ _⟩)
theorem op_length {post : Int32 → Int32 → (Nat → Int32) → (Nat → Int32) → Prop} (h : Ia Jp Jd Sl Sf Sp Fj Fs ff fl fj fm fd fn fa fh ft Mj Mm Mp Ml Mo gj gm gd gb gdr gst) {gh gt : Nat → Int32}
    (hp : ∀ r gh' gt', post r r gh' gt') : wp_X2_length Fs fd fh ft (fun r => wp_X3_length Mm gj gd gb gh gt (fun r' gh' gt' => post r r' gh' gt')) := by
  obtain ⟨n, nj, jb, mc, d, ar, dr, rfl, rfl, rfl, rfl, h⟩ := h
  obtain ⟨S, hA, hs, ts, hh, ht, t1, t2⟩ := h.h_F
  have hn := S.1
  have bd : ∀ i, i < n → hs i + d i + ts i ≤ 10000 := fun i hi => by
    have := S.bd hh ht hi; omega
  unfold wp_X2_length wp_X3_length
  exact sp_X0_longest hn h.h_fd t1 t2 bd (sp_X3_look S h.h_gj h.h_gd h.h_gb hh ht (fun gh' gt' u1 u2 => sp_X3_longest hn h.h_gd u1 u2 bd (hp _ _ _)))
theorem op_load {a0 : Int32} {post : Int32 → Int32 → (Nat → Int32) → (Nat → Int32) → Prop} (h : Ia Jp Jd Sl Sf Sp Fj Fs ff fl fj fm fd fn fa fh ft Mj Mm Mp Ml Mo gj gm gd gb gdr gst) {gh gt : Nat → Int32}
    (hp : ∀ r gh' gt', post r r gh' gt') : wp_X2_load Fs fm fd fh ft a0 (fun r => wp_X3_load Mm gj gm gd gb gh gt a0 (fun r' gh' gt' => post r r' gh' gt')) := by
  obtain ⟨n, nj, jb, mc, d, ar, dr, rfl, rfl, rfl, rfl, h⟩ := h
  obtain ⟨S, hA, hs, ts, hh, ht, t1, t2⟩ := h.h_F
  have hn := S.1
  have bd : ∀ i, i < n → hs i ≤ 1000 ∧ ts i ≤ 1000 := fun i hi => by
    have := S.bd hh ht hi; omega
  unfold wp_X2_load
  refine sp_X2_isMachine (fun ho => ⟨fun q => absurd q (by decide), fun _ => ?_⟩) (fun ho => ⟨fun _ => ?_, fun q => absurd rfl q⟩)
  · obtain ⟨m, hm, rfl⟩ := ho
    refine sp_X0_burden hn h.h_fm S.2.2.2.1 h.h_fd S.2.2.2.2.1 t1 t2 bd hm (fun v _ hv => sp_X3_load S h.h_gj h.h_gm h.h_gd h.h_gb hh ht hm (fun v' gh' gt' _ hv' _ _ => ?_))
    rw [hv.uniq hv']
    exact hp _ _ _
  · unfold wp_X3_load
    exact sp_X3_in (fun q => absurd ((pz_pred (n := 4) (by omega)).mp q) ho) (fun _ => ⟨fun q => absurd rfl q, fun _ => hp _ _ _⟩)
theorem op_select {a0 : Int32} {post : Int32 → Int32 → (Nat → Int32) → (Nat → Int32) → (Nat → Int32) → (Nat → Int32) → Int32 → Int32 → (Nat → Int32) → (Nat → Int32) → (Nat → Int32) → (Nat → Int32) → Prop} (h : Ia Jp Jd Sl Sf Sp Fj Fs ff fl fj fm fd fn fa fh ft Mj Mm Mp Ml Mo gj gm gd gb gdr gst) {fk gh gt gc : Nat → Int32}
    (hp : ∀ r jp fa' fh' ft' fk' mp gb' gh' gt' gc', Ia jp Jd Sl Sf Sp Fj Fs ff fl fj fm fd fn fa' fh' ft' Mj Mm mp Ml Mo gj gm gd gb' gdr gst → post r jp fa' fh' ft' fk' r mp gb' gh' gt' gc') :
    wp_X2_select Jp Fs fm fd fn fa fh ft fk a0 (fun r jp fa' fh' ft' fk' => wp_X3_select Mm Mp gj gm gd gb gh gt gc a0 (fun r' mp gb' gh' gt' gc' => post r jp fa' fh' ft' fk' r' mp gb' gh' gt' gc')) := by
  obtain ⟨n, nj, jb, mc, d, ar, dr, rfl, rfl, rfl, rfl, h⟩ := h
  have S := h.h_F.1
  have hn := S.1
  unfold wp_X2_select
  have M : ∀ F, GS n nj jb mc d a0 ar F → (∀ G, GS n nj jb mc d a0 ar G → ∀ i k, F i k = true → G i k = true) → ∀ {post2 : Int32 → Int32 → (Nat → Int32) → (Nat → Int32) → (Nat → Int32) → (Nat → Int32) → Prop}, (∀ gb' gh' gt' gc', MT F gb' → post2 (nI (nar F n - nar ar n)) (if nar F n - nar ar n = 0 then Mp else 0) gb' gh' gt' gc') → wp_X3_select (nI n) Mp gj gm gd gb gh gt gc a0 post2 := by
    intro F hF hmin post2 hq
    refine sp_X3_select S h.h_gj h.h_gm h.h_gd h.h_gb (fun F' gb' gh' gt' gc' hF' hmin' hM => ?_) (fun gh' gt' gc' hno => absurd ⟨F, hF⟩ hno)
    have e : F' = F := by
      funext i; funext k
      exact bool_ext ⟨hmin' F hF i k, hmin F' hF' i k⟩
    subst e
    exact hq gb' gh' gt' gc' hM
  refine sp_X0_force h.h_fm h.h_fd h.h_fn h.h_F (fun F fa' fh' ft' fk' hF hG hmin => ?_) (fun fa' fh' ft' fk' hF hno => ⟨fun _ => ?_, fun q => absurd (by decide) q⟩)
  · have b1 := nar_bd F hn
    refine ⟨fun q => M F hG hmin (fun gb' gh' gt' gc' hM => hp _ _ _ _ _ _ _ _ _ _ _ ?_), fun q => M F hG hmin (fun gb' gh' gt' gc' hM => hp _ _ _ _ _ _ _ _ _ _ _ ?_)⟩
    · rw [pz_0, nI_leI (by omega) (by omega)] at q
      have q0 : nar F n - nar ar n = 0 := by omega
      rw [if_pos q0]
      have m1 := nar_mono (n := n) hG.1
      have e := nar_same hF.1 hG.1 (by omega)
      subst e
      exact ⟨n, nj, jb, mc, d, F, dr, rfl, rfl, rfl, rfl, hF, h.h_ff, h.h_fl, h.h_fj, h.h_fm, h.h_fd, h.h_fn, h.h_jd, h.h_db, h.h_gj, h.h_gm, h.h_gd, hM, h.h_gdr, h.h_pl⟩
    · rw [pz_0, nI_leI (by omega) (by omega)] at q
      rw [if_neg (by omega)]
      exact ⟨n, nj, jb, mc, d, F, dr, rfl, rfl, rfl, rfl, hF, h.h_ff, h.h_fl, h.h_fj, h.h_fm, h.h_fd, h.h_fn, h.h_jd, h.h_db, h.h_gj, h.h_gm, h.h_gd, hM, h.h_gdr, Or.inl ⟨rfl, rfl⟩⟩
  · refine sp_X3_select S h.h_gj h.h_gm h.h_gd h.h_gb (fun F' gb' gh' gt' gc' hF' hmin' hM => absurd ⟨F', hF'⟩ hno) (fun gh' gt' gc' _ => hp _ _ _ _ _ _ _ _ _ _ _ ⟨n, nj, jb, mc, d, ar, dr, rfl, rfl, rfl, rfl, hF, h.h_ff, h.h_fl, h.h_fj, h.h_fm, h.h_fd, h.h_fn, h.h_jd, h.h_db, h.h_gj, h.h_gm, h.h_gd, h.h_gb, h.h_gdr, h.h_pl⟩)
theorem op_solve {post : Int32 → Int32 → Int32 → Int32 → Int32 → (Nat → Int32) → (Nat → Int32) → (Nat → Int32) → (Nat → Int32) → (Nat → Int32) → (Nat → Int32) → (Nat → Int32) → (Nat → Int32) → Int32 → Int32 → Int32 → Int32 → (Nat → Int32) → (Nat → Int32) → (Nat → Int32) → (Nat → Int32) → (Nat → Int32) → Prop} (h : Ia Jp Jd Sl Sf Sp Fj Fs ff fl fj fm fd fn fa fh ft Mj Mm Mp Ml Mo gj gm gd gb gdr gst) {xpl : Int32} {s1 s2 s3 s4 s5 s6 s7 gh gc go gs : Nat → Int32}
    (hp : ∀ r jp sl sf xpl' sp s1' s2' s3' s4' s5' s6' s7' mp ml mo gst' gh' gc' go' gs', Ia jp Jd sl sf sp Fj Fs ff fl fj fm fd fn fa fh ft Mj Mm mp ml mo gj gm gd gb gdr gst' → post r jp sl sf xpl' sp s1' s2' s3' s4' s5' s6' s7' r mp ml mo gst' gh' gc' go' gs') :
    wp_X2_solve Jp Sl Sf xpl Sp s1 s2 s3 s4 s5 s6 s7 Fj Fs ff fj fm fd fn fa fh ft (fun r jp sl sf xpl' sp s1' s2' s3' s4' s5' s6' s7' => wp_X3_solve Mm Mp Ml Mo gj gm gd gb gst gh gc go gs (fun r' mp ml mo gst' gh' gc' go' gs' => post r jp sl sf xpl' sp s1' s2' s3' s4' s5' s6' s7' r' mp ml mo gst' gh' gc' go' gs')) := by
  obtain ⟨n, nj, jb, mc, d, ar, dr, rfl, rfl, rfl, rfl, h⟩ := h
  obtain ⟨S, hA, hs, ts, hh, ht, t1, t2⟩ := h.h_F
  have mk : ∀ jp sl sf sp mp ml mo gst', ((jp = 0 ∧ mp = 0) ∨ (jp = 1 ∧ mp = 1 ∧ ∃ l c p, sl = nI l ∧ ml = nI l ∧ sf = nI c ∧ mo = nI c ∧ Tb n sp p ∧ Tb n gst' p ∧ l ≤ 600 ∧ Rs n d (LA n jb mc d ar) l c p)) → Ia jp Jd sl sf sp (nI nj) (nI n) ff fl fj fm fd fn fa fh ft (nI nj) (nI n) mp ml mo gj gm gd gb gdr gst' := fun jp sl sf sp mp ml mo gst' q => ⟨n, nj, jb, mc, d, ar, dr, rfl, rfl, rfl, rfl, h.h_F, h.h_ff, h.h_fl, h.h_fj, h.h_fm, h.h_fd, h.h_fn, h.h_jd, h.h_db, h.h_gj, h.h_gm, h.h_gd, h.h_gb, h.h_gdr, q⟩
  unfold wp_X2_solve
  rcases h.h_pl with ⟨e1, e2⟩ | ⟨e1, e2, l, c, p, f1, f2, f3, f4, f5, f6, f7, f8⟩
  · refine ⟨fun q => absurd e1 q, fun _ => ?_⟩
    refine sp_X1_run (hs := hs) (ts := ts) ⟨S, h.h_fj, h.h_fm, h.h_fd, h.h_fn, hA, hh, ht, t1, t2⟩ h.h_ff (fun l c p x fpl' g1 g2 g3 g4 g5 g6 g7 hac hl htb => ?_)
    refine sp_X3_solve S h.h_gj h.h_gm h.h_gd h.h_gb (fun l' c' p' fst' fh' fch' fo' fs' hl' ht' hR' => ?_)
    have hSm := lv_LA S
    rcases hac with ⟨e, -⟩ | hR
    · obtain ⟨s, hs1⟩ := Gd.ex S
      have h1 := hSm s
      rw [LA.one S hs1, e] at h1
      cases h1
    · obtain ⟨u1, u2, u3⟩ := Rs.uniq hSm hR hR'
      subst u1; subst u2
      have hc := hR.pos
      have htb2 := htb.resolve_left (by omega)
      exact hp _ _ _ _ _ _ _ _ _ _ _ _ _ _ _ _ _ _ _ _ _ (mk _ _ _ _ _ _ _ _ (Or.inr ⟨rfl, rfl, l, c, p', rfl, rfl, rfl, rfl, htb2.congr u3, ht', hl, hR'⟩))
  · refine ⟨fun _ => ?_, fun q => absurd q (by rw [e1]; decide)⟩
    refine sp_X3_solve S h.h_gj h.h_gm h.h_gd h.h_gb (fun l' c' p' fst' fh' fch' fo' fs' hl' ht' hR' => ?_)
    obtain ⟨u1, u2, u3⟩ := Rs.uniq (fun _ => rfl) f8 hR'
    subst u1; subst u2
    rw [← f1]
    refine hp _ _ _ _ _ _ _ _ _ _ _ _ _ _ _ _ _ _ _ _ _ (mk _ _ _ _ _ _ _ _ (Or.inr ⟨e1, rfl, l, c, p', f1, f1, f3, rfl, f5.congr u3, ht', f7, hR'⟩))
theorem op_optima {post : Int32 → Int32 → Prop} (h : Ia Jp Jd Sl Sf Sp Fj Fs ff fl fj fm fd fn fa fh ft Mj Mm Mp Ml Mo gj gm gd gb gdr gst)
    (hp : ∀ r, post r r) : wp_X2_optima Jp Sf (fun r => wp_X3_optima Mp Mo (fun r' => post r r')) := by
  obtain ⟨n, nj, jb, mc, d, ar, dr, rfl, rfl, rfl, rfl, h⟩ := h
  unfold wp_X2_optima wp_X3_optima
  rcases h.h_pl with ⟨e1, e2⟩ | ⟨e1, e2, l, c, p, f1, f2, f3, f4, -⟩
  · exact ⟨fun _ => ⟨fun _ => hp _, fun q => absurd e2 q⟩, fun q => absurd e1 q⟩
  · exact ⟨fun q => absurd q (by rw [e1]; decide), fun _ => ⟨fun q => absurd q (by rw [e2]; decide), fun _ => by rw [f3, f4]; exact hp _⟩⟩
theorem Rs.bd {n nj : Nat} {jb mc d : Nat → Nat} {ar : Nat → Nat → Bool} {L : List (Nat → Nat)} {l c : Nat} {p : Nat → Nat} (hl : l ≤ 600) (h : Rs n d L l c p) : ∀ i, i < n → p i ≤ 900 := fun i hi => by
  have h1 : p i + d i ≤ spn n d p := mx_ge (f := fun i => p i + d i) n i hi
  have := h.2.2.2.1
  omega
theorem fst_eq {P : Nat → Prop} {i k : Nat} (h1 : P i) (h2 : ∀ j, j < i → ¬ P j) (g1 : P k) (g2 : ∀ j, j < k → ¬ P j) : i = k := by
  rcases Nat.lt_trichotomy i k with q | q | q
  · exact absurd h1 (g2 i q)
  · exact q
  · exact absurd g1 (h2 k q)
theorem op_at {a0 a1 : Int32} {post : Int32 → Int32 → Prop} (h : Ia Jp Jd Sl Sf Sp Fj Fs ff fl fj fm fd fn fa fh ft Mj Mm Mp Ml Mo gj gm gd gb gdr gst)
    (hp : ∀ r, post r r) : wp_X2_at Jp Sp Fs fm fd a0 a1 (fun r => wp_X3_at Mm Mp gm gd gst a0 a1 (fun r' => post r r')) := by
  obtain ⟨n, nj, jb, mc, d, ar, dr, rfl, rfl, rfl, rfl, h⟩ := h
  have S := h.h_F.1
  have hn := S.1
  by_cases ho : Op 4 a0
  · rcases h.h_pl with ⟨e1, e2⟩ | ⟨e1, e2, l, c, p, f1, f2, f3, f4, f5, f6, f7, f8⟩
    · subst e1; subst e2
      unfold wp_X2_at
      refine sp_X2_isMachine (fun _ => ⟨fun _ => ⟨fun q => absurd rfl q, fun _ => ?_⟩, fun q => absurd q (by decide)⟩) (fun q => absurd ho q)
      unfold wp_X3_at
      refine sp_X3_in (fun _ => ⟨fun _ => ?_, fun q => absurd q (by decide)⟩) (fun q => absurd ((pz_pred (n := 4) (by omega)).mpr ho) q)
      exact ⟨fun _ => True, fun _ => 0, trivial, fun x _ => ⟨fun _ => hp _, fun _ => ⟨fun _ => hp _, fun q => absurd rfl q⟩⟩⟩
    · subst e1; subst e2
      obtain ⟨m, hm, rfl⟩ := ho
      have pb : ∀ i, i < n → p i ≤ 900 := Rs.bd (nj := nj) (jb := jb) (mc := mc) (ar := ar) f7 f8
      refine sp_X2_at hn h.h_fm S.2.2.2.1 h.h_fd f5 hm (fun i hi k1 k2 => ?_) (fun k1 => ?_)
      · exact sp_X3_at hn h.h_gm S.2.2.2.1 h.h_gd S.2.2.2.2.1 f6 pb hm (fun i' hi' g1 g2 => by rw [fst_eq k1 k2 g1 g2]; exact hp _) (fun g1 => absurd k1 (g1 i hi))
      · exact sp_X3_at hn h.h_gm S.2.2.2.1 h.h_gd S.2.2.2.2.1 f6 pb hm (fun i' hi' g1 g2 => absurd g1 (k1 i' hi')) (fun _ => hp _)
  · unfold wp_X2_at
    refine sp_X2_isMachine (fun q => absurd q ho) (fun _ => ⟨fun q => absurd rfl q, fun _ => ?_⟩)
    unfold wp_X3_at
    exact sp_X3_in (fun q => absurd ((pz_pred (n := 4) (by omega)).mp q) ho) (fun _ => ⟨fun q => absurd rfl q, fun _ => hp _⟩)
theorem op_draft {a0 a1 : Int32} {post : Int32 → (Nat → Int32) → Int32 → (Nat → Int32) → Prop} (h : Ia Jp Jd Sl Sf Sp Fj Fs ff fl fj fm fd fn fa fh ft Mj Mm Mp Ml Mo gj gm gd gb gdr gst)
    (hp : ∀ r Jd' gdr', Ia Jp Jd' Sl Sf Sp Fj Fs ff fl fj fm fd fn fa fh ft Mj Mm Mp Ml Mo gj gm gd gb gdr' gst → post r Jd' r gdr') : wp_X2_draft Jd Fs a0 a1 (fun r Jd' => wp_X3_draft Mm gdr a0 a1 (fun r' gdr' => post r Jd' r' gdr')) := by
  have h0 := h
  obtain ⟨n, nj, jb, mc, d, ar, dr, rfl, rfl, rfl, rfl, h⟩ := h
  have S := h.h_F.1
  have hn := S.1
  unfold wp_X2_draft wp_X3_draft
  have nle : ∀ {x : Int32}, ¬ 1000 < x ↔ x ≤ 1000 := fun {x} => by
    rw [Int32.lt_iff_toInt_lt, Int32.le_iff_toInt_le]; omega
  have bad : (¬ Op n a0 ∨ a1 < 0 ∨ ¬ a1 ≤ 1000) → wp_X3_isOperation (nI n) a0 (fun (r_2 : Int32) => (r_2 = 0 → post (-2) Jd (-2) gdr) ∧ (¬ r_2 = 0 → wp_X3_in a1 0 1000 (fun (r_13 : Int32) => (¬ r_13 = 0 → vp_in a0 12 ∧ (vp_in a0 12 ∧ (post (-2) Jd (gdr a0.toNatClampNeg) (upd gdr a0.toNatClampNeg a1)))) ∧ (r_13 = 0 → post (-2) Jd (-2) gdr)))) := fun hb => sp_X3_isOperation hn (fun ho => ⟨fun q => absurd q (by decide), fun _ => sp_X3_in (fun k => (hb.elim (fun q => absurd ho q) (fun q => q.elim (fun q2 => absurd q2 k.1) (fun q2 => absurd (nle.mp k.2) q2)))) (fun _ => ⟨fun q => absurd rfl q, fun _ => hp _ _ _ h0⟩)⟩) (fun _ => ⟨fun _ => hp _ _ _ h0, fun q => absurd rfl q⟩)
  refine sp_X0_isOperation hn (fun ho => ⟨fun q => absurd q (by decide), fun _ => ⟨fun q => bad (Or.inr (Or.inl q)), fun q => ⟨fun q2 => ?_, fun q2 => bad (Or.inr (Or.inr q2))⟩⟩⟩) (fun ho => ⟨fun _ => bad (Or.inl ho), fun q => absurd rfl q⟩)
  have ho2 := ho
  obtain ⟨i, hi, rfl⟩ := ho
  have i1 : vp_in (nI i) 12 := pz_inc (by omega) (by omega)
  obtain ⟨x, hx, rfl⟩ := nI_of2 (x := a1) (M := 1000) (n := 1000) rfl q q2
  rw [nI_clamp (n := i) (by omega)]
  refine ⟨i1, i1, sp_X3_isOperation hn (fun _ => ⟨fun q3 => absurd q3 (by decide), fun _ => sp_X3_in (fun _ => ⟨fun _ => ⟨i1, i1, ?_⟩, fun q3 => absurd q3 (by decide)⟩) (fun k => absurd ⟨q, nle.mpr q2⟩ k)⟩) (fun k => absurd ho2 k)⟩
  rw [h.h_jd i hi, h.h_gdr i hi]
  refine hp _ _ _ ⟨n, nj, jb, mc, d, ar, fun k => if k = i then x else dr k, rfl, rfl, rfl, rfl, h.h_F, h.h_ff, h.h_fl, h.h_fj, h.h_fm, h.h_fd, h.h_fn, h.h_jd.st i x, fun k hk => ?_, h.h_gj, h.h_gm, h.h_gd, h.h_gb, h.h_gdr.st i x, h.h_pl⟩
  dsimp only
  split
  · exact hx
  · exact h.h_db k hk
theorem op_check {post : Int32 → Int32 → Prop} (h : Ia Jp Jd Sl Sf Sp Fj Fs ff fl fj fm fd fn fa fh ft Mj Mm Mp Ml Mo gj gm gd gb gdr gst)
    (hp : ∀ r, post r r) : wp_X2_check Jd Fs fm fd fn fa (fun r => wp_X3_check Mm gj gm gd gb gdr (fun r' => post r r')) := by
  obtain ⟨n, nj, jb, mc, d, ar, dr, rfl, rfl, rfl, rfl, h⟩ := h
  have S := h.h_F.1
  refine sp_X2_check S h.h_fm h.h_fd h.h_fn h.h_F.2.1 h.h_jd h.h_db (fun i hi a1 a2 => ?_) (fun nL i hi b1 b2 => ?_) (fun nL nM => ?_)
  · exact sp_X3_check S h.h_gj h.h_gm h.h_gd h.h_gb h.h_gdr h.h_db (fun i' hi' c1 c2 => by rw [fst_eq a1 a2 c1 c2]; exact hp _) (fun nL2 => absurd a1 (nL2 i hi)) (fun nL2 => absurd a1 (nL2 i hi))
  · exact sp_X3_check S h.h_gj h.h_gm h.h_gd h.h_gb h.h_gdr h.h_db (fun i' hi' c1 c2 => absurd c1 (nL i' hi')) (fun nL2 i' hi' c1 c2 => by rw [fst_eq b1 b2 c1 c2]; exact hp _) (fun nL2 nM2 => absurd b1 (nM2 i hi))
  · exact sp_X3_check S h.h_gj h.h_gm h.h_gd h.h_gb h.h_gdr h.h_db (fun i' hi' c1 c2 => absurd c1 (nL i' hi')) (fun nL2 i' hi' c1 c2 => absurd c1 (nM i' hi')) (fun _ _ => hp _)
theorem op_adopt {post : Int32 → (Nat → Int32) → Int32 → (Nat → Int32) → Prop} (h : Ia Jp Jd Sl Sf Sp Fj Fs ff fl fj fm fd fn fa fh ft Mj Mm Mp Ml Mo gj gm gd gb gdr gst)
    (hp : ∀ r Jd' gdr', Ia Jp Jd' Sl Sf Sp Fj Fs ff fl fj fm fd fn fa fh ft Mj Mm Mp Ml Mo gj gm gd gb gdr' gst → post r Jd' r gdr') : wp_X2_adopt Jp Jd Sl Sp Fs (fun r Jd' => wp_X3_adopt Mm Mp Ml gdr gst (fun r' gdr' => post r Jd' r' gdr')) := by
  have h0 := h
  obtain ⟨n, nj, jb, mc, d, ar, dr, rfl, rfl, rfl, rfl, h⟩ := h
  have S := h.h_F.1
  have hn := S.1
  unfold wp_X2_adopt wp_X3_adopt
  rcases h.h_pl with ⟨e1, e2⟩ | ⟨e1, e2, l, c, p, f1, f2, f3, f4, f5, f6, f7, f8⟩
  · exact ⟨fun q => absurd e1 q, fun _ => ⟨fun q => absurd e2 q, fun _ => hp _ _ _ h0⟩⟩
  · have pb : ∀ i, i < n → p i ≤ 900 := Rs.bd (nj := nj) (jb := jb) (mc := mc) (ar := ar) f7 f8
    have hpl := h.h_pl
    refine ⟨fun _ => ?_, fun q => absurd q (by rw [e1]; decide)⟩
    refine ⟨fun x f => ∃ k, x = nI k ∧ k ≤ n ∧ Tb k f p, fun x _ => n - x.toNatClampNeg, ⟨0, rfl, by omega, fun i hi => absurd hi (by omega)⟩, ?_⟩
    rintro _ Jd' ⟨k, rfl, hk, ht⟩
    refine ⟨fun q => ⟨fun _ => ?_, fun q2 => absurd q2 (by rw [e2]; decide)⟩, fun q => ?_⟩
    · rw [nI_leI (by omega) (by omega)] at q
      have e : k = n := by omega
      subst e
      refine ⟨fun x f => ∃ k', x = nI k' ∧ k' ≤ k ∧ Tb k' f p, fun x _ => k - x.toNatClampNeg, ⟨0, rfl, by omega, fun i hi => absurd hi (by omega)⟩, ?_⟩
      rintro _ gdr' ⟨k2, rfl, hk2, ht2⟩
      refine ⟨fun q2 => ?_, fun q2 => ?_⟩
      · rw [nI_leI (by omega) (by omega)] at q2
        have e : k2 = k := by omega
        subst e
        rw [f1, f2] at *
        exact hp _ _ _ ⟨k2, nj, jb, mc, d, ar, p, rfl, rfl, rfl, rfl, h.h_F, h.h_ff, h.h_fl, h.h_fj, h.h_fm, h.h_fd, h.h_fn, ht, fun i hi => by have := pb i hi; omega, h.h_gj, h.h_gm, h.h_gd, h.h_gb, ht2, hpl⟩
      · rw [nI_leI (by omega) (by omega)] at q2
        have hk3 : k2 < k := by omega
        have i1 : vp_in (nI k2) 12 := pz_inc (by omega) (by omega)
        rw [nI_clamp (by omega)]
        refine ⟨i1, i1, ⟨k2 + 1, nI_1 k2, by omega, fun b hb2 => ?_⟩, pz_mu hk3 (by omega)⟩
        by_cases e : b = k2
        · subst e; rw [pk_us]; exact f6 b (by omega)
        · rw [pk_un e]; exact ht2 b (by omega)
    · rw [nI_leI (by omega) (by omega)] at q
      have hk3 : k < n := by omega
      have i1 : vp_in (nI k) 12 := pz_inc (by omega) (by omega)
      rw [nI_clamp (by omega)]
      refine ⟨i1, i1, ⟨k + 1, nI_1 k, by omega, fun b hb2 => ?_⟩, pz_mu hk3 (by omega)⟩
      by_cases e : b = k
      · subst e; rw [pk_us]; exact f5 b (by omega)
      · rw [pk_un e]; exact ht b (by omega)
theorem op_count {a0 : Int32} {post : Int32 → Int32 → (Nat → Int32) → (Nat → Int32) → Prop} (h : Ia Jp Jd Sl Sf Sp Fj Fs ff fl fj fm fd fn fa fh ft Mj Mm Mp Ml Mo gj gm gd gb gdr gst) {gh gt : Nat → Int32}
    (hp : ∀ r gh' gt', post r r gh' gt') : wp_X2_count Jp Sl Fj Fs fm fd fa fh ft a0 (fun r => wp_X3_count Mj Mm Mp Ml gj gm gd gb gh gt a0 (fun r' gh' gt' => post r r' gh' gt')) := by
  obtain ⟨n, nj, jb, mc, d, ar, dr, rfl, rfl, rfl, rfl, h⟩ := h
  obtain ⟨S, hA, hs, ts, hh, ht, t1, t2⟩ := h.h_F
  have hn := S.1
  have bd : ∀ i, i < n → hs i ≤ 1000 ∧ ts i ≤ 1000 := fun i hi => by
    have := S.bd hh ht hi; omega
  have no : ∀ {k : Int32} {P : Prop}, a0 = k → ∀ k', k ≠ k' → a0 = k' → P := fun e k' hne e2 => absurd (e.symm.trans e2) hne
  have no2 : ∀ {k : Int32} {P : Prop}, a0 = k → 0 ≤ k.toInt ∧ k.toInt ≤ 5 → a0.toInt < 0 ∨ 5 < a0.toInt → P := fun {k P} e hk q => by
    rw [e] at q
    exact absurd q (by omega)
  unfold wp_X2_count
  refine ⟨fun e => ?_, fun e => ?_, fun e => ?_, fun e => ?_, fun e => ?_, fun e => ⟨fun q => ?_, fun q => ?_⟩, fun e => ?_⟩
  · exact sp_X3_count S h.h_gj h.h_gm h.h_gd h.h_gb hh ht (fun _ => hp _ _ _) (no e _ (by decide)) (no e _ (by decide)) (no e _ (by decide)) (no e _ (by decide)) (no e _ (by decide)) (no2 e (by decide))
  · exact sp_X3_count S h.h_gj h.h_gm h.h_gd h.h_gb hh ht (no e _ (by decide)) (fun _ => hp _ _ _) (no e _ (by decide)) (no e _ (by decide)) (no e _ (by decide)) (no e _ (by decide)) (no2 e (by decide))
  · refine sp_X0_tiedPairs hn hA ?_
    rw [nar_eq S]
    exact sp_X3_count S h.h_gj h.h_gm h.h_gd h.h_gb hh ht (no e _ (by decide)) (no e _ (by decide)) (fun _ => hp _ _ _) (no e _ (by decide)) (no e _ (by decide)) (no e _ (by decide)) (no2 e (by decide))
  · refine sp_X0_pairs hn h.h_fm S.2.2.2.1 (sp_X0_tiedPairs hn hA ?_)
    rw [nar_eq S, pq_eq S, pk_sub (by omega), Nat.add_sub_cancel_left]
    exact sp_X3_count S h.h_gj h.h_gm h.h_gd h.h_gb hh ht (no e _ (by decide)) (no e _ (by decide)) (no e _ (by decide)) (fun _ => hp _ _ _) (no e _ (by decide)) (no e _ (by decide)) (no2 e (by decide))
  · refine sp_X0_bound hn h.h_fm S.2.2.2.1 h.h_fd S.2.2.2.2.1 t1 t2 bd ?_
    exact sp_X3_count S h.h_gj h.h_gm h.h_gd h.h_gb hh ht (no e _ (by decide)) (no e _ (by decide)) (no e _ (by decide)) (no e _ (by decide)) (fun _ _ _ => hp _ _ _) (no e _ (by decide)) (no2 e (by decide))
  · rcases h.h_pl with ⟨e1, e2⟩ | ⟨e1, e2, -⟩
    · exact sp_X3_count S h.h_gj h.h_gm h.h_gd h.h_gb hh ht (no e _ (by decide)) (no e _ (by decide)) (no e _ (by decide)) (no e _ (by decide)) (no e _ (by decide)) (fun _ => ⟨fun _ => hp _ _ _, fun q2 => absurd e2 q2⟩) (no2 e (by decide))
    · rw [e1] at q; exact absurd q (by decide)
  · rcases h.h_pl with ⟨e1, e2⟩ | ⟨e1, e2, l, c, p, f1, f2, -⟩
    · exact absurd e1 q
    · rw [f1, f2]
      exact sp_X3_count S h.h_gj h.h_gm h.h_gd h.h_gb hh ht (no e _ (by decide)) (no e _ (by decide)) (no e _ (by decide)) (no e _ (by decide)) (no e _ (by decide)) (fun _ => ⟨fun q2 => absurd q2 (by rw [e2]; decide), fun _ => hp _ _ _⟩) (no2 e (by decide))
  · have nk : ∀ k : Int32, 0 ≤ k.toInt → k.toInt ≤ 5 → ∀ {P : Prop}, a0 = k → P := fun k k1 k2 P q => by
      rw [q] at e
      exact absurd e (by omega)
    exact sp_X3_count S h.h_gj h.h_gm h.h_gd h.h_gb hh ht (nk 0 (by decide) (by decide)) (nk 1 (by decide) (by decide)) (nk 2 (by decide) (by decide)) (nk 3 (by decide) (by decide)) (nk 4 (by decide) (by decide)) (nk 5 (by decide) (by decide)) (fun _ => hp _ _ _)
end ops
