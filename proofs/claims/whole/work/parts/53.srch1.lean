/-! Search: rows of a state; the tests -/
theorem pz_andn {a b : Nat} (ha : a < 4096) (hb : b < 4096) : ∃ c, c < 4096 ∧ nI a &&& (nI b ^^^ (-1)) = nI c ∧ ∀ k, c.testBit k = (a.testBit k && !b.testBit k) := by
  refine ⟨a &&& (4095 ^^^ b), Nat.lt_of_le_of_lt Nat.and_le_left ha, ?_, fun k => ?_⟩
  · apply pz_inj
    rw [Int32.toBitVec_and, Int32.toBitVec_xor, pz_m1, pz_bv, pz_bv, pz_bv]
    apply BitVec.eq_of_getLsbD_eq
    intro i hi
    rw [BitVec.getLsbD_and, BitVec.getLsbD_xor, BitVec.getLsbD_allOnes, BitVec.getLsbD_ofNat, BitVec.getLsbD_ofNat, BitVec.getLsbD_ofNat, Nat.testBit_and, Nat.testBit_xor]
    by_cases q : a.testBit i = true
    · have h12 := pz_big ha q
      have e : (4095 : Nat).testBit i = true := by
        rw [show (4095 : Nat) = 2 ^ 12 - 1 from rfl, Nat.testBit_two_pow_sub_one]; simp [h12]
      simp [hi, q, e, Bool.xor_comm]
    · simp [hi, q]
  · rw [Nat.testBit_and, Nat.testBit_xor]
    by_cases q : a.testBit k = true
    · have h12 := pz_big ha q
      have e : (4095 : Nat).testBit k = true := by
        rw [show (4095 : Nat) = 2 ^ 12 - 1 from rfl, Nat.testBit_two_pow_sub_one]; simp [h12]
      rw [q, e]; simp
    · simp [q]
theorem pz_z {c : Nat} (hc : c < 4096) : nI c = 0 ↔ ∀ k, c.testBit k = false := by
  rw [pz_0, nI_eq (by omega) (by omega)]
  constructor
  · intro e k; rw [e, Nat.zero_testBit]
  · intro h
    exact Nat.eq_of_testBit_eq (fun k => by rw [h k, Nat.zero_testBit])
/-- a set of operations as an int -/
def Bs (x : Int32) (p : Nat → Bool) : Prop := ∃ m, m < 4096 ∧ x = nI m ∧ ∀ k, m.testBit k = p k
/-- the last one that was placed: one more than it, 0 without one -/
def LI (x : Int32) (li : Nat) : Prop := (li = 0 ∧ x = (-1)) ∨ ∃ a, li = a + 1 ∧ a < 12 ∧ x = nI a
/-- the shop's rows that the search reads -/
def Fl (n nj : Nat) (jb mc d hs ts : Nat → Nat) (ar : Nat → Nat → Bool) (fj fm fd fn fa fh ft : Nat → Int32) : Prop :=
  Shop n nj jb mc d ar ∧ Tb n fj jb ∧ Tb n fm mc ∧ Tb n fd d ∧ NxT n jb fn ∧ ArT n ar fa ∧ IsH n (Ed n jb ar) d hs ∧ IsH n (Rv (Ed n jb ar)) d ts ∧ Tb n fh hs ∧ Tb n ft ts
/-- the rows of a state of the search -/
def SR (n nj : Nat) (jb mc d : Nat → Nat) (ar : Nat → Nat → Bool) (pl : Nat → Bool) (st : Nat → Nat) (xp : Int32) (fs fne ftu fjf fmf fwl fwt : Nat → Int32) : Prop :=
  (∀ i, pl i = true → i < n) ∧ Bs xp pl ∧ (∀ i, i < n → pl i = true → fs i = nI (st i)) ∧ (∀ i, i < n → Bs (fne i) (fun k => ar k i)) ∧
  (∀ j, j < nj → (tn n jb pl j < n ∧ ftu j = nI (tn n jb pl j)) ∨ (tn n jb pl j = n ∧ ftu j = (-1))) ∧
  Tb nj fjf (jf n jb d pl st) ∧ Tb 4 fmf (jf n mc d pl st) ∧ Tb 4 fwl (wlf n mc d pl) ∧ ∀ m, m < 4 → Bs (fwt m) (fun k => decide (k < n) && !pl k && decide (mc k = m))
theorem WF.end {n nj lt li i : Nat} {jb mc d : Nat → Nat} {ar : Nat → Nat → Bool} {pl : Nat → Bool} {st : Nat → Nat} (S : Shop n nj jb mc d ar) (W0 : WF n jb mc d ar pl st lt li) (hi : i < n) (hp : pl i = true) : st i + d i ≤ sm d n := by
  obtain ⟨w1, w2, w3, w4, w5, w6⟩ := W0
  have h := IsH.end_le (n := n) (E := fun _ _ => True) (d := d) (h := fun i => if pl i = true then st i else 0) (fun i hi => (S.2.2.2.2.1 i hi).1) (fun b hb => by
    by_cases q : pl b = true
    · rcases w5 b hb q with e | ⟨a, ha, hpa, -, e⟩
      · exact Or.inl (by rw [if_pos q]; exact e)
      · exact Or.inr ⟨a, ha, trivial, by rw [if_pos q, if_pos hpa]; exact e⟩
    · exact Or.inl (by rw [if_neg q])) hi
  rw [if_pos hp] at h
  exact h
theorem Shop.sum {n nj : Nat} {jb mc d : Nat → Nat} {ar : Nat → Nat → Bool} (S : Shop n nj jb mc d ar) : sm d n ≤ 600 := by
  have h2 := sm_le n (fun i hi => (S.2.2.2.2.1 i hi).2)
  have := S.1
  omega
theorem WF.jf {n nj lt li : Nat} {jb mc d kx : Nat → Nat} {ar : Nat → Nat → Bool} {pl : Nat → Bool} {st : Nat → Nat} (S : Shop n nj jb mc d ar) (W0 : WF n jb mc d ar pl st lt li) (j : Nat) : jf n kx d pl st j ≤ 600 := by
  rcases jf_at (n := n) (jb := kx) (d := d) (pl := pl) (st := st) (j := j) with h0 | ⟨a, ha, hpa, -, h1⟩
  · omega
  · have := W0.end S ha hpa
    have := S.sum
    omega
theorem WF.er {n nj lt li : Nat} {jb mc d : Nat → Nat} {ar : Nat → Nat → Bool} {pl : Nat → Bool} {st : Nat → Nat} (S : Shop n nj jb mc d ar) (W0 : WF n jb mc d ar pl st lt li) (i : Nat) : er n jb mc d pl st i ≤ 600 := by
  have h1 := W0.jf (kx := jb) S (jb i)
  have h2 := W0.jf (kx := mc) S (mc i)
  show max _ _ ≤ _
  omega
theorem sp_X1_earliest {n nj i lt li : Nat} {jb mc d : Nat → Nat} {ar : Nat → Nat → Bool} {pl : Nat → Bool} {st : Nat → Nat} {fj fm fjf fmf : Nat → Int32} {post : Int32 → Prop} (S : Shop n nj jb mc d ar) (W0 : WF n jb mc d ar pl st lt li) (hj : Tb n fj jb) (hm : Tb n fm mc) (hjf : Tb nj fjf (jf n jb d pl st)) (hmf : Tb 4 fmf (jf n mc d pl st)) (hi : i < n) (hp : post (nI (er n jb mc d pl st i))) : wp_X1_earliest fjf fmf fj fm (nI i) post := by
  have hn := S.1
  have hnj := S.2.1
  have b1 := S.2.2.1 i hi
  have b2 := S.2.2.2.1 i hi
  have c1 := W0.jf (kx := jb) S (jb i)
  have c2 := W0.jf (kx := mc) S (mc i)
  unfold wp_X1_earliest
  have hin : vp_in (nI i) 12 := pz_inc (by omega) (by omega)
  rw [hj.get hi (by omega), hm.get hi (by omega), hjf.get b1 (by omega), hmf.get b2 (by omega)]
  refine ⟨hin, pz_inc (by omega) (by omega), hin, pz_inc (by omega) (by omega), fun q => ?_, fun q => ?_⟩
  · rw [nI_ltI (by omega) (by omega)] at q
    unfold er at hp
    rw [Nat.max_eq_right (by omega)] at hp; exact hp
  · rw [nI_ltI (by omega) (by omega)] at q
    unfold er at hp
    rw [Nat.max_eq_left (by omega)] at hp; exact hp
theorem sp_X1_isPassed {n nj i lt li : Nat} {jb mc d : Nat → Nat} {ar : Nat → Nat → Bool} {pl : Nat → Bool} {st : Nat → Nat} {fj fm fjf fmf : Nat → Int32} {xl : Int32} {post : Int32 → Prop} (S : Shop n nj jb mc d ar) (W0 : WF n jb mc d ar pl st lt li) (hj : Tb n fj jb) (hm : Tb n fm mc) (hjf : Tb nj fjf (jf n jb d pl st)) (hmf : Tb 4 fmf (jf n mc d pl st)) (hi : i < n) (hlt : lt ≤ 600) (hl : LI xl li) (h1 : psd (er n jb mc d pl st i) i lt li → post 1) (h0 : ¬ psd (er n jb mc d pl st i) i lt li → post 0) : wp_X1_isPassed fjf fmf fj fm (nI i) (nI lt) xl post := by
  have hn := S.1
  have c1 := W0.er S i
  unfold wp_X1_isPassed
  refine sp_X1_earliest S W0 hj hm hjf hmf hi ⟨fun q => h1 (Or.inl ?_), fun q => ⟨fun q2 => h0 (fun e => ?_), fun q2 => ⟨fun q3 => h0 (fun e => ?_), fun q3 => h1 (Or.inr ⟨?_, ?_⟩)⟩⟩⟩
  · exact (nI_ltI (by omega) (by omega)).mp q
  · rw [nI_ltI (by omega) (by omega)] at q
    rcases e with e | e
    · exact q e
    · exact q2 (by rw [e.1])
  · rw [nI_ltI (by omega) (by omega)] at q
    rcases e with e | e
    · exact q e
    · rcases hl with ⟨e2, -⟩ | ⟨a, e2, ha, e3⟩
      · omega
      · rw [e3, nI_leI (by omega) (by omega)] at q3
        omega
  · exact (nI_eq (by omega) (by omega)).mp q2
  · rcases hl with ⟨e2, e3⟩ | ⟨a, e2, ha, e3⟩
    · exfalso
      rw [e3] at q3
      refine q3 ?_
      rw [Int32.le_iff_toInt_le, nI_toInt (by omega)]
      have : ((-1 : Int32)).toInt = -1 := rfl
      omega
    · rw [e3, nI_leI (by omega) (by omega)] at q3
      omega
theorem sp_X1_endsAbove {n nj i lt li l : Nat} {jb mc d hs ts : Nat → Nat} {ar : Nat → Nat → Bool} {pl : Nat → Bool} {st : Nat → Nat} {fj fm fd fn fa fh ft fjf fmf : Nat → Int32} {post : Int32 → Prop} (F : Fl n nj jb mc d hs ts ar fj fm fd fn fa fh ft) (W0 : WF n jb mc d ar pl st lt li) (hjf : Tb nj fjf (jf n jb d pl st)) (hmf : Tb 4 fmf (jf n mc d pl st)) (hi : i < n) (hl : l ≤ 600) (h1 : l < max (er n jb mc d pl st i) (hs i) + d i + ts i → post 1) (h0 : post 0) : wp_X1_endsAbove (nI l) fjf fmf fj fm fd fh ft (nI i) post := by
  obtain ⟨S, hj, hm, hd, hx, ha, hh, ht, hth, htt⟩ := F
  have hn := S.1
  have c1 := W0.er S i
  have c2 := S.bd hh ht hi
  unfold wp_X1_endsAbove
  have hin : vp_in (nI i) 12 := pz_inc (by omega) (by omega)
  refine sp_X1_earliest S W0 hj hm hjf hmf hi ⟨hin, hin, hin, ?_⟩
  rw [hth.get hi (by omega), hd.get hi (by omega), htt.get hi (by omega), pz_max (by omega) (by omega), nI_add, nI_add]
  refine ⟨fun _ => h0, fun q => h1 ?_⟩
  rw [nI_leI (by omega) (by omega)] at q
  omega
theorem sp_X1_isStranded {n nj i lt li : Nat} {jb mc d hs ts : Nat → Nat} {ar : Nat → Nat → Bool} {pl : Nat → Bool} {st : Nat → Nat} {fj fm fd fn fa fh ft fjf fmf fwt : Nat → Int32} {xl : Int32} {post : Int32 → Prop} (F : Fl n nj jb mc d hs ts ar fj fm fd fn fa fh ft) (W0 : WF n jb mc d ar pl st lt li) (hjf : Tb nj fjf (jf n jb d pl st)) (hmf : Tb 4 fmf (jf n mc d pl st)) (hwt : ∀ m, m < 4 → Bs (fwt m) (fun k => decide (k < n) && !pl k && decide (mc k = m))) (hi : i < n) (hlt : lt ≤ 600) (hl : LI xl li)
    (h1 : psd (er n jb mc d pl st i) i lt li → (∀ a, a < n → pl a = false → mc a = mc i → a ≠ i → ar i a = true) → post 1) (h0 : post 0) : wp_X1_isStranded fjf fmf fwt fj fm fa (nI i) (nI lt) xl post := by
  obtain ⟨S, hj, hm, hd, hx, ha, hh, ht, hth, htt⟩ := F
  have hn := S.1
  have b2 := S.2.2.2.1 i hi
  unfold wp_X1_isStranded
  have hin : vp_in (nI i) 12 := pz_inc (by omega) (by omega)
  rw [hm.get hi (by omega), nI_clamp (n := mc i) (by omega), nI_clamp (n := i) (by omega)]
  obtain ⟨w, hw, e1, hwb⟩ := hwt (mc i) b2
  obtain ⟨w2, hw2, e2, hwb2⟩ := pz_clr (m := w) (b := i) hw (by omega)
  obtain ⟨g, hg, e3, hgb⟩ := ha i hi
  obtain ⟨w3, hw3, e4, hwb3⟩ := pz_andn (a := w2) (b := g) hw2 hg
  rw [e1, e2, e3, e4]
  refine ⟨hin, pz_inc (by omega) (by omega), hin, fun _ => h0, fun q => ?_⟩
  rw [pz_z hw3] at q
  refine sp_X1_isPassed S W0 hj hm hjf hmf hi hlt hl (fun hp => ⟨fun e => absurd e (by decide), fun _ => h1 hp (fun a ha2 hpa hma hne => ?_)⟩) (fun _ => ⟨fun _ => h0, fun e => absurd rfl e⟩)
  have h2 := q a
  rw [hwb3, hwb2, hwb, hgb] at h2
  simp only [ha2, hpa, hma, hne, decide_true, Bool.not_false, Bool.and_self, decide_false, Bool.true_and, Bool.not_eq_false'] at h2
  exact h2
/-- every plan below is longer -/
theorem lv_long {n nj k lt li l i : Nat} {jb mc d hs ts : Nat → Nat} {ar : Nat → Nat → Bool} {pl : Nat → Bool} {st : Nat → Nat} (S : Shop n nj jb mc d ar) (W0 : WF n jb mc d ar pl st lt li) (hk : lf n pl = k) (hh : IsH n (Ed n jb ar) d hs) (ht : IsH n (Rv (Ed n jb ar)) d ts) (hi : i < n) (hp : pl i = false) (hl : l < max (er n jb mc d pl st i) (hs i) + d i + ts i) : ∀ s, s ∈ lv n nj jb mc d ar k pl st lt li → l < spn n d s := by
  intro s hs1
  obtain ⟨g1, g2, g3⟩ := lv_props S k pl st lt li W0 hk s hs1
  have hd : ∀ i, i < n → 1 ≤ d i := fun i hi => (S.2.2.2.2.1 i hi).1
  have a1 := g1.tail hd ht i hi
  have a2 := g3 i hi hp
  have a3 := hh.le hd g1.1 i hi
  omega
set_option maxHeartbeats 1000000 in
theorem sp_X1_isHopeless {n nj k lt li l : Nat} {jb mc d hs ts : Nat → Nat} {ar : Nat → Nat → Bool} {pl : Nat → Bool} {st : Nat → Nat} {fj fm fd fn fa fh ft fs fne ftu fjf fmf fwl fwt : Nat → Int32} {xp xl : Int32} {post : Int32 → Prop} (F : Fl n nj jb mc d hs ts ar fj fm fd fn fa fh ft) (W0 : WF n jb mc d ar pl st lt li) (R : SR n nj jb mc d ar pl st xp fs fne ftu fjf fmf fwl fwt) (hk : lf n pl = k) (hlt : lt ≤ 600) (hli : LI xl li) (hl : l ≤ 600)
    (h1 : (∀ s, s ∈ lv n nj jb mc d ar k pl st lt li → l < spn n d s) → post 1) (h0 : post 0) : wp_X1_isHopeless (nI l) ftu fjf fmf fwl fwt (nI nj) (nI n) fj fm fd fa fh ft (nI lt) xl post := by
  have F0 := F
  obtain ⟨S, hj, hm, hd, hx, ha, hh, ht, hth, htt⟩ := F
  obtain ⟨r1, r2, r3, r4, r5, r6, r7, r8, r9⟩ := R
  have hn := S.1
  have hnj := S.2.1
  unfold wp_X1_isHopeless
  refine ⟨fun x => ∃ m, x = nI m ∧ m ≤ 4, fun x => 4 - x.toNatClampNeg, ⟨0, rfl, by omega⟩, ?_⟩
  rintro _ ⟨m, rfl, hm4⟩
  have e4 : (4 : Int32) = nI 4 := rfl
  refine ⟨fun q => ?_, fun q => ?_⟩
  · refine ⟨fun x => ∃ j, x = nI j ∧ j ≤ nj, fun x => nj - x.toNatClampNeg, ⟨0, rfl, by omega⟩, ?_⟩
    rintro _ ⟨j, rfl, hj4⟩
    refine ⟨fun _ => h0, fun q2 => ?_⟩
    rw [nI_leI (by omega) (by omega)] at q2
    have hj5 : j < nj := by omega
    have nxt : (∃ j', nI j + 1 = nI j' ∧ j' ≤ nj) ∧ nj - (nI j + 1).toNatClampNeg < nj - (nI j).toNatClampNeg := ⟨⟨j + 1, nI_1 j, by omega⟩, pz_mu hj5 (by omega)⟩
    rw [nI_clamp (n := j) (by omega)]
    refine ⟨pz_inc (by omega) (by omega), ?_⟩
    rcases r5 j hj5 with ⟨t1, e⟩ | ⟨t1, e⟩
    · rw [e]
      obtain ⟨u1, u2, u3⟩ := tn_spec t1
      refine sp_X0_isOperation hn (fun _ => ⟨fun e => absurd e (by decide), fun _ => ?_⟩) (fun ho => absurd ⟨_, t1, rfl⟩ ho)
      refine sp_X1_endsAbove F0 W0 r6 r7 t1 hl (fun hlong => ⟨fun _ => h1 (lv_long S W0 hk hh ht t1 u2 hlong), fun e => absurd e (by decide)⟩) ⟨fun e => absurd rfl e, fun _ => ?_⟩
      refine sp_X1_isStranded F0 W0 r6 r7 r9 t1 hlt hli (fun hp hoth => ⟨fun e => absurd e (by decide), fun _ => h1 (fun s hs1 => ?_)⟩) ⟨fun _ => nxt, fun e => absurd rfl e⟩
      rw [lv_stranded t1 k pl st lt li hk u2 (fun a ha e => u3 a ha (by rw [e, u1])) hp hoth] at hs1
      cases hs1
    · rw [e]
      refine sp_X0_isOperation hn (fun ho => ?_) (fun _ => ⟨fun _ => nxt, fun e => absurd rfl e⟩)
      obtain ⟨x, hx1, hx2⟩ := ho
      exact absurd hx2.symm (pz_ne1 (by omega))
  · rw [e4, nI_leI (by omega) (by omega)] at q
    have hm5 : m < 4 := by omega
    have hin : vp_in (nI m) 4 := pz_inc (by omega) (by omega)
    have c1 := W0.jf (kx := mc) S m
    have c2 : wlf n mc d pl m ≤ 600 := by
      have h2 : wlf n mc d pl m ≤ sm d n := sm_mono n (fun i hi => by
        by_cases q2 : pl i = false ∧ mc i = m
        · rw [if_pos q2]; exact Nat.le_refl _
        · rw [if_neg q2]; exact Nat.zero_le _)
      have := S.sum
      omega
    rw [r7.get hm5 (by omega), r8.get hm5 (by omega), nI_add]
    refine ⟨hin, hin, fun _ => ⟨⟨m + 1, nI_1 m, by omega⟩, pz_mu hm5 (by omega)⟩, fun q2 => h1 (fun s hs1 => ?_)⟩
    rw [nI_leI (by omega) (by omega)] at q2
    have := lv_load S m k pl st lt li hk s hs1
    omega
