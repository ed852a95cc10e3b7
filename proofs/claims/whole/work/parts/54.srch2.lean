/-! Search: keep, place, extend -/
/-- what has been found among the plans so far; D: the most that a plan may be long -/
def Ac (n : Nat) (d : Nat → Nat) (D : Nat) (P : List (Nat → Nat)) (l c : Nat) (p : Nat → Nat) : Prop := (P = [] ∧ c = 0 ∧ l = D) ∨ Rs n d P l c p
theorem Ac.worse {n D l c : Nat} {d p : Nat → Nat} : ∀ (L P : List (Nat → Nat)), Ac n d D P l c p → (∀ s, s ∈ L → l < spn n d s) → (∀ s, s ∈ L → spn n d s ≤ D) → Ac n d D (P ++ L) l c p
  | [], P, h, _, _ => by rw [List.append_nil]; exact h
  | s :: L, P, h, h1, h2 => by
    have a1 := h1 s List.mem_cons_self
    have a2 := h2 s List.mem_cons_self
    have h3 : Ac n d D (P ++ [s]) l c p := by
      rcases h with ⟨-, -, e⟩ | h
      · omega
      · exact Or.inr (h.worse a1)
    have h4 := Ac.worse L (P ++ [s]) h3 (fun t ht => h1 t (List.mem_cons_of_mem _ ht)) (fun t ht => h2 t (List.mem_cons_of_mem _ ht))
    rw [List.append_assoc] at h4
    exact h4
theorem Ac.len {n D l c : Nat} {d p : Nat → Nat} {P : List (Nat → Nat)} (h : Ac n d D P l c p) : c ≤ P.length := by
  rcases h with ⟨-, e, -⟩ | ⟨-, e, -⟩
  · omega
  · rw [e]; exact List.countP_le_length
theorem sp_X1_isEarlier {n : Nat} {s p : Nat → Nat} {fp fs : Nat → Int32} {post : Int32 → Prop} (hn : n ≤ 12) (hs : Tb n fs s) (hp : Tb n fp p) (hb : ∀ i, i < n → s i ≤ 1000 ∧ p i ≤ 1000) (h1 : Lx n s p → post 1) (h0 : ¬ Lx n s p → post 0) : wp_X1_isEarlier fp fs (nI n) post := by
  unfold wp_X1_isEarlier
  refine ⟨fun x => ∃ k, x = nI k ∧ k ≤ n ∧ ∀ i, i < k → s i = p i, fun x => n - x.toNatClampNeg, ⟨0, rfl, by omega, fun i hi => absurd hi (by omega)⟩, ?_⟩
  rintro _ ⟨k, rfl, hk, he⟩
  refine ⟨fun q => h0 ?_, fun q => ?_⟩
  · rw [nI_leI (by omega) (by omega)] at q
    rintro ⟨a, ha, h2, h3⟩
    have := he a (by omega)
    omega
  · rw [nI_leI (by omega) (by omega)] at q
    have hk2 : k < n := by omega
    have b1 := hb k hk2
    have hin : vp_in (nI k) 12 := pz_inc (by omega) (by omega)
    rw [hs.get hk2 (by omega), hp.get hk2 (by omega)]
    refine ⟨hin, hin, fun q2 => ⟨⟨k + 1, nI_1 k, by omega, fun i hi => ?_⟩, pz_mu hk2 (by omega)⟩, fun q2 => ⟨hin, hin, fun q3 => h0 ?_, fun q3 => h1 ?_⟩⟩
    · rw [nI_eq (by omega) (by omega)] at q2
      by_cases e : i = k
      · subst e; exact q2
      · exact he i (by omega)
    · rw [nI_leI (by omega) (by omega)] at q3
      rintro ⟨a, ha, h2, h3⟩
      rcases Nat.lt_trichotomy a k with q4 | q4 | q4
      · have := he a q4; omega
      · subst q4; omega
      · exact q2 (by rw [h3 k q4])
    · rw [nI_leI (by omega) (by omega)] at q3
      exact ⟨k, hk2, by omega, he⟩
set_option maxHeartbeats 1000000 in
theorem sp_X1_keep {n D l c : Nat} {d s p : Nat → Nat} {P : List (Nat → Nat)} {fp fs fd : Nat → Int32} {post : Int32 → Int32 → (Nat → Int32) → Prop} (hn : n ≤ 12) (hd : Tb n fd d) (hdb : ∀ i, i < n → d i ≤ 50) (hs : Tb n fs s) (hD : D ≤ 600) (hsp : spn n d s ≤ D) (hA : Ac n d D P l c p) (hl : l ≤ D) (hp : c = 0 ∨ Tb n fp p) (hlen : P.length + 1 ≤ 2 ^ 30)
    (hpost : ∀ l' c' p' fp', Ac n d D (P ++ [s]) l' c' p' → l' ≤ D → (c' = 0 ∨ Tb n fp' p') → post (nI l') (nI c') fp') : wp_X1_keep (nI l) (nI c) fp fs (nI n) fd post := by
  have hc := hA.len
  have sb : ∀ i, i < n → s i + d i ≤ 600 := fun i hi => by
    have h1 : s i + d i ≤ spn n d s := mx_ge (f := fun i => s i + d i) n i hi
    omega
  unfold wp_X1_keep
  refine ⟨fun x y => ∃ k, y = nI k ∧ k ≤ n ∧ x = nI (mx (fun i => s i + d i) k), fun _ y => n - y.toNatClampNeg, ⟨0, rfl, by omega, rfl⟩, ?_⟩
  rintro _ _ ⟨k, rfl, hk, rfl⟩
  have hm : mx (fun i => s i + d i) k ≤ 600 := mx_le k (fun i hi => sb i (by omega))
  have c1 : ¬ nI n < 0 := nI_pos (by omega)
  have c2 : (nI n).toNatClampNeg ≤ 12 := by rw [nI_clamp (by omega)]; exact hn
  have hcp : Tb n (va_cpy fs fp (0 : Int32).toNatClampNeg (0 : Int32).toNatClampNeg (nI n).toNatClampNeg) s := fun i hi => by
    rw [cpy_at (by omega) hi]; exact hs i hi
  refine ⟨fun q => ?_, fun q => ?_⟩
  · rw [nI_leI (by omega) (by omega)] at q
    have e : k = n := by omega
    subst e
    have hm2 : mx (fun i => s i + d i) k = spn k d s := rfl
    rw [hm2] at hm ⊢
    refine ⟨fun q2 => ⟨fun q3 => ?_, fun q3 => ?_⟩, fun q2 => ?_⟩
    · rw [nI_leI (by omega) (by omega)] at q2 q3
      have hsl : spn k d s = l := by omega
      have first : (P = [] ∧ c = 0 ∧ l = D) → Ac k d D (P ++ [s]) l (c + 1) s := fun ⟨e1, e2, e3⟩ => by
        subst e1
        have := Rs.better (n := k) (d := d) (L := []) (s := s) (fun t ht => by cases ht)
        rw [hsl] at this
        rw [e2]; exact Or.inr this
      rw [nI_1]
      refine ⟨post (nI l) (nI (c + 1)) (va_cpy fs fp (0 : Int32).toNatClampNeg (0 : Int32).toNatClampNeg (nI k).toNatClampNeg), fun j => ⟨c1, c2, c2, j⟩, fun q4 => ?_, fun q4 => ?_⟩
      · rw [pz_0, nI_eq (by omega) (by omega)] at q4
        rcases hA with hA | hA
        · exact hpost l (c + 1) s _ (first hA) hl (Or.inr hcp)
        · have := hA.pos; omega
      · have hc0 : c ≠ 0 := fun e => q4 (by rw [e]; rfl)
        have hR : Rs k d P l c p := hA.resolve_left (fun e => hc0 e.2.1)
        have hp2 := hp.resolve_left hc0
        have pb : ∀ i, i < k → p i ≤ 600 := fun i hi => by
          have h1 : p i + d i ≤ spn k d p := mx_ge (f := fun i => p i + d i) k i hi
          have := hR.2.2.2.1
          omega
        refine sp_X1_isEarlier hn hs hp2 (fun i hi => by have := sb i hi; have := pb i hi; omega) (fun hx => ⟨fun e => absurd e (by decide), fun _ => ?_⟩) (fun hx => ⟨fun _ => ?_, fun e => absurd rfl e⟩)
        · exact hpost l (c + 1) s _ (Or.inr (hR.same hsl (Or.inl ⟨hx, fun _ _ => rfl⟩))) hl (Or.inr hcp)
        · exact hpost l (c + 1) p _ (Or.inr (hR.same hsl (Or.inr ⟨hx, fun _ _ => rfl⟩))) hl (Or.inr hp2)
    · rw [nI_leI (by omega) (by omega)] at q2 q3
      have hbet : Ac k d D (P ++ [s]) (spn k d s) 1 s := by
        refine Or.inr (Rs.better (fun t ht => ?_))
        rcases hA with ⟨e, -⟩ | hA
        · rw [e] at ht; cases ht
        · have := hA.1 t ht; omega
      refine ⟨post (nI (spn k d s)) (0 + 1) (va_cpy fs fp (0 : Int32).toNatClampNeg (0 : Int32).toNatClampNeg (nI k).toNatClampNeg), fun j => ⟨c1, c2, c2, j⟩, fun _ => hpost (spn k d s) 1 s _ hbet hsp (Or.inr hcp), fun e => absurd rfl e⟩
    · rw [nI_leI (by omega) (by omega)] at q2
      refine hpost l c p fp (Ac.worse [s] P hA (fun t ht => ?_) (fun t ht => ?_)) hl hp
      · rw [List.mem_singleton] at ht; subst ht; omega
      · rw [List.mem_singleton] at ht; subst ht; exact hsp
  · rw [nI_leI (by omega) (by omega)] at q
    have hk2 : k < n := by omega
    have := sb k hk2
    have hin : vp_in (nI k) 12 := pz_inc (by omega) (by omega)
    rw [hs.get hk2 (by omega), hd.get hk2 (by omega), nI_add, pz_max (by omega) (by omega)]
    exact ⟨hin, hin, ⟨k + 1, nI_1 k, by omega, rfl⟩, pz_mu hk2 (by omega)⟩
theorem upd_back {f : Nat → Int32} {j : Nat} {x y : Int32} (h : f j = y) : upd (upd f j x) j y = f := by
  funext i
  by_cases e : i = j
  · subst e; rw [pk_us]; exact h.symm
  · rw [pk_un e, pk_un e]
theorem Bs.xor {x : Int32} {p : Nat → Bool} {i : Nat} (h : Bs x p) (hi : i < 12) : Bs (x ^^^ ((1 : Int32) <<< (nI i &&& 31))) (fun k => p k ^^ decide (k = i)) := by
  obtain ⟨m, hm, rfl, hb⟩ := h
  have h2 := pz_tp hi
  rw [pz_one (by omega), pz_xor (by omega) (by omega)]
  refine ⟨_, Nat.xor_lt_two_pow (n := 12) hm h2, rfl, fun k => ?_⟩
  rw [Nat.testBit_xor, hb k, Nat.testBit_two_pow]
  by_cases e : k = i
  · subst e; simp
  · have e3 : ¬ i = k := fun x => e x.symm
    simp [e, e3]
theorem Bs.congr {x : Int32} {p q : Nat → Bool} (h : Bs x p) (e : ∀ k, p k = q k) : Bs x q := by
  obtain ⟨m, hm, e1, hb⟩ := h
  exact ⟨m, hm, e1, fun k => by rw [hb k, e k]⟩
theorem i32_xx (x y : Int32) : (x ^^^ y) ^^^ y = x := by
  apply pz_inj
  rw [Int32.toBitVec_xor, Int32.toBitVec_xor, BitVec.xor_assoc, BitVec.xor_self, BitVec.xor_zero]
theorem i32_sa (x y : Int32) : (x - y) + y = x := by
  apply pz_inj
  rw [Int32.toBitVec_add, Int32.toBitVec_sub, BitVec.sub_add_cancel]
theorem wlf_eq {n i : Nat} {mc d : Nat → Nat} {pl : Nat → Bool} (hi : i < n) (hp : pl i = false) (m : Nat) : wlf n mc d pl m = wlf n mc d (put pl i) m + (if mc i = m then d i else 0) := by
  have key : ∀ k, sm (fun i => if pl i = false ∧ mc i = m then d i else 0) k = sm (fun k => if put pl i k = false ∧ mc k = m then d k else 0) k + (if i < k then (if mc i = m then d i else 0) else 0) := by
    intro k
    induction k with
    | zero => simp [sm]
    | succ k ih =>
      show sm _ k + (if pl k = false ∧ mc k = m then d k else 0) = sm _ k + (if put pl i k = false ∧ mc k = m then d k else 0) + _
      by_cases e : k = i
      · subst e
        rw [if_neg (show ¬ k < k by omega)] at ih
        rw [if_pos (show k < k + 1 by omega)]
        have h3 : ¬ (put pl k k = false ∧ mc k = m) := fun x => by have := x.1; unfold put at this; simp at this
        rw [if_neg h3]
        by_cases q : mc k = m
        · rw [if_pos ⟨hp, q⟩, if_pos q]; omega
        · rw [if_neg (fun x => q x.2), if_neg q]; omega
      · have e2 : (if i < k + 1 then (if mc i = m then d i else 0) else 0) = (if i < k then (if mc i = m then d i else 0) else (0 : Nat)) := by
          by_cases q : i < k
          · rw [if_pos q, if_pos (by omega)]
          · rw [if_neg q, if_neg (by omega)]
        rw [e2]
        have e3 : put pl i k = pl k := by unfold put; simp [e]
        rw [e3]; omega
  have h := key n
  rw [if_pos hi] at h
  exact h
/-- the rows behind a placing -/
theorem SR.place {n nj lt li i : Nat} {jb mc d hs ts : Nat → Nat} {ar : Nat → Nat → Bool} {pl : Nat → Bool} {st : Nat → Nat} {fj fm fd fn fa fh ft fs fne ftu fjf fmf fwl fwt : Nat → Int32} {xp : Int32} (F : Fl n nj jb mc d hs ts ar fj fm fd fn fa fh ft) (W0 : WF n jb mc d ar pl st lt li) (R : SR n nj jb mc d ar pl st xp fs fne ftu fjf fmf fwl fwt) (hi : i < n) (hp : pl i = false) (hb : ∀ k, k < i → jb k = jb i → pl k = true) :
    SR n nj jb mc d ar (put pl i) (sts st i (er n jb mc d pl st i)) (xp ^^^ ((1 : Int32) <<< (nI i &&& 31))) (upd fs i (nI (er n jb mc d pl st i))) fne (upd ftu (jb i) (fn i)) (upd fjf (jb i) (nI (er n jb mc d pl st i + d i))) (upd fmf (mc i) (nI (er n jb mc d pl st i + d i))) (upd fwl (mc i) (fwl (mc i) - nI (d i))) (upd fwt (mc i) (fwt (mc i) ^^^ ((1 : Int32) <<< (nI i &&& 31)))) := by
  obtain ⟨S, hj, hm, hd, hx, ha, hh, ht, hth, htt⟩ := F
  obtain ⟨r1, r2, r3, r4, r5, r6, r7, r8, r9⟩ := R
  have hn := S.1
  have hdi := S.2.2.2.2.1 i hi
  have b2 := S.2.2.2.1 i hi
  have pne : ∀ k, pl k = true → k ≠ i := fun k hk e => by rw [e, hp] at hk; cases hk
  have W0' := W0
  obtain ⟨w1, w2, w3, w4, w5, w6⟩ := W0
  -- when a job or machine is free
  have free : ∀ kx : Nat → Nat, jf n kx d pl st (kx i) ≤ er n jb mc d pl st i → jf n kx d (put pl i) (sts st i (er n jb mc d pl st i)) (kx i) = er n jb mc d pl st i + d i := by
    intro kx hle
    apply Nat.le_antisymm
    · refine mx_le n (fun k hk => ?_)
      by_cases q : put pl i k = true ∧ kx k = kx i
      · rw [if_pos q]
        by_cases e : k = i
        · subst e; unfold sts; rw [if_pos rfl]; exact Nat.le_refl _
        · have hpk : pl k = true := by
            have := q.1; unfold put at this
            simp only [Bool.or_eq_true, decide_eq_true_eq] at this
            exact this.resolve_right e
          have h1 := jf_ge (n := n) (jb := kx) (d := d) (st := st) hk hpk
          rw [q.2] at h1
          unfold sts; rw [if_neg e]; omega
      · rw [if_neg q]; exact Nat.zero_le _
    · exact jf_i hi
  refine ⟨fun k hk => ?_, (r2.xor (i := i) (by omega)).congr (fun k => ?_), fun k hk hpk => ?_, r4, fun j hj2 => ?_, fun j hj2 => ?_, fun m hm2 => ?_, fun m hm2 => ?_, fun m hm2 => ?_⟩
  · unfold put at hk
    simp only [Bool.or_eq_true, decide_eq_true_eq] at hk
    rcases hk with hk | rfl
    · exact r1 k hk
    · exact hi
  · unfold put
    by_cases e : k = i
    · subst e; simp [hp]
    · simp [e]
  · by_cases e : k = i
    · subst e; rw [pk_us]; unfold sts; rw [if_pos rfl]
    · rw [pk_un e]; unfold sts; rw [if_neg e]
      unfold put at hpk
      simp only [Bool.or_eq_true, decide_eq_true_eq] at hpk
      exact r3 k hk (hpk.resolve_right e)
  · by_cases e : j = jb i
    · subst e
      rw [pk_us]
      -- none behind i is placed
      have beh : ∀ k, i < k → k < n → jb k = jb i → pl k = false := fun k hk1 hk2 e => by
        cases q : pl k
        · rfl
        · have := w1 i k hi hk2 e.symm hk1 q
          rw [hp] at this; cases this
      have bef : ∀ k, k ≤ i → jb k = jb i → put pl i k = true := fun k hk e => by
        unfold put
        by_cases e2 : k = i
        · subst e2; simp
        · rw [hb k (by omega) e]; rfl
      rcases hx i hi with ⟨e1, e2⟩ | ⟨c, hc, e1⟩
      · refine Or.inr ⟨lst_no (fun k hk => ?_), e1⟩
        by_cases q : jb k = jb i
        · rcases Nat.lt_or_ge i k with q2 | q2
          · exfalso
            obtain ⟨c, hc, -⟩ := Nx.ex (jb := jb) hk q2 q.symm
            exact e2 c hc
          · simp [bef k q2 q]
        · simp [q]
      · have h1 : tn n jb (put pl i) (jb i) = c := by
          refine lst_of hc.2.1 ?_ (fun k hk => ?_)
          · have h2 := beh c hc.1 hc.2.1 hc.2.2.1
            have h3 : ¬ c = i := by have := hc.1; omega
            unfold put; simp [hc.2.2.1, h2, h3]
          · by_cases q : jb k = jb i
            · rcases Nat.lt_or_ge i k with q2 | q2
              · exact absurd q (hc.2.2.2 k q2 hk)
              · simp [bef k q2 q]
            · simp [q]
        rw [h1]
        exact Or.inl ⟨hc.2.1, e1⟩
    · rw [pk_un e]
      have h1 : tn n jb (put pl i) j = tn n jb pl j := by
        unfold tn
        congr 1
        funext k
        unfold put
        by_cases e2 : k = i
        · subst e2; simp [Ne.symm e]
        · simp [e2]
      rw [h1]; exact r5 j hj2
  · by_cases e : j = jb i
    · subst e; rw [pk_us, free jb (by unfold er; omega)]
    · rw [pk_un e, jf_ne (fun q => e q.symm)]; exact r6 j hj2
  · by_cases e : m = mc i
    · subst e; rw [pk_us, free mc (by unfold er; omega)]
    · rw [pk_un e, jf_ne (fun q => e q.symm)]; exact r7 m hm2
  · have h1 := wlf_eq (mc := mc) (d := d) hi hp m
    by_cases e : m = mc i
    · subst e
      rw [if_pos rfl] at h1
      rw [pk_us, r8 (mc i) b2, pk_sub (by omega)]
      congr 1; omega
    · rw [if_neg (fun q => e q.symm)] at h1
      rw [pk_un e, r8 m hm2, h1]; rfl
  · by_cases e : m = mc i
    · subst e
      rw [pk_us]
      refine ((r9 (mc i) b2).xor (i := i) (by omega)).congr (fun k => ?_)
      unfold put
      by_cases e2 : k = i
      · subst e2; simp [hi, hp]
      · simp [e2]
    · rw [pk_un e]
      refine (r9 m hm2).congr (fun k => ?_)
      unfold put
      by_cases e2 : k = i
      · subst e2; simp [Ne.symm e]
      · simp [e2]
