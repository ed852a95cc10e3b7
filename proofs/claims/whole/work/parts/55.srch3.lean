/-! Search: extend -/
theorem sm_rng {f : Nat → Nat} {a : Nat} : ∀ b, a ≤ b → sm f a ≤ sm f b
  | 0, h => by rw [show a = 0 by omega]; exact Nat.le_refl _
  | b + 1, h => by
    by_cases e : a = b + 1
    · rw [e]; exact Nat.le_refl _
    · have := sm_rng (f := f) b (show a ≤ b by omega)
      show _ ≤ sm f b + f b
      omega
theorem fl_len {β : Type} (f : Nat → List β) : ∀ m, ((List.range m).flatMap f).length = sm (fun j => (f j).length) m
  | 0 => rfl
  | m + 1 => by
    rw [List.range_succ, List.flatMap_append, List.length_append, fl_len f m]
    show _ = sm _ m + _
    simp
theorem fl_succ {β : Type} (f : Nat → List β) (m : Nat) : (List.range (m + 1)).flatMap f = (List.range m).flatMap f ++ f m := by
  rw [List.range_succ, List.flatMap_append]; simp
theorem Gd.span {n nj : Nat} {jb mc d s : Nat → Nat} {ar : Nat → Nat → Bool} (S : Shop n nj jb mc d ar) (hG : Gd n jb mc d ar s) : spn n d s ≤ sm d n := by
  refine mx_le n (fun i hi => ?_)
  exact IsH.end_le (E := fun a b => Nx n jb a b ∨ (mc a = mc b ∧ a ≠ b)) (fun i hi => (S.2.2.2.2.1 i hi).1) hG.2.2 hi
/-- what is below a job's turn -/
noncomputable def lvj (n nj : Nat) (jb mc d : Nat → Nat) (ar : Nat → Nat → Bool) (k : Nat) (pl : Nat → Bool) (st : Nat → Nat) (lt li j : Nat) : List (Nat → Nat) := @ite _ (okc n jb mc d ar pl st lt li (tn n jb pl j)) (Classical.propDecidable _) (lv n nj jb mc d ar k (put pl (tn n jb pl j)) (sts st (tn n jb pl j) (er n jb mc d pl st (tn n jb pl j))) (er n jb mc d pl st (tn n jb pl j)) (tn n jb pl j + 1)) []
theorem lv_s (n nj : Nat) (jb mc d : Nat → Nat) (ar : Nat → Nat → Bool) (k : Nat) (pl : Nat → Bool) (st : Nat → Nat) (lt li : Nat) : lv n nj jb mc d ar (k + 1) pl st lt li = (List.range nj).flatMap (lvj n nj jb mc d ar k pl st lt li) := rfl
theorem lvj_no {n nj k lt li j : Nat} {jb mc d : Nat → Nat} {ar : Nat → Nat → Bool} {pl : Nat → Bool} {st : Nat → Nat} (h : ¬ okc n jb mc d ar pl st lt li (tn n jb pl j)) : lvj n nj jb mc d ar k pl st lt li j = [] := by
  unfold lvj; rw [if_neg h]
theorem lvj_ok {n nj k lt li j : Nat} {jb mc d : Nat → Nat} {ar : Nat → Nat → Bool} {pl : Nat → Bool} {st : Nat → Nat} (h : okc n jb mc d ar pl st lt li (tn n jb pl j)) : lvj n nj jb mc d ar k pl st lt li j = lv n nj jb mc d ar k (put pl (tn n jb pl j)) (sts st (tn n jb pl j) (er n jb mc d pl st (tn n jb pl j))) (er n jb mc d pl st (tn n jb pl j)) (tn n jb pl j + 1) := by
  unfold lvj; rw [if_pos h]
set_option maxHeartbeats 4000000 in
theorem sp_X1_extend {n nj : Nat} {jb mc d hs ts : Nat → Nat} {ar : Nat → Nat → Bool} {fj fm fd fn fa fh ft fne : Nat → Int32} (F : Fl n nj jb mc d hs ts ar fj fm fd fn fa fh ft) : ∀ (f k : Nat), k < f → ∀ (pl : Nat → Bool) (st : Nat → Nat) (lt li : Nat) (xp xl : Int32) (fpl fs ftu fjf fmf fwl fwt : Nat → Int32) (P : List (Nat → Nat)) (l c : Nat) (p : Nat → Nat) (post : Int32 → Int32 → Int32 → (Nat → Int32) → (Nat → Int32) → (Nat → Int32) → (Nat → Int32) → (Nat → Int32) → (Nat → Int32) → (Nat → Int32) → Prop),
    WF n jb mc d ar pl st lt li → SR n nj jb mc d ar pl st xp fs fne ftu fjf fmf fwl fwt → lf n pl = k → lt ≤ 600 → LI xl li → Ac n d (sm d n) P l c p → l ≤ sm d n → (c = 0 ∨ Tb n fpl p) → P.length + (lv n nj jb mc d ar k pl st lt li).length ≤ 2 ^ 30 →
    (∀ l' c' p' fpl' fs', Ac n d (sm d n) (P ++ lv n nj jb mc d ar k pl st lt li) l' c' p' → l' ≤ sm d n → (c' = 0 ∨ Tb n fpl' p') → (∀ i, i < n → pl i = true → fs' i = fs i) → post (nI l') (nI c') xp fpl' fs' ftu fjf fmf fwl fwt) →
    wp_X1_extend f (nI l) (nI c) xp fpl fs fne ftu fjf fmf fwl fwt (nI nj) (nI n) fj fm fd fn fa fh ft (nI (n - k)) (nI lt) xl post := by
  intro f
  induction f with
  | zero => intro k hk; omega
  | succ f ihf =>
    intro k hk pl st lt li xp xl fpl fs ftu fjf fmf fwl fwt P l c p post W0 R hlf hlt hli hA hl hp hlen hpost
    have F0 := F
    have R0 := R
    obtain ⟨S, hj, hm, hd, hx, ha, hh, ht, hth, htt⟩ := F
    obtain ⟨r1, r2, r3, r4, r5, r6, r7, r8, r9⟩ := R
    have hn := S.1
    have hnj := S.2.1
    have hsum := S.sum
    have hkn : k ≤ n := by rw [← hlf]; exact cn_bd _ n
    rw [wp_X1_extend]
    refine ⟨fun q => ?_, fun q => ?_⟩
    · rw [nI_ltI (by omega) (by omega)] at q
      obtain ⟨k', rfl⟩ : ∃ k', k = k' + 1 := ⟨k - 1, by omega⟩
      refine sp_X1_isHopeless F0 W0 R0 hlf hlt hli (by omega) (fun hlong => ⟨fun e => absurd e (by decide), fun _ => ?_⟩) ⟨fun _ => ?_, fun e => absurd rfl e⟩
      · exact hpost l c p fpl fs (Ac.worse _ P hA hlong (fun s hs1 => (lv_props S _ pl st lt li W0 hlf s hs1).1.span S)) hl hp (fun _ _ _ => rfl)
      · rw [lv_s] at hlen hpost
        rw [fl_len] at hlen
        refine ⟨fun x4 xl' xc' xp' fpl' fs' tu' jf' mf' wl' wt' => ∃ j l c p, x4 = nI j ∧ j ≤ nj ∧ xl' = nI l ∧ xc' = nI c ∧ xp' = xp ∧ tu' = ftu ∧ jf' = fjf ∧ mf' = fmf ∧ wl' = fwl ∧ wt' = fwt ∧ Ac n d (sm d n) (P ++ (List.range j).flatMap (lvj n nj jb mc d ar k' pl st lt li)) l c p ∧ l ≤ sm d n ∧ (c = 0 ∨ Tb n fpl' p) ∧ (∀ i, i < n → pl i = true → fs' i = fs i), fun x4 _ _ _ _ _ _ _ _ _ _ => nj - x4.toNatClampNeg, ⟨0, l, c, p, rfl, by omega, rfl, rfl, rfl, rfl, rfl, rfl, rfl, rfl, by simpa using hA, hl, hp, fun _ _ _ => rfl⟩, ?_⟩
        rintro _ _ _ xp' fpl1 fs1 tu' jf' mf' wl' wt' ⟨j, l1, c1, p1, rfl, hj1, rfl, rfl, rfl, rfl, rfl, rfl, rfl, rfl, hA1, hl1, hp1, hfs1⟩
        refine ⟨fun q2 => ?_, fun q2 => ?_⟩
        · rw [nI_leI (by omega) (by omega)] at q2
          have e : j = nj := by omega
          subst e
          exact hpost l1 c1 p1 fpl1 fs1 hA1 hl1 hp1 hfs1
        · rw [nI_leI (by omega) (by omega)] at q2
          have hj2 : j < nj := by omega
          have skip : ¬ okc n jb mc d ar pl st lt li (tn n jb pl j) → (∃ j' l c p, nI j + 1 = nI j' ∧ j' ≤ nj ∧ nI l1 = nI l ∧ nI c1 = nI c ∧ xp' = xp' ∧ tu' = tu' ∧ jf' = jf' ∧ mf' = mf' ∧ wl' = wl' ∧ wt' = wt' ∧ Ac n d (sm d n) (P ++ (List.range j').flatMap (lvj n nj jb mc d ar k' pl st lt li)) l c p ∧ l ≤ sm d n ∧ (c = 0 ∨ Tb n fpl1 p) ∧ (∀ i, i < n → pl i = true → fs1 i = fs i)) ∧ nj - (nI j + 1).toNatClampNeg < nj - (nI j).toNatClampNeg := by
            intro hno
            refine ⟨⟨j + 1, l1, c1, p1, nI_1 j, by omega, rfl, rfl, rfl, rfl, rfl, rfl, rfl, rfl, ?_, hl1, hp1, hfs1⟩, pz_mu hj2 (by omega)⟩
            rw [fl_succ, lvj_no hno, List.append_nil]; exact hA1
          rw [nI_clamp (n := j) (by omega)]
          refine ⟨pz_inc (by omega) (by omega), ?_⟩
          rcases r5 j hj2 with ⟨t1, e⟩ | ⟨t1, e⟩
          · rw [e]
            obtain ⟨u1, u2, u3⟩ := tn_spec t1
            generalize hti : tn n jb pl j = i at *
            have ub : ∀ a, a < i → jb a = jb i → pl a = true := fun a ha e => u3 a ha (by rw [e, u1])
            refine sp_X0_isOperation hn (fun _ => ⟨fun e => absurd e (by decide), fun _ => ?_⟩) (fun ho => absurd ⟨_, t1, rfl⟩ ho)
            obtain ⟨ne, hne, e1, hneb⟩ := r4 i t1
            obtain ⟨xpm, hxpm, e2, hxpb⟩ := r2
            obtain ⟨cc, hcc, e3, hccb⟩ := pz_andn (a := ne) (b := xpm) hne hxpm
            have key : fne i &&& (xp' ^^^ (-1)) = nI cc := by rw [e1, e2, e3]
            rw [nI_clamp (n := i) (by omega), key]
            have needs : nI cc = 0 ↔ ∀ a, a < n → ar a i = true → pl a = true := by
              rw [pz_z hcc]
              constructor
              · intro h a ha2 hai
                have h2 := h a
                rw [hccb, hneb, hxpb] at h2
                simp only [hai, Bool.true_and, Bool.not_eq_false'] at h2
                exact h2
              · intro h a
                rw [hccb, hneb, hxpb]
                show (ar a i && !pl a) = false
                cases hai : ar a i
                · rfl
                · rw [h a (S.2.2.2.2.2.2.1 a i hai).1 hai]; rfl
            refine ⟨pz_inc (by omega) (by omega), fun q3 => skip (fun hok => q3 (needs.mpr hok.2.1)), fun q3 => ?_⟩
            refine sp_X1_isPassed S W0 hj hm r6 r7 t1 hlt hli (fun hps => ⟨fun _ => skip (fun hok => hok.2.2 hps), fun e => absurd e (by decide)⟩) (fun hps => ⟨fun e => absurd rfl e, fun _ => ?_⟩)
            have hok : okc n jb mc d ar pl st lt li i := ⟨t1, needs.mp q3, hps⟩
            -- the placing
            have W1 := W0.step S hok u2 ub
            have R1 : SR n nj jb mc d ar pl st xp' fs1 fne tu' jf' mf' wl' wt' := ⟨r1, ⟨xpm, hxpm, e2, hxpb⟩, fun a ha2 hpa => by rw [hfs1 a ha2 hpa]; exact r3 a ha2 hpa, r4, r5, r6, r7, r8, r9⟩
            have R2 := SR.place F0 W0 R1 t1 u2 ub
            have b1 := S.2.2.1 i t1
            have b2 := S.2.2.2.1 i t1
            have c1e := W0.er S i
            have hlf2 : lf n (put pl i) = k' := by have := lf_put t1 u2; omega
            have ifj : vp_in (nI (jb i)) 4 := pz_inc (by omega) (by omega)
            have ifm : vp_in (nI (mc i)) 4 := pz_inc (by omega) (by omega)
            have ii : vp_in (nI i) 12 := pz_inc (by omega) (by omega)
            have hlv : lvj n nj jb mc d ar k' pl st lt li j = lv n nj jb mc d ar k' (put pl i) (sts st i (er n jb mc d pl st i)) (er n jb mc d pl st i) (i + 1) := by
              have h2 := lvj_ok (nj := nj) (k := k') (j := j) (lt := lt) (li := li) (jb := jb) (mc := mc) (d := d) (ar := ar) (pl := pl) (st := st) (n := n) (by rw [hti]; exact hok)
              rw [hti] at h2; exact h2
            unfold wp_X1_place
            rw [hj.get t1 (by omega), hm.get t1 (by omega), hd.get t1 (by omega), nI_clamp (n := jb i) (by omega), nI_clamp (n := mc i) (by omega), nI_clamp (n := i) (by omega)]
            refine ⟨ii, ii, ifj, ifm, sp_X1_earliest S W0 hj hm r6 r7 t1 ⟨ii, ii, ifj, ii, ifj, ii, ifm, ifm, ii, ifm, ifm, ifm, ?_⟩⟩
            rw [nI_add, nI_1, show n - (k' + 1) + 1 = n - k' by omega]
            refine ihf k' (by omega) (put pl i) (sts st i (er n jb mc d pl st i)) (er n jb mc d pl st i) (i + 1) _ (nI i) fpl1 _ _ _ _ _ _ (P ++ (List.range j).flatMap (lvj n nj jb mc d ar k' pl st lt li)) l1 c1 p1 _ W1 R2 hlf2 (by omega) (Or.inr ⟨i, rfl, by omega, rfl⟩) hA1 hl1 hp1 ?_ (fun l2 c2 p2 fpl2 fs2 hA2 hl2 hp2 hfs2 => ⟨ifm, ifm, ifm, ii, ifm, ifm, ifj, ifj, ?_⟩)
            · rw [List.length_append, fl_len]
              have h2 := sm_rng (f := fun j => (lvj n nj jb mc d ar k' pl st lt li j).length) (a := j + 1) nj (by omega)
              have h3 : sm (fun j => (lvj n nj jb mc d ar k' pl st lt li j).length) (j + 1) = sm (fun j => (lvj n nj jb mc d ar k' pl st lt li j).length) j + (lvj n nj jb mc d ar k' pl st lt li j).length := rfl
              rw [hlv] at h3
              omega
            · have x1 : (xp' ^^^ ((1 : Int32) <<< (nI i &&& 31))) ^^^ ((1 : Int32) <<< (nI i &&& 31)) = xp' := i32_xx _ _
              have x2 : upd (upd tu' (jb i) (fn i)) (jb i) (nI i) = tu' := upd_back (by rw [u1]; exact e)
              have x3 : upd (upd jf' (jb i) (nI (er n jb mc d pl st i + d i))) (jb i) (jf' (jb i)) = jf' := upd_back rfl
              have x4 : upd (upd mf' (mc i) (nI (er n jb mc d pl st i + d i))) (mc i) (mf' (mc i)) = mf' := upd_back rfl
              have x5 : upd (upd wl' (mc i) (wl' (mc i) - nI (d i))) (mc i) ((upd wl' (mc i) (wl' (mc i) - nI (d i))) (mc i) + nI (d i)) = wl' := by
                rw [pk_us, i32_sa]; exact upd_back rfl
              have x6 : upd (upd wt' (mc i) (wt' (mc i) ^^^ ((1 : Int32) <<< (nI i &&& 31)))) (mc i) ((upd wt' (mc i) (wt' (mc i) ^^^ ((1 : Int32) <<< (nI i &&& 31)))) (mc i) ^^^ ((1 : Int32) <<< (nI i &&& 31))) = wt' := by
                rw [pk_us, i32_xx]; exact upd_back rfl
              rw [x1, x2, x3, x4, x5, x6]
              refine ⟨⟨j + 1, l2, c2, p2, nI_1 j, by omega, rfl, rfl, rfl, rfl, rfl, rfl, rfl, rfl, ?_, hl2, hp2, fun a ha2 hpa => ?_⟩, pz_mu hj2 (by omega)⟩
              · rw [fl_succ, hlv, ← List.append_assoc]; exact hA2
              · have hne2 : a ≠ i := fun e => by rw [e, u2] at hpa; cases hpa
                rw [hfs2 a ha2 (by unfold put; rw [hpa]; rfl), pk_un hne2]
                exact hfs1 a ha2 hpa
          · rw [e]
            refine sp_X0_isOperation hn (fun ho => ?_) (fun _ => ⟨fun _ => skip (fun hok => ?_), fun e => absurd rfl e⟩)
            · obtain ⟨x, hx1, hx2⟩ := ho
              exact absurd hx2.symm (pz_ne1 (by omega))
            · have := hok.1; omega
    · rw [nI_ltI (by omega) (by omega)] at q
      have hk0 : k = 0 ∨ n = 0 := by omega
      have hk0 : k = 0 := by omega
      subst hk0
      have all := lf_zero hlf
      have hts : Tb n fs st := fun i hi => r3 i hi (all i hi)
      have hsp : spn n d st ≤ sm d n := mx_le n (fun i hi => W0.end S hi (all i hi))
      have hl1 : P.length + 1 ≤ 2 ^ 30 := hlen
      exact sp_X1_keep hn hd (fun i hi => (S.2.2.2.2.1 i hi).2) hts hsum hsp hA hl hp hl1 (fun l' c' p' fp' k1 k2 k3 => hpost l' c' p' fp' fs k1 k2 k3 (fun _ _ _ => rfl))
