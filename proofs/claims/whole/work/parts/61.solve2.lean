theorem OR.congr {n : Nat} {mc P Q : Nat → Nat} {fo fs : Nat → Int32} (h : OR n mc P fo fs) (e : ∀ m, m < 4 → P m = Q m) : OR n mc Q fo fs := fun m hm => ⟨(h m hm).1, fun j hj => by
  rw [(h m hm).2 j hj]
  unfold Oo
  rw [e m hm]⟩
theorem sm600 {n nj : Nat} {jb mc d : Nat → Nat} {ar : Nat → Nat → Bool} (S : Shop n nj jb mc d ar) : sm d n ≤ 600 := by
  have h := sm_le (f := d) (b := 50) n (fun i hi => (S.2.2.2.2.1 i hi).2)
  have := S.1
  omega
/-- where solve stands -/
def Sv (n : Nat) (jb mc d : Nat → Nat) (ar : Nat → Nat → Bool) (x1 xp xl xc : Int32) (fst fo fs : Nat → Int32) (g : Nat) : Prop :=
  (∃ p0 p1 p2 p3, x1 = 1 ∧ okP n mc (Pf p0 p1 p2 p3) ∧ OR n mc (Pf p0 p1 p2 p3) fo fs ∧ Am n d (LQ n jb mc d ar p0 p1 p2 p3) xp xl xc fst ∧ g = (((24 - p3) * 25 + (24 - p2)) * 25 + (24 - p1)) * 25 + (24 - p0) + 1) ∨ (x1 = 0 ∧ g = 0 ∧ Am n d (LA n jb mc d ar) xp xl xc fst)
theorem c4of {m : Nat} (h : m < 4) : m = 0 ∨ m = 1 ∨ m = 2 ∨ m = 3 := by omega
set_option maxHeartbeats 4000000 in
theorem sp_X3_solve {n nj : Nat} {jb mc d : Nat → Nat} {ar : Nat → Nat → Bool} {fj fm fd fb fst fh fch fo fs : Nat → Int32} {xp xl xc : Int32} {post : Int32 → Int32 → Int32 → Int32 → (Nat → Int32) → (Nat → Int32) → (Nat → Int32) → (Nat → Int32) → (Nat → Int32) → Prop} (S : Shop n nj jb mc d ar) (hj : Tb n fj jb) (hm : Tb n fm mc) (hd : Tb n fd d) (hM : MT ar fb)
    (hp : ∀ l c p fst fh fch fo fs, l ≤ 600 → Tb n fst p → Rs n d (LA n jb mc d ar) l c p → post (nI l) 1 (nI l) (nI c) fst fh fch fo fs) : wp_X3_solve (nI n) xp xl xc fj fm fd fb fst fh fch fo fs post := by
  have hn := S.1
  have hsz : ∀ m, sz n mc m < 5 := fun m => sz_bd S
  have hdb := S.2.2.2.2.1
  have hjb : ∀ i, i < n → jb i < 4 := fun i hi => by
    have h1 := S.2.2.1 i hi
    have h2 := S.2.1
    omega
  have e4 : (4 : Int32) = nI 4 := rfl
  unfold wp_X3_solve
  refine ⟨fun x fo fs => ∃ m, x = nI m ∧ m ≤ 4 ∧ ∀ a, a < m → fs a = nI (sz n mc a) ∧ ∀ j, j < sz n mc a → fo (4 * a + j) = nI (op n mc a j), fun x _ _ => 4 - x.toNatClampNeg, ⟨0, rfl, by omega, fun a ha => absurd ha (by omega)⟩, ?_⟩
  rintro _ fo1 fs1 ⟨m, rfl, hm4, hl⟩
  refine ⟨fun q => ?_, fun q => ?_⟩
  · rw [e4, nI_leI (by omega) (by omega)] at q
    refine ⟨fun x1 xp xl xc fst _ _ fo fs => ∃ g, Sv n jb mc d ar x1 xp xl xc fst fo fs g, fun x1 xp xl xc fst _ _ fo fs => lg (Sv n jb mc d ar x1 xp xl xc fst fo fs), ⟨_, Or.inl ⟨0, 0, 0, 0, rfl, fun a ha => ?_, fun a ha => ?_, Or.inl ⟨LQ_z, rfl⟩, rfl⟩⟩, ?_⟩
    · have h1 : Pf 0 0 0 0 a = 0 := by rcases c4of ha with rfl | rfl | rfl | rfl <;> rfl
      rw [h1]
      have := (fc_bd _ (hsz a)).1
      omega
    · have h1 : Pf 0 0 0 0 a = 0 := by rcases c4of ha with rfl | rfl | rfl | rfl <;> rfl
      refine ⟨(hl a (by omega)).1, fun j hj => ?_⟩
      rw [(hl a (by omega)).2 j hj]
      unfold Oo
      rw [h1, pm_id _ (hsz a) j hj]
    · intro x1 xp xl xc fst fh fch fo fs hI
      have hg := lg_spec hI
      have fin : ∀ y1 yp yl yc gst gh gch go gs, (∃ g', g' < lg (Sv n jb mc d ar x1 xp xl xc fst fo fs) ∧ Sv n jb mc d ar y1 yp yl yc gst go gs g') → (∃ g, Sv n jb mc d ar y1 yp yl yc gst go gs g) ∧ (fun x1 xp xl xc fst (_ _ : Nat → Int32) fo fs => lg (Sv n jb mc d ar x1 xp xl xc fst fo fs)) y1 yp yl yc gst gh gch go gs < (fun x1 xp xl xc fst (_ _ : Nat → Int32) fo fs => lg (Sv n jb mc d ar x1 xp xl xc fst fo fs)) x1 xp xl xc fst fh fch fo fs := by
        rintro y1 yp yl yc gst gh gch go gs ⟨g', h1, h2⟩
        exact ⟨⟨g', h2⟩, Nat.lt_of_le_of_lt (lg_le h2) h1⟩
      generalize lg (Sv n jb mc d ar x1 xp xl xc fst fo fs) = g at hg fin
      rcases hg with ⟨p0, p1, p2, p3, rfl, hok, hO, hA, eg⟩ | ⟨rfl, eg, hA⟩
      · refine ⟨fun q2 => absurd q2 (by decide), fun _ => ?_⟩
        have nacc : ¬ accP n jb mc d ar (Pf p0 p1 p2 p3) → LQ n jb mc d ar p0 p1 p2 p3 ++ gg n jb mc d ar (Pf p0 p1 p2 p3) = LQ n jb mc d ar p0 p1 p2 p3 := fun h => by
          unfold gg; rw [if_neg h, List.append_nil]
        have l0 : p0 < fc (sz n mc 0) := hok 0 (by omega)
        have l1 : p1 < fc (sz n mc 1) := hok 1 (by omega)
        have l2 : p2 < fc (sz n mc 2) := hok 2 (by omega)
        have l3 : p3 < fc (sz n mc 3) := hok 3 (by omega)
        have b0 := (fc_bd _ (hsz 0))
        have b1 := (fc_bd _ (hsz 1))
        have b2 := (fc_bd _ (hsz 2))
        have b3 := (fc_bd _ (hsz 3))
        -- after choose, the next order
        have stp : ∀ (fch2 : Nat → Int32) (r : Int32), ((r = 0 ∧ ¬ accP n jb mc d ar (Pf p0 p1 p2 p3)) ∨ (r = 1 ∧ MT (chP n mc (Pf p0 p1 p2 p3)) fch2 ∧ ∀ i k, ar i k = true → chP n mc (Pf p0 p1 p2 p3) i k = true)) → (r = 0 → Am n d (LQ n jb mc d ar p0 p1 p2 p3 ++ gg n jb mc d ar (Pf p0 p1 p2 p3)) xp xl xc fst) ∧ (¬ r = 0 → wp_X3_findHeads (nI n) fj fd fh fch2 (fun (r_41 : Int32) (M_heads_41 : Nat → Int32) => (r_41 = 0 → Am n d (LQ n jb mc d ar p0 p1 p2 p3 ++ gg n jb mc d ar (Pf p0 p1 p2 p3)) xp xl xc fst) ∧ (¬ r_41 = 0 → wp_X3_weigh (nI n) xp xl xc fd fst M_heads_41 (fun (yp yl yc : Int32) (gst : Nat → Int32) => Am n d (LQ n jb mc d ar p0 p1 p2 p3 ++ gg n jb mc d ar (Pf p0 p1 p2 p3)) yp yl yc gst)))) := by
          intro fch2 r hr
          rcases hr with ⟨e, h⟩ | ⟨e, hC, hsub⟩
          · exact ⟨fun _ => by rw [nacc h]; exact hA, fun q => absurd e q⟩
          · refine ⟨fun q => absurd q (by rw [e]; decide), fun _ => sp_X3_findHeads hn hj hjb hd hdb hC (fun a h => ?_) (fun fh' hs hIs ht => ⟨fun q => absurd q (by decide), fun _ => ?_⟩) (fun fh' h => ⟨fun _ => ?_, fun q => absurd rfl q⟩)⟩
            · rcases h with h | h
              · exact (chP_in S hok h).2.2.1 rfl
              · have := h.1; omega
            · have hacc : accP n jb mc d ar (Pf p0 p1 p2 p3) := ⟨hsub, hs, hIs⟩
              have hH := hdP_spec hacc.2
              have hG := Gd.of S hok hsub hH
              have h1 := Gd.span S hG
              have h2 := sm600 S
              refine sp_X3_weigh hn hd (ht.congr (hIs.uniq (fun i hi => (hdb i hi).1) hH)) (fun i hi => ?_) hA (fun yp yl yc gst h => ?_)
              · have : hdP n jb mc d (Pf p0 p1 p2 p3) i + d i ≤ spn n d (hdP n jb mc d (Pf p0 p1 p2 p3)) := mx_ge (f := fun i => hdP n jb mc d (Pf p0 p1 p2 p3) i + d i) n i hi
                omega
              · unfold gg; rw [if_pos hacc]; exact h
            · rw [nacc (fun e => h ⟨_, (Classical.choose_spec e.2).1⟩)]; exact hA
        have go : ∀ (yp yl yc : Int32) (gst : Nat → Int32) (A B : (Nat → Int32) → (Nat → Int32) → Prop), Am n d (LQ n jb mc d ar p0 p1 p2 p3 ++ gg n jb mc d ar (Pf p0 p1 p2 p3)) yp yl yc gst → (∀ go gs, (∃ g', g' < g ∧ Sv n jb mc d ar 0 yp yl yc gst go gs g') → A go gs) → (∀ go gs, (∃ g', g' < g ∧ Sv n jb mc d ar 1 yp yl yc gst go gs g') → B go gs) →
            ∃ (I_53 : Int32 → (Nat → Int32) → (Nat → Int32) → Prop) (μ_53 : Int32 → (Nat → Int32) → (Nat → Int32) → Nat), I_53 0 fo fs ∧ ∀ (x2 : Int32) (go gs : Nat → Int32), I_53 x2 go gs → ((4 ≤ x2 → (4 ≤ x2 → A go gs) ∧ (¬ 4 ≤ x2 → B go gs)) ∧ (¬ 4 ≤ x2 → wp_X3_nextOrder (nI n) fm go gs x2 (fun r go' gs' => (¬ r = 0 → (4 ≤ x2 → A go' gs') ∧ (¬ 4 ≤ x2 → B go' gs')) ∧ (r = 0 → I_53 (x2 + 1) go' gs' ∧ μ_53 (x2 + 1) go' gs' < μ_53 x2 go gs)))) := by
          intro yp yl yc gst A B hY fA fB
          rw [LQ_n] at hY
          refine ⟨fun x go gs => ∃ m, x = nI m ∧ m ≤ 4 ∧ OR n mc (fun a => if a < m then 0 else Pf p0 p1 p2 p3 a) go gs ∧ ∀ a, a < m → Pf p0 p1 p2 p3 a + 1 = fc (sz n mc a), fun x _ _ => 4 - x.toNatClampNeg, ⟨0, rfl, by omega, hO.congr (fun a ha => by rw [if_neg (by omega)]), fun a ha => absurd ha (by omega)⟩, ?_⟩
          rintro _ go gs ⟨m, rfl, hm1, hO1, hmax⟩
          refine ⟨fun q2 => ⟨fun _ => fA _ _ ?_, fun q3 => absurd q2 q3⟩, fun q2 => ?_⟩
          · rw [e4, nI_leI (by omega) (by omega)] at q2
            have x0 : p0 + 1 = fc (sz n mc 0) := hmax 0 (by omega)
            have x1 : p1 + 1 = fc (sz n mc 1) := hmax 1 (by omega)
            have x2 : p2 + 1 = fc (sz n mc 2) := hmax 2 (by omega)
            have x3 : p3 + 1 = fc (sz n mc 3) := hmax 3 (by omega)
            rw [x0, LQ_c1, x1, LQ_c2, x2, LQ_c3, x3, LQ_c4] at hY
            exact ⟨0, by omega, Or.inr ⟨rfl, rfl, hY⟩⟩
          · have q2' := q2
            rw [e4, nI_leI (by omega) (by omega)] at q2
            have hm2 : m < 4 := by omega
            have hok1 : okP n mc (fun a => if a < m then 0 else Pf p0 p1 p2 p3 a) := fun a ha => by
              dsimp only
              by_cases q3 : a < m
              · rw [if_pos q3]; have := (fc_bd _ (hsz a)).1; omega
              · rw [if_neg q3]; exact hok a ha
            have em : (if m < m then 0 else Pf p0 p1 p2 p3 m) = Pf p0 p1 p2 p3 m := if_neg (Nat.lt_irrefl m)
            refine sp_X3_nextOrder S hm hm2 hok1 hO1 (fun hlt go' hO2 => ⟨fun _ => ⟨fun q4 => absurd q4 q2', fun _ => fB _ _ ?_⟩, fun q3 => absurd q3 (by decide)⟩) (fun hlast go' gs' hO2 => ⟨fun q3 => absurd rfl q3, fun _ => ⟨⟨m + 1, nI_1 m, by omega, hO2.congr (fun a ha => ?_), fun a ha => ?_⟩, pz_mu hm2 (by omega)⟩⟩)
            · rw [em] at hlt hO2
              rcases c4of hm2 with rfl | rfl | rfl | rfl
              · have hlt' : p0 + 1 < fc (sz n mc 0) := hlt
                refine ⟨_, ?_, Or.inl ⟨p0 + 1, p1, p2, p3, rfl, fun a ha => ?_, hO2.congr (fun a ha => ?_), hY, rfl⟩⟩
                · omega
                · rcases c4of ha with rfl | rfl | rfl | rfl
                  · exact hlt'
                  · exact l1
                  · exact l2
                  · exact l3
                · rcases c4of ha with rfl | rfl | rfl | rfl <;> rfl
              · have hlt' : p1 + 1 < fc (sz n mc 1) := hlt
                have x0 : p0 + 1 = fc (sz n mc 0) := hmax 0 (by omega)
                rw [x0, LQ_c1] at hY
                refine ⟨_, ?_, Or.inl ⟨0, p1 + 1, p2, p3, rfl, fun a ha => ?_, hO2.congr (fun a ha => ?_), hY, rfl⟩⟩
                · omega
                · rcases c4of ha with rfl | rfl | rfl | rfl
                  · exact b0.1
                  · exact hlt'
                  · exact l2
                  · exact l3
                · rcases c4of ha with rfl | rfl | rfl | rfl <;> rfl
              · have hlt' : p2 + 1 < fc (sz n mc 2) := hlt
                have x0 : p0 + 1 = fc (sz n mc 0) := hmax 0 (by omega)
                have x1 : p1 + 1 = fc (sz n mc 1) := hmax 1 (by omega)
                rw [x0, LQ_c1, x1, LQ_c2] at hY
                refine ⟨_, ?_, Or.inl ⟨0, 0, p2 + 1, p3, rfl, fun a ha => ?_, hO2.congr (fun a ha => ?_), hY, rfl⟩⟩
                · omega
                · rcases c4of ha with rfl | rfl | rfl | rfl
                  · exact b0.1
                  · exact b1.1
                  · exact hlt'
                  · exact l3
                · rcases c4of ha with rfl | rfl | rfl | rfl <;> rfl
              · have hlt' : p3 + 1 < fc (sz n mc 3) := hlt
                have x0 : p0 + 1 = fc (sz n mc 0) := hmax 0 (by omega)
                have x1 : p1 + 1 = fc (sz n mc 1) := hmax 1 (by omega)
                have x2 : p2 + 1 = fc (sz n mc 2) := hmax 2 (by omega)
                rw [x0, LQ_c1, x1, LQ_c2, x2, LQ_c3] at hY
                refine ⟨_, ?_, Or.inl ⟨0, 0, 0, p3 + 1, rfl, fun a ha => ?_, hO2.congr (fun a ha => ?_), hY, rfl⟩⟩
                · omega
                · rcases c4of ha with rfl | rfl | rfl | rfl
                  · exact b0.1
                  · exact b1.1
                  · exact b2.1
                  · exact hlt'
                · rcases c4of ha with rfl | rfl | rfl | rfl <;> rfl
            · by_cases q3 : a = m
              · subst q3; rw [if_pos rfl, if_pos (by omega)]
              · rw [if_neg q3]
                by_cases q4 : a < m
                · rw [if_pos q4, if_pos (by omega)]
                · rw [if_neg q4, if_neg (by omega)]
            · by_cases q3 : a = m
              · subst q3; rw [em] at hlast; exact hlast
              · exact hmax a (by omega)
        refine sp_X3_choose S hM hok hO (fun fc2 h1 h2 => ?_) (fun fc2 h => ?_)
        · exact ⟨fun yp yl yc gst gh => Am n d (LQ n jb mc d ar p0 p1 p2 p3 ++ gg n jb mc d ar (Pf p0 p1 p2 p3)) yp yl yc gst, fun yp yl yc gst gh hY => go yp yl yc gst _ _ hY (fun go gs h => fin _ _ _ _ _ gh fc2 _ _ h) (fun go gs h => fin _ _ _ _ _ gh fc2 _ _ h), stp fc2 1 (Or.inr ⟨rfl, h1, h2⟩)⟩
        · exact ⟨fun yp yl yc gst gh => Am n d (LQ n jb mc d ar p0 p1 p2 p3 ++ gg n jb mc d ar (Pf p0 p1 p2 p3)) yp yl yc gst, fun yp yl yc gst gh hY => go yp yl yc gst _ _ hY (fun go gs h => fin _ _ _ _ _ gh fc2 _ _ h) (fun go gs h => fin _ _ _ _ _ gh fc2 _ _ h), stp fc2 0 (Or.inl ⟨rfl, fun e => h e.1⟩)⟩
      · refine ⟨fun _ => ?_, fun q2 => absurd rfl q2⟩
        rcases hA with ⟨e, -⟩ | ⟨rfl, l, c, p, rfl, rfl, ht, hl, hR⟩
        · exact absurd e (LA.ne S)
        · exact hp l c p fst fh fch fo fs hl ht hR
  · rw [e4, nI_leI (by omega) (by omega)] at q
    refine sp_X3_layFirst S hm (by omega) (fun fo' fs' k1 k2 k3 k4 => ⟨⟨m + 1, nI_1 m, by omega, fun a ha => ?_⟩, pz_mu (by omega) (by omega)⟩)
    by_cases e : a = m
    · subst e; exact ⟨k1, k3⟩
    · refine ⟨by rw [k2 a e]; exact (hl a (by omega)).1, fun j hj => ?_⟩
      have := hsz a
      rw [k4 _ (by omega)]; exact (hl a (by omega)).2 j hj
