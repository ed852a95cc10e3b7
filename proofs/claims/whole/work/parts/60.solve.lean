/-! The reference's solve: all orders, one after the other -/
noncomputable def lg (P : Nat → Prop) : Nat := @dite _ (∃ k, P k) (Classical.propDecidable _) (fun h => Classical.choose (pk_least P h)) (fun _ => 0)
theorem lg_spec {P : Nat → Prop} (h : ∃ k, P k) : P (lg P) := by
  unfold lg
  rw [dif_pos h]
  exact (Classical.choose_spec (pk_least P h)).1
theorem lg_le {P : Nat → Prop} {k : Nat} (h : P k) : lg P ≤ k := by
  have h1 : ∃ k, P k := ⟨k, h⟩
  unfold lg
  rw [dif_pos h1]
  rcases Nat.lt_or_ge k (Classical.choose (pk_least P h1)) with q | q
  · exact absurd h ((Classical.choose_spec (pk_least P h1)).2 k q)
  · exact q
def Pf (q0 q1 q2 q3 : Nat) : Nat → Nat := fun m => if m = 0 then q0 else if m = 1 then q1 else if m = 2 then q2 else q3
noncomputable def hdP (n : Nat) (jb mc d P : Nat → Nat) : Nat → Nat := @dite _ (∃ h, IsH n (Ed n jb (chP n mc P)) d h) (Classical.propDecidable _) (fun h => Classical.choose h) (fun _ => fun _ => 0)
def accP (n : Nat) (jb mc d : Nat → Nat) (ar : Nat → Nat → Bool) (P : Nat → Nat) : Prop := (∀ i k, ar i k = true → chP n mc P i k = true) ∧ ∃ h, IsH n (Ed n jb (chP n mc P)) d h
noncomputable def gg (n : Nat) (jb mc d : Nat → Nat) (ar : Nat → Nat → Bool) (P : Nat → Nat) : List (Nat → Nat) := @ite _ (accP n jb mc d ar P) (Classical.propDecidable _) [hdP n jb mc d P] []
theorem hdP_spec {n : Nat} {jb mc d P : Nat → Nat} (h : ∃ h, IsH n (Ed n jb (chP n mc P)) d h) : IsH n (Ed n jb (chP n mc P)) d (hdP n jb mc d P) := by
  unfold hdP
  rw [dif_pos h]
  exact Classical.choose_spec h
noncomputable def T0 (n : Nat) (jb mc d : Nat → Nat) (ar : Nat → Nat → Bool) (q1 q2 q3 c : Nat) : List (Nat → Nat) := (List.range c).flatMap (fun q0 => gg n jb mc d ar (Pf q0 q1 q2 q3))
noncomputable def T1 (n : Nat) (jb mc d : Nat → Nat) (ar : Nat → Nat → Bool) (q2 q3 c : Nat) : List (Nat → Nat) := (List.range c).flatMap (fun q1 => T0 n jb mc d ar q1 q2 q3 (fc (sz n mc 0)))
noncomputable def T2 (n : Nat) (jb mc d : Nat → Nat) (ar : Nat → Nat → Bool) (q3 c : Nat) : List (Nat → Nat) := (List.range c).flatMap (fun q2 => T1 n jb mc d ar q2 q3 (fc (sz n mc 1)))
noncomputable def T3 (n : Nat) (jb mc d : Nat → Nat) (ar : Nat → Nat → Bool) (c : Nat) : List (Nat → Nat) := (List.range c).flatMap (fun q3 => T2 n jb mc d ar q3 (fc (sz n mc 2)))
noncomputable def LQ (n : Nat) (jb mc d : Nat → Nat) (ar : Nat → Nat → Bool) (p0 p1 p2 p3 : Nat) : List (Nat → Nat) := T3 n jb mc d ar p3 ++ (T2 n jb mc d ar p3 p2 ++ (T1 n jb mc d ar p2 p3 p1 ++ T0 n jb mc d ar p1 p2 p3 p0))
noncomputable def LA (n : Nat) (jb mc d : Nat → Nat) (ar : Nat → Nat → Bool) : List (Nat → Nat) := T3 n jb mc d ar (fc (sz n mc 3))
section LPs
variable {n : Nat} {jb mc d : Nat → Nat} {ar : Nat → Nat → Bool} {p0 p1 p2 p3 : Nat}
theorem LQ_n : LQ n jb mc d ar p0 p1 p2 p3 ++ gg n jb mc d ar (Pf p0 p1 p2 p3) = LQ n jb mc d ar (p0 + 1) p1 p2 p3 := by
  have h : T0 n jb mc d ar p1 p2 p3 (p0 + 1) = T0 n jb mc d ar p1 p2 p3 p0 ++ gg n jb mc d ar (Pf p0 p1 p2 p3) := fl_succ _ p0
  unfold LQ
  rw [h, List.append_assoc, List.append_assoc, List.append_assoc]
theorem LQ_c1 : LQ n jb mc d ar (fc (sz n mc 0)) p1 p2 p3 = LQ n jb mc d ar 0 (p1 + 1) p2 p3 := by
  have h : T1 n jb mc d ar p2 p3 (p1 + 1) = T1 n jb mc d ar p2 p3 p1 ++ T0 n jb mc d ar p1 p2 p3 (fc (sz n mc 0)) := fl_succ _ p1
  have h0 : T0 n jb mc d ar (p1 + 1) p2 p3 0 = [] := rfl
  unfold LQ
  rw [h, h0, List.append_nil]
theorem LQ_c2 : LQ n jb mc d ar 0 (fc (sz n mc 1)) p2 p3 = LQ n jb mc d ar 0 0 (p2 + 1) p3 := by
  have h : T2 n jb mc d ar p3 (p2 + 1) = T2 n jb mc d ar p3 p2 ++ T1 n jb mc d ar p2 p3 (fc (sz n mc 1)) := fl_succ _ p2
  have h0 : T0 n jb mc d ar (fc (sz n mc 1)) p2 p3 0 = [] := rfl
  have h1 : T0 n jb mc d ar 0 (p2 + 1) p3 0 = [] := rfl
  have h2 : T1 n jb mc d ar (p2 + 1) p3 0 = [] := rfl
  unfold LQ
  rw [h, h0, h1, h2, List.append_nil, List.append_nil, List.append_nil]
theorem LQ_c3 : LQ n jb mc d ar 0 0 (fc (sz n mc 2)) p3 = LQ n jb mc d ar 0 0 0 (p3 + 1) := by
  have h : T3 n jb mc d ar (p3 + 1) = T3 n jb mc d ar p3 ++ T2 n jb mc d ar p3 (fc (sz n mc 2)) := fl_succ _ p3
  have h0 : T0 n jb mc d ar 0 (fc (sz n mc 2)) p3 0 = [] := rfl
  have h1 : T1 n jb mc d ar (fc (sz n mc 2)) p3 0 = [] := rfl
  have h2 : T2 n jb mc d ar (p3 + 1) 0 = [] := rfl
  have h3 : T1 n jb mc d ar 0 (p3 + 1) 0 = [] := rfl
  have h4 : T0 n jb mc d ar 0 0 (p3 + 1) 0 = [] := rfl
  unfold LQ
  rw [h, h0, h1, h2, h3, h4, List.append_nil, List.append_nil, List.append_nil, List.append_nil]
theorem LQ_c4 : LQ n jb mc d ar 0 0 0 (fc (sz n mc 3)) = LA n jb mc d ar := by
  have h2 : T2 n jb mc d ar (fc (sz n mc 3)) 0 = [] := rfl
  have h3 : T1 n jb mc d ar 0 (fc (sz n mc 3)) 0 = [] := rfl
  have h4 : T0 n jb mc d ar 0 0 (fc (sz n mc 3)) 0 = [] := rfl
  unfold LQ LA
  rw [h2, h3, h4, List.append_nil, List.append_nil, List.append_nil]
theorem LQ_z : LQ n jb mc d ar 0 0 0 0 = [] := rfl
end LPs
/-- all orders together hold each good plan once -/
theorem LA.one {n nj : Nat} {jb mc d s0 : Nat → Nat} {ar : Nat → Nat → Bool} (S : Shop n nj jb mc d ar) (hG : Gd n jb mc d ar s0) : (LA n jb mc d ar).countP (eqv n s0) = 1 := by
  obtain ⟨Q, hQ, hs⟩ := srt.ex S hG
  have hd : ∀ i, i < n → 1 ≤ d i := fun i hi => (S.2.2.2.2.1 i hi).1
  have yes : (gg n jb mc d ar (Pf (Q 0) (Q 1) (Q 2) (Q 3))).countP (eqv n s0) = 1 := by
    have e : ∀ m, m < 4 → Pf (Q 0) (Q 1) (Q 2) (Q 3) m = Q m := fun m hm => by
      have h4 : m = 0 ∨ m = 1 ∨ m = 2 ∨ m = 3 := by omega
      rcases h4 with rfl | rfl | rfl | rfl <;> rfl
    have hP : okP n mc (Pf (Q 0) (Q 1) (Q 2) (Q 3)) := fun m hm => by rw [e m hm]; exact hQ m hm
    have hs2 : srt n mc (Pf (Q 0) (Q 1) (Q 2) (Q 3)) s0 := fun m hm x y hy hxy => by
      unfold Oo
      rw [e m hm]; exact hs m hm x y hy hxy
    obtain ⟨g1, g2⟩ := Gd.heads S hP hG hs2
    have hacc : accP n jb mc d ar (Pf (Q 0) (Q 1) (Q 2) (Q 3)) := ⟨g1, s0, g2⟩
    unfold gg
    rw [if_pos hacc, List.countP_singleton, if_pos (eqv_iff.mpr (fun i hi => (hdP_spec hacc.2).uniq hd g2 i hi))]
  have no : ∀ q0 q1 q2 q3, okP n mc (Pf q0 q1 q2 q3) → ¬ (q0 = Q 0 ∧ q1 = Q 1 ∧ q2 = Q 2 ∧ q3 = Q 3) → (gg n jb mc d ar (Pf q0 q1 q2 q3)).countP (eqv n s0) = 0 := by
    intro q0 q1 q2 q3 hP hne
    rw [List.countP_eq_zero]
    intro s hs1 he
    rw [eqv_iff] at he
    unfold gg at hs1
    by_cases q : accP n jb mc d ar (Pf q0 q1 q2 q3)
    · rw [if_pos q, List.mem_singleton] at hs1
      have h1 := srt.of S hP (hdP_spec q.2).1
      rw [← hs1] at h1
      have h2 : srt n mc (Pf q0 q1 q2 q3) s0 := fun m hm x y hy hxy => by
        have a1 := Oo_spec S hP hm (show x < sz n mc m by omega)
        have a2 := Oo_spec S hP hm hy
        rw [← he _ a1.1, ← he _ a2.1]; exact h1 m hm x y hy hxy
      have h3 := srt.uniq S hP hQ h2 hs
      exact hne ⟨h3 0 (by omega), h3 1 (by omega), h3 2 (by omega), h3 3 (by omega)⟩
    · rw [if_neg q] at hs1; cases hs1
  have ok : ∀ q0 q1 q2 q3, q0 < fc (sz n mc 0) → q1 < fc (sz n mc 1) → q2 < fc (sz n mc 2) → q3 < fc (sz n mc 3) → okP n mc (Pf q0 q1 q2 q3) := fun q0 q1 q2 q3 h0 h1 h2 h3 m hm => by
    have h4 : m = 0 ∨ m = 1 ∨ m = 2 ∨ m = 3 := by omega
    rcases h4 with rfl | rfl | rfl | rfl
    · exact h0
    · exact h1
    · exact h2
    · exact h3
  have l0 := hQ 0 (by omega)
  have l1 := hQ 1 (by omega)
  have l2 := hQ 2 (by omega)
  have l3 := hQ 3 (by omega)
  have z0 : ∀ q1 q2 q3, q1 < fc (sz n mc 1) → q2 < fc (sz n mc 2) → q3 < fc (sz n mc 3) → ¬ (q1 = Q 1 ∧ q2 = Q 2 ∧ q3 = Q 3) → (T0 n jb mc d ar q1 q2 q3 (fc (sz n mc 0))).countP (eqv n s0) = 0 := by
    intro q1 q2 q3 h1 h2 h3 hne
    unfold T0
    rw [cP_flat (α := Nat)]
    have := sm_le (f := fun q0 => (gg n jb mc d ar (Pf q0 q1 q2 q3)).countP (eqv n s0)) (b := 0) (fc (sz n mc 0)) (fun q0 hq0 => by rw [no q0 q1 q2 q3 (ok q0 q1 q2 q3 hq0 h1 h2 h3) (fun e => hne e.2)]; exact Nat.le_refl _)
    omega
  have z1 : ∀ q2 q3, q2 < fc (sz n mc 2) → q3 < fc (sz n mc 3) → ¬ (q2 = Q 2 ∧ q3 = Q 3) → (T1 n jb mc d ar q2 q3 (fc (sz n mc 1))).countP (eqv n s0) = 0 := by
    intro q2 q3 h2 h3 hne
    unfold T1
    rw [cP_flat (α := Nat)]
    have := sm_le (f := fun q1 => (T0 n jb mc d ar q1 q2 q3 (fc (sz n mc 0))).countP (eqv n s0)) (b := 0) (fc (sz n mc 1)) (fun q1 hq1 => by rw [z0 q1 q2 q3 hq1 h2 h3 (fun e => hne e.2)]; exact Nat.le_refl _)
    omega
  have z2 : ∀ q3, q3 < fc (sz n mc 3) → q3 ≠ Q 3 → (T2 n jb mc d ar q3 (fc (sz n mc 2))).countP (eqv n s0) = 0 := by
    intro q3 h3 hne
    unfold T2
    rw [cP_flat (α := Nat)]
    have := sm_le (f := fun q2 => (T1 n jb mc d ar q2 q3 (fc (sz n mc 1))).countP (eqv n s0)) (b := 0) (fc (sz n mc 2)) (fun q2 hq2 => by rw [z1 q2 q3 hq2 h3 (fun e => hne e.2)]; exact Nat.le_refl _)
    omega
  unfold LA T3
  rw [cP_flat (α := Nat)]
  refine sm_one _ l3 ?_ (fun q3 h3 hne => z2 q3 h3 hne)
  unfold T2
  rw [cP_flat (α := Nat)]
  refine sm_one _ l2 ?_ (fun q2 h2 hne => z1 q2 (Q 3) h2 l3 (fun e => hne e.1))
  unfold T1
  rw [cP_flat (α := Nat)]
  refine sm_one _ l1 ?_ (fun q1 h1 hne => z0 q1 (Q 2) (Q 3) h1 l2 l3 (fun e => hne e.1))
  unfold T0
  rw [cP_flat (α := Nat)]
  exact sm_one _ l0 yes (fun q0 h0 hne => no q0 (Q 1) (Q 2) (Q 3) (ok q0 _ _ _ h0 l1 l2 l3) (fun e => hne e.1))
theorem mem_fl {β : Type} {f : Nat → List β} {c : Nat} {x : β} (h : x ∈ (List.range c).flatMap f) : ∃ j, j < c ∧ x ∈ f j := by
  obtain ⟨j, hj, hx⟩ := List.mem_flatMap.mp h
  exact ⟨j, List.mem_range.mp hj, hx⟩
theorem LA.good {n nj : Nat} {jb mc d s : Nat → Nat} {ar : Nat → Nat → Bool} (S : Shop n nj jb mc d ar) (h : s ∈ LA n jb mc d ar) : Gd n jb mc d ar s := by
  obtain ⟨q3, h3, h⟩ := mem_fl h
  obtain ⟨q2, h2, h⟩ := mem_fl h
  obtain ⟨q1, h1, h⟩ := mem_fl h
  obtain ⟨q0, h0, h⟩ := mem_fl h
  have hP : okP n mc (Pf q0 q1 q2 q3) := fun m hm => by
    have h4 : m = 0 ∨ m = 1 ∨ m = 2 ∨ m = 3 := by omega
    rcases h4 with rfl | rfl | rfl | rfl
    · exact h0
    · exact h1
    · exact h2
    · exact h3
  unfold gg at h
  by_cases q : accP n jb mc d ar (Pf q0 q1 q2 q3)
  · rw [if_pos q, List.mem_singleton] at h
    rw [h]; exact Gd.of S hP q.1 (hdP_spec q.2)
  · rw [if_neg q] at h; cases h
/-- the class's leaves and the reference's orders: the same plans -/
theorem lv_LA {n nj : Nat} {jb mc d : Nat → Nat} {ar : Nat → Nat → Bool} (S : Shop n nj jb mc d ar) : Sm n (lv n nj jb mc d ar n (fun _ => false) (fun _ => 0) 0 0) (LA n jb mc d ar) := by
  intro s0
  have hl : Wl (fun _ => false) 0 := Or.inl rfl
  by_cases q : Gd n jb mc d ar s0
  · rw [LA.one S q, lv_one S q n (fun _ => false) (fun _ => 0) 0 0 WF.root hl (lf_root n) ⟨fun _ _ h => absurd h Bool.false_ne_true, fun i _ _ => by omega⟩]
  · rw [lv_zero S WF.root hl (lf_root n) (fun e => q e.1)]
    symm
    rw [List.countP_eq_zero]
    intro s hs he
    exact q ((LA.good S hs).congr (eqv_iff.mp he))
/-- there is a good plan -/
theorem Gd.ex {n nj : Nat} {jb mc d : Nat → Nat} {ar : Nat → Nat → Bool} (S : Shop n nj jb mc d ar) : ∃ s, Gd n jb mc d ar s := by
  obtain ⟨hs, ts, hh, ht⟩ := S.heads
  have hn := S.1
  have hd := S.2.2.2.2.1
  have one : ∀ m, ∃ p, p < fc (sz n mc m) ∧ ∀ x y, y < sz n mc m → x < y → (fun i => hs i * 12 + i) (op n mc m (pm (sz n mc m) p x)) < (fun i => hs i * 12 + i) (op n mc m (pm (sz n mc m) p y)) := by
    intro m
    refine sort1 (v := fun c => (fun i => hs i * 12 + i) (op n mc m c)) (sz_bd S) (fun a b ha hb e => ?_)
    obtain ⟨a1, a2, a3⟩ := op_spec ha
    obtain ⟨b1, b2, b3⟩ := op_spec hb
    have e2 : op n mc m a = op n mc m b := by dsimp only at e; omega
    rw [← a3, ← b3, e2]
  have hP : okP n mc (fun m => Classical.choose (one m)) := fun m _ => (Classical.choose_spec (one m)).1
  have hsr : srt n mc (fun m => Classical.choose (one m)) (fun i => hs i * 12 + i) := fun m _ x y hy hxy => (Classical.choose_spec (one m)).2 x y hy hxy
  generalize (fun m => Classical.choose (one m)) = P at hP hsr
  have lt_of : ∀ i k, chP n mc P i k = true → hs i * 12 + i < hs k * 12 + k := fun i k h => by
    obtain ⟨m, x, y, hm, hy, hxy, rfl, rfl⟩ := chP_iff.mp h
    exact hsr m hm x y hy hxy
  have hsub : ∀ i k, ar i k = true → chP n mc P i k = true := fun i k h => by
    obtain ⟨a1, a2, a3, a4⟩ := S.2.2.2.2.2.2.1 i k h
    have h1 := hh.1 i k a1 a2 (Or.inl h)
    have h2 := hd i a1
    rcases chP_tot S hP a1 a2 a3 a4 with q | q
    · exact q
    · have := lt_of k i q; omega
  have hpot : Pot n (Ed n jb (chP n mc P)) d (fun i => 50 * (hs i * 12 + i)) := fun a b ha hb he => by
    have h2 := hd a ha
    have h3 : hs a * 12 + a < hs b * 12 + b := by
      rcases he with q | q
      · exact lt_of a b q
      · have h1 := hh.1 a b ha hb (Or.inr q)
        have := q.1
        omega
    dsimp only
    omega
  obtain ⟨h, hIs⟩ := IsH.of_pot (fun i hi => (hd i hi).1) ⟨_, hpot⟩
  exact ⟨h, Gd.of S hP hsub hIs⟩
theorem LA.ne {n nj : Nat} {jb mc d : Nat → Nat} {ar : Nat → Nat → Bool} (S : Shop n nj jb mc d ar) : LA n jb mc d ar ≠ [] := by
  obtain ⟨s, hs⟩ := Gd.ex S
  intro e
  have := LA.one S hs
  rw [e] at this
  cases this
