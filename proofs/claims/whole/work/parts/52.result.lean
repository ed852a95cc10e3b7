/-! The least, their number, the earliest: of a list of plans -/
def Lx (n : Nat) (s t : Nat → Nat) : Prop := ∃ k, k < n ∧ s k < t k ∧ ∀ i, i < k → s i = t i
theorem Lx.tri {n : Nat} {s t : Nat → Nat} (h1 : ¬ Lx n s t) (h2 : ¬ Lx n t s) : ∀ i, i < n → s i = t i := by
  intro i hi
  refine Classical.byContradiction (fun q => ?_)
  obtain ⟨k, ⟨hk, hne⟩, hm⟩ := pk_least (fun k => k < n ∧ s k ≠ t k) ⟨i, hi, q⟩
  have hb : ∀ j, j < k → s j = t j := fun j hj => Classical.byContradiction (fun q2 => hm j hj ⟨by omega, q2⟩)
  rcases Nat.lt_or_gt_of_ne hne with q2 | q2
  · exact h1 ⟨k, hk, q2, hb⟩
  · exact h2 ⟨k, hk, q2, fun j hj => (hb j hj).symm⟩
theorem Lx.congr {n : Nat} {s t s' t' : Nat → Nat} (e1 : ∀ i, i < n → s i = s' i) (e2 : ∀ i, i < n → t i = t' i) (h : Lx n s t) : Lx n s' t' := by
  obtain ⟨k, hk, h1, h2⟩ := h
  exact ⟨k, hk, by rw [← e1 k hk, ← e2 k hk]; exact h1, fun i hi => by rw [← e1 i (by omega), ← e2 i (by omega)]; exact h2 i hi⟩
theorem Lx.trans {n : Nat} {s t u : Nat → Nat} (h1 : Lx n s t) (h2 : Lx n t u) : Lx n s u := by
  obtain ⟨a, ha, a1, a2⟩ := h1
  obtain ⟨b, hb, b1, b2⟩ := h2
  rcases Nat.lt_trichotomy a b with q | q | q
  · exact ⟨a, ha, by rw [← b2 a q]; exact a1, fun i hi => by rw [a2 i hi, b2 i (by omega)]⟩
  · subst q; exact ⟨a, ha, by omega, fun i hi => by rw [a2 i hi, b2 i hi]⟩
  · exact ⟨b, hb, by rw [a2 b q]; exact b1, fun i hi => by rw [a2 i (by omega), b2 i hi]⟩
theorem Lx.irr {n : Nat} {s : Nat → Nat} : ¬ Lx n s s := fun ⟨_, _, h, _⟩ => absurd h (Nat.lt_irrefl _)
theorem spn_congr {n : Nat} {d s t : Nat → Nat} (e : ∀ i, i < n → s i = t i) : spn n d s = spn n d t := mx_congr n (fun i hi => by rw [e i hi])
/-- what a search has found among the plans of a list -/
def Rs (n : Nat) (d : Nat → Nat) (L : List (Nat → Nat)) (l c : Nat) (p : Nat → Nat) : Prop :=
  (∀ s, s ∈ L → l ≤ spn n d s) ∧ c = L.countP (fun s => decide (spn n d s = l)) ∧ (∃ s, s ∈ L ∧ ∀ i, i < n → p i = s i) ∧ spn n d p = l ∧ ∀ s, s ∈ L → spn n d s = l → ¬ Lx n s p
theorem Rs.pos {n : Nat} {d : Nat → Nat} {L : List (Nat → Nat)} {l c : Nat} {p : Nat → Nat} (h : Rs n d L l c p) : 0 < c := by
  obtain ⟨h1, h2, ⟨s, hs, he⟩, h4, h5⟩ := h
  rw [h2, List.countP_pos_iff]
  exact ⟨s, hs, by rw [decide_eq_true_eq, ← h4]; exact (spn_congr he).symm⟩
theorem Rs.congr {n : Nat} {d : Nat → Nat} {L : List (Nat → Nat)} {l c : Nat} {p q : Nat → Nat} (h : Rs n d L l c p) (e : ∀ i, i < n → p i = q i) : Rs n d L l c q := by
  obtain ⟨h1, h2, ⟨s, hs, he⟩, h4, h5⟩ := h
  exact ⟨h1, h2, ⟨s, hs, fun i hi => by rw [← e i hi, he i hi]⟩, by rw [← spn_congr e]; exact h4, fun t ht hl hx => h5 t ht hl (hx.congr (fun _ _ => rfl) (fun i hi => (e i hi).symm))⟩
/-- a worse one more -/
theorem Rs.worse {n : Nat} {d : Nat → Nat} {L : List (Nat → Nat)} {l c : Nat} {p s : Nat → Nat} (h : Rs n d L l c p) (hw : l < spn n d s) : Rs n d (L ++ [s]) l c p := by
  obtain ⟨h1, h2, ⟨t, ht, he⟩, h4, h5⟩ := h
  refine ⟨fun u hu => ?_, ?_, ⟨t, List.mem_append_left _ ht, he⟩, h4, fun u hu hl => ?_⟩
  · rcases List.mem_append.mp hu with hu | hu
    · exact h1 u hu
    · rw [List.mem_singleton] at hu; subst hu; omega
  · rw [List.countP_append, ← h2, List.countP_singleton, if_neg (by rw [decide_eq_true_eq]; omega)]; rfl
  · rcases List.mem_append.mp hu with hu | hu
    · exact h5 u hu hl
    · rw [List.mem_singleton] at hu; subst hu; omega
/-- a better one, or the first -/
theorem Rs.better {n : Nat} {d : Nat → Nat} {L : List (Nat → Nat)} {s : Nat → Nat} (h : ∀ t, t ∈ L → spn n d s < spn n d t) : Rs n d (L ++ [s]) (spn n d s) 1 s := by
  refine ⟨fun u hu => ?_, ?_, ⟨s, List.mem_append_right _ (List.mem_singleton.mpr rfl), fun _ _ => rfl⟩, rfl, fun u hu hl => ?_⟩
  · rcases List.mem_append.mp hu with hu | hu
    · exact Nat.le_of_lt (h u hu)
    · rw [List.mem_singleton] at hu; subst hu; exact Nat.le_refl _
  · rw [List.countP_append, List.countP_singleton, if_pos (by rw [decide_eq_true_eq])]
    rw [List.countP_eq_zero.mpr (fun u hu => by rw [decide_eq_true_eq]; have := h u hu; omega)]
  · rcases List.mem_append.mp hu with hu | hu
    · have := h u hu; omega
    · rw [List.mem_singleton] at hu; subst hu; exact Lx.irr
/-- one that is as good -/
theorem Rs.same {n : Nat} {d : Nat → Nat} {L : List (Nat → Nat)} {l c : Nat} {p q s : Nat → Nat} (h : Rs n d L l c p) (hs : spn n d s = l) (hq : (Lx n s p ∧ ∀ i, i < n → q i = s i) ∨ (¬ Lx n s p ∧ ∀ i, i < n → q i = p i)) : Rs n d (L ++ [s]) l (c + 1) q := by
  obtain ⟨h1, h2, ⟨t, ht, he⟩, h4, h5⟩ := h
  refine ⟨fun u hu => ?_, ?_, ?_, ?_, fun u hu hl hx => ?_⟩
  · rcases List.mem_append.mp hu with hu | hu
    · exact h1 u hu
    · rw [List.mem_singleton] at hu; subst hu; omega
  · rw [List.countP_append, ← h2, List.countP_singleton, if_pos (by rw [decide_eq_true_eq]; exact hs)]
  · rcases hq with ⟨-, e⟩ | ⟨-, e⟩
    · exact ⟨s, List.mem_append_right _ (List.mem_singleton.mpr rfl), e⟩
    · exact ⟨t, List.mem_append_left _ ht, fun i hi => by rw [e i hi, he i hi]⟩
  · rcases hq with ⟨-, e⟩ | ⟨-, e⟩
    · rw [spn_congr e]; exact hs
    · rw [spn_congr e]; exact h4
  · rcases hq with ⟨hlt, e⟩ | ⟨hlt, e⟩
    · have hx2 := hx.congr (fun _ _ => rfl) e
      rcases List.mem_append.mp hu with hu | hu
      · exact h5 u hu hl (hx2.trans hlt)
      · rw [List.mem_singleton] at hu; subst hu; exact Lx.irr hx2
    · have hx2 := hx.congr (fun _ _ => rfl) e
      rcases List.mem_append.mp hu with hu | hu
      · exact h5 u hu hl hx2
      · rw [List.mem_singleton] at hu; subst hu; exact hlt hx2
def vec (n : Nat) (s : Nat → Nat) : List Nat := (List.range n).map s
theorem vec_eq {n : Nat} {s t : Nat → Nat} : vec n s = vec n t ↔ ∀ i, i < n → s i = t i := by
  unfold vec
  rw [List.map_inj_left]
  exact ⟨fun h i hi => h i (List.mem_range.mpr hi), fun h i hi => h i (List.mem_range.mp hi)⟩
theorem vec_get {n i : Nat} {s : Nat → Nat} (hi : i < n) : (vec n s).getD i 0 = s i := by
  unfold vec
  rw [List.getD_eq_getElem?_getD, List.getElem?_map, List.getElem?_range hi]; rfl
/-- two lists with each plan as often -/
def Sm (n : Nat) (L M : List (Nat → Nat)) : Prop := ∀ s, L.countP (eqv n s) = M.countP (eqv n s)
theorem Sm.mem {n : Nat} {L M : List (Nat → Nat)} (h : Sm n L M) {s : Nat → Nat} (hs : s ∈ L) : ∃ t, t ∈ M ∧ ∀ i, i < n → t i = s i := by
  have h1 : 0 < L.countP (eqv n s) := List.countP_pos_iff.mpr ⟨s, hs, eqv_iff.mpr (fun _ _ => rfl)⟩
  rw [h s, List.countP_pos_iff] at h1
  obtain ⟨t, ht, he⟩ := h1
  exact ⟨t, ht, eqv_iff.mp he⟩
theorem Sm.symm {n : Nat} {L M : List (Nat → Nat)} (h : Sm n L M) : Sm n M L := fun s => (h s).symm
theorem Sm.perm {n : Nat} {L M : List (Nat → Nat)} (h : Sm n L M) : (L.map (vec n)).Perm (M.map (vec n)) := by
  rw [List.perm_iff_count]
  intro a
  have key : ∀ K : List (Nat → Nat), ∀ s, List.count (vec n s) (K.map (vec n)) = K.countP (eqv n s) := by
    intro K s
    rw [List.count, List.countP_map]
    refine List.countP_congr (fun t _ => ?_)
    rw [eqv_iff]
    show (vec n t == vec n s) = true ↔ _
    rw [beq_iff_eq, vec_eq]
  by_cases q : ∃ s, vec n s = a
  · obtain ⟨s, rfl⟩ := q
    rw [key, key, h s]
  · rw [List.count_eq_zero.mpr (fun hm => by obtain ⟨s, -, e⟩ := List.mem_map.mp hm; exact q ⟨s, e⟩), List.count_eq_zero.mpr (fun hm => by obtain ⟨s, -, e⟩ := List.mem_map.mp hm; exact q ⟨s, e⟩)]
theorem Sm.count {n : Nat} {d : Nat → Nat} {L M : List (Nat → Nat)} (h : Sm n L M) (l : Nat) : L.countP (fun s => decide (spn n d s = l)) = M.countP (fun s => decide (spn n d s = l)) := by
  have h1 := h.perm.countP_eq (fun a => decide (spn n d (fun i => a.getD i 0) = l))
  rw [List.countP_map, List.countP_map] at h1
  have e : ∀ K : List (Nat → Nat), K.countP ((fun a : List Nat => decide (spn n d (fun i => a.getD i 0) = l)) ∘ vec n) = K.countP (fun s => decide (spn n d s = l)) := fun K => List.countP_congr (fun s _ => by
    show decide (spn n d (fun i => (vec n s).getD i 0) = l) = true ↔ _
    rw [spn_congr (t := s) (fun i hi => vec_get hi)])
  rw [e, e] at h1
  exact h1
theorem Rs.uniq {n : Nat} {d : Nat → Nat} {L M : List (Nat → Nat)} {l c l' c' : Nat} {p p' : Nat → Nat} (hS : Sm n L M) (h : Rs n d L l c p) (h' : Rs n d M l' c' p') : l = l' ∧ c = c' ∧ ∀ i, i < n → p i = p' i := by
  obtain ⟨h1, h2, ⟨t, ht, he⟩, h4, h5⟩ := h
  obtain ⟨g1, g2, ⟨u, hu, ge⟩, g4, g5⟩ := h'
  obtain ⟨t', ht', et⟩ := hS.mem ht
  obtain ⟨u', hu', eu⟩ := hS.symm.mem hu
  have st : spn n d t' = l := by rw [spn_congr et, ← spn_congr he]; exact h4
  have su : spn n d u' = l' := by rw [spn_congr eu, ← spn_congr ge]; exact g4
  have e1 : l = l' := by
    have a1 := g1 t' ht'
    have a2 := h1 u' hu'
    omega
  subst e1
  refine ⟨rfl, by rw [h2, g2]; exact hS.count l, Lx.tri (fun hx => ?_) (fun hx => ?_)⟩
  · exact g5 t' ht' st (hx.congr (fun i hi => by rw [he i hi, et i hi]) (fun _ _ => rfl))
  · exact h5 u' hu' su (hx.congr (fun i hi => by rw [ge i hi, eu i hi]) (fun _ _ => rfl))
