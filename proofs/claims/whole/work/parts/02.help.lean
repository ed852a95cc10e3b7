/-- the one word that isn't in the lists: Floor's call of JobShop's private isIn -/
def nw (U : State) : Prop := va_Nw (.methodLinkNest RX0 56 yX2_isIn RX2) U
theorem nw_w {s U : State} (hW : s.WarmedH U.vm) (h : nw s) : nw U := va_Nw.warmM hW h
theorem nw_c {U : State} {g : JFrame} {mk : MethodId} {a : Array Value} (h : nw U) : nw (U.calling g mk a) := va_Nw.same rfl rfl h
section Help
variable {p : Program} {l : Launch} {e : Env} {R : Room} {s : State} {m : MethodId} {args : Array Value} {below : List Frame} {meth : Method} {c : Code} {H : Heap} {locs : List Loc} {cells slots : Nat} {Q : State → Prop}
/-- a loop at one place: an invariant over a tuple, a measure, and what the heap and the locals hold -/
theorem lp_W {σ : Type} {I : σ → Prop} (μ : σ → Nat) (G : σ → Heap → List Loc → Array Slot → Prop) {pc : Nat}
    (hs : ∀ (z : σ) (H : Heap) (locs : List Loc) (ls : Array Slot), I z → G z H locs ls → (∀ (y : σ) (H : Heap) (locs : List Loc) (ls : Array Slot), I y → μ y < μ z → G y H locs ls → W p l e R s m args below meth c H locs cells slots Q (F0 m pc ls [])) → W p l e R s m args below meth c H locs cells slots Q (F0 m pc ls []))
    (z : σ) (H : Heap) (locs : List Loc) (ls : Array Slot) (hI : I z) (hG : G z H locs ls) : W p l e R s m args below meth c H locs cells slots Q (F0 m pc ls []) := by
  suffices h : ∀ (n : Nat) (z : σ) (H : Heap) (locs : List Loc) (ls : Array Slot), μ z < n → I z → G z H locs ls → W p l e R s m args below meth c H locs cells slots Q (F0 m pc ls []) from h (μ z + 1) z H locs ls (Nat.lt_succ_self _) hI hG
  intro n
  induction n with
  | zero => intro z H locs ls hn; exact absurd hn (Nat.not_lt_zero _)
  | succ n ih =>
    intro z H locs ls hn hI hG
    exact hs z H locs ls hI hG (fun y H' locs' ls' hIy hy hGy => ih y H' locs' ls' (by omega) hIy hGy)
theorem W_heap {H' : Heap} {g : JFrame} (h : H = H') (k : W p l e R s m args below meth c H locs cells slots Q g) : W p l e R s m args below meth c H' locs cells slots Q g := h ▸ k
/-- a place where paths meet -/
theorem jn_W {σ : Type} {J : σ → Prop} (pj : Nat) (stk : σ → List Value) (G : σ → Heap → List Loc → Array Slot → Prop) {g : JFrame}
    (h1 : ∀ (z : σ) (H : Heap) (locs : List Loc) (ls : Array Slot), J z → G z H locs ls → W p l e R s m args below meth c H locs cells slots Q (F0 m pj ls (stk z)))
    (h2 : (∀ (z : σ) (H : Heap) (locs : List Loc) (ls : Array Slot), J z → G z H locs ls → W p l e R s m args below meth c H locs cells slots Q (F0 m pj ls (stk z))) → W p l e R s m args below meth c H locs cells slots Q g) : W p l e R s m args below meth c H locs cells slots Q g := h2 h1
theorem kc_free {A0 : Nat → Prop} {wr wc : va_W} {H0 H : Heap} {locs : List Loc} (hD : va_D A0 (wr ++ wc)) (hS : va_S A0 H0 H locs) (hA : ∀ q, H0.size ≤ q → A0 q) : ∀ q, va_A wc H.size q → A0 q := by
  rintro q (⟨k, e, h⟩ | h)
  · exact hD.2 (wr.length + k) (q, e) (by rw [List.getElem?_append_right (Nat.le_add_right _ _), Nat.add_sub_cancel_left]; exact h)
  · exact hA q (Nat.le_trans hS.1 h)
theorem kc_left {A0 : Nat → Prop} {D : va_G} {cl : List vw_C} {wr wc : va_W} {H : Heap} (hP : va_P D cl (wr ++ wc) H) (hD : va_D A0 (wr ++ wc)) : va_P D cl wr H ∧ va_D A0 wr := by
  have key : ∀ (k : Nat) (q : Nat × va_E), wr[k]? = some q → (wr ++ wc)[k]? = some q := fun k q h => by
    rw [List.getElem?_append_left (List.getElem?_eq_some_iff.mp h).1]; exact h
  exact ⟨fun k q h => hP k q (key k q h), fun i j x y hi hj => hD.1 i j x y (key i x hi) (key j y hj), fun k q h => hD.2 k q (key k q h)⟩
theorem kc_right {A0 : Nat → Prop} {D : va_G} {cl : List vw_C} {wr wc : va_W} {H : Heap} (hP : va_P D cl (wr ++ wc) H) (hD : va_D A0 (wr ++ wc)) : va_P D cl wc H ∧ va_D (fun _ => True) wc := by
  have key : ∀ (k : Nat) (q : Nat × va_E), wc[k]? = some q → (wr ++ wc)[wr.length + k]? = some q := fun k q h => by
    rw [List.getElem?_append_right (Nat.le_add_right _ _), Nat.add_sub_cancel_left]; exact h
  refine ⟨fun k q h => hP _ q (key k q h), fun i j x y hi hj hxy => ?_, fun _ _ _ => trivial⟩
  have := hD.1 _ _ x y (key i x hi) (key j y hj) hxy
  omega
theorem kc_join {A0 : Nat → Prop} {D : va_G} {cl : List vw_C} {wr wc w1 : va_W} {H H1 : Heap} (hP : va_P D cl (wr ++ wc) H) (hD : va_D A0 (wr ++ wc)) (hk : ∀ q : Nat, q < H.size → ¬ va_A wc H.size q → H1[q]? = H[q]?) (hF : ∀ q, va_A wc H.size q → A0 q) (hP1 : va_P D cl w1 H1) (hD1 : va_D (va_A wc H.size) w1) : va_P D cl (wr ++ w1) H1 ∧ va_D A0 (wr ++ w1) := by
  obtain ⟨hPr, hDr⟩ := kc_left hP hD
  have apart : ∀ (k : Nat) (q : Nat × va_E), wr[k]? = some q → q.1 < H.size ∧ ¬ va_A wc H.size q.1 := by
    intro k q hq
    have hl := (hPr k q hq).lt
    refine ⟨hl, fun h => ?_⟩
    rcases h with ⟨k2, e, h⟩ | h
    · have hlt := (List.getElem?_eq_some_iff.mp hq).1
      have h1 : (wr ++ wc)[k]? = some q := by rw [List.getElem?_append_left hlt]; exact hq
      have h2 : (wr ++ wc)[wr.length + k2]? = some (q.1, e) := by rw [List.getElem?_append_right (Nat.le_add_right _ _), Nat.add_sub_cancel_left]; exact h
      have := hD.1 k (wr.length + k2) q (q.1, e) h1 h2 rfl
      omega
    · omega
  refine ⟨va_P.app (fun k q hq => ?_) hP1, va_D.app hDr (hD1.weaken (fun k q _ h => hF q.1 h)) (fun i j x y hx hy hxy => ?_)⟩
  · obtain ⟨g1, g2⟩ := apart k q hq
    exact (hPr k q hq).kept (hk q.1 g1 g2)
  · exact (apart i x hx).2 (by rw [hxy]; exact hD1.2 j y hy)
/-- a call that answers an int: the callee's cells stand at the end of the caller's -/
theorem kc_i {S : Type} {post : Int32 → S → Prop} {D : va_G} {cl : List vw_C} {tyc : List (ClassId × FieldType)} {wr wc : va_W} {w1 : S → va_W} {A : Nat → Prop} {H0 : Heap} {pc : Nat} {ls : Array Slot} {st0 rest : List Value} {a : Array Value}
    (hr : va_Run p l e R s m args below meth c H locs cells slots 0 0 (F0 m pc ls st0) rest (va_Qi post (fun u t => va_P D cl (w1 u) t.heap ∧ va_K D cl tyc t ∧ va_D (va_A wc H.size) (w1 u)) (va_A wc H.size) a) (va_A wc H.size))
    (hP : va_P D cl (wr ++ wc) H) (hD : va_D A (wr ++ wc)) (hS : va_S A H0 H locs) (hA : ∀ q, H0.size ≤ q → A q)
    (kk : ∀ (r : Int32) (u : S) (H1 : Heap) (locs1 : List Loc), post r u → va_P D cl (wr ++ w1 u) H1 → va_D A (wr ++ w1 u) → va_S A H0 H1 locs1 → W p l e R s m args below meth c H1 locs1 cells slots Q (F0 m (pc + 3) ls (.int r :: rest))) :
    W p l e R s m args below meth c H locs cells slots Q (F0 m pc ls st0) := by
  have hF := kc_free hD hS hA
  refine va_calli hr hS (fun q _ h => hF q h) hF (fun r u t H1 locs1 ht hvm hw hB hz hk hS1 => ?_)
  obtain ⟨hP1, -, hD1⟩ := hB
  rw [ht] at hP1
  obtain ⟨hP2, hD2⟩ := kc_join hP hD hk hF hP1 hD1
  exact kk r u H1 locs1 hw hP2 hD2 hS1
theorem kc_v {S : Type} {post : S → Prop} {D : va_G} {cl : List vw_C} {tyc : List (ClassId × FieldType)} {wr wc : va_W} {w1 : S → va_W} {A : Nat → Prop} {H0 : Heap} {pc : Nat} {ls : Array Slot} {st0 rest : List Value} {a : Array Value}
    (hr : va_Run p l e R s m args below meth c H locs cells slots 0 0 (F0 m pc ls st0) rest (va_Qv post (fun u t => va_P D cl (w1 u) t.heap ∧ va_K D cl tyc t ∧ va_D (va_A wc H.size) (w1 u)) (va_A wc H.size) a) (va_A wc H.size))
    (hP : va_P D cl (wr ++ wc) H) (hD : va_D A (wr ++ wc)) (hS : va_S A H0 H locs) (hA : ∀ q, H0.size ≤ q → A q)
    (kk : ∀ (u : S) (H1 : Heap) (locs1 : List Loc), post u → va_P D cl (wr ++ w1 u) H1 → va_D A (wr ++ w1 u) → va_S A H0 H1 locs1 → W p l e R s m args below meth c H1 locs1 cells slots Q (F0 m (pc + 3) ls rest)) :
    W p l e R s m args below meth c H locs cells slots Q (F0 m pc ls st0) := by
  have hF := kc_free hD hS hA
  refine va_callv hr hS (fun q _ h => hF q h) hF (fun u t H1 locs1 ht hvm hw hB hz hk hS1 => ?_)
  obtain ⟨hP1, -, hD1⟩ := hB
  rw [ht] at hP1
  obtain ⟨hP2, hD2⟩ := kc_join hP hD hk hF hP1 hD1
  exact kk u H1 locs1 hw hP2 hD2 hS1
theorem kc_blind {av : List Value} {sz : Nat} {D : va_G} {cl : List vw_C} {tyc : List (ClassId × FieldType)} {wc : va_W} : FrameBlind (va_Pc av (fun U => U.heap.size = sz ∧ va_P D cl wc U.heap ∧ va_K D cl tyc U ∧ va_D (fun _ => True) wc)) :=
  fun a U g mk q => ⟨q.1, q.2.1, q.2.2.1, va_K.moved (u := U) (U := U.calling g mk a) (Vm.Alike.refl U.vm) q.2.2.2.1, q.2.2.2.2⟩
theorem kc_blindN {av : List Value} {sz : Nat} {D : va_G} {cl : List vw_C} {tyc : List (ClassId × FieldType)} {wc : va_W} : FrameBlind (va_Pc av (fun U => U.heap.size = sz ∧ va_P D cl wc U.heap ∧ va_K D cl tyc U ∧ va_D (fun _ => True) wc ∧ nw U)) :=
  fun a U g mk q => ⟨q.1, q.2.1, q.2.2.1, va_K.moved (u := U) (U := U.calling g mk a) (Vm.Alike.refl U.vm) q.2.2.2.1, q.2.2.2.2.1, nw_c q.2.2.2.2.2⟩
theorem kc_preV {D : va_G} {cl : List vw_C} {tys tyc : List (ClassId × FieldType)} {wr wc : va_W} {A : Nat → Prop} {ci q0 b : Nat} {q : vw_C} {fs : List Value} {As : List Value} (hK : va_K D cl tys s) (hP : va_P D cl (wr ++ wc) H) (hD : va_D A (wr ++ wc)) (is : List Nat) (ht : is.filterMap (fun i => tys[i]?) = tyc) (hc : cl[ci]? = some q) (he : (wr ++ wc)[q0]? = some (b, .inr (ci, fs))) (hN : nw s) :
    PreV s H q.1 b (va_Pc (.ref b :: As) (fun U => U.heap.size = H.size ∧ va_P D cl wc U.heap ∧ va_K D cl tyc U ∧ va_D (fun _ => True) wc ∧ nw U)) As := by
  obtain ⟨hPc, hDc⟩ := kc_right hP hD
  have hKc : va_K D cl tyc s := hK.sub is ht
  exact ⟨kc_blindN, va_recv hK hP hc he, fun U hU hW => ⟨rfl, by rw [hU], by rw [hU]; exact hPc, va_K.moved hW.alike hKc, hDc, nw_w hW hN⟩⟩
theorem kc_preVM {D : va_G} {cl : List vw_C} {tys tyc : List (ClassId × FieldType)} {wr wc : va_W} {A : Nat → Prop} {ci q0 b : Nat} {q : vw_C} {fs : List Value} {As : List Value} (hK : va_K D cl tys s) (hP : va_P D cl (wr ++ wc) H) (hD : va_D A (wr ++ wc)) (is : List Nat) (ht : is.filterMap (fun i => tys[i]?) = tyc) (hc : cl[ci]? = some q) (he : (wr ++ wc)[q0]? = some (b, .inr (ci, fs))) :
    PreV s H q.1 b (va_Pc (.ref b :: As) (fun U => U.heap.size = H.size ∧ va_P D cl wc U.heap ∧ va_K D cl tyc U ∧ va_D (fun _ => True) wc)) As := by
  obtain ⟨hPc, hDc⟩ := kc_right hP hD
  have hKc : va_K D cl tyc s := hK.sub is ht
  exact ⟨kc_blind, va_recv hK hP hc he, fun U hU hW => ⟨rfl, by rw [hU], by rw [hU]; exact hPc, va_K.moved hW.alike hKc, hDc⟩⟩
theorem kc_preS {D : va_G} {cl : List vw_C} {tys tyc : List (ClassId × FieldType)} {wr wc : va_W} {A : Nat → Prop} {As : List Value} (hK : va_K D cl tys s) (hP : va_P D cl (wr ++ wc) H) (hD : va_D A (wr ++ wc)) (is : List Nat) (ht : is.filterMap (fun i => tys[i]?) = tyc) :
    PreS s H (va_Pc As (fun U => U.heap.size = H.size ∧ va_P D cl wc U.heap ∧ va_K D cl tyc U ∧ va_D (fun _ => True) wc)) As := by
  obtain ⟨hPc, hDc⟩ := kc_right hP hD
  have hKc : va_K D cl tyc s := hK.sub is ht
  exact ⟨kc_blind, fun U hU hW => ⟨rfl, by rw [hU], by rw [hU]; exact hPc, va_K.moved hW.alike hKc, hDc⟩⟩
end Help
theorem nar_b {v : Int32} (h : v = 0 ∨ v = 1) : narrow .boolean (.int v) = .int v := by
  rcases h with rfl | rfl <;> rfl
theorem cp_le {n : Int32} {N : Nat} (h : n.toNatClampNeg ≤ N) : (0 : Int32).toNatClampNeg + n.toNatClampNeg ≤ N := by
  rw [sb_cl0, Nat.zero_add]; exact h

