/-! Floor: arcs are put and dropped, operations added -/
theorem pz_bv (n : Nat) : (nI n).toBitVec = BitVec.ofNat 32 n := rfl
theorem pz_m1 : ((-1 : Int32)).toBitVec = BitVec.allOnes 32 := by decide
theorem pz_clr {m b : Nat} (hm : m < 4096) (hb : b < 12) : ∃ m', m' < 4096 ∧ nI m &&& (((1 : Int32) <<< (nI b &&& 31)) ^^^ (-1)) = nI m' ∧ ∀ k, m'.testBit k = (m.testBit k && !decide (k = b)) := by
  refine ⟨m &&& (4095 ^^^ 2 ^ b), Nat.lt_of_le_of_lt Nat.and_le_left hm, ?_, fun k => ?_⟩
  · rw [pz_one (by omega)]
    apply pz_inj
    rw [Int32.toBitVec_and, Int32.toBitVec_xor, pz_m1, pz_bv, pz_bv, pz_bv]
    apply BitVec.eq_of_getLsbD_eq
    intro i hi
    rw [BitVec.getLsbD_and, BitVec.getLsbD_xor, BitVec.getLsbD_allOnes, BitVec.getLsbD_ofNat, BitVec.getLsbD_ofNat, BitVec.getLsbD_ofNat, Nat.testBit_and, Nat.testBit_xor]
    by_cases q : m.testBit i = true
    · have h12 := pz_big hm q
      have e : (4095 : Nat).testBit i = true := by
        rw [show (4095 : Nat) = 2 ^ 12 - 1 from rfl, Nat.testBit_two_pow_sub_one]; simp [h12]
      simp [hi, q, e, Bool.xor_comm]
    · simp [hi, q]
  · rw [Nat.testBit_and, Nat.testBit_xor, Nat.testBit_two_pow]
    by_cases q : m.testBit k = true
    · have h12 := pz_big hm q
      have e : (4095 : Nat).testBit k = true := by
        rw [show (4095 : Nat) = 2 ^ 12 - 1 from rfl, Nat.testBit_two_pow_sub_one]; simp [h12]
      rw [q, e]
      by_cases e2 : k = b
      · subst e2; simp
      · have e3 : ¬ b = k := fun x => e2 x.symm
        simp [e2, e3]
    · simp [q]
def Up (ar : Nat → Nat → Bool) (a b : Nat) : Nat → Nat → Bool := fun i k => ar i k || (decide (i = a) && decide (k = b))
def Dn (ar : Nat → Nat → Bool) (a b : Nat) : Nat → Nat → Bool := fun i k => ar i k && !((decide (i = a) && decide (k = b)) || (decide (i = b) && decide (k = a)))
theorem ArT.put {n a b : Nat} {ar : Nat → Nat → Bool} {fa : Nat → Int32} (hn : n ≤ 12) (h : ArT n ar fa) (ha : a < n) (hb : b < 12) : ArT n (Up ar a b) (upd fa a ((fa a) ||| ((1 : Int32) <<< (nI b &&& 31)))) := by
  intro i hi
  obtain ⟨m, hm, e, ht⟩ := h i hi
  by_cases q : i = a
  · subst q
    rw [pk_us, e, pz_one (by omega), pz_or (by omega) (by have := pz_tp hb; omega)]
    refine ⟨_, pz_or12 hm (pz_tp hb), rfl, fun k => ?_⟩
    rw [Nat.testBit_or, ht k, Nat.testBit_two_pow]
    unfold Up
    by_cases e2 : k = b
    · subst e2; simp
    · have e3 : ¬ b = k := fun x => e2 x.symm
      simp [e2, e3]
  · rw [pk_un q]
    refine ⟨m, hm, e, fun k => ?_⟩
    rw [ht k]
    unfold Up
    simp [q]
theorem ArT.clr {n a b : Nat} {ar : Nat → Nat → Bool} {fa : Nat → Int32} (h : ArT n ar fa) (hb : b < 12) : ArT n (fun i k => ar i k && !(decide (i = a) && decide (k = b))) (upd fa a ((fa a) &&& (((1 : Int32) <<< (nI b &&& 31)) ^^^ (-1)))) := by
  intro i hi
  obtain ⟨m, hm, e, ht⟩ := h i hi
  by_cases q : i = a
  · subst q
    obtain ⟨m', hm', e', ht'⟩ := pz_clr hm hb
    rw [pk_us, e, e']
    refine ⟨m', hm', rfl, fun k => ?_⟩
    rw [ht' k, ht k]
    simp
  · rw [pk_un q]
    refine ⟨m, hm, e, fun k => ?_⟩
    rw [ht k]
    simp [q]
theorem ArT.congr {n : Nat} {ar ar' : Nat → Nat → Bool} {fa : Nat → Int32} (h : ArT n ar fa) (e : ∀ i k, i < n → ar i k = ar' i k) : ArT n ar' fa := fun i hi => by
  obtain ⟨m, hm, e1, ht⟩ := h i hi
  exact ⟨m, hm, e1, fun k => by rw [ht k, e i k hi]⟩
/-- what a shop is -/
def Shop (n nj : Nat) (jb mc d : Nat → Nat) (ar : Nat → Nat → Bool) : Prop :=
  n ≤ 12 ∧ nj ≤ 4 ∧ (∀ i, i < n → jb i < nj) ∧ (∀ i, i < n → mc i < 4) ∧ (∀ i, i < n → 1 ≤ d i ∧ d i ≤ 50) ∧ (∀ i k, i < n → k < n → i ≠ k → jb i = jb k → mc i ≠ mc k) ∧ (∀ i k, ar i k = true → i < n ∧ k < n ∧ i ≠ k ∧ mc i = mc k) ∧ ∃ g, Pot n (Ed n jb ar) d g
theorem Shop.ed {n nj : Nat} {jb mc d : Nat → Nat} {ar : Nat → Nat → Bool} (h : Shop n nj jb mc d ar) {i k : Nat} (he : Ed n jb ar i k) : i < n ∧ k < n ∧ i ≠ k := by
  obtain ⟨-, -, -, -, -, -, h7, -⟩ := h
  rcases he with q | q
  · have := h7 i k q; exact ⟨this.1, this.2.1, this.2.2.1⟩
  · have := q.1; have := q.2.1; exact ⟨by omega, by omega, by omega⟩
theorem Shop.heads {n nj : Nat} {jb mc d : Nat → Nat} {ar : Nat → Nat → Bool} (h : Shop n nj jb mc d ar) : ∃ hs ts, IsH n (Ed n jb ar) d hs ∧ IsH n (Rv (Ed n jb ar)) d ts := by
  obtain ⟨h1, -, -, -, h5, -, -, h8⟩ := h
  obtain ⟨hs, hh⟩ := IsH.of_pot (fun i hi => (h5 i hi).1) h8
  obtain ⟨ts, ht⟩ := IsH.of_pot (E := Rv (Ed n jb ar)) (fun i hi => (h5 i hi).1) ⟨_, hh.1.rev (M := 600) (fun i hi => hh.bd h1 h5 hi)⟩
  exact ⟨hs, ts, hh, ht⟩
theorem sp_X0_measure2 {n nj : Nat} {jb mc d : Nat → Nat} {ar : Nat → Nat → Bool} {fd fn fa fh ft : Nat → Int32} {post : (Nat → Int32) → (Nat → Int32) → Prop} (S : Shop n nj jb mc d ar) (hx : NxT n jb fn) (ha : ArT n ar fa) (hd : Tb n fd d)
    (hpost : ∀ fh' ft' hs ts, IsH n (Ed n jb ar) d hs → IsH n (Rv (Ed n jb ar)) d ts → Tb n fh' hs → Tb n ft' ts → post fh' ft') : wp_X0_measure (nI n) fd fn fa fh ft post := by
  obtain ⟨hs, ts, h1, h2⟩ := S.heads
  exact sp_X0_measure S.1 hx ha hd S.2.2.2.2.1 (fun a b he => (S.ed he).2.2) h1 h2 (fun fh' ft' q1 q2 => hpost fh' ft' hs ts h1 h2 q1 q2)
theorem sp_X0_putArc {n nj a b : Nat} {jb mc d : Nat → Nat} {ar : Nat → Nat → Bool} {fd fn fa fh ft : Nat → Int32} {post : (Nat → Int32) → (Nat → Int32) → (Nat → Int32) → Prop} (S : Shop n nj jb mc d (Up ar a b)) (hx : NxT n jb fn) (ha : ArT n ar fa) (hd : Tb n fd d) (hi : a < n) (hk : b < n)
    (hpost : ∀ fa' fh' ft' hs ts, ArT n (Up ar a b) fa' → IsH n (Ed n jb (Up ar a b)) d hs → IsH n (Rv (Ed n jb (Up ar a b))) d ts → Tb n fh' hs → Tb n ft' ts → post fa' fh' ft') : wp_X0_putArc (nI n) fd fn fa fh ft (nI a) (nI b) post := by
  have hn := S.1
  unfold wp_X0_putArc
  have hin : vp_in (nI a) 12 := pz_inc (by omega) (by omega)
  rw [nI_clamp (n := a) (by omega)]
  have hput := ha.put hn hi (b := b) (by omega)
  exact ⟨hin, hin, sp_X0_measure2 S hx hput hd (fun fh' ft' hs ts q1 q2 q3 q4 => hpost _ fh' ft' hs ts hput q1 q2 q3 q4)⟩
theorem sp_X0_dropArcs {n nj a b : Nat} {jb mc d : Nat → Nat} {ar : Nat → Nat → Bool} {fd fn fa fh ft : Nat → Int32} {post : (Nat → Int32) → (Nat → Int32) → (Nat → Int32) → Prop} (S : Shop n nj jb mc d (Dn ar a b)) (hx : NxT n jb fn) (ha : ArT n ar fa) (hd : Tb n fd d) (hi : a < n) (hk : b < n)
    (hpost : ∀ fa' fh' ft' hs ts, ArT n (Dn ar a b) fa' → IsH n (Ed n jb (Dn ar a b)) d hs → IsH n (Rv (Ed n jb (Dn ar a b))) d ts → Tb n fh' hs → Tb n ft' ts → post fa' fh' ft') : wp_X0_dropArcs (nI n) fd fn fa fh ft (nI a) (nI b) post := by
  have hn := S.1
  unfold wp_X0_dropArcs
  have i1 : vp_in (nI a) 12 := pz_inc (by omega) (by omega)
  have i2 : vp_in (nI b) 12 := pz_inc (by omega) (by omega)
  rw [nI_clamp (n := a) (by omega), nI_clamp (n := b) (by omega)]
  have h1 := ha.clr (a := a) (b := b) (by omega)
  have h2 := (h1.clr (a := b) (b := a) (by omega)).congr (ar' := Dn ar a b) (fun i k _ => by
    unfold Dn
    cases ar i k <;> cases decide (i = a) <;> cases decide (k = b) <;> cases decide (i = b) <;> cases decide (k = a) <;> rfl)
  exact ⟨i1, i1, i2, i2, sp_X0_measure2 S hx h2 hd (fun fh' ft' hs ts q1 q2 q3 q4 => hpost _ fh' ft' hs ts h2 q1 q2 q3 q4)⟩
/-- the rows of first and last ones of the jobs -/
def FsT (n nj : Nat) (jb : Nat → Nat) (f : Nat → Int32) : Prop := ∀ j, j < nj → (f j = (-1) ∧ ∀ i, i < n → jb i ≠ j) ∨ ∃ i, i < n ∧ jb i = j ∧ (∀ k, k < i → jb k ≠ j) ∧ f j = nI i
def LsT (n nj : Nat) (jb : Nat → Nat) (f : Nat → Int32) : Prop := ∀ j, j < nj → (f j = (-1) ∧ ∀ i, i < n → jb i ≠ j) ∨ ∃ i, i < n ∧ jb i = j ∧ (∀ k, i < k → k < n → jb k ≠ j) ∧ f j = nI i
theorem sp_X0_addJob {n nj : Nat} {jb : Nat → Nat} {ff fl : Nat → Int32} {post : Int32 → Int32 → (Nat → Int32) → (Nat → Int32) → Prop} (hj : nj < 4) (hjb : ∀ i, i < n → jb i < nj) (hf : FsT n nj jb ff) (hl : LsT n nj jb fl) (hp : ∀ ff' fl', FsT n (nj + 1) jb ff' → LsT n (nj + 1) jb fl' → post (nI nj) (nI (nj + 1)) ff' fl') : wp_X0_addJob (nI nj) ff fl post := by
  unfold wp_X0_addJob
  have hin : vp_in (nI nj) 4 := pz_inc (by omega) (by omega)
  rw [nI_1, nI_clamp (by omega)]
  refine ⟨hin, hin, hp _ _ (fun j hj2 => ?_) (fun j hj2 => ?_)⟩
  · by_cases e : j = nj
    · subst e; rw [pk_us]
      exact Or.inl ⟨rfl, fun i hi => by have := hjb i hi; omega⟩
    · rw [pk_un e]; exact hf j (by omega)
  · by_cases e : j = nj
    · subst e; rw [pk_us]
      exact Or.inl ⟨rfl, fun i hi => by have := hjb i hi; omega⟩
    · rw [pk_un e]; exact hl j (by omega)
/-- a row with one place more -/
def Ap (n : Nat) (g : Nat → Nat) (x : Nat) : Nat → Nat := fun i => if i = n then x else g i
theorem Ap.lt {n : Nat} {g : Nat → Nat} {x i : Nat} (h : i < n) : Ap n g x i = g i := by unfold Ap; rw [if_neg (by omega)]
theorem Ap.at {n : Nat} {g : Nat → Nat} {x : Nat} : Ap n g x n = x := by unfold Ap; rw [if_pos rfl]
theorem Tb.app {n : Nat} {f : Nat → Int32} {g : Nat → Nat} (h : Tb n f g) (x : Nat) : Tb (n + 1) (upd f n (nI x)) (Ap n g x) := by
  intro i hi
  by_cases e : i = n
  · subst e; rw [pk_us, Ap.at]
  · rw [pk_un e, Ap.lt (by omega)]; exact h i (by omega)
theorem Nx.app {n j i k : Nat} {jb : Nat → Nat} (hi : i < n) : Nx (n + 1) (Ap n jb j) i k ↔ Nx n jb i k ∨ (k = n ∧ jb i = j ∧ ∀ m, i < m → m < n → jb m ≠ j) := by
  unfold Nx
  constructor
  · rintro ⟨h1, h2, h3, h4⟩
    rw [Ap.lt hi] at h3 h4
    by_cases e : k = n
    · subst e
      rw [Ap.at] at h3
      refine Or.inr ⟨rfl, h3.symm, fun m hm1 hm2 => ?_⟩
      have := h4 m hm1 hm2
      rw [Ap.lt hm2] at this
      rw [h3]; exact this
    · have hk : k < n := by omega
      rw [Ap.lt hk] at h3
      refine Or.inl ⟨h1, hk, h3, fun m hm1 hm2 => ?_⟩
      have := h4 m hm1 hm2
      rw [Ap.lt (by omega)] at this
      exact this
  · rintro (⟨h1, h2, h3, h4⟩ | ⟨rfl, h3, h4⟩)
    · refine ⟨h1, by omega, ?_, fun m hm1 hm2 => ?_⟩
      · rw [Ap.lt h2, Ap.lt hi]; exact h3
      · rw [Ap.lt (by omega), Ap.lt hi]; exact h4 m hm1 hm2
    · refine ⟨hi, by omega, ?_, fun m hm1 hm2 => ?_⟩
      · rw [Ap.at, Ap.lt hi]; exact h3.symm
      · rw [Ap.lt hm2, Ap.lt hi, h3]; exact h4 m hm1 hm2
theorem Shop.app {n nj j m x : Nat} {jb mc d : Nat → Nat} {ar : Nat → Nat → Bool} (S : Shop n nj jb mc d ar) (hn : n < 12) (hj : j < nj) (hm : m < 4) (hx : 1 ≤ x ∧ x ≤ 50) (hv : ¬ ∃ i, i < n ∧ jb i = j ∧ mc i = m) : Shop (n + 1) nj (Ap n jb j) (Ap n mc m) (Ap n d x) ar := by
  obtain ⟨h1, h2, h3, h4, h5, h6, h7, g, hg⟩ := S
  refine ⟨by omega, h2, fun i hi => ?_, fun i hi => ?_, fun i hi => ?_, fun i k hi hk hne => ?_, fun i k hik => ?_, fun i => if i = n then 600 + sm g n + 50 else g i, fun a b ha hb he => ?_⟩
  · by_cases e : i = n
    · subst e; rw [Ap.at]; exact hj
    · rw [Ap.lt (by omega)]; exact h3 i (by omega)
  · by_cases e : i = n
    · subst e; rw [Ap.at]; exact hm
    · rw [Ap.lt (by omega)]; exact h4 i (by omega)
  · by_cases e : i = n
    · subst e; rw [Ap.at]; exact hx
    · rw [Ap.lt (by omega)]; exact h5 i (by omega)
  · by_cases e : i = n
    · subst e
      rw [Ap.at, Ap.at, Ap.lt (by omega), Ap.lt (by omega)]
      intro e1 e2
      exact hv ⟨k, by omega, e1.symm, e2.symm⟩
    · by_cases e2 : k = n
      · subst e2
        rw [Ap.at, Ap.at, Ap.lt (by omega), Ap.lt (by omega)]
        intro e1 e2
        exact hv ⟨i, by omega, e1, e2⟩
      · rw [Ap.lt (by omega), Ap.lt (by omega), Ap.lt (by omega), Ap.lt (by omega)]
        exact h6 i k (by omega) (by omega) hne
  · obtain ⟨a1, a2, a3, a4⟩ := h7 i k hik
    exact ⟨by omega, by omega, a3, by rw [Ap.lt a1, Ap.lt a2]; exact a4⟩
  · have hgs : ∀ i, i < n → g i ≤ sm g n := fun i hi => by
      have := sm_add (f := fun _ => 0) (g := g) (i := i) (d := g i) n hi (fun k _ _ => Nat.zero_le _) (by omega)
      omega
    have key : a < n → b < n → Ed n jb ar a b → (fun i => if i = n then 600 + sm g n + 50 else g i) a + Ap n d x a ≤ (fun i => if i = n then 600 + sm g n + 50 else g i) b := by
      intro ha2 hb2 he2
      have := hg a b ha2 hb2 he2
      simp only [if_neg (show ¬ a = n by omega), if_neg (show ¬ b = n by omega)]
      rw [Ap.lt ha2]; exact this
    rcases he with he | he
    · obtain ⟨a1, a2, -, -⟩ := h7 a b he
      exact key a1 a2 (Or.inl he)
    · have ha2 : a < n := by have := he.1; have := he.2.1; omega
      rcases (Nx.app ha2).mp he with he2 | ⟨rfl, -, -⟩
      · exact key ha2 he2.2.1 (Or.inr he2)
      · have := hgs a ha2
        have := (h5 a ha2).2
        simp only [if_neg (show ¬ a = b by omega), if_true]
        rw [Ap.lt ha2]; omega
set_option maxHeartbeats 1000000 in
theorem sp_X0_addOperation {n nj j m x : Nat} {jb mc d : Nat → Nat} {ar : Nat → Nat → Bool} {ff fl fj fm fd fn fa fh ft : Nat → Int32} {post : Int32 → Int32 → (Nat → Int32) → (Nat → Int32) → (Nat → Int32) → (Nat → Int32) → (Nat → Int32) → (Nat → Int32) → (Nat → Int32) → (Nat → Int32) → (Nat → Int32) → Prop}
    (S : Shop n nj jb mc d ar) (hn : n < 12) (hj : j < nj) (hm : m < 4) (hx : 1 ≤ x ∧ x ≤ 50) (hv : ¬ ∃ i, i < n ∧ jb i = j ∧ mc i = m)
    (hff : FsT n nj jb ff) (hfl : LsT n nj jb fl) (hfj : Tb n fj jb) (hfm : Tb n fm mc) (hfd : Tb n fd d) (hfn : NxT n jb fn) (hfa : ArT n ar fa)
    (hp : ∀ ff' fl' fj' fm' fd' fn' fa' fh' ft' hs ts, FsT (n + 1) nj (Ap n jb j) ff' → LsT (n + 1) nj (Ap n jb j) fl' → Tb (n + 1) fj' (Ap n jb j) → Tb (n + 1) fm' (Ap n mc m) → Tb (n + 1) fd' (Ap n d x) → NxT (n + 1) (Ap n jb j) fn' → ArT (n + 1) ar fa' → IsH (n + 1) (Ed (n + 1) (Ap n jb j) ar) (Ap n d x) hs → IsH (n + 1) (Rv (Ed (n + 1) (Ap n jb j) ar)) (Ap n d x) ts → Tb (n + 1) fh' hs → Tb (n + 1) ft' ts → post (nI n) (nI (n + 1)) ff' fl' fj' fm' fd' fn' fa' fh' ft') :
    wp_X0_addOperation (nI n) ff fl fj fm fd fn fa fh ft (nI j) (nI m) (nI x) post := by
  have S' := S.app hn hj hm hx hv
  obtain ⟨h1, h2, h3, h4, h5, h6, h7, h8⟩ := S
  unfold wp_X0_addOperation
  have hin : vp_in (nI n) 12 := pz_inc (by omega) (by omega)
  have hij : vp_in (nI j) 4 := pz_inc (by omega) (by omega)
  rw [nI_clamp (n := n) (by omega), nI_clamp (n := j) (by omega), nI_1]
  refine ⟨hin, hin, hin, hin, hin, hij, ?_⟩
  have hfl' : LsT (n + 1) nj (Ap n jb j) (upd fl j (nI n)) := by
    intro j2 hj2
    by_cases e : j2 = j
    · subst e; rw [pk_us]
      exact Or.inr ⟨n, by omega, Ap.at, fun k hk1 hk2 => absurd hk1 (by omega), rfl⟩
    · rw [pk_un e]
      rcases hfl j2 hj2 with ⟨e1, e2⟩ | ⟨i, hi, e1, e2, e3⟩
      · refine Or.inl ⟨e1, fun i hi => ?_⟩
        by_cases ei : i = n
        · subst ei; rw [Ap.at]; exact fun q => e q.symm
        · rw [Ap.lt (by omega)]; exact e2 i (by omega)
      · refine Or.inr ⟨i, by omega, by rw [Ap.lt hi]; exact e1, fun k hk1 hk2 => ?_, e3⟩
        by_cases ei : k = n
        · subst ei; rw [Ap.at]; exact fun q => e q.symm
        · rw [Ap.lt (by omega)]; exact e2 k hk1 (by omega)
  have hfa' : ArT (n + 1) ar (upd fa n 0) := by
    intro i hi
    by_cases e : i = n
    · subst e; rw [pk_us]
      refine ⟨0, by omega, rfl, fun k => ?_⟩
      rw [Nat.zero_testBit]
      cases q : ar i k
      · rfl
      · have := (h7 i k q).1; omega
    · rw [pk_un e]; exact hfa i (by omega)
  have core : ∀ ff' fn', FsT (n + 1) nj (Ap n jb j) ff' → NxT (n + 1) (Ap n jb j) fn' → vp_in (nI j) 4 ∧ (wp_X0_measure (nI (n + 1)) (upd fd n (nI x)) fn' (upd fa n 0) fh ft (fun (F_head_102 : Nat → Int32) (F_tail_102 : Nat → Int32) => post (nI n) (nI (n + 1)) ff' (upd fl j (nI n)) (upd fj n (nI j)) (upd fm n (nI m)) (upd fd n (nI x)) fn' (upd fa n 0) F_head_102 F_tail_102)) := by
    intro ff' fn' hff' hfn'
    exact ⟨hij, sp_X0_measure2 S' hfn' hfa' (hfd.app x) (fun fh' ft' hs ts q1 q2 q3 q4 => hp _ _ _ _ _ _ _ fh' ft' hs ts hff' hfl' (hfj.app j) (hfm.app m) (hfd.app x) hfn' hfa' q1 q2 q3 q4)⟩
  have hnone : ∀ k, ¬ Nx (n + 1) (Ap n jb j) n k := fun k q => by have := q.1; have := q.2.1; omega
  rcases hfl j hj with ⟨e1, e2⟩ | ⟨i, hi, e1, e2, e3⟩
  · -- the job's first one
    rw [e1]
    refine sp_X0_isOperation (by omega) (fun ho => ?_) (fun _ => ?_)
    · obtain ⟨k, hk, q⟩ := ho
      exact absurd q.symm (pz_ne1 (by omega))
    · refine ⟨fun ff' fn' => FsT (n + 1) nj (Ap n jb j) ff' ∧ NxT (n + 1) (Ap n jb j) fn', fun ff' fn' q => core ff' fn' q.1 q.2, fun _ => ⟨hij, fun j2 hj2 => ?_, fun i hi => ?_⟩, fun q => absurd rfl q⟩
      · by_cases e : j2 = j
        · subst e; rw [pk_us]
          exact Or.inr ⟨n, by omega, Ap.at, fun k hk => by rw [Ap.lt hk]; exact e2 k hk, rfl⟩
        · rw [pk_un e]
          rcases hff j2 hj2 with ⟨f1, f2⟩ | ⟨i, hi, f1, f2, f3⟩
          · refine Or.inl ⟨f1, fun i hi => ?_⟩
            by_cases ei : i = n
            · subst ei; rw [Ap.at]; exact fun q => e q.symm
            · rw [Ap.lt (by omega)]; exact f2 i (by omega)
          · exact Or.inr ⟨i, by omega, by rw [Ap.lt hi]; exact f1, fun k hk => by rw [Ap.lt (by omega)]; exact f2 k hk, f3⟩
      · by_cases e : i = n
        · subst e; rw [pk_us]; exact Or.inl ⟨rfl, hnone⟩
        · have hi2 : i < n := by omega
          rw [pk_un e]
          rcases hfn i hi2 with ⟨f1, f2⟩ | ⟨k, f1, f2⟩
          · refine Or.inl ⟨f1, fun k q => ?_⟩
            rcases (Nx.app hi2).mp q with q2 | ⟨-, q2, -⟩
            · exact f2 k q2
            · exact e2 i hi2 q2
          · exact Or.inr ⟨k, (Nx.app hi2).mpr (Or.inl f1), f2⟩
  · -- behind its last one
    rw [e3]
    refine sp_X0_isOperation (by omega) (fun _ => ?_) (fun ho => absurd ⟨i, hi, rfl⟩ ho)
    rw [nI_clamp (n := i) (by omega)]
    refine ⟨fun ff' fn' => FsT (n + 1) nj (Ap n jb j) ff' ∧ NxT (n + 1) (Ap n jb j) fn', fun ff' fn' q => core ff' fn' q.1 q.2, fun q => absurd q (by decide), fun _ => ⟨pz_inc (by omega) (by omega), fun j2 hj2 => ?_, fun i2 hi2 => ?_⟩⟩
    · rcases hff j2 hj2 with ⟨f1, f2⟩ | ⟨i2, hi2, f1, f2, f3⟩
      · refine Or.inl ⟨f1, fun i2 hi2 => ?_⟩
        by_cases ei : i2 = n
        · subst ei; rw [Ap.at]
          intro q
          rw [← q] at f2
          exact f2 i hi e1
        · rw [Ap.lt (by omega)]; exact f2 i2 (by omega)
      · exact Or.inr ⟨i2, by omega, by rw [Ap.lt hi2]; exact f1, fun k hk => by rw [Ap.lt (by omega)]; exact f2 k hk, f3⟩
    · by_cases e : i2 = i
      · subst e; rw [pk_us]
        exact Or.inr ⟨n, (Nx.app hi).mpr (Or.inr ⟨rfl, e1, e2⟩), rfl⟩
      · rw [pk_un e]
        by_cases en : i2 = n
        · subst en; rw [pk_us]; exact Or.inl ⟨rfl, hnone⟩
        · have hi3 : i2 < n := by omega
          rw [pk_un en]
          rcases hfn i2 hi3 with ⟨f1, f2⟩ | ⟨k, f1, f2⟩
          · refine Or.inl ⟨f1, fun k q => ?_⟩
            rcases (Nx.app hi3).mp q with q2 | ⟨-, q2, q3⟩
            · exact f2 k q2
            · rcases Nat.lt_or_ge i2 i with q4 | q4
              · exact q3 i q4 hi e1
              · exact e2 i2 (by omega) hi3 q2
          · exact Or.inr ⟨k, (Nx.app hi3).mpr (Or.inl f1), f2⟩
