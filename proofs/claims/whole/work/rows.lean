section
-- ===== PART A: goes FIRST, ahead of the names: the tables' words, and 'selects' of the private methods out of them =====
/-- a private method of a class that the tables say can be made, by its rows of tables_1 -/
def lw_okq (q : MethodName × Nat) : Prop := (q.1.cls ≠ "java/lang/invoke/MethodHandle" ∧ q.1.cls ≠ "java/lang/invoke/VarHandle") ∧ Cond.instantiable q.1.cls q.2 ∈ tables_1 ∧ Cond.privateMethod q.1 ∈ tables_1 ∧ Cond.instanceMethod q.1 ∈ tables_1
theorem lw_p0 : lw_okq (⟨"JobShop$Floor", "measure", "()V"⟩, 12) := ⟨⟨by decide +kernel, by decide +kernel⟩, List.mem_of_getElem? (i := 17) (by decide +kernel), List.mem_of_getElem? (i := 176) (by decide +kernel), List.mem_of_getElem? (i := 177) (by decide +kernel)⟩
theorem lw_p1 : lw_okq (⟨"JobShop$Floor", "stretch", "(I)Z"⟩, 12) := ⟨⟨by decide +kernel, by decide +kernel⟩, List.mem_of_getElem? (i := 17) (by decide +kernel), List.mem_of_getElem? (i := 180) (by decide +kernel), List.mem_of_getElem? (i := 181) (by decide +kernel)⟩
theorem lw_p2 : lw_okq (⟨"JobShop$Floor", "workFrom", "(III)I"⟩, 12) := ⟨⟨by decide +kernel, by decide +kernel⟩, List.mem_of_getElem? (i := 17) (by decide +kernel), List.mem_of_getElem? (i := 257) (by decide +kernel), List.mem_of_getElem? (i := 258) (by decide +kernel)⟩
theorem lw_p3 : lw_okq (⟨"JobShop$Floor", "forceFrom", "(II)Z"⟩, 12) := ⟨⟨by decide +kernel, by decide +kernel⟩, List.mem_of_getElem? (i := 17) (by decide +kernel), List.mem_of_getElem? (i := 282) (by decide +kernel), List.mem_of_getElem? (i := 283) (by decide +kernel)⟩
theorem lw_p4 : lw_okq (⟨"JobShop$Floor", "mustPrecede", "(III)Z"⟩, 12) := ⟨⟨by decide +kernel, by decide +kernel⟩, List.mem_of_getElem? (i := 17) (by decide +kernel), List.mem_of_getElem? (i := 288) (by decide +kernel), List.mem_of_getElem? (i := 289) (by decide +kernel)⟩
theorem lw_p5 : lw_okq (⟨"JobShop$Search", "prepare", "()V"⟩, 12) := ⟨⟨by decide +kernel, by decide +kernel⟩, List.mem_of_getElem? (i := 78) (by decide +kernel), List.mem_of_getElem? (i := 303) (by decide +kernel), List.mem_of_getElem? (i := 304) (by decide +kernel)⟩
theorem lw_p6 : lw_okq (⟨"JobShop$Search", "forerunners", "(I)I"⟩, 12) := ⟨⟨by decide +kernel, by decide +kernel⟩, List.mem_of_getElem? (i := 78) (by decide +kernel), List.mem_of_getElem? (i := 307) (by decide +kernel), List.mem_of_getElem? (i := 308) (by decide +kernel)⟩
theorem lw_p7 : lw_okq (⟨"JobShop$Search", "extend", "(III)V"⟩, 12) := ⟨⟨by decide +kernel, by decide +kernel⟩, List.mem_of_getElem? (i := 78) (by decide +kernel), List.mem_of_getElem? (i := 312) (by decide +kernel), List.mem_of_getElem? (i := 313) (by decide +kernel)⟩
theorem lw_p8 : lw_okq (⟨"JobShop$Search", "keep", "()V"⟩, 12) := ⟨⟨by decide +kernel, by decide +kernel⟩, List.mem_of_getElem? (i := 78) (by decide +kernel), List.mem_of_getElem? (i := 316) (by decide +kernel), List.mem_of_getElem? (i := 317) (by decide +kernel)⟩
theorem lw_p9 : lw_okq (⟨"JobShop$Search", "isEarlier", "()Z"⟩, 12) := ⟨⟨by decide +kernel, by decide +kernel⟩, List.mem_of_getElem? (i := 78) (by decide +kernel), List.mem_of_getElem? (i := 321) (by decide +kernel), List.mem_of_getElem? (i := 322) (by decide +kernel)⟩
theorem lw_p10 : lw_okq (⟨"JobShop$Search", "isHopeless", "(II)Z"⟩, 12) := ⟨⟨by decide +kernel, by decide +kernel⟩, List.mem_of_getElem? (i := 78) (by decide +kernel), List.mem_of_getElem? (i := 326) (by decide +kernel), List.mem_of_getElem? (i := 327) (by decide +kernel)⟩
theorem lw_p11 : lw_okq (⟨"JobShop$Search", "endsAbove", "(I)Z"⟩, 12) := ⟨⟨by decide +kernel, by decide +kernel⟩, List.mem_of_getElem? (i := 78) (by decide +kernel), List.mem_of_getElem? (i := 331) (by decide +kernel), List.mem_of_getElem? (i := 332) (by decide +kernel)⟩
theorem lw_p12 : lw_okq (⟨"JobShop$Search", "earliest", "(I)I"⟩, 12) := ⟨⟨by decide +kernel, by decide +kernel⟩, List.mem_of_getElem? (i := 78) (by decide +kernel), List.mem_of_getElem? (i := 335) (by decide +kernel), List.mem_of_getElem? (i := 336) (by decide +kernel)⟩
theorem lw_p13 : lw_okq (⟨"JobShop$Search", "isStranded", "(III)Z"⟩, 12) := ⟨⟨by decide +kernel, by decide +kernel⟩, List.mem_of_getElem? (i := 78) (by decide +kernel), List.mem_of_getElem? (i := 339) (by decide +kernel), List.mem_of_getElem? (i := 340) (by decide +kernel)⟩
theorem lw_p14 : lw_okq (⟨"JobShop$Search", "isPassed", "(III)Z"⟩, 12) := ⟨⟨by decide +kernel, by decide +kernel⟩, List.mem_of_getElem? (i := 78) (by decide +kernel), List.mem_of_getElem? (i := 343) (by decide +kernel), List.mem_of_getElem? (i := 344) (by decide +kernel)⟩
theorem lw_p15 : lw_okq (⟨"JobShop$Search", "place", "(II)V"⟩, 12) := ⟨⟨by decide +kernel, by decide +kernel⟩, List.mem_of_getElem? (i := 78) (by decide +kernel), List.mem_of_getElem? (i := 347) (by decide +kernel), List.mem_of_getElem? (i := 348) (by decide +kernel)⟩
def lw_privs_1 : List (MethodName × Nat) := [(⟨"JobShop$Floor", "measure", "()V"⟩, 12), (⟨"JobShop$Floor", "stretch", "(I)Z"⟩, 12), (⟨"JobShop$Floor", "workFrom", "(III)I"⟩, 12), (⟨"JobShop$Floor", "forceFrom", "(II)Z"⟩, 12), (⟨"JobShop$Floor", "mustPrecede", "(III)Z"⟩, 12), (⟨"JobShop$Search", "prepare", "()V"⟩, 12), (⟨"JobShop$Search", "forerunners", "(I)I"⟩, 12), (⟨"JobShop$Search", "extend", "(III)V"⟩, 12), (⟨"JobShop$Search", "keep", "()V"⟩, 12), (⟨"JobShop$Search", "isEarlier", "()Z"⟩, 12), (⟨"JobShop$Search", "isHopeless", "(II)Z"⟩, 12), (⟨"JobShop$Search", "endsAbove", "(I)Z"⟩, 12), (⟨"JobShop$Search", "earliest", "(I)I"⟩, 12), (⟨"JobShop$Search", "isStranded", "(III)Z"⟩, 12), (⟨"JobShop$Search", "isPassed", "(III)Z"⟩, 12), (⟨"JobShop$Search", "place", "(II)V"⟩, 12)]
theorem lw_r1 : ∀ q ∈ lw_privs_1, lw_okq q := List.forall_mem_cons.mpr ⟨lw_p0, List.forall_mem_cons.mpr ⟨lw_p1, List.forall_mem_cons.mpr ⟨lw_p2, List.forall_mem_cons.mpr ⟨lw_p3, List.forall_mem_cons.mpr ⟨lw_p4, List.forall_mem_cons.mpr ⟨lw_p5, List.forall_mem_cons.mpr ⟨lw_p6, List.forall_mem_cons.mpr ⟨lw_p7, List.forall_mem_cons.mpr ⟨lw_p8, List.forall_mem_cons.mpr ⟨lw_p9, List.forall_mem_cons.mpr ⟨lw_p10, List.forall_mem_cons.mpr ⟨lw_p11, List.forall_mem_cons.mpr ⟨lw_p12, List.forall_mem_cons.mpr ⟨lw_p13, List.forall_mem_cons.mpr ⟨lw_p14, List.forall_mem_cons.mpr ⟨lw_p15, fun _ h => absurd h List.not_mem_nil⟩⟩⟩⟩⟩⟩⟩⟩⟩⟩⟩⟩⟩⟩⟩⟩
theorem lw_p16 : lw_okq (⟨"JobShop", "endsTooLate", "(I)Z"⟩, 4) := ⟨⟨by decide +kernel, by decide +kernel⟩, List.mem_of_getElem? (i := 9) (by decide +kernel), List.mem_of_getElem? (i := 367) (by decide +kernel), List.mem_of_getElem? (i := 368) (by decide +kernel)⟩
theorem lw_p17 : lw_okq (⟨"JobShop", "draftEnd", "(I)I"⟩, 4) := ⟨⟨by decide +kernel, by decide +kernel⟩, List.mem_of_getElem? (i := 9) (by decide +kernel), List.mem_of_getElem? (i := 373) (by decide +kernel), List.mem_of_getElem? (i := 374) (by decide +kernel)⟩
theorem lw_p18 : lw_okq (⟨"JobShop", "meetsGreater", "(I)Z"⟩, 4) := ⟨⟨by decide +kernel, by decide +kernel⟩, List.mem_of_getElem? (i := 9) (by decide +kernel), List.mem_of_getElem? (i := 377) (by decide +kernel), List.mem_of_getElem? (i := 378) (by decide +kernel)⟩
theorem lw_p19 : lw_okq (⟨"JobShopModel", "forget", "()V"⟩, 16) := ⟨⟨by decide +kernel, by decide +kernel⟩, List.mem_of_getElem? (i := 400) (by decide +kernel), List.mem_of_getElem? (i := 460) (by decide +kernel), List.mem_of_getElem? (i := 461) (by decide +kernel)⟩
theorem lw_p20 : lw_okq (⟨"JobShopModel", "isPair", "(II)Z"⟩, 16) := ⟨⟨by decide +kernel, by decide +kernel⟩, List.mem_of_getElem? (i := 400) (by decide +kernel), List.mem_of_getElem? (i := 479) (by decide +kernel), List.mem_of_getElem? (i := 480) (by decide +kernel)⟩
theorem lw_p21 : lw_okq (⟨"JobShopModel", "isOperation", "(I)Z"⟩, 16) := ⟨⟨by decide +kernel, by decide +kernel⟩, List.mem_of_getElem? (i := 400) (by decide +kernel), List.mem_of_getElem? (i := 483) (by decide +kernel), List.mem_of_getElem? (i := 484) (by decide +kernel)⟩
theorem lw_p22 : lw_okq (⟨"JobShopModel", "hasPath", "([ZII)Z"⟩, 16) := ⟨⟨by decide +kernel, by decide +kernel⟩, List.mem_of_getElem? (i := 400) (by decide +kernel), List.mem_of_getElem? (i := 487) (by decide +kernel), List.mem_of_getElem? (i := 488) (by decide +kernel)⟩
theorem lw_p23 : lw_okq (⟨"JobShopModel", "leads", "([ZII)Z"⟩, 16) := ⟨⟨by decide +kernel, by decide +kernel⟩, List.mem_of_getElem? (i := 400) (by decide +kernel), List.mem_of_getElem? (i := 491) (by decide +kernel), List.mem_of_getElem? (i := 492) (by decide +kernel)⟩
theorem lw_p24 : lw_okq (⟨"JobShopModel", "nextOf", "(I)I"⟩, 16) := ⟨⟨by decide +kernel, by decide +kernel⟩, List.mem_of_getElem? (i := 400) (by decide +kernel), List.mem_of_getElem? (i := 495) (by decide +kernel), List.mem_of_getElem? (i := 496) (by decide +kernel)⟩
theorem lw_p25 : lw_okq (⟨"JobShopModel", "look", "([Z)V"⟩, 16) := ⟨⟨by decide +kernel, by decide +kernel⟩, List.mem_of_getElem? (i := 400) (by decide +kernel), List.mem_of_getElem? (i := 511) (by decide +kernel), List.mem_of_getElem? (i := 512) (by decide +kernel)⟩
theorem lw_p26 : lw_okq (⟨"JobShopModel", "findHeads", "([Z)Z"⟩, 16) := ⟨⟨by decide +kernel, by decide +kernel⟩, List.mem_of_getElem? (i := 400) (by decide +kernel), List.mem_of_getElem? (i := 515) (by decide +kernel), List.mem_of_getElem? (i := 516) (by decide +kernel)⟩
theorem lw_p27 : lw_okq (⟨"JobShopModel", "findTails", "([Z)V"⟩, 16) := ⟨⟨by decide +kernel, by decide +kernel⟩, List.mem_of_getElem? (i := 400) (by decide +kernel), List.mem_of_getElem? (i := 519) (by decide +kernel), List.mem_of_getElem? (i := 520) (by decide +kernel)⟩
theorem lw_p28 : lw_okq (⟨"JobShopModel", "longest", "()I"⟩, 16) := ⟨⟨by decide +kernel, by decide +kernel⟩, List.mem_of_getElem? (i := 400) (by decide +kernel), List.mem_of_getElem? (i := 523) (by decide +kernel), List.mem_of_getElem? (i := 524) (by decide +kernel)⟩
theorem lw_p29 : lw_okq (⟨"JobShopModel", "isForced", "(III)Z"⟩, 16) := ⟨⟨by decide +kernel, by decide +kernel⟩, List.mem_of_getElem? (i := 400) (by decide +kernel), List.mem_of_getElem? (i := 539) (by decide +kernel), List.mem_of_getElem? (i := 540) (by decide +kernel)⟩
theorem lw_p30 : lw_okq (⟨"JobShopModel", "layFirst", "(I)V"⟩, 16) := ⟨⟨by decide +kernel, by decide +kernel⟩, List.mem_of_getElem? (i := 400) (by decide +kernel), List.mem_of_getElem? (i := 547) (by decide +kernel), List.mem_of_getElem? (i := 548) (by decide +kernel)⟩
theorem lw_p31 : lw_okq (⟨"JobShopModel", "choose", "()Z"⟩, 16) := ⟨⟨by decide +kernel, by decide +kernel⟩, List.mem_of_getElem? (i := 400) (by decide +kernel), List.mem_of_getElem? (i := 551) (by decide +kernel), List.mem_of_getElem? (i := 552) (by decide +kernel)⟩
def lw_privs_2 : List (MethodName × Nat) := [(⟨"JobShop", "endsTooLate", "(I)Z"⟩, 4), (⟨"JobShop", "draftEnd", "(I)I"⟩, 4), (⟨"JobShop", "meetsGreater", "(I)Z"⟩, 4), (⟨"JobShopModel", "forget", "()V"⟩, 16), (⟨"JobShopModel", "isPair", "(II)Z"⟩, 16), (⟨"JobShopModel", "isOperation", "(I)Z"⟩, 16), (⟨"JobShopModel", "hasPath", "([ZII)Z"⟩, 16), (⟨"JobShopModel", "leads", "([ZII)Z"⟩, 16), (⟨"JobShopModel", "nextOf", "(I)I"⟩, 16), (⟨"JobShopModel", "look", "([Z)V"⟩, 16), (⟨"JobShopModel", "findHeads", "([Z)Z"⟩, 16), (⟨"JobShopModel", "findTails", "([Z)V"⟩, 16), (⟨"JobShopModel", "longest", "()I"⟩, 16), (⟨"JobShopModel", "isForced", "(III)Z"⟩, 16), (⟨"JobShopModel", "layFirst", "(I)V"⟩, 16), (⟨"JobShopModel", "choose", "()Z"⟩, 16)]
theorem lw_r2 : ∀ q ∈ lw_privs_2, lw_okq q := List.forall_mem_cons.mpr ⟨lw_p16, List.forall_mem_cons.mpr ⟨lw_p17, List.forall_mem_cons.mpr ⟨lw_p18, List.forall_mem_cons.mpr ⟨lw_p19, List.forall_mem_cons.mpr ⟨lw_p20, List.forall_mem_cons.mpr ⟨lw_p21, List.forall_mem_cons.mpr ⟨lw_p22, List.forall_mem_cons.mpr ⟨lw_p23, List.forall_mem_cons.mpr ⟨lw_p24, List.forall_mem_cons.mpr ⟨lw_p25, List.forall_mem_cons.mpr ⟨lw_p26, List.forall_mem_cons.mpr ⟨lw_p27, List.forall_mem_cons.mpr ⟨lw_p28, List.forall_mem_cons.mpr ⟨lw_p29, List.forall_mem_cons.mpr ⟨lw_p30, List.forall_mem_cons.mpr ⟨lw_p31, fun _ h => absurd h List.not_mem_nil⟩⟩⟩⟩⟩⟩⟩⟩⟩⟩⟩⟩⟩⟩⟩⟩
theorem lw_p32 : lw_okq (⟨"JobShopModel", "weigh", "()V"⟩, 16) := ⟨⟨by decide +kernel, by decide +kernel⟩, List.mem_of_getElem? (i := 400) (by decide +kernel), List.mem_of_getElem? (i := 555) (by decide +kernel), List.mem_of_getElem? (i := 556) (by decide +kernel)⟩
theorem lw_p33 : lw_okq (⟨"JobShopModel", "isEarlier", "()Z"⟩, 16) := ⟨⟨by decide +kernel, by decide +kernel⟩, List.mem_of_getElem? (i := 400) (by decide +kernel), List.mem_of_getElem? (i := 559) (by decide +kernel), List.mem_of_getElem? (i := 560) (by decide +kernel)⟩
theorem lw_p34 : lw_okq (⟨"JobShopModel", "nextOrder", "(I)Z"⟩, 16) := ⟨⟨by decide +kernel, by decide +kernel⟩, List.mem_of_getElem? (i := 400) (by decide +kernel), List.mem_of_getElem? (i := 563) (by decide +kernel), List.mem_of_getElem? (i := 564) (by decide +kernel)⟩
theorem lw_p35 : lw_okq (⟨"JobShopModel", "isOverBehind", "(I)Z"⟩, 16) := ⟨⟨by decide +kernel, by decide +kernel⟩, List.mem_of_getElem? (i := 400) (by decide +kernel), List.mem_of_getElem? (i := 583) (by decide +kernel), List.mem_of_getElem? (i := 584) (by decide +kernel)⟩
theorem lw_p36 : lw_okq (⟨"JobShopModel", "meets", "(I)Z"⟩, 16) := ⟨⟨by decide +kernel, by decide +kernel⟩, List.mem_of_getElem? (i := 400) (by decide +kernel), List.mem_of_getElem? (i := 587) (by decide +kernel), List.mem_of_getElem? (i := 588) (by decide +kernel)⟩
def lw_privs_3 : List (MethodName × Nat) := [(⟨"JobShopModel", "weigh", "()V"⟩, 16), (⟨"JobShopModel", "isEarlier", "()Z"⟩, 16), (⟨"JobShopModel", "nextOrder", "(I)Z"⟩, 16), (⟨"JobShopModel", "isOverBehind", "(I)Z"⟩, 16), (⟨"JobShopModel", "meets", "(I)Z"⟩, 16)]
theorem lw_r3 : ∀ q ∈ lw_privs_3, lw_okq q := List.forall_mem_cons.mpr ⟨lw_p32, List.forall_mem_cons.mpr ⟨lw_p33, List.forall_mem_cons.mpr ⟨lw_p34, List.forall_mem_cons.mpr ⟨lw_p35, List.forall_mem_cons.mpr ⟨lw_p36, fun _ h => absurd h List.not_mem_nil⟩⟩⟩⟩⟩
def lw_privs : List (MethodName × Nat) := lw_privs_1 ++ (lw_privs_2 ++ (lw_privs_3))
def lw_tbl : List Cond := k2_sels lw_privs ++ tables_1
theorem lw_privs_ok : ∀ q ∈ lw_privs, lw_okq q := by
  show ∀ q ∈ lw_privs_1 ++ (lw_privs_2 ++ (lw_privs_3)), lw_okq q
  exact List.forall_mem_append.mpr ⟨lw_r1, List.forall_mem_append.mpr ⟨lw_r2, lw_r3⟩⟩
end
section
/-! ===== BEGIN words of one list among another's, by their places ===== -/
theorem goodIn_r {big : List Cond} (ws : List Cond) (ps : List Nat) (hp : ws = ps.filterMap (fun i => big[i]?)) (h : ws.all goodWord = true) : GoodIn big ws := by
  intro w hw
  have h1 := List.all_eq_true.mp h w hw
  rw [hp] at hw
  obtain ⟨i, -, hi⟩ := List.mem_filterMap.mp hw
  have hm : w ∈ big := by first | exact List.mem_of_getElem? hi | exact List.getElem?_mem hi
  exact ⟨hm, good_of_word h1⟩
theorem goodIn_app {big a b : List Cond} (ha : GoodIn big a) (hb : GoodIn big b) : GoodIn big (a ++ b) := fun w h => (List.mem_append.mp h).elim (ha w) (hb w)
theorem goodIn_ca {big a b : List Cond} {c : Cond} (ha : GoodIn big (c :: a)) (hb : GoodIn big b) : GoodIn big (c :: (a ++ b)) := fun w h => (List.mem_cons.mp h).elim (fun e => ha w (List.mem_cons.mpr (Or.inl e))) (fun h => (List.mem_append.mp h).elim (fun h => ha w (List.mem_cons.mpr (Or.inr h))) (hb w))
theorem goodIn_sub {big ws : List Cond} (hm : ∀ w ∈ ws, w ∈ big) (h : ws.all goodWord = true) : GoodIn big ws := fun w hw => ⟨hm w hw, good_of_word (List.all_eq_true.mp h w hw)⟩
/-! ===== END ===== -/

/-! ===== BEGIN printed: names, fields, word lists, decode rows ===== -/
def RX0 : String := "JobShop$Floor"
def TX0 : u_T := fun k => match k with
  | 0 => ("JobShop$Floor", "jobs", "I", false)
  | 1 => ("JobShop$Floor", "size", "I", false)
  | 2 => ("JobShop$Floor", "firstOf", "[I", true)
  | 3 => ("JobShop$Floor", "lastOf", "[I", true)
  | 4 => ("JobShop$Floor", "jobOf", "[I", true)
  | 5 => ("JobShop$Floor", "machineOf", "[I", true)
  | 6 => ("JobShop$Floor", "duration", "[I", true)
  | 7 => ("JobShop$Floor", "nextOf", "[I", true)
  | 8 => ("JobShop$Floor", "arcs", "[I", true)
  | 9 => ("JobShop$Floor", "head", "[I", true)
  | 10 => ("JobShop$Floor", "tail", "[I", true)
  | _ => ("JobShop$Floor", "kept", "[I", true)
def tyX0 : Nat → FieldType := fun k => match k with
  | 0 => .int
  | 1 => .int
  | 2 => .array .int
  | 3 => .array .int
  | 4 => .array .int
  | 5 => .array .int
  | 6 => .array .int
  | 7 => .array .int
  | 8 => .array .int
  | 9 => .array .int
  | 10 => .array .int
  | _ => .array .int
abbrev wsX00 : List Cond := u_ws RX0 TX0 12
theorem nmX0 : ∀ a, a < 12 → ∀ b, b < 12 → a ≠ b → (TX0 a).2.1 ≠ (TX0 b).2.1 := by decide +kernel
theorem tyX0_ok : ∀ k, k < 12 → parseFieldDescriptor (TX0 k).2.2.1 = some (tyX0 k) := by decide +kernel
abbrev cX0_init : ByteArray := prog_2_method_1_code
def yX0_init : MethodName := ⟨RX0, "<init>", "()V"⟩
abbrev cX0_empty : ByteArray := prog_2_method_2_code
def yX0_empty : MethodName := ⟨RX0, "empty", "()V"⟩
abbrev cX0_isJob : ByteArray := prog_2_method_3_code
def yX0_isJob : MethodName := ⟨RX0, "isJob", "(I)Z"⟩
abbrev cX0_isOperation : ByteArray := prog_2_method_4_code
def yX0_isOperation : MethodName := ⟨RX0, "isOperation", "(I)Z"⟩
abbrev cX0_isPair : ByteArray := prog_2_method_5_code
def yX0_isPair : MethodName := ⟨RX0, "isPair", "(II)Z"⟩
abbrev cX0_addJob : ByteArray := prog_2_method_6_code
def yX0_addJob : MethodName := ⟨RX0, "addJob", "()I"⟩
abbrev cX0_visits : ByteArray := prog_2_method_7_code
def yX0_visits : MethodName := ⟨RX0, "visits", "(II)Z"⟩
abbrev cX0_addOperation : ByteArray := prog_2_method_8_code
def yX0_addOperation : MethodName := ⟨RX0, "addOperation", "(III)I"⟩
abbrev cX0_hasArc : ByteArray := prog_2_method_9_code
def yX0_hasArc : MethodName := ⟨RX0, "hasArc", "(II)Z"⟩
abbrev cX0_isTied : ByteArray := prog_2_method_10_code
def yX0_isTied : MethodName := ⟨RX0, "isTied", "(II)Z"⟩
abbrev cX0_putArc : ByteArray := prog_2_method_11_code
def yX0_putArc : MethodName := ⟨RX0, "putArc", "(II)V"⟩
abbrev cX0_dropArcs : ByteArray := prog_2_method_12_code
def yX0_dropArcs : MethodName := ⟨RX0, "dropArcs", "(II)V"⟩
abbrev cX0_followers : ByteArray := prog_2_method_13_code
def yX0_followers : MethodName := ⟨RX0, "followers", "(I)I"⟩
abbrev cX0_leads : ByteArray := prog_2_method_14_code
def yX0_leads : MethodName := ⟨RX0, "leads", "(II)Z"⟩
abbrev cX0_measure : ByteArray := prog_2_method_15_code
def yX0_measure : MethodName := ⟨RX0, "measure", "()V"⟩
abbrev cX0_stretch : ByteArray := prog_2_method_16_code
def yX0_stretch : MethodName := ⟨RX0, "stretch", "(I)Z"⟩
abbrev cX0_through : ByteArray := prog_2_method_17_code
def yX0_through : MethodName := ⟨RX0, "through", "(I)I"⟩
abbrev cX0_longest : ByteArray := prog_2_method_18_code
def yX0_longest : MethodName := ⟨RX0, "longest", "()I"⟩
abbrev cX0_burden : ByteArray := prog_2_method_19_code
def yX0_burden : MethodName := ⟨RX0, "burden", "(I)I"⟩
abbrev cX0_workFrom : ByteArray := prog_2_method_20_code
def yX0_workFrom : MethodName := ⟨RX0, "workFrom", "(III)I"⟩
abbrev cX0_bound : ByteArray := prog_2_method_21_code
def yX0_bound : MethodName := ⟨RX0, "bound", "()I"⟩
abbrev cX0_pairs : ByteArray := prog_2_method_22_code
def yX0_pairs : MethodName := ⟨RX0, "pairs", "()I"⟩
abbrev cX0_tiedPairs : ByteArray := prog_2_method_23_code
def yX0_tiedPairs : MethodName := ⟨RX0, "tiedPairs", "()I"⟩
abbrev cX0_force : ByteArray := prog_2_method_24_code
def yX0_force : MethodName := ⟨RX0, "force", "(I)I"⟩
abbrev cX0_forceFrom : ByteArray := prog_2_method_25_code
def yX0_forceFrom : MethodName := ⟨RX0, "forceFrom", "(II)Z"⟩
abbrev cX0_mustPrecede : ByteArray := prog_2_method_26_code
def yX0_mustPrecede : MethodName := ⟨RX0, "mustPrecede", "(III)Z"⟩
def RX1 : String := "JobShop$Search"
def TX1 : u_T := fun k => match k with
  | 0 => ("JobShop$Search", "least", "I", false)
  | 1 => ("JobShop$Search", "found", "I", false)
  | 2 => ("JobShop$Search", "plan", "[I", true)
  | 3 => ("JobShop$Search", "floor", "LJobShop$Floor;", true)
  | 4 => ("JobShop$Search", "start", "[I", true)
  | 5 => ("JobShop$Search", "needs", "[I", true)
  | 6 => ("JobShop$Search", "turn", "[I", true)
  | 7 => ("JobShop$Search", "jobFree", "[I", true)
  | 8 => ("JobShop$Search", "machineFree", "[I", true)
  | 9 => ("JobShop$Search", "workLeft", "[I", true)
  | 10 => ("JobShop$Search", "waiting", "[I", true)
  | _ => ("JobShop$Search", "placed", "I", false)
def tyX1 : Nat → FieldType := fun k => match k with
  | 0 => .int
  | 1 => .int
  | 2 => .array .int
  | 3 => .object "JobShop$Floor"
  | 4 => .array .int
  | 5 => .array .int
  | 6 => .array .int
  | 7 => .array .int
  | 8 => .array .int
  | 9 => .array .int
  | 10 => .array .int
  | _ => .int
abbrev wsX10 : List Cond := u_ws RX1 TX1 12
theorem nmX1 : ∀ a, a < 12 → ∀ b, b < 12 → a ≠ b → (TX1 a).2.1 ≠ (TX1 b).2.1 := by decide +kernel
theorem tyX1_ok : ∀ k, k < 12 → parseFieldDescriptor (TX1 k).2.2.1 = some (tyX1 k) := by decide +kernel
abbrev cX1_init : ByteArray := prog_3_method_1_code
def yX1_init : MethodName := ⟨RX1, "<init>", "(LJobShop$Floor;)V"⟩
abbrev cX1_run : ByteArray := prog_3_method_2_code
def yX1_run : MethodName := ⟨RX1, "run", "()V"⟩
abbrev cX1_prepare : ByteArray := prog_3_method_3_code
def yX1_prepare : MethodName := ⟨RX1, "prepare", "()V"⟩
abbrev cX1_forerunners : ByteArray := prog_3_method_4_code
def yX1_forerunners : MethodName := ⟨RX1, "forerunners", "(I)I"⟩
abbrev cX1_extend : ByteArray := prog_3_method_5_code
def yX1_extend : MethodName := ⟨RX1, "extend", "(III)V"⟩
abbrev cX1_earliest : ByteArray := prog_3_method_6_code
def yX1_earliest : MethodName := ⟨RX1, "earliest", "(I)I"⟩
abbrev cX1_isPassed : ByteArray := prog_3_method_7_code
def yX1_isPassed : MethodName := ⟨RX1, "isPassed", "(III)Z"⟩
abbrev cX1_place : ByteArray := prog_3_method_8_code
def yX1_place : MethodName := ⟨RX1, "place", "(II)V"⟩
abbrev cX1_isHopeless : ByteArray := prog_3_method_9_code
def yX1_isHopeless : MethodName := ⟨RX1, "isHopeless", "(II)Z"⟩
abbrev cX1_endsAbove : ByteArray := prog_3_method_10_code
def yX1_endsAbove : MethodName := ⟨RX1, "endsAbove", "(I)Z"⟩
abbrev cX1_isStranded : ByteArray := prog_3_method_11_code
def yX1_isStranded : MethodName := ⟨RX1, "isStranded", "(III)Z"⟩
abbrev cX1_keep : ByteArray := prog_3_method_12_code
def yX1_keep : MethodName := ⟨RX1, "keep", "()V"⟩
abbrev cX1_isEarlier : ByteArray := prog_3_method_13_code
def yX1_isEarlier : MethodName := ⟨RX1, "isEarlier", "()Z"⟩
def RX2 : String := "JobShop"
def TX2 : u_T := fun k => match k with
  | 0 => ("JobShop", "floor", "LJobShop$Floor;", true)
  | 1 => ("JobShop", "search", "LJobShop$Search;", true)
  | 2 => ("JobShop", "drafted", "[I", true)
  | _ => ("JobShop", "planned", "Z", false)
def tyX2 : Nat → FieldType := fun k => match k with
  | 0 => .object "JobShop$Floor"
  | 1 => .object "JobShop$Search"
  | 2 => .array .int
  | _ => .boolean
abbrev wsX20 : List Cond := u_ws RX2 TX2 4
theorem nmX2 : ∀ a, a < 4 → ∀ b, b < 4 → a ≠ b → (TX2 a).2.1 ≠ (TX2 b).2.1 := by decide +kernel
theorem tyX2_ok : ∀ k, k < 4 → parseFieldDescriptor (TX2 k).2.2.1 = some (tyX2 k) := by decide +kernel
abbrev cX2_init : ByteArray := prog_1_method_1_code
def yX2_init : MethodName := ⟨RX2, "<init>", "()V"⟩
abbrev cX2_clear : ByteArray := prog_1_method_2_code
def yX2_clear : MethodName := ⟨RX2, "clear", "()I"⟩
abbrev cX2_job : ByteArray := prog_1_method_3_code
def yX2_job : MethodName := ⟨RX2, "job", "()I"⟩
abbrev cX2_operation : ByteArray := prog_1_method_4_code
def yX2_operation : MethodName := ⟨RX2, "operation", "(III)I"⟩
abbrev cX2_before : ByteArray := prog_1_method_5_code
def yX2_before : MethodName := ⟨RX2, "before", "(II)I"⟩
abbrev cX2_free : ByteArray := prog_1_method_6_code
def yX2_free : MethodName := ⟨RX2, "free", "(II)I"⟩
abbrev cX2_arc : ByteArray := prog_1_method_7_code
def yX2_arc : MethodName := ⟨RX2, "arc", "(II)I"⟩
abbrev cX2_told : ByteArray := prog_1_method_8_code
def yX2_told : MethodName := ⟨RX2, "told", "(II)I"⟩
abbrev cX2_length : ByteArray := prog_1_method_9_code
def yX2_length : MethodName := ⟨RX2, "length", "()I"⟩
abbrev cX2_load : ByteArray := prog_1_method_10_code
def yX2_load : MethodName := ⟨RX2, "load", "(I)I"⟩
abbrev cX2_select : ByteArray := prog_1_method_11_code
def yX2_select : MethodName := ⟨RX2, "select", "(I)I"⟩
abbrev cX2_solve : ByteArray := prog_1_method_12_code
def yX2_solve : MethodName := ⟨RX2, "solve", "()I"⟩
abbrev cX2_optima : ByteArray := prog_1_method_13_code
def yX2_optima : MethodName := ⟨RX2, "optima", "()I"⟩
abbrev cX2_at : ByteArray := prog_1_method_14_code
def yX2_at : MethodName := ⟨RX2, "at", "(II)I"⟩
abbrev cX2_draft : ByteArray := prog_1_method_15_code
def yX2_draft : MethodName := ⟨RX2, "draft", "(II)I"⟩
abbrev cX2_check : ByteArray := prog_1_method_16_code
def yX2_check : MethodName := ⟨RX2, "check", "()I"⟩
abbrev cX2_adopt : ByteArray := prog_1_method_17_code
def yX2_adopt : MethodName := ⟨RX2, "adopt", "()I"⟩
abbrev cX2_count : ByteArray := prog_1_method_18_code
def yX2_count : MethodName := ⟨RX2, "count", "(I)I"⟩
abbrev cX2_isMachine : ByteArray := prog_1_method_19_code
def yX2_isMachine : MethodName := ⟨RX2, "isMachine", "(I)Z"⟩
abbrev cX2_isIn : ByteArray := prog_1_method_20_code
def yX2_isIn : MethodName := ⟨RX2, "isIn", "(II)Z"⟩
abbrev cX2_draftEnd : ByteArray := prog_1_method_21_code
def yX2_draftEnd : MethodName := ⟨RX2, "draftEnd", "(I)I"⟩
abbrev cX2_endsTooLate : ByteArray := prog_1_method_22_code
def yX2_endsTooLate : MethodName := ⟨RX2, "endsTooLate", "(I)Z"⟩
abbrev cX2_meetsGreater : ByteArray := prog_1_method_23_code
def yX2_meetsGreater : MethodName := ⟨RX2, "meetsGreater", "(I)Z"⟩
def RX3 : String := "JobShopModel"
def TX3 : u_T := fun k => match k with
  | 0 => ("JobShopModel", "jobs", "I", false)
  | 1 => ("JobShopModel", "many", "I", false)
  | 2 => ("JobShopModel", "jobOf", "[I", true)
  | 3 => ("JobShopModel", "machineOf", "[I", true)
  | 4 => ("JobShopModel", "durations", "[I", true)
  | 5 => ("JobShopModel", "arcs", "[Z", true)
  | 6 => ("JobShopModel", "drafts", "[I", true)
  | 7 => ("JobShopModel", "isPlanned", "Z", false)
  | 8 => ("JobShopModel", "starts", "[I", true)
  | 9 => ("JobShopModel", "least", "I", false)
  | 10 => ("JobShopModel", "optima", "I", false)
  | 11 => ("JobShopModel", "heads", "[I", true)
  | 12 => ("JobShopModel", "tails", "[I", true)
  | 13 => ("JobShopModel", "chosen", "[Z", true)
  | 14 => ("JobShopModel", "orders", "[I", true)
  | _ => ("JobShopModel", "sizes", "[I", true)
def tyX3 : Nat → FieldType := fun k => match k with
  | 0 => .int
  | 1 => .int
  | 2 => .array .int
  | 3 => .array .int
  | 4 => .array .int
  | 5 => .array .boolean
  | 6 => .array .int
  | 7 => .boolean
  | 8 => .array .int
  | 9 => .int
  | 10 => .int
  | 11 => .array .int
  | 12 => .array .int
  | 13 => .array .boolean
  | 14 => .array .int
  | _ => .array .int
abbrev wsX30 : List Cond := u_ws RX3 TX3 16
theorem nmX3 : ∀ a, a < 16 → ∀ b, b < 16 → a ≠ b → (TX3 a).2.1 ≠ (TX3 b).2.1 := by decide +kernel
theorem tyX3_ok : ∀ k, k < 16 → parseFieldDescriptor (TX3 k).2.2.1 = some (tyX3 k) := by decide +kernel
abbrev cX3_init : ByteArray := prog_5_method_1_code
def yX3_init : MethodName := ⟨RX3, "<init>", "()V"⟩
abbrev cX3_in : ByteArray := prog_5_method_2_code
def yX3_in : MethodName := ⟨RX3, "in", "(III)Z"⟩
abbrev cX3_isOperation : ByteArray := prog_5_method_3_code
def yX3_isOperation : MethodName := ⟨RX3, "isOperation", "(I)Z"⟩
abbrev cX3_isPair : ByteArray := prog_5_method_4_code
def yX3_isPair : MethodName := ⟨RX3, "isPair", "(II)Z"⟩
abbrev cX3_forget : ByteArray := prog_5_method_5_code
def yX3_forget : MethodName := ⟨RX3, "forget", "()V"⟩
abbrev cX3_clear : ByteArray := prog_5_method_6_code
def yX3_clear : MethodName := ⟨RX3, "clear", "()I"⟩
abbrev cX3_job : ByteArray := prog_5_method_7_code
def yX3_job : MethodName := ⟨RX3, "job", "()I"⟩
abbrev cX3_operation : ByteArray := prog_5_method_8_code
def yX3_operation : MethodName := ⟨RX3, "operation", "(III)I"⟩
abbrev cX3_nextOf : ByteArray := prog_5_method_9_code
def yX3_nextOf : MethodName := ⟨RX3, "nextOf", "(I)I"⟩
abbrev cX3_leads : ByteArray := prog_5_method_10_code
def yX3_leads : MethodName := ⟨RX3, "leads", "([ZII)Z"⟩
abbrev cX3_findHeads : ByteArray := prog_5_method_11_code
def yX3_findHeads : MethodName := ⟨RX3, "findHeads", "([Z)Z"⟩
abbrev cX3_findTails : ByteArray := prog_5_method_12_code
def yX3_findTails : MethodName := ⟨RX3, "findTails", "([Z)V"⟩
abbrev cX3_longest : ByteArray := prog_5_method_13_code
def yX3_longest : MethodName := ⟨RX3, "longest", "()I"⟩
abbrev cX3_look : ByteArray := prog_5_method_14_code
def yX3_look : MethodName := ⟨RX3, "look", "([Z)V"⟩
abbrev cX3_hasPath : ByteArray := prog_5_method_15_code
def yX3_hasPath : MethodName := ⟨RX3, "hasPath", "([ZII)Z"⟩
abbrev cX3_before : ByteArray := prog_5_method_16_code
def yX3_before : MethodName := ⟨RX3, "before", "(II)I"⟩
abbrev cX3_free : ByteArray := prog_5_method_17_code
def yX3_free : MethodName := ⟨RX3, "free", "(II)I"⟩
abbrev cX3_arc : ByteArray := prog_5_method_18_code
def yX3_arc : MethodName := ⟨RX3, "arc", "(II)I"⟩
abbrev cX3_told : ByteArray := prog_5_method_19_code
def yX3_told : MethodName := ⟨RX3, "told", "(II)I"⟩
abbrev cX3_length : ByteArray := prog_5_method_20_code
def yX3_length : MethodName := ⟨RX3, "length", "()I"⟩
abbrev cX3_load : ByteArray := prog_5_method_21_code
def yX3_load : MethodName := ⟨RX3, "load", "(I)I"⟩
abbrev cX3_isForced : ByteArray := prog_5_method_22_code
def yX3_isForced : MethodName := ⟨RX3, "isForced", "(III)Z"⟩
abbrev cX3_select : ByteArray := prog_5_method_23_code
def yX3_select : MethodName := ⟨RX3, "select", "(I)I"⟩
abbrev cX3_layFirst : ByteArray := prog_5_method_24_code
def yX3_layFirst : MethodName := ⟨RX3, "layFirst", "(I)V"⟩
abbrev cX3_nextOrder : ByteArray := prog_5_method_25_code
def yX3_nextOrder : MethodName := ⟨RX3, "nextOrder", "(I)Z"⟩
abbrev cX3_choose : ByteArray := prog_5_method_26_code
def yX3_choose : MethodName := ⟨RX3, "choose", "()Z"⟩
abbrev cX3_isEarlier : ByteArray := prog_5_method_27_code
def yX3_isEarlier : MethodName := ⟨RX3, "isEarlier", "()Z"⟩
abbrev cX3_weigh : ByteArray := prog_5_method_28_code
def yX3_weigh : MethodName := ⟨RX3, "weigh", "()V"⟩
abbrev cX3_solve : ByteArray := prog_5_method_29_code
def yX3_solve : MethodName := ⟨RX3, "solve", "()I"⟩
abbrev cX3_optima : ByteArray := prog_5_method_30_code
def yX3_optima : MethodName := ⟨RX3, "optima", "()I"⟩
abbrev cX3_at : ByteArray := prog_5_method_31_code
def yX3_at : MethodName := ⟨RX3, "at", "(II)I"⟩
abbrev cX3_draft : ByteArray := prog_5_method_32_code
def yX3_draft : MethodName := ⟨RX3, "draft", "(II)I"⟩
abbrev cX3_isOverBehind : ByteArray := prog_5_method_33_code
def yX3_isOverBehind : MethodName := ⟨RX3, "isOverBehind", "(I)Z"⟩
abbrev cX3_meets : ByteArray := prog_5_method_34_code
def yX3_meets : MethodName := ⟨RX3, "meets", "(I)Z"⟩
abbrev cX3_check : ByteArray := prog_5_method_35_code
def yX3_check : MethodName := ⟨RX3, "check", "()I"⟩
abbrev cX3_adopt : ByteArray := prog_5_method_36_code
def yX3_adopt : MethodName := ⟨RX3, "adopt", "()I"⟩
abbrev cX3_count : ByteArray := prog_5_method_37_code
def yX3_count : MethodName := ⟨RX3, "count", "(I)I"⟩
def RJ6 : String := "java/lang/Integer"
def TJ6 : u_T := fun k => match k with
  | _ => ("", "", "", false)
def tyJ6 : Nat → FieldType := fun k => match k with
  | _ => .int
abbrev wsJ60 : List Cond := u_ws RJ6 TJ6 0
theorem nmJ6 : ∀ a, a < 0 → ∀ b, b < 0 → a ≠ b → (TJ6 a).2.1 ≠ (TJ6 b).2.1 := by decide +kernel
theorem tyJ6_ok : ∀ k, k < 0 → parseFieldDescriptor (TJ6 k).2.2.1 = some (tyJ6 k) := by decide +kernel
abbrev cJ6_bitCount_0f7a4 : ByteArray := prog_6_method_49_code
def yJ6_bitCount_0f7a4 : MethodName := ⟨RJ6, "bitCount", "(I)I"⟩
def RJ9 : String := "java/lang/Math"
def TJ9 : u_T := fun k => match k with
  | _ => ("", "", "", false)
def tyJ9 : Nat → FieldType := fun k => match k with
  | _ => .int
abbrev wsJ90 : List Cond := u_ws RJ9 TJ9 0
theorem nmJ9 : ∀ a, a < 0 → ∀ b, b < 0 → a ≠ b → (TJ9 a).2.1 ≠ (TJ9 b).2.1 := by decide +kernel
theorem tyJ9_ok : ∀ k, k < 0 → parseFieldDescriptor (TJ9 k).2.2.1 = some (tyJ9 k) := by decide +kernel
abbrev cJ9_max_7cf53 : ByteArray := prog_7_method_65_code
def yJ9_max_7cf53 : MethodName := ⟨RJ9, "max", "(II)I"⟩
def RJ10 : String := "java/lang/System"
def TJ10 : u_T := fun k => match k with
  | _ => ("", "", "", false)
def tyJ10 : Nat → FieldType := fun k => match k with
  | _ => .int
abbrev wsJ100 : List Cond := u_ws RJ10 TJ10 0
theorem nmJ10 : ∀ a, a < 0 → ∀ b, b < 0 → a ≠ b → (TJ10 a).2.1 ≠ (TJ10 b).2.1 := by decide +kernel
theorem tyJ10_ok : ∀ k, k < 0 → parseFieldDescriptor (TJ10 k).2.2.1 = some (tyJ10 k) := by decide +kernel
def RL : String := "JobShopLaw"
abbrev cL_law : ByteArray := code
def yL_law : MethodName := ⟨RL, "law", "([I)Z"⟩
def wsX0_init : List Cond := .code yX0_init cX0_init 1 none :: ([.methodLink RX0 3 objectInit, .instanceMethod objectInit, .code objectInit ⟨#[0xb1]⟩ 1 none, .arrayClass .int, .fieldLink RX0 9 "JobShop$Floor" "firstOf" "[I", .fieldLink RX0 15 "JobShop$Floor" "lastOf" "[I", .fieldLink RX0 18 "JobShop$Floor" "jobOf" "[I", .fieldLink RX0 21 "JobShop$Floor" "machineOf" "[I", .fieldLink RX0 24 "JobShop$Floor" "duration" "[I", .fieldLink RX0 27 "JobShop$Floor" "nextOf" "[I", .fieldLink RX0 30 "JobShop$Floor" "arcs" "[I", .fieldLink RX0 33 "JobShop$Floor" "head" "[I", .fieldLink RX0 36 "JobShop$Floor" "tail" "[I", .fieldLink RX0 39 "JobShop$Floor" "kept" "[I"] ++ wsX00)
def wsX0_empty : List Cond := .code yX0_empty cX0_empty 1 none :: ([.fieldLink RX0 42 "JobShop$Floor" "jobs" "I", .fieldLink RX0 46 "JobShop$Floor" "size" "I"] ++ wsX00)
def wsX0_isJob : List Cond := .code yX0_isJob cX0_isJob 2 (some .boolean) :: ([.fieldLink RX0 42 "JobShop$Floor" "jobs" "I"] ++ wsX00)
def wsX0_isOperation : List Cond := .code yX0_isOperation cX0_isOperation 2 (some .boolean) :: ([.fieldLink RX0 46 "JobShop$Floor" "size" "I"] ++ wsX00)
def wsX0_isPair : List Cond := .code yX0_isPair cX0_isPair 3 (some .boolean) :: ([.fieldLink RX0 21 "JobShop$Floor" "machineOf" "[I", .methodLink RX0 49 yX0_isOperation, .instanceMethod yX0_isOperation, .selects RX0 yX0_isOperation yX0_isOperation, .initialized RX0, .code yX0_isOperation cX0_isOperation 2 (some .boolean), .fieldLink RX0 46 "JobShop$Floor" "size" "I"] ++ wsX00)
def wsX0_addJob : List Cond := .code yX0_addJob cX0_addJob 2 (some .int) :: ([.fieldLink RX0 42 "JobShop$Floor" "jobs" "I", .fieldLink RX0 9 "JobShop$Floor" "firstOf" "[I", .fieldLink RX0 15 "JobShop$Floor" "lastOf" "[I"] ++ wsX00)
def wsX0_visits : List Cond := .code yX0_visits cX0_visits 4 (some .boolean) :: ([.fieldLink RX0 46 "JobShop$Floor" "size" "I", .fieldLink RX0 18 "JobShop$Floor" "jobOf" "[I", .fieldLink RX0 21 "JobShop$Floor" "machineOf" "[I"] ++ wsX00)
def wsX0_followers : List Cond := .code yX0_followers cX0_followers 2 (some .int) :: ([.fieldLink RX0 27 "JobShop$Floor" "nextOf" "[I", .fieldLink RX0 30 "JobShop$Floor" "arcs" "[I"] ++ wsX00)
def wsX2_isIn : List Cond := .code yX2_isIn cX2_isIn 2 (some .boolean) :: ([])
def wsX0_stretch : List Cond := .code yX0_stretch cX0_stretch 5 (some .boolean) :: ([.fieldLink RX0 46 "JobShop$Floor" "size" "I", .fieldLink RX0 33 "JobShop$Floor" "head" "[I", .fieldLink RX0 24 "JobShop$Floor" "duration" "[I", .fieldLink RX0 36 "JobShop$Floor" "tail" "[I", .methodLink RX0 63 yX0_followers, .instanceMethod yX0_followers, .selects RX0 yX0_followers yX0_followers, .initialized RX0, .code yX0_followers cX0_followers 2 (some .int), .fieldLink RX0 27 "JobShop$Floor" "nextOf" "[I", .fieldLink RX0 30 "JobShop$Floor" "arcs" "[I", .static yX2_isIn, .initialized RX2, .code yX2_isIn cX2_isIn 2 (some .boolean)] ++ wsX00)
def wsX0_measure : List Cond := .code yX0_measure cX0_measure 4 none :: ([.fieldLink RX0 46 "JobShop$Floor" "size" "I", .fieldLink RX0 33 "JobShop$Floor" "head" "[I", .fieldLink RX0 36 "JobShop$Floor" "tail" "[I", .methodLink RX0 67 yX0_stretch, .instanceMethod yX0_stretch, .selects RX0 yX0_stretch yX0_stretch, .initialized RX0, .code yX0_stretch cX0_stretch 5 (some .boolean), .fieldLink RX0 24 "JobShop$Floor" "duration" "[I", .methodLink RX0 63 yX0_followers, .instanceMethod yX0_followers, .selects RX0 yX0_followers yX0_followers, .code yX0_followers cX0_followers 2 (some .int), .fieldLink RX0 27 "JobShop$Floor" "nextOf" "[I", .fieldLink RX0 30 "JobShop$Floor" "arcs" "[I", .static yX2_isIn, .initialized RX2, .code yX2_isIn cX2_isIn 2 (some .boolean)] ++ wsX00)
def wsX0_addOperation_r1 : List Cond := [Cond.fieldLink RX0 46 "JobShop$Floor" "size" "I", Cond.fieldLink RX0 18 "JobShop$Floor" "jobOf" "[I", Cond.fieldLink RX0 21 "JobShop$Floor" "machineOf" "[I", Cond.fieldLink RX0 24 "JobShop$Floor" "duration" "[I", Cond.fieldLink RX0 27 "JobShop$Floor" "nextOf" "[I", Cond.fieldLink RX0 30 "JobShop$Floor" "arcs" "[I", Cond.fieldLink RX0 15 "JobShop$Floor" "lastOf" "[I", Cond.fieldLink RX0 9 "JobShop$Floor" "firstOf" "[I", Cond.methodLink RX0 49 yX0_isOperation, Cond.instanceMethod yX0_isOperation, Cond.selects RX0 yX0_isOperation yX0_isOperation, Cond.initialized RX0, Cond.code yX0_isOperation cX0_isOperation 2 (some .boolean), Cond.methodLink RX0 53 yX0_measure, Cond.instanceMethod yX0_measure, Cond.selects RX0 yX0_measure yX0_measure, Cond.code yX0_measure cX0_measure 4 none, Cond.fieldLink RX0 33 "JobShop$Floor" "head" "[I", Cond.fieldLink RX0 36 "JobShop$Floor" "tail" "[I", Cond.methodLink RX0 67 yX0_stretch, Cond.instanceMethod yX0_stretch, Cond.selects RX0 yX0_stretch yX0_stretch, Cond.code yX0_stretch cX0_stretch 5 (some .boolean), Cond.methodLink RX0 63 yX0_followers]
def wsX0_addOperation_r2 : List Cond := [Cond.instanceMethod yX0_followers, Cond.selects RX0 yX0_followers yX0_followers, Cond.code yX0_followers cX0_followers 2 (some .int), Cond.static yX2_isIn, Cond.initialized RX2, Cond.code yX2_isIn cX2_isIn 2 (some .boolean)]
def wsX0_addOperation : List Cond := .code yX0_addOperation cX0_addOperation 6 (some .int) :: ((wsX0_addOperation_r1 ++ wsX0_addOperation_r2) ++ wsX00)
def wsX0_hasArc : List Cond := .code yX0_hasArc cX0_hasArc 3 (some .boolean) :: ([.fieldLink RX0 30 "JobShop$Floor" "arcs" "[I", .static yX2_isIn, .initialized RX2, .code yX2_isIn cX2_isIn 2 (some .boolean)] ++ wsX00)
def wsX0_isTied : List Cond := .code yX0_isTied cX0_isTied 3 (some .boolean) :: ([.methodLink RX0 60 yX0_hasArc, .instanceMethod yX0_hasArc, .selects RX0 yX0_hasArc yX0_hasArc, .initialized RX0, .code yX0_hasArc cX0_hasArc 3 (some .boolean), .fieldLink RX0 30 "JobShop$Floor" "arcs" "[I", .static yX2_isIn, .initialized RX2, .code yX2_isIn cX2_isIn 2 (some .boolean)] ++ wsX00)
def wsX0_putArc : List Cond := .code yX0_putArc cX0_putArc 3 none :: ([.fieldLink RX0 30 "JobShop$Floor" "arcs" "[I", .methodLink RX0 53 yX0_measure, .instanceMethod yX0_measure, .selects RX0 yX0_measure yX0_measure, .initialized RX0, .code yX0_measure cX0_measure 4 none, .fieldLink RX0 46 "JobShop$Floor" "size" "I", .fieldLink RX0 33 "JobShop$Floor" "head" "[I", .fieldLink RX0 36 "JobShop$Floor" "tail" "[I", .methodLink RX0 67 yX0_stretch, .instanceMethod yX0_stretch, .selects RX0 yX0_stretch yX0_stretch, .code yX0_stretch cX0_stretch 5 (some .boolean), .fieldLink RX0 24 "JobShop$Floor" "duration" "[I", .methodLink RX0 63 yX0_followers, .instanceMethod yX0_followers, .selects RX0 yX0_followers yX0_followers, .code yX0_followers cX0_followers 2 (some .int), .fieldLink RX0 27 "JobShop$Floor" "nextOf" "[I", .static yX2_isIn, .initialized RX2, .code yX2_isIn cX2_isIn 2 (some .boolean)] ++ wsX00)
def wsX0_dropArcs : List Cond := .code yX0_dropArcs cX0_dropArcs 3 none :: ([.fieldLink RX0 30 "JobShop$Floor" "arcs" "[I", .methodLink RX0 53 yX0_measure, .instanceMethod yX0_measure, .selects RX0 yX0_measure yX0_measure, .initialized RX0, .code yX0_measure cX0_measure 4 none, .fieldLink RX0 46 "JobShop$Floor" "size" "I", .fieldLink RX0 33 "JobShop$Floor" "head" "[I", .fieldLink RX0 36 "JobShop$Floor" "tail" "[I", .methodLink RX0 67 yX0_stretch, .instanceMethod yX0_stretch, .selects RX0 yX0_stretch yX0_stretch, .code yX0_stretch cX0_stretch 5 (some .boolean), .fieldLink RX0 24 "JobShop$Floor" "duration" "[I", .methodLink RX0 63 yX0_followers, .instanceMethod yX0_followers, .selects RX0 yX0_followers yX0_followers, .code yX0_followers cX0_followers 2 (some .int), .fieldLink RX0 27 "JobShop$Floor" "nextOf" "[I", .static yX2_isIn, .initialized RX2, .code yX2_isIn cX2_isIn 2 (some .boolean)] ++ wsX00)
def wsX0_leads : List Cond := .code yX0_leads cX0_leads 7 (some .boolean) :: ([.fieldLink RX0 46 "JobShop$Floor" "size" "I", .methodLink RX0 63 yX0_followers, .instanceMethod yX0_followers, .selects RX0 yX0_followers yX0_followers, .initialized RX0, .code yX0_followers cX0_followers 2 (some .int), .fieldLink RX0 27 "JobShop$Floor" "nextOf" "[I", .fieldLink RX0 30 "JobShop$Floor" "arcs" "[I", .static yX2_isIn, .initialized RX2, .code yX2_isIn cX2_isIn 2 (some .boolean)] ++ wsX00)
def wsX0_through : List Cond := .code yX0_through cX0_through 2 (some .int) :: ([.fieldLink RX0 33 "JobShop$Floor" "head" "[I", .fieldLink RX0 24 "JobShop$Floor" "duration" "[I", .fieldLink RX0 36 "JobShop$Floor" "tail" "[I"] ++ wsX00)
def wsX0_longest : List Cond := .code yX0_longest cX0_longest 3 (some .int) :: ([.fieldLink RX0 46 "JobShop$Floor" "size" "I", .methodLink RX0 73 Lib.Math.max.name, .static Lib.Math.max.name, .initialized "java/lang/Math", .code Lib.Math.max.name Lib.Math.max.code 2 (some .int), .methodLink RX0 70 yX0_through, .instanceMethod yX0_through, .selects RX0 yX0_through yX0_through, .initialized RX0, .code yX0_through cX0_through 2 (some .int), .fieldLink RX0 33 "JobShop$Floor" "head" "[I", .fieldLink RX0 24 "JobShop$Floor" "duration" "[I", .fieldLink RX0 36 "JobShop$Floor" "tail" "[I"] ++ wsX00)
def wsX0_workFrom : List Cond := .code yX0_workFrom cX0_workFrom 6 (some .int) :: ([.fieldLink RX0 46 "JobShop$Floor" "size" "I", .fieldLink RX0 21 "JobShop$Floor" "machineOf" "[I", .fieldLink RX0 33 "JobShop$Floor" "head" "[I", .fieldLink RX0 36 "JobShop$Floor" "tail" "[I", .fieldLink RX0 24 "JobShop$Floor" "duration" "[I"] ++ wsX00)
def wsX0_burden : List Cond := .code yX0_burden cX0_burden 6 (some .int) :: ([.fieldLink RX0 46 "JobShop$Floor" "size" "I", .fieldLink RX0 21 "JobShop$Floor" "machineOf" "[I", .fieldLink RX0 33 "JobShop$Floor" "head" "[I", .fieldLink RX0 36 "JobShop$Floor" "tail" "[I", .methodLink RX0 73 Lib.Math.max.name, .static Lib.Math.max.name, .initialized "java/lang/Math", .code Lib.Math.max.name Lib.Math.max.code 2 (some .int), .methodLink RX0 79 yX0_workFrom, .instanceMethod yX0_workFrom, .selects RX0 yX0_workFrom yX0_workFrom, .initialized RX0, .code yX0_workFrom cX0_workFrom 6 (some .int), .fieldLink RX0 24 "JobShop$Floor" "duration" "[I"] ++ wsX00)
def wsX0_bound_r1 : List Cond := [Cond.methodLink RX0 73 Lib.Math.max.name, Cond.static Lib.Math.max.name, Cond.initialized "java/lang/Math", Cond.code Lib.Math.max.name Lib.Math.max.code 2 (some .int), Cond.methodLink RX0 83 yX0_longest, Cond.instanceMethod yX0_longest, Cond.selects RX0 yX0_longest yX0_longest, Cond.initialized RX0, Cond.code yX0_longest cX0_longest 3 (some .int), Cond.fieldLink RX0 46 "JobShop$Floor" "size" "I", Cond.methodLink RX0 70 yX0_through, Cond.instanceMethod yX0_through, Cond.selects RX0 yX0_through yX0_through, Cond.code yX0_through cX0_through 2 (some .int), Cond.fieldLink RX0 33 "JobShop$Floor" "head" "[I", Cond.fieldLink RX0 24 "JobShop$Floor" "duration" "[I", Cond.fieldLink RX0 36 "JobShop$Floor" "tail" "[I", Cond.methodLink RX0 87 yX0_burden, Cond.instanceMethod yX0_burden, Cond.selects RX0 yX0_burden yX0_burden, Cond.code yX0_burden cX0_burden 6 (some .int), Cond.fieldLink RX0 21 "JobShop$Floor" "machineOf" "[I", Cond.methodLink RX0 79 yX0_workFrom, Cond.instanceMethod yX0_workFrom]
def wsX0_bound_r2 : List Cond := [Cond.selects RX0 yX0_workFrom yX0_workFrom, Cond.code yX0_workFrom cX0_workFrom 6 (some .int)]
def wsX0_bound : List Cond := .code yX0_bound cX0_bound 3 (some .int) :: ((wsX0_bound_r1 ++ wsX0_bound_r2) ++ wsX00)
def wsX0_pairs : List Cond := .code yX0_pairs cX0_pairs 4 (some .int) :: ([.fieldLink RX0 46 "JobShop$Floor" "size" "I", .fieldLink RX0 21 "JobShop$Floor" "machineOf" "[I"] ++ wsX00)
def wsJ6_bitCount_0f7a4 : List Cond := .code yJ6_bitCount_0f7a4 cJ6_bitCount_0f7a4 1 (some .int) :: ([.constant RJ6 265 (1431655765), .constant RJ6 266 (858993459), .constant RJ6 267 (252645135)])
def wsX0_tiedPairs : List Cond := .code yX0_tiedPairs cX0_tiedPairs 3 (some .int) :: ([.fieldLink RX0 46 "JobShop$Floor" "size" "I", .fieldLink RX0 30 "JobShop$Floor" "arcs" "[I", .methodLink RX0 90 yJ6_bitCount_0f7a4, .static yJ6_bitCount_0f7a4, .initialized RJ6, .code yJ6_bitCount_0f7a4 cJ6_bitCount_0f7a4 1 (some .int), .constant RJ6 265 (1431655765), .constant RJ6 266 (858993459), .constant RJ6 267 (252645135)] ++ wsX00)
def wsX0_mustPrecede : List Cond := .code yX0_mustPrecede cX0_mustPrecede 4 (some .boolean) :: ([.fieldLink RX0 33 "JobShop$Floor" "head" "[I", .fieldLink RX0 24 "JobShop$Floor" "duration" "[I", .fieldLink RX0 36 "JobShop$Floor" "tail" "[I"] ++ wsX00)
def wsX0_forceFrom_r1 : List Cond := [Cond.fieldLink RX0 46 "JobShop$Floor" "size" "I", Cond.methodLink RX0 107 yX0_isPair, Cond.instanceMethod yX0_isPair, Cond.selects RX0 yX0_isPair yX0_isPair, Cond.initialized RX0, Cond.code yX0_isPair cX0_isPair 3 (some .boolean), Cond.fieldLink RX0 21 "JobShop$Floor" "machineOf" "[I", Cond.methodLink RX0 49 yX0_isOperation, Cond.instanceMethod yX0_isOperation, Cond.selects RX0 yX0_isOperation yX0_isOperation, Cond.code yX0_isOperation cX0_isOperation 2 (some .boolean), Cond.methodLink RX0 110 yX0_isTied, Cond.instanceMethod yX0_isTied, Cond.selects RX0 yX0_isTied yX0_isTied, Cond.code yX0_isTied cX0_isTied 3 (some .boolean), Cond.methodLink RX0 60 yX0_hasArc, Cond.instanceMethod yX0_hasArc, Cond.selects RX0 yX0_hasArc yX0_hasArc, Cond.code yX0_hasArc cX0_hasArc 3 (some .boolean), Cond.fieldLink RX0 30 "JobShop$Floor" "arcs" "[I", Cond.static yX2_isIn, Cond.initialized RX2, Cond.code yX2_isIn cX2_isIn 2 (some .boolean), Cond.methodLink RX0 113 yX0_mustPrecede]
def wsX0_forceFrom_r2 : List Cond := [Cond.instanceMethod yX0_mustPrecede, Cond.selects RX0 yX0_mustPrecede yX0_mustPrecede, Cond.code yX0_mustPrecede cX0_mustPrecede 4 (some .boolean), Cond.fieldLink RX0 33 "JobShop$Floor" "head" "[I", Cond.fieldLink RX0 24 "JobShop$Floor" "duration" "[I", Cond.fieldLink RX0 36 "JobShop$Floor" "tail" "[I", Cond.methodLink RX0 117 yX0_leads, Cond.instanceMethod yX0_leads, Cond.selects RX0 yX0_leads yX0_leads, Cond.code yX0_leads cX0_leads 7 (some .boolean), Cond.methodLink RX0 63 yX0_followers, Cond.instanceMethod yX0_followers, Cond.selects RX0 yX0_followers yX0_followers, Cond.code yX0_followers cX0_followers 2 (some .int), Cond.fieldLink RX0 27 "JobShop$Floor" "nextOf" "[I", Cond.methodLink RX0 120 yX0_putArc, Cond.instanceMethod yX0_putArc, Cond.selects RX0 yX0_putArc yX0_putArc, Cond.code yX0_putArc cX0_putArc 3 none, Cond.methodLink RX0 53 yX0_measure, Cond.instanceMethod yX0_measure, Cond.selects RX0 yX0_measure yX0_measure, Cond.code yX0_measure cX0_measure 4 none, Cond.methodLink RX0 67 yX0_stretch]
def wsX0_forceFrom_r3 : List Cond := [Cond.instanceMethod yX0_stretch, Cond.selects RX0 yX0_stretch yX0_stretch, Cond.code yX0_stretch cX0_stretch 5 (some .boolean)]
def wsX0_forceFrom : List Cond := .code yX0_forceFrom cX0_forceFrom 4 (some .boolean) :: ((wsX0_forceFrom_r1 ++ (wsX0_forceFrom_r2 ++ wsX0_forceFrom_r3)) ++ wsX00)
def wsX0_force_r1 : List Cond := [Cond.fieldLink RX0 30 "JobShop$Floor" "arcs" "[I", Cond.fieldLink RX0 39 "JobShop$Floor" "kept" "[I", Cond.fieldLink RX0 46 "JobShop$Floor" "size" "I", Cond.methodLink RX0 95 arraycopyName, Cond.native arraycopyName, Cond.static arraycopyName, Cond.initialized "java/lang/System", Cond.methodLink RX0 101 yX0_tiedPairs, Cond.instanceMethod yX0_tiedPairs, Cond.selects RX0 yX0_tiedPairs yX0_tiedPairs, Cond.initialized RX0, Cond.code yX0_tiedPairs cX0_tiedPairs 3 (some .int), Cond.methodLink RX0 90 yJ6_bitCount_0f7a4, Cond.static yJ6_bitCount_0f7a4, Cond.initialized RJ6, Cond.code yJ6_bitCount_0f7a4 cJ6_bitCount_0f7a4 1 (some .int), Cond.constant RJ6 265 (1431655765), Cond.constant RJ6 266 (858993459), Cond.constant RJ6 267 (252645135), Cond.methodLink RX0 104 yX0_forceFrom, Cond.instanceMethod yX0_forceFrom, Cond.selects RX0 yX0_forceFrom yX0_forceFrom, Cond.code yX0_forceFrom cX0_forceFrom 4 (some .boolean), Cond.methodLink RX0 107 yX0_isPair]
def wsX0_force_r2 : List Cond := [Cond.instanceMethod yX0_isPair, Cond.selects RX0 yX0_isPair yX0_isPair, Cond.code yX0_isPair cX0_isPair 3 (some .boolean), Cond.fieldLink RX0 21 "JobShop$Floor" "machineOf" "[I", Cond.methodLink RX0 49 yX0_isOperation, Cond.instanceMethod yX0_isOperation, Cond.selects RX0 yX0_isOperation yX0_isOperation, Cond.code yX0_isOperation cX0_isOperation 2 (some .boolean), Cond.methodLink RX0 110 yX0_isTied, Cond.instanceMethod yX0_isTied, Cond.selects RX0 yX0_isTied yX0_isTied, Cond.code yX0_isTied cX0_isTied 3 (some .boolean), Cond.methodLink RX0 60 yX0_hasArc, Cond.instanceMethod yX0_hasArc, Cond.selects RX0 yX0_hasArc yX0_hasArc, Cond.code yX0_hasArc cX0_hasArc 3 (some .boolean), Cond.static yX2_isIn, Cond.initialized RX2, Cond.code yX2_isIn cX2_isIn 2 (some .boolean), Cond.methodLink RX0 113 yX0_mustPrecede, Cond.instanceMethod yX0_mustPrecede, Cond.selects RX0 yX0_mustPrecede yX0_mustPrecede, Cond.code yX0_mustPrecede cX0_mustPrecede 4 (some .boolean), Cond.fieldLink RX0 33 "JobShop$Floor" "head" "[I"]
def wsX0_force_r3 : List Cond := [Cond.fieldLink RX0 24 "JobShop$Floor" "duration" "[I", Cond.fieldLink RX0 36 "JobShop$Floor" "tail" "[I", Cond.methodLink RX0 117 yX0_leads, Cond.instanceMethod yX0_leads, Cond.selects RX0 yX0_leads yX0_leads, Cond.code yX0_leads cX0_leads 7 (some .boolean), Cond.methodLink RX0 63 yX0_followers, Cond.instanceMethod yX0_followers, Cond.selects RX0 yX0_followers yX0_followers, Cond.code yX0_followers cX0_followers 2 (some .int), Cond.fieldLink RX0 27 "JobShop$Floor" "nextOf" "[I", Cond.methodLink RX0 120 yX0_putArc, Cond.instanceMethod yX0_putArc, Cond.selects RX0 yX0_putArc yX0_putArc, Cond.code yX0_putArc cX0_putArc 3 none, Cond.methodLink RX0 53 yX0_measure, Cond.instanceMethod yX0_measure, Cond.selects RX0 yX0_measure yX0_measure, Cond.code yX0_measure cX0_measure 4 none, Cond.methodLink RX0 67 yX0_stretch, Cond.instanceMethod yX0_stretch, Cond.selects RX0 yX0_stretch yX0_stretch, Cond.code yX0_stretch cX0_stretch 5 (some .boolean), Cond.methodLink RX0 83 yX0_longest]
def wsX0_force_r4 : List Cond := [Cond.instanceMethod yX0_longest, Cond.selects RX0 yX0_longest yX0_longest, Cond.code yX0_longest cX0_longest 3 (some .int), Cond.methodLink RX0 73 Lib.Math.max.name, Cond.static Lib.Math.max.name, Cond.initialized "java/lang/Math", Cond.code Lib.Math.max.name Lib.Math.max.code 2 (some .int), Cond.methodLink RX0 70 yX0_through, Cond.instanceMethod yX0_through, Cond.selects RX0 yX0_through yX0_through, Cond.code yX0_through cX0_through 2 (some .int)]
def wsX0_force : List Cond := .code yX0_force cX0_force 7 (some .int) :: ((wsX0_force_r1 ++ (wsX0_force_r2 ++ (wsX0_force_r3 ++ wsX0_force_r4))) ++ wsX00)
def wsX1_init : List Cond := .code yX1_init cX1_init 2 none :: ([.methodLink RX1 3 objectInit, .instanceMethod objectInit, .code objectInit ⟨#[0xb1]⟩ 1 none, .arrayClass .int, .fieldLink RX1 9 "JobShop$Search" "plan" "[I", .fieldLink RX1 15 "JobShop$Search" "start" "[I", .fieldLink RX1 18 "JobShop$Search" "needs" "[I", .fieldLink RX1 21 "JobShop$Search" "turn" "[I", .fieldLink RX1 24 "JobShop$Search" "jobFree" "[I", .fieldLink RX1 27 "JobShop$Search" "machineFree" "[I", .fieldLink RX1 30 "JobShop$Search" "workLeft" "[I", .fieldLink RX1 33 "JobShop$Search" "waiting" "[I", .fieldLink RX1 36 "JobShop$Search" "floor" "LJobShop$Floor;"] ++ wsX10)
def wsX1_forerunners : List Cond := .code yX1_forerunners cX1_forerunners 4 (some .int) :: ([.fieldLink RX1 36 "JobShop$Search" "floor" "LJobShop$Floor;", .fieldLink RX1 65 "JobShop$Floor" "size" "I", .methodLink RX1 78 yX0_hasArc, .instanceMethod yX0_hasArc, .selects RX0 yX0_hasArc yX0_hasArc, .initialized RX0, .code yX0_hasArc cX0_hasArc 3 (some .boolean), .fieldLink RX0 30 "JobShop$Floor" "arcs" "[I", .static yX2_isIn, .initialized RX2, .code yX2_isIn cX2_isIn 2 (some .boolean)] ++ wsX10 ++ wsX00)
def wsX1_prepare_r1 : List Cond := [Cond.fieldLink RX1 36 "JobShop$Search" "floor" "LJobShop$Floor;", Cond.fieldLink RX1 51 "JobShop$Floor" "jobs" "I", Cond.fieldLink RX1 21 "JobShop$Search" "turn" "[I", Cond.fieldLink RX1 56 "JobShop$Floor" "firstOf" "[I", Cond.fieldLink RX1 24 "JobShop$Search" "jobFree" "[I", Cond.fieldLink RX1 27 "JobShop$Search" "machineFree" "[I", Cond.fieldLink RX1 30 "JobShop$Search" "workLeft" "[I", Cond.fieldLink RX1 33 "JobShop$Search" "waiting" "[I", Cond.fieldLink RX1 59 "JobShop$Search" "placed" "I", Cond.fieldLink RX1 62 "JobShop$Search" "least" "I", Cond.fieldLink RX1 65 "JobShop$Floor" "size" "I", Cond.fieldLink RX1 68 "JobShop$Floor" "duration" "[I", Cond.fieldLink RX1 71 "JobShop$Floor" "machineOf" "[I", Cond.fieldLink RX1 18 "JobShop$Search" "needs" "[I", Cond.methodLink RX1 74 yX1_forerunners, Cond.instanceMethod yX1_forerunners, Cond.selects RX1 yX1_forerunners yX1_forerunners, Cond.initialized RX1, Cond.code yX1_forerunners cX1_forerunners 4 (some .int), Cond.methodLink RX1 78 yX0_hasArc, Cond.instanceMethod yX0_hasArc, Cond.selects RX0 yX0_hasArc yX0_hasArc, Cond.initialized RX0, Cond.code yX0_hasArc cX0_hasArc 3 (some .boolean)]
def wsX1_prepare_r2 : List Cond := [Cond.fieldLink RX0 30 "JobShop$Floor" "arcs" "[I", Cond.static yX2_isIn, Cond.initialized RX2, Cond.code yX2_isIn cX2_isIn 2 (some .boolean)]
def wsX1_prepare : List Cond := .code yX1_prepare cX1_prepare 2 none :: ((wsX1_prepare_r1 ++ wsX1_prepare_r2) ++ wsX10 ++ wsX00)
def wsX1_isEarlier : List Cond := .code yX1_isEarlier cX1_isEarlier 2 (some .boolean) :: ([.fieldLink RX1 36 "JobShop$Search" "floor" "LJobShop$Floor;", .fieldLink RX1 65 "JobShop$Floor" "size" "I", .fieldLink RX1 15 "JobShop$Search" "start" "[I", .fieldLink RX1 9 "JobShop$Search" "plan" "[I"] ++ wsX10 ++ wsX00)
def wsX1_keep : List Cond := .code yX1_keep cX1_keep 3 none :: ([.fieldLink RX1 36 "JobShop$Search" "floor" "LJobShop$Floor;", .fieldLink RX1 65 "JobShop$Floor" "size" "I", .fieldLink RX1 15 "JobShop$Search" "start" "[I", .fieldLink RX1 68 "JobShop$Floor" "duration" "[I", .methodLink RX1 118 Lib.Math.max.name, .static Lib.Math.max.name, .initialized "java/lang/Math", .code Lib.Math.max.name Lib.Math.max.code 2 (some .int), .fieldLink RX1 62 "JobShop$Search" "least" "I", .fieldLink RX1 43 "JobShop$Search" "found" "I", .fieldLink RX1 9 "JobShop$Search" "plan" "[I", .methodLink RX1 134 arraycopyName, .native arraycopyName, .static arraycopyName, .initialized "java/lang/System", .methodLink RX1 130 yX1_isEarlier, .instanceMethod yX1_isEarlier, .selects RX1 yX1_isEarlier yX1_isEarlier, .initialized RX1, .code yX1_isEarlier cX1_isEarlier 2 (some .boolean)] ++ wsX10 ++ wsX00)
def wsX1_earliest : List Cond := .code yX1_earliest cX1_earliest 4 (some .int) :: ([.fieldLink RX1 24 "JobShop$Search" "jobFree" "[I", .fieldLink RX1 36 "JobShop$Search" "floor" "LJobShop$Floor;", .fieldLink RX1 100 "JobShop$Floor" "jobOf" "[I", .fieldLink RX1 27 "JobShop$Search" "machineFree" "[I", .fieldLink RX1 71 "JobShop$Floor" "machineOf" "[I"] ++ wsX10 ++ wsX00)
def wsX1_endsAbove : List Cond := .code yX1_endsAbove cX1_endsAbove 2 (some .boolean) :: ([.fieldLink RX1 36 "JobShop$Search" "floor" "LJobShop$Floor;", .fieldLink RX1 115 "JobShop$Floor" "head" "[I", .methodLink RX1 118 Lib.Math.max.name, .static Lib.Math.max.name, .initialized "java/lang/Math", .code Lib.Math.max.name Lib.Math.max.code 2 (some .int), .fieldLink RX1 68 "JobShop$Floor" "duration" "[I", .fieldLink RX1 124 "JobShop$Floor" "tail" "[I", .fieldLink RX1 62 "JobShop$Search" "least" "I", .methodLink RX1 103 yX1_earliest, .instanceMethod yX1_earliest, .selects RX1 yX1_earliest yX1_earliest, .initialized RX1, .code yX1_earliest cX1_earliest 4 (some .int), .fieldLink RX1 24 "JobShop$Search" "jobFree" "[I", .fieldLink RX1 100 "JobShop$Floor" "jobOf" "[I", .fieldLink RX1 27 "JobShop$Search" "machineFree" "[I", .fieldLink RX1 71 "JobShop$Floor" "machineOf" "[I"] ++ wsX10 ++ wsX00)
def wsX1_isPassed : List Cond := .code yX1_isPassed cX1_isPassed 5 (some .boolean) :: ([.methodLink RX1 103 yX1_earliest, .instanceMethod yX1_earliest, .selects RX1 yX1_earliest yX1_earliest, .initialized RX1, .code yX1_earliest cX1_earliest 4 (some .int), .fieldLink RX1 24 "JobShop$Search" "jobFree" "[I", .fieldLink RX1 36 "JobShop$Search" "floor" "LJobShop$Floor;", .fieldLink RX1 100 "JobShop$Floor" "jobOf" "[I", .fieldLink RX1 27 "JobShop$Search" "machineFree" "[I", .fieldLink RX1 71 "JobShop$Floor" "machineOf" "[I"] ++ wsX10 ++ wsX00)
def wsX1_isStranded : List Cond := .code yX1_isStranded cX1_isStranded 5 (some .boolean) :: ([.fieldLink RX1 33 "JobShop$Search" "waiting" "[I", .fieldLink RX1 36 "JobShop$Search" "floor" "LJobShop$Floor;", .fieldLink RX1 71 "JobShop$Floor" "machineOf" "[I", .fieldLink RX1 127 "JobShop$Floor" "arcs" "[I", .methodLink RX1 92 yX1_isPassed, .instanceMethod yX1_isPassed, .selects RX1 yX1_isPassed yX1_isPassed, .initialized RX1, .code yX1_isPassed cX1_isPassed 5 (some .boolean), .methodLink RX1 103 yX1_earliest, .instanceMethod yX1_earliest, .selects RX1 yX1_earliest yX1_earliest, .code yX1_earliest cX1_earliest 4 (some .int), .fieldLink RX1 24 "JobShop$Search" "jobFree" "[I", .fieldLink RX1 100 "JobShop$Floor" "jobOf" "[I", .fieldLink RX1 27 "JobShop$Search" "machineFree" "[I"] ++ wsX10 ++ wsX00)
def wsX1_isHopeless_r1 : List Cond := [Cond.fieldLink RX1 27 "JobShop$Search" "machineFree" "[I", Cond.fieldLink RX1 30 "JobShop$Search" "workLeft" "[I", Cond.fieldLink RX1 62 "JobShop$Search" "least" "I", Cond.fieldLink RX1 36 "JobShop$Search" "floor" "LJobShop$Floor;", Cond.fieldLink RX1 51 "JobShop$Floor" "jobs" "I", Cond.fieldLink RX1 21 "JobShop$Search" "turn" "[I", Cond.methodLink RX1 88 yX0_isOperation, Cond.instanceMethod yX0_isOperation, Cond.selects RX0 yX0_isOperation yX0_isOperation, Cond.initialized RX0, Cond.code yX0_isOperation cX0_isOperation 2 (some .boolean), Cond.fieldLink RX0 46 "JobShop$Floor" "size" "I", Cond.methodLink RX1 109 yX1_endsAbove, Cond.instanceMethod yX1_endsAbove, Cond.selects RX1 yX1_endsAbove yX1_endsAbove, Cond.initialized RX1, Cond.code yX1_endsAbove cX1_endsAbove 2 (some .boolean), Cond.fieldLink RX1 115 "JobShop$Floor" "head" "[I", Cond.methodLink RX1 118 Lib.Math.max.name, Cond.static Lib.Math.max.name, Cond.initialized "java/lang/Math", Cond.code Lib.Math.max.name Lib.Math.max.code 2 (some .int), Cond.fieldLink RX1 68 "JobShop$Floor" "duration" "[I", Cond.fieldLink RX1 124 "JobShop$Floor" "tail" "[I"]
def wsX1_isHopeless_r2 : List Cond := [Cond.methodLink RX1 103 yX1_earliest, Cond.instanceMethod yX1_earliest, Cond.selects RX1 yX1_earliest yX1_earliest, Cond.code yX1_earliest cX1_earliest 4 (some .int), Cond.fieldLink RX1 24 "JobShop$Search" "jobFree" "[I", Cond.fieldLink RX1 100 "JobShop$Floor" "jobOf" "[I", Cond.fieldLink RX1 71 "JobShop$Floor" "machineOf" "[I", Cond.methodLink RX1 112 yX1_isStranded, Cond.instanceMethod yX1_isStranded, Cond.selects RX1 yX1_isStranded yX1_isStranded, Cond.code yX1_isStranded cX1_isStranded 5 (some .boolean), Cond.fieldLink RX1 33 "JobShop$Search" "waiting" "[I", Cond.fieldLink RX1 127 "JobShop$Floor" "arcs" "[I", Cond.methodLink RX1 92 yX1_isPassed, Cond.instanceMethod yX1_isPassed, Cond.selects RX1 yX1_isPassed yX1_isPassed, Cond.code yX1_isPassed cX1_isPassed 5 (some .boolean)]
def wsX1_isHopeless : List Cond := .code yX1_isHopeless cX1_isHopeless 5 (some .boolean) :: ((wsX1_isHopeless_r1 ++ wsX1_isHopeless_r2) ++ wsX10 ++ wsX00)
def wsX1_extend_r1 : List Cond := [Cond.fieldLink RX1 36 "JobShop$Search" "floor" "LJobShop$Floor;", Cond.fieldLink RX1 65 "JobShop$Floor" "size" "I", Cond.fieldLink RX1 51 "JobShop$Floor" "jobs" "I", Cond.fieldLink RX1 21 "JobShop$Search" "turn" "[I", Cond.fieldLink RX1 18 "JobShop$Search" "needs" "[I", Cond.fieldLink RX1 59 "JobShop$Search" "placed" "I", Cond.methodLink RX1 82 yX1_keep, Cond.instanceMethod yX1_keep, Cond.selects RX1 yX1_keep yX1_keep, Cond.initialized RX1, Cond.code yX1_keep cX1_keep 3 none, Cond.fieldLink RX1 15 "JobShop$Search" "start" "[I", Cond.fieldLink RX1 68 "JobShop$Floor" "duration" "[I", Cond.methodLink RX1 118 Lib.Math.max.name, Cond.static Lib.Math.max.name, Cond.initialized "java/lang/Math", Cond.code Lib.Math.max.name Lib.Math.max.code 2 (some .int), Cond.fieldLink RX1 62 "JobShop$Search" "least" "I", Cond.fieldLink RX1 43 "JobShop$Search" "found" "I", Cond.fieldLink RX1 9 "JobShop$Search" "plan" "[I", Cond.methodLink RX1 134 arraycopyName, Cond.native arraycopyName, Cond.static arraycopyName, Cond.initialized "java/lang/System"]
def wsX1_extend_r2 : List Cond := [Cond.methodLink RX1 130 yX1_isEarlier, Cond.instanceMethod yX1_isEarlier, Cond.selects RX1 yX1_isEarlier yX1_isEarlier, Cond.code yX1_isEarlier cX1_isEarlier 2 (some .boolean), Cond.methodLink RX1 85 yX1_isHopeless, Cond.instanceMethod yX1_isHopeless, Cond.selects RX1 yX1_isHopeless yX1_isHopeless, Cond.code yX1_isHopeless cX1_isHopeless 5 (some .boolean), Cond.fieldLink RX1 27 "JobShop$Search" "machineFree" "[I", Cond.fieldLink RX1 30 "JobShop$Search" "workLeft" "[I", Cond.methodLink RX1 88 yX0_isOperation, Cond.instanceMethod yX0_isOperation, Cond.selects RX0 yX0_isOperation yX0_isOperation, Cond.initialized RX0, Cond.code yX0_isOperation cX0_isOperation 2 (some .boolean), Cond.fieldLink RX0 46 "JobShop$Floor" "size" "I", Cond.methodLink RX1 109 yX1_endsAbove, Cond.instanceMethod yX1_endsAbove, Cond.selects RX1 yX1_endsAbove yX1_endsAbove, Cond.code yX1_endsAbove cX1_endsAbove 2 (some .boolean), Cond.fieldLink RX1 115 "JobShop$Floor" "head" "[I", Cond.fieldLink RX1 124 "JobShop$Floor" "tail" "[I", Cond.methodLink RX1 103 yX1_earliest, Cond.instanceMethod yX1_earliest]
def wsX1_extend_r3 : List Cond := [Cond.selects RX1 yX1_earliest yX1_earliest, Cond.code yX1_earliest cX1_earliest 4 (some .int), Cond.fieldLink RX1 24 "JobShop$Search" "jobFree" "[I", Cond.fieldLink RX1 100 "JobShop$Floor" "jobOf" "[I", Cond.fieldLink RX1 71 "JobShop$Floor" "machineOf" "[I", Cond.methodLink RX1 112 yX1_isStranded, Cond.instanceMethod yX1_isStranded, Cond.selects RX1 yX1_isStranded yX1_isStranded, Cond.code yX1_isStranded cX1_isStranded 5 (some .boolean), Cond.fieldLink RX1 33 "JobShop$Search" "waiting" "[I", Cond.fieldLink RX1 127 "JobShop$Floor" "arcs" "[I", Cond.methodLink RX1 92 yX1_isPassed, Cond.instanceMethod yX1_isPassed, Cond.selects RX1 yX1_isPassed yX1_isPassed, Cond.code yX1_isPassed cX1_isPassed 5 (some .boolean), Cond.methodLink RX1 96 yX1_place, Cond.instanceMethod yX1_place, Cond.selects RX1 yX1_place yX1_place, Cond.code yX1_place cX1_place 8 none, Cond.fieldLink RX1 106 "JobShop$Floor" "nextOf" "[I", Cond.methodLink RX1 47 yX1_extend, Cond.instanceMethod yX1_extend, Cond.selects RX1 yX1_extend yX1_extend]
def wsX1_extend : List Cond := .code yX1_extend cX1_extend 6 none :: ((wsX1_extend_r1 ++ (wsX1_extend_r2 ++ wsX1_extend_r3)) ++ wsX10 ++ wsX00)
def wsX1_place_r1 : List Cond := [Cond.fieldLink RX1 36 "JobShop$Search" "floor" "LJobShop$Floor;", Cond.fieldLink RX1 100 "JobShop$Floor" "jobOf" "[I", Cond.fieldLink RX1 71 "JobShop$Floor" "machineOf" "[I", Cond.fieldLink RX1 24 "JobShop$Search" "jobFree" "[I", Cond.fieldLink RX1 27 "JobShop$Search" "machineFree" "[I", Cond.fieldLink RX1 15 "JobShop$Search" "start" "[I", Cond.fieldLink RX1 21 "JobShop$Search" "turn" "[I", Cond.fieldLink RX1 106 "JobShop$Floor" "nextOf" "[I", Cond.fieldLink RX1 68 "JobShop$Floor" "duration" "[I", Cond.fieldLink RX1 30 "JobShop$Search" "workLeft" "[I", Cond.fieldLink RX1 33 "JobShop$Search" "waiting" "[I", Cond.fieldLink RX1 59 "JobShop$Search" "placed" "I", Cond.methodLink RX1 103 yX1_earliest, Cond.instanceMethod yX1_earliest, Cond.selects RX1 yX1_earliest yX1_earliest, Cond.initialized RX1, Cond.code yX1_earliest cX1_earliest 4 (some .int), Cond.methodLink RX1 47 yX1_extend, Cond.instanceMethod yX1_extend, Cond.selects RX1 yX1_extend yX1_extend, Cond.code yX1_extend cX1_extend 6 none, Cond.fieldLink RX1 65 "JobShop$Floor" "size" "I", Cond.fieldLink RX1 51 "JobShop$Floor" "jobs" "I", Cond.fieldLink RX1 18 "JobShop$Search" "needs" "[I"]
def wsX1_place_r2 : List Cond := [Cond.methodLink RX1 82 yX1_keep, Cond.instanceMethod yX1_keep, Cond.selects RX1 yX1_keep yX1_keep, Cond.code yX1_keep cX1_keep 3 none, Cond.methodLink RX1 118 Lib.Math.max.name, Cond.static Lib.Math.max.name, Cond.initialized "java/lang/Math", Cond.code Lib.Math.max.name Lib.Math.max.code 2 (some .int), Cond.fieldLink RX1 62 "JobShop$Search" "least" "I", Cond.fieldLink RX1 43 "JobShop$Search" "found" "I", Cond.fieldLink RX1 9 "JobShop$Search" "plan" "[I", Cond.methodLink RX1 134 arraycopyName, Cond.native arraycopyName, Cond.static arraycopyName, Cond.initialized "java/lang/System", Cond.methodLink RX1 130 yX1_isEarlier, Cond.instanceMethod yX1_isEarlier, Cond.selects RX1 yX1_isEarlier yX1_isEarlier, Cond.code yX1_isEarlier cX1_isEarlier 2 (some .boolean), Cond.methodLink RX1 85 yX1_isHopeless, Cond.instanceMethod yX1_isHopeless, Cond.selects RX1 yX1_isHopeless yX1_isHopeless, Cond.code yX1_isHopeless cX1_isHopeless 5 (some .boolean), Cond.methodLink RX1 88 yX0_isOperation]
def wsX1_place_r3 : List Cond := [Cond.instanceMethod yX0_isOperation, Cond.selects RX0 yX0_isOperation yX0_isOperation, Cond.initialized RX0, Cond.code yX0_isOperation cX0_isOperation 2 (some .boolean), Cond.fieldLink RX0 46 "JobShop$Floor" "size" "I", Cond.methodLink RX1 109 yX1_endsAbove, Cond.instanceMethod yX1_endsAbove, Cond.selects RX1 yX1_endsAbove yX1_endsAbove, Cond.code yX1_endsAbove cX1_endsAbove 2 (some .boolean), Cond.fieldLink RX1 115 "JobShop$Floor" "head" "[I", Cond.fieldLink RX1 124 "JobShop$Floor" "tail" "[I", Cond.methodLink RX1 112 yX1_isStranded, Cond.instanceMethod yX1_isStranded, Cond.selects RX1 yX1_isStranded yX1_isStranded, Cond.code yX1_isStranded cX1_isStranded 5 (some .boolean), Cond.fieldLink RX1 127 "JobShop$Floor" "arcs" "[I", Cond.methodLink RX1 92 yX1_isPassed, Cond.instanceMethod yX1_isPassed, Cond.selects RX1 yX1_isPassed yX1_isPassed, Cond.code yX1_isPassed cX1_isPassed 5 (some .boolean), Cond.methodLink RX1 96 yX1_place, Cond.instanceMethod yX1_place, Cond.selects RX1 yX1_place yX1_place]
def wsX1_place : List Cond := .code yX1_place cX1_place 8 none :: ((wsX1_place_r1 ++ (wsX1_place_r2 ++ wsX1_place_r3)) ++ wsX10 ++ wsX00)
def wsX1_run_r1 : List Cond := [Cond.fieldLink RX1 43 "JobShop$Search" "found" "I", Cond.methodLink RX1 40 yX1_prepare, Cond.instanceMethod yX1_prepare, Cond.selects RX1 yX1_prepare yX1_prepare, Cond.initialized RX1, Cond.code yX1_prepare cX1_prepare 2 none, Cond.fieldLink RX1 36 "JobShop$Search" "floor" "LJobShop$Floor;", Cond.fieldLink RX1 51 "JobShop$Floor" "jobs" "I", Cond.fieldLink RX1 21 "JobShop$Search" "turn" "[I", Cond.fieldLink RX1 56 "JobShop$Floor" "firstOf" "[I", Cond.fieldLink RX1 24 "JobShop$Search" "jobFree" "[I", Cond.fieldLink RX1 27 "JobShop$Search" "machineFree" "[I", Cond.fieldLink RX1 30 "JobShop$Search" "workLeft" "[I", Cond.fieldLink RX1 33 "JobShop$Search" "waiting" "[I", Cond.fieldLink RX1 59 "JobShop$Search" "placed" "I", Cond.fieldLink RX1 62 "JobShop$Search" "least" "I", Cond.fieldLink RX1 65 "JobShop$Floor" "size" "I", Cond.fieldLink RX1 68 "JobShop$Floor" "duration" "[I", Cond.fieldLink RX1 71 "JobShop$Floor" "machineOf" "[I", Cond.fieldLink RX1 18 "JobShop$Search" "needs" "[I", Cond.methodLink RX1 74 yX1_forerunners, Cond.instanceMethod yX1_forerunners, Cond.selects RX1 yX1_forerunners yX1_forerunners, Cond.code yX1_forerunners cX1_forerunners 4 (some .int)]
def wsX1_run_r2 : List Cond := [Cond.methodLink RX1 78 yX0_hasArc, Cond.instanceMethod yX0_hasArc, Cond.selects RX0 yX0_hasArc yX0_hasArc, Cond.initialized RX0, Cond.code yX0_hasArc cX0_hasArc 3 (some .boolean), Cond.fieldLink RX0 30 "JobShop$Floor" "arcs" "[I", Cond.static yX2_isIn, Cond.initialized RX2, Cond.code yX2_isIn cX2_isIn 2 (some .boolean), Cond.methodLink RX1 47 yX1_extend, Cond.instanceMethod yX1_extend, Cond.selects RX1 yX1_extend yX1_extend, Cond.code yX1_extend cX1_extend 6 none, Cond.methodLink RX1 82 yX1_keep, Cond.instanceMethod yX1_keep, Cond.selects RX1 yX1_keep yX1_keep, Cond.code yX1_keep cX1_keep 3 none, Cond.fieldLink RX1 15 "JobShop$Search" "start" "[I", Cond.methodLink RX1 118 Lib.Math.max.name, Cond.static Lib.Math.max.name, Cond.initialized "java/lang/Math", Cond.code Lib.Math.max.name Lib.Math.max.code 2 (some .int), Cond.fieldLink RX1 9 "JobShop$Search" "plan" "[I", Cond.methodLink RX1 134 arraycopyName]
def wsX1_run_r3 : List Cond := [Cond.native arraycopyName, Cond.static arraycopyName, Cond.initialized "java/lang/System", Cond.methodLink RX1 130 yX1_isEarlier, Cond.instanceMethod yX1_isEarlier, Cond.selects RX1 yX1_isEarlier yX1_isEarlier, Cond.code yX1_isEarlier cX1_isEarlier 2 (some .boolean), Cond.methodLink RX1 85 yX1_isHopeless, Cond.instanceMethod yX1_isHopeless, Cond.selects RX1 yX1_isHopeless yX1_isHopeless, Cond.code yX1_isHopeless cX1_isHopeless 5 (some .boolean), Cond.methodLink RX1 88 yX0_isOperation, Cond.instanceMethod yX0_isOperation, Cond.selects RX0 yX0_isOperation yX0_isOperation, Cond.code yX0_isOperation cX0_isOperation 2 (some .boolean), Cond.fieldLink RX0 46 "JobShop$Floor" "size" "I", Cond.methodLink RX1 109 yX1_endsAbove, Cond.instanceMethod yX1_endsAbove, Cond.selects RX1 yX1_endsAbove yX1_endsAbove, Cond.code yX1_endsAbove cX1_endsAbove 2 (some .boolean), Cond.fieldLink RX1 115 "JobShop$Floor" "head" "[I", Cond.fieldLink RX1 124 "JobShop$Floor" "tail" "[I", Cond.methodLink RX1 103 yX1_earliest, Cond.instanceMethod yX1_earliest]
def wsX1_run_r4 : List Cond := [Cond.selects RX1 yX1_earliest yX1_earliest, Cond.code yX1_earliest cX1_earliest 4 (some .int), Cond.fieldLink RX1 100 "JobShop$Floor" "jobOf" "[I", Cond.methodLink RX1 112 yX1_isStranded, Cond.instanceMethod yX1_isStranded, Cond.selects RX1 yX1_isStranded yX1_isStranded, Cond.code yX1_isStranded cX1_isStranded 5 (some .boolean), Cond.fieldLink RX1 127 "JobShop$Floor" "arcs" "[I", Cond.methodLink RX1 92 yX1_isPassed, Cond.instanceMethod yX1_isPassed, Cond.selects RX1 yX1_isPassed yX1_isPassed, Cond.code yX1_isPassed cX1_isPassed 5 (some .boolean), Cond.methodLink RX1 96 yX1_place, Cond.instanceMethod yX1_place, Cond.selects RX1 yX1_place yX1_place, Cond.code yX1_place cX1_place 8 none, Cond.fieldLink RX1 106 "JobShop$Floor" "nextOf" "[I"]
def wsX1_run : List Cond := .code yX1_run cX1_run 1 none :: ((wsX1_run_r1 ++ (wsX1_run_r2 ++ (wsX1_run_r3 ++ wsX1_run_r4))) ++ wsX10 ++ wsX00)
def wsX2_init_r1 : List Cond := [Cond.methodLink RX2 1 objectInit, Cond.instanceMethod objectInit, Cond.code objectInit ⟨#[0xb1]⟩ 1 none, Cond.classLink RX2 7 RX0, Cond.instantiable RX0 12, Cond.initialized RX0, Cond.fieldLink RX2 10 "JobShop" "floor" "LJobShop$Floor;", Cond.classLink RX2 16 RX1, Cond.instantiable RX1 12, Cond.initialized RX1, Cond.fieldLink RX2 21 "JobShop" "search" "LJobShop$Search;", Cond.arrayClass .int, Cond.fieldLink RX2 25 "JobShop" "drafted" "[I", Cond.fieldLink RX2 29 "JobShop" "planned" "Z", Cond.instanceMethod yX0_init, Cond.code yX0_init cX0_init 1 none, Cond.methodLink RX0 3 objectInit, Cond.fieldLink RX0 9 "JobShop$Floor" "firstOf" "[I", Cond.fieldLink RX0 15 "JobShop$Floor" "lastOf" "[I", Cond.fieldLink RX0 18 "JobShop$Floor" "jobOf" "[I", Cond.fieldLink RX0 21 "JobShop$Floor" "machineOf" "[I", Cond.fieldLink RX0 24 "JobShop$Floor" "duration" "[I", Cond.fieldLink RX0 27 "JobShop$Floor" "nextOf" "[I", Cond.fieldLink RX0 30 "JobShop$Floor" "arcs" "[I"]
def wsX2_init_r2 : List Cond := [Cond.fieldLink RX0 33 "JobShop$Floor" "head" "[I", Cond.fieldLink RX0 36 "JobShop$Floor" "tail" "[I", Cond.fieldLink RX0 39 "JobShop$Floor" "kept" "[I", Cond.methodLink RX2 18 yX1_init, Cond.instanceMethod yX1_init, Cond.code yX1_init cX1_init 2 none, Cond.methodLink RX1 3 objectInit, Cond.fieldLink RX1 9 "JobShop$Search" "plan" "[I", Cond.fieldLink RX1 15 "JobShop$Search" "start" "[I", Cond.fieldLink RX1 18 "JobShop$Search" "needs" "[I", Cond.fieldLink RX1 21 "JobShop$Search" "turn" "[I", Cond.fieldLink RX1 24 "JobShop$Search" "jobFree" "[I", Cond.fieldLink RX1 27 "JobShop$Search" "machineFree" "[I", Cond.fieldLink RX1 30 "JobShop$Search" "workLeft" "[I", Cond.fieldLink RX1 33 "JobShop$Search" "waiting" "[I", Cond.fieldLink RX1 36 "JobShop$Search" "floor" "LJobShop$Floor;"]
def wsX2_init : List Cond := .code yX2_init cX2_init 1 none :: ((wsX2_init_r1 ++ wsX2_init_r2) ++ wsX00 ++ wsX20 ++ wsX10)
def wsX2_clear : List Cond := .code yX2_clear cX2_clear 2 (some .int) :: ([.fieldLink RX2 10 "JobShop" "floor" "LJobShop$Floor;", .fieldLink RX2 33 "JobShop$Floor" "size" "I", .fieldLink RX2 29 "JobShop" "planned" "Z", .methodLink RX2 37 yX0_empty, .instanceMethod yX0_empty, .selects RX0 yX0_empty yX0_empty, .initialized RX0, .code yX0_empty cX0_empty 1 none, .fieldLink RX0 42 "JobShop$Floor" "jobs" "I", .fieldLink RX0 46 "JobShop$Floor" "size" "I"] ++ wsX20 ++ wsX00)
def wsX2_job : List Cond := .code yX2_job cX2_job 1 (some .int) :: ([.fieldLink RX2 10 "JobShop" "floor" "LJobShop$Floor;", .fieldLink RX2 40 "JobShop$Floor" "jobs" "I", .methodLink RX2 43 yX0_addJob, .instanceMethod yX0_addJob, .selects RX0 yX0_addJob yX0_addJob, .initialized RX0, .code yX0_addJob cX0_addJob 2 (some .int), .fieldLink RX0 42 "JobShop$Floor" "jobs" "I", .fieldLink RX0 9 "JobShop$Floor" "firstOf" "[I", .fieldLink RX0 15 "JobShop$Floor" "lastOf" "[I"] ++ wsX20 ++ wsX00)
def wsX2_isMachine : List Cond := .code yX2_isMachine cX2_isMachine 1 (some .boolean) :: ([])
def wsX2_operation_r1 : List Cond := [Cond.fieldLink RX2 10 "JobShop" "floor" "LJobShop$Floor;", Cond.fieldLink RX2 33 "JobShop$Floor" "size" "I", Cond.fieldLink RX2 29 "JobShop" "planned" "Z", Cond.fieldLink RX2 25 "JobShop" "drafted" "[I", Cond.methodLink RX2 47 yX0_isJob, Cond.instanceMethod yX0_isJob, Cond.selects RX0 yX0_isJob yX0_isJob, Cond.initialized RX0, Cond.code yX0_isJob cX0_isJob 2 (some .boolean), Cond.fieldLink RX0 42 "JobShop$Floor" "jobs" "I", Cond.methodLink RX2 51 yX2_isMachine, Cond.static yX2_isMachine, Cond.initialized RX2, Cond.code yX2_isMachine cX2_isMachine 1 (some .boolean), Cond.methodLink RX2 54 yX0_visits, Cond.instanceMethod yX0_visits, Cond.selects RX0 yX0_visits yX0_visits, Cond.code yX0_visits cX0_visits 4 (some .boolean), Cond.fieldLink RX0 46 "JobShop$Floor" "size" "I", Cond.fieldLink RX0 18 "JobShop$Floor" "jobOf" "[I", Cond.fieldLink RX0 21 "JobShop$Floor" "machineOf" "[I", Cond.methodLink RX2 58 yX0_addOperation, Cond.instanceMethod yX0_addOperation, Cond.selects RX0 yX0_addOperation yX0_addOperation]
def wsX2_operation_r2 : List Cond := [Cond.code yX0_addOperation cX0_addOperation 6 (some .int), Cond.fieldLink RX0 24 "JobShop$Floor" "duration" "[I", Cond.fieldLink RX0 27 "JobShop$Floor" "nextOf" "[I", Cond.fieldLink RX0 30 "JobShop$Floor" "arcs" "[I", Cond.fieldLink RX0 15 "JobShop$Floor" "lastOf" "[I", Cond.fieldLink RX0 9 "JobShop$Floor" "firstOf" "[I", Cond.methodLink RX0 49 yX0_isOperation, Cond.instanceMethod yX0_isOperation, Cond.selects RX0 yX0_isOperation yX0_isOperation, Cond.code yX0_isOperation cX0_isOperation 2 (some .boolean), Cond.methodLink RX0 53 yX0_measure, Cond.instanceMethod yX0_measure, Cond.selects RX0 yX0_measure yX0_measure, Cond.code yX0_measure cX0_measure 4 none, Cond.fieldLink RX0 33 "JobShop$Floor" "head" "[I", Cond.fieldLink RX0 36 "JobShop$Floor" "tail" "[I", Cond.methodLink RX0 67 yX0_stretch, Cond.instanceMethod yX0_stretch, Cond.selects RX0 yX0_stretch yX0_stretch, Cond.code yX0_stretch cX0_stretch 5 (some .boolean), Cond.methodLink RX0 63 yX0_followers, Cond.instanceMethod yX0_followers, Cond.selects RX0 yX0_followers yX0_followers, Cond.code yX0_followers cX0_followers 2 (some .int)]
def wsX2_operation_r3 : List Cond := [Cond.static yX2_isIn, Cond.code yX2_isIn cX2_isIn 2 (some .boolean)]
def wsX2_operation : List Cond := .code yX2_operation cX2_operation 6 (some .int) :: ((wsX2_operation_r1 ++ (wsX2_operation_r2 ++ wsX2_operation_r3)) ++ wsX20 ++ wsX00)
def wsX2_before_r1 : List Cond := [Cond.fieldLink RX2 10 "JobShop" "floor" "LJobShop$Floor;", Cond.fieldLink RX2 29 "JobShop" "planned" "Z", Cond.methodLink RX2 62 yX0_isPair, Cond.instanceMethod yX0_isPair, Cond.selects RX0 yX0_isPair yX0_isPair, Cond.initialized RX0, Cond.code yX0_isPair cX0_isPair 3 (some .boolean), Cond.fieldLink RX0 21 "JobShop$Floor" "machineOf" "[I", Cond.methodLink RX0 49 yX0_isOperation, Cond.instanceMethod yX0_isOperation, Cond.selects RX0 yX0_isOperation yX0_isOperation, Cond.code yX0_isOperation cX0_isOperation 2 (some .boolean), Cond.fieldLink RX0 46 "JobShop$Floor" "size" "I", Cond.methodLink RX2 65 yX0_leads, Cond.instanceMethod yX0_leads, Cond.selects RX0 yX0_leads yX0_leads, Cond.code yX0_leads cX0_leads 7 (some .boolean), Cond.methodLink RX0 63 yX0_followers, Cond.instanceMethod yX0_followers, Cond.selects RX0 yX0_followers yX0_followers, Cond.code yX0_followers cX0_followers 2 (some .int), Cond.fieldLink RX0 27 "JobShop$Floor" "nextOf" "[I", Cond.fieldLink RX0 30 "JobShop$Floor" "arcs" "[I", Cond.static yX2_isIn]
def wsX2_before_r2 : List Cond := [Cond.initialized RX2, Cond.code yX2_isIn cX2_isIn 2 (some .boolean), Cond.methodLink RX2 68 yX0_hasArc, Cond.instanceMethod yX0_hasArc, Cond.selects RX0 yX0_hasArc yX0_hasArc, Cond.code yX0_hasArc cX0_hasArc 3 (some .boolean), Cond.methodLink RX2 71 yX0_putArc, Cond.instanceMethod yX0_putArc, Cond.selects RX0 yX0_putArc yX0_putArc, Cond.code yX0_putArc cX0_putArc 3 none, Cond.methodLink RX0 53 yX0_measure, Cond.instanceMethod yX0_measure, Cond.selects RX0 yX0_measure yX0_measure, Cond.code yX0_measure cX0_measure 4 none, Cond.fieldLink RX0 33 "JobShop$Floor" "head" "[I", Cond.fieldLink RX0 36 "JobShop$Floor" "tail" "[I", Cond.methodLink RX0 67 yX0_stretch, Cond.instanceMethod yX0_stretch, Cond.selects RX0 yX0_stretch yX0_stretch, Cond.code yX0_stretch cX0_stretch 5 (some .boolean), Cond.fieldLink RX0 24 "JobShop$Floor" "duration" "[I"]
def wsX2_before : List Cond := .code yX2_before cX2_before 3 (some .int) :: ((wsX2_before_r1 ++ wsX2_before_r2) ++ wsX20 ++ wsX00)
def wsX2_free_r1 : List Cond := [Cond.fieldLink RX2 10 "JobShop" "floor" "LJobShop$Floor;", Cond.fieldLink RX2 29 "JobShop" "planned" "Z", Cond.methodLink RX2 62 yX0_isPair, Cond.instanceMethod yX0_isPair, Cond.selects RX0 yX0_isPair yX0_isPair, Cond.initialized RX0, Cond.code yX0_isPair cX0_isPair 3 (some .boolean), Cond.fieldLink RX0 21 "JobShop$Floor" "machineOf" "[I", Cond.methodLink RX0 49 yX0_isOperation, Cond.instanceMethod yX0_isOperation, Cond.selects RX0 yX0_isOperation yX0_isOperation, Cond.code yX0_isOperation cX0_isOperation 2 (some .boolean), Cond.fieldLink RX0 46 "JobShop$Floor" "size" "I", Cond.methodLink RX2 75 yX0_isTied, Cond.instanceMethod yX0_isTied, Cond.selects RX0 yX0_isTied yX0_isTied, Cond.code yX0_isTied cX0_isTied 3 (some .boolean), Cond.methodLink RX0 60 yX0_hasArc, Cond.instanceMethod yX0_hasArc, Cond.selects RX0 yX0_hasArc yX0_hasArc, Cond.code yX0_hasArc cX0_hasArc 3 (some .boolean), Cond.fieldLink RX0 30 "JobShop$Floor" "arcs" "[I", Cond.static yX2_isIn, Cond.initialized RX2]
def wsX2_free_r2 : List Cond := [Cond.code yX2_isIn cX2_isIn 2 (some .boolean), Cond.methodLink RX2 78 yX0_dropArcs, Cond.instanceMethod yX0_dropArcs, Cond.selects RX0 yX0_dropArcs yX0_dropArcs, Cond.code yX0_dropArcs cX0_dropArcs 3 none, Cond.methodLink RX0 53 yX0_measure, Cond.instanceMethod yX0_measure, Cond.selects RX0 yX0_measure yX0_measure, Cond.code yX0_measure cX0_measure 4 none, Cond.fieldLink RX0 33 "JobShop$Floor" "head" "[I", Cond.fieldLink RX0 36 "JobShop$Floor" "tail" "[I", Cond.methodLink RX0 67 yX0_stretch, Cond.instanceMethod yX0_stretch, Cond.selects RX0 yX0_stretch yX0_stretch, Cond.code yX0_stretch cX0_stretch 5 (some .boolean), Cond.fieldLink RX0 24 "JobShop$Floor" "duration" "[I", Cond.methodLink RX0 63 yX0_followers, Cond.instanceMethod yX0_followers, Cond.selects RX0 yX0_followers yX0_followers, Cond.code yX0_followers cX0_followers 2 (some .int), Cond.fieldLink RX0 27 "JobShop$Floor" "nextOf" "[I"]
def wsX2_free : List Cond := .code yX2_free cX2_free 3 (some .int) :: ((wsX2_free_r1 ++ wsX2_free_r2) ++ wsX20 ++ wsX00)
def wsX2_arc : List Cond := .code yX2_arc cX2_arc 3 (some .int) :: ([.fieldLink RX2 10 "JobShop" "floor" "LJobShop$Floor;", .methodLink RX2 62 yX0_isPair, .instanceMethod yX0_isPair, .selects RX0 yX0_isPair yX0_isPair, .initialized RX0, .code yX0_isPair cX0_isPair 3 (some .boolean), .fieldLink RX0 21 "JobShop$Floor" "machineOf" "[I", .methodLink RX0 49 yX0_isOperation, .instanceMethod yX0_isOperation, .selects RX0 yX0_isOperation yX0_isOperation, .code yX0_isOperation cX0_isOperation 2 (some .boolean), .fieldLink RX0 46 "JobShop$Floor" "size" "I", .methodLink RX2 68 yX0_hasArc, .instanceMethod yX0_hasArc, .selects RX0 yX0_hasArc yX0_hasArc, .code yX0_hasArc cX0_hasArc 3 (some .boolean), .fieldLink RX0 30 "JobShop$Floor" "arcs" "[I", .static yX2_isIn, .initialized RX2, .code yX2_isIn cX2_isIn 2 (some .boolean)] ++ wsX20 ++ wsX00)
def wsX2_told_r1 : List Cond := [Cond.fieldLink RX2 10 "JobShop" "floor" "LJobShop$Floor;", Cond.fieldLink RX2 84 "JobShop$Floor" "jobOf" "[I", Cond.fieldLink RX2 87 "JobShop$Floor" "machineOf" "[I", Cond.fieldLink RX2 90 "JobShop$Floor" "duration" "[I", Cond.fieldLink RX2 93 "JobShop$Floor" "head" "[I", Cond.fieldLink RX2 96 "JobShop$Floor" "tail" "[I", Cond.fieldLink RX2 29 "JobShop" "planned" "Z", Cond.fieldLink RX2 21 "JobShop" "search" "LJobShop$Search;", Cond.fieldLink RX2 106 "JobShop$Search" "plan" "[I", Cond.methodLink RX2 81 yX0_isOperation, Cond.instanceMethod yX0_isOperation, Cond.selects RX0 yX0_isOperation yX0_isOperation, Cond.initialized RX0, Cond.code yX0_isOperation cX0_isOperation 2 (some .boolean), Cond.fieldLink RX0 46 "JobShop$Floor" "size" "I", Cond.methodLink RX2 99 yX0_through, Cond.instanceMethod yX0_through, Cond.selects RX0 yX0_through yX0_through, Cond.code yX0_through cX0_through 2 (some .int), Cond.fieldLink RX0 33 "JobShop$Floor" "head" "[I", Cond.fieldLink RX0 24 "JobShop$Floor" "duration" "[I", Cond.fieldLink RX0 36 "JobShop$Floor" "tail" "[I", Cond.methodLink RX2 103 yX0_longest, Cond.instanceMethod yX0_longest]
def wsX2_told_r2 : List Cond := [Cond.selects RX0 yX0_longest yX0_longest, Cond.code yX0_longest cX0_longest 3 (some .int), Cond.methodLink RX0 73 Lib.Math.max.name, Cond.static Lib.Math.max.name, Cond.initialized "java/lang/Math", Cond.code Lib.Math.max.name Lib.Math.max.code 2 (some .int), Cond.methodLink RX0 70 yX0_through]
def wsX2_told : List Cond := .code yX2_told cX2_told 3 (some .int) :: ((wsX2_told_r1 ++ wsX2_told_r2) ++ wsX20 ++ wsX00 ++ wsX10)
def wsX2_length : List Cond := .code yX2_length cX2_length 1 (some .int) :: ([.fieldLink RX2 10 "JobShop" "floor" "LJobShop$Floor;", .methodLink RX2 103 yX0_longest, .instanceMethod yX0_longest, .selects RX0 yX0_longest yX0_longest, .initialized RX0, .code yX0_longest cX0_longest 3 (some .int), .fieldLink RX0 46 "JobShop$Floor" "size" "I", .methodLink RX0 73 Lib.Math.max.name, .static Lib.Math.max.name, .initialized "java/lang/Math", .code Lib.Math.max.name Lib.Math.max.code 2 (some .int), .methodLink RX0 70 yX0_through, .instanceMethod yX0_through, .selects RX0 yX0_through yX0_through, .code yX0_through cX0_through 2 (some .int), .fieldLink RX0 33 "JobShop$Floor" "head" "[I", .fieldLink RX0 24 "JobShop$Floor" "duration" "[I", .fieldLink RX0 36 "JobShop$Floor" "tail" "[I"] ++ wsX20 ++ wsX00)
def wsX2_load : List Cond := .code yX2_load cX2_load 2 (some .int) :: ([.fieldLink RX2 10 "JobShop" "floor" "LJobShop$Floor;", .methodLink RX2 51 yX2_isMachine, .static yX2_isMachine, .initialized RX2, .code yX2_isMachine cX2_isMachine 1 (some .boolean), .methodLink RX2 109 yX0_burden, .instanceMethod yX0_burden, .selects RX0 yX0_burden yX0_burden, .initialized RX0, .code yX0_burden cX0_burden 6 (some .int), .fieldLink RX0 46 "JobShop$Floor" "size" "I", .fieldLink RX0 21 "JobShop$Floor" "machineOf" "[I", .fieldLink RX0 33 "JobShop$Floor" "head" "[I", .fieldLink RX0 36 "JobShop$Floor" "tail" "[I", .methodLink RX0 73 Lib.Math.max.name, .static Lib.Math.max.name, .initialized "java/lang/Math", .code Lib.Math.max.name Lib.Math.max.code 2 (some .int), .methodLink RX0 79 yX0_workFrom, .instanceMethod yX0_workFrom, .selects RX0 yX0_workFrom yX0_workFrom, .code yX0_workFrom cX0_workFrom 6 (some .int), .fieldLink RX0 24 "JobShop$Floor" "duration" "[I"] ++ wsX20 ++ wsX00)
def wsX2_select_r1 : List Cond := [Cond.fieldLink RX2 10 "JobShop" "floor" "LJobShop$Floor;", Cond.fieldLink RX2 29 "JobShop" "planned" "Z", Cond.methodLink RX2 112 yX0_force, Cond.instanceMethod yX0_force, Cond.selects RX0 yX0_force yX0_force, Cond.initialized RX0, Cond.code yX0_force cX0_force 7 (some .int), Cond.fieldLink RX0 30 "JobShop$Floor" "arcs" "[I", Cond.fieldLink RX0 39 "JobShop$Floor" "kept" "[I", Cond.fieldLink RX0 46 "JobShop$Floor" "size" "I", Cond.methodLink RX0 95 arraycopyName, Cond.native arraycopyName, Cond.static arraycopyName, Cond.initialized "java/lang/System", Cond.methodLink RX0 101 yX0_tiedPairs, Cond.instanceMethod yX0_tiedPairs, Cond.selects RX0 yX0_tiedPairs yX0_tiedPairs, Cond.code yX0_tiedPairs cX0_tiedPairs 3 (some .int), Cond.methodLink RX0 90 yJ6_bitCount_0f7a4, Cond.static yJ6_bitCount_0f7a4, Cond.initialized RJ6, Cond.code yJ6_bitCount_0f7a4 cJ6_bitCount_0f7a4 1 (some .int), Cond.constant RJ6 265 (1431655765), Cond.constant RJ6 266 (858993459)]
def wsX2_select_r2 : List Cond := [Cond.constant RJ6 267 (252645135), Cond.methodLink RX0 104 yX0_forceFrom, Cond.instanceMethod yX0_forceFrom, Cond.selects RX0 yX0_forceFrom yX0_forceFrom, Cond.code yX0_forceFrom cX0_forceFrom 4 (some .boolean), Cond.methodLink RX0 107 yX0_isPair, Cond.instanceMethod yX0_isPair, Cond.selects RX0 yX0_isPair yX0_isPair, Cond.code yX0_isPair cX0_isPair 3 (some .boolean), Cond.fieldLink RX0 21 "JobShop$Floor" "machineOf" "[I", Cond.methodLink RX0 49 yX0_isOperation, Cond.instanceMethod yX0_isOperation, Cond.selects RX0 yX0_isOperation yX0_isOperation, Cond.code yX0_isOperation cX0_isOperation 2 (some .boolean), Cond.methodLink RX0 110 yX0_isTied, Cond.instanceMethod yX0_isTied, Cond.selects RX0 yX0_isTied yX0_isTied, Cond.code yX0_isTied cX0_isTied 3 (some .boolean), Cond.methodLink RX0 60 yX0_hasArc, Cond.instanceMethod yX0_hasArc, Cond.selects RX0 yX0_hasArc yX0_hasArc, Cond.code yX0_hasArc cX0_hasArc 3 (some .boolean), Cond.static yX2_isIn, Cond.initialized RX2]
def wsX2_select_r3 : List Cond := [Cond.code yX2_isIn cX2_isIn 2 (some .boolean), Cond.methodLink RX0 113 yX0_mustPrecede, Cond.instanceMethod yX0_mustPrecede, Cond.selects RX0 yX0_mustPrecede yX0_mustPrecede, Cond.code yX0_mustPrecede cX0_mustPrecede 4 (some .boolean), Cond.fieldLink RX0 33 "JobShop$Floor" "head" "[I", Cond.fieldLink RX0 24 "JobShop$Floor" "duration" "[I", Cond.fieldLink RX0 36 "JobShop$Floor" "tail" "[I", Cond.methodLink RX0 117 yX0_leads, Cond.instanceMethod yX0_leads, Cond.selects RX0 yX0_leads yX0_leads, Cond.code yX0_leads cX0_leads 7 (some .boolean), Cond.methodLink RX0 63 yX0_followers, Cond.instanceMethod yX0_followers, Cond.selects RX0 yX0_followers yX0_followers, Cond.code yX0_followers cX0_followers 2 (some .int), Cond.fieldLink RX0 27 "JobShop$Floor" "nextOf" "[I", Cond.methodLink RX0 120 yX0_putArc, Cond.instanceMethod yX0_putArc, Cond.selects RX0 yX0_putArc yX0_putArc, Cond.code yX0_putArc cX0_putArc 3 none, Cond.methodLink RX0 53 yX0_measure, Cond.instanceMethod yX0_measure, Cond.selects RX0 yX0_measure yX0_measure]
def wsX2_select_r4 : List Cond := [Cond.code yX0_measure cX0_measure 4 none, Cond.methodLink RX0 67 yX0_stretch, Cond.instanceMethod yX0_stretch, Cond.selects RX0 yX0_stretch yX0_stretch, Cond.code yX0_stretch cX0_stretch 5 (some .boolean), Cond.methodLink RX0 83 yX0_longest, Cond.instanceMethod yX0_longest, Cond.selects RX0 yX0_longest yX0_longest, Cond.code yX0_longest cX0_longest 3 (some .int), Cond.methodLink RX0 73 Lib.Math.max.name, Cond.static Lib.Math.max.name, Cond.initialized "java/lang/Math", Cond.code Lib.Math.max.name Lib.Math.max.code 2 (some .int), Cond.methodLink RX0 70 yX0_through, Cond.instanceMethod yX0_through, Cond.selects RX0 yX0_through yX0_through, Cond.code yX0_through cX0_through 2 (some .int)]
def wsX2_select : List Cond := .code yX2_select cX2_select 3 (some .int) :: ((wsX2_select_r1 ++ (wsX2_select_r2 ++ (wsX2_select_r3 ++ wsX2_select_r4))) ++ wsX20 ++ wsX00)
def wsX2_solve_r1 : List Cond := [Cond.fieldLink RX2 29 "JobShop" "planned" "Z", Cond.fieldLink RX2 21 "JobShop" "search" "LJobShop$Search;", Cond.fieldLink RX2 118 "JobShop$Search" "least" "I", Cond.methodLink RX2 115 yX1_run, Cond.instanceMethod yX1_run, Cond.selects RX1 yX1_run yX1_run, Cond.initialized RX1, Cond.code yX1_run cX1_run 1 none, Cond.fieldLink RX1 43 "JobShop$Search" "found" "I", Cond.methodLink RX1 40 yX1_prepare, Cond.instanceMethod yX1_prepare, Cond.selects RX1 yX1_prepare yX1_prepare, Cond.code yX1_prepare cX1_prepare 2 none, Cond.fieldLink RX1 36 "JobShop$Search" "floor" "LJobShop$Floor;", Cond.fieldLink RX1 51 "JobShop$Floor" "jobs" "I", Cond.fieldLink RX1 21 "JobShop$Search" "turn" "[I", Cond.fieldLink RX1 56 "JobShop$Floor" "firstOf" "[I", Cond.fieldLink RX1 24 "JobShop$Search" "jobFree" "[I", Cond.fieldLink RX1 27 "JobShop$Search" "machineFree" "[I", Cond.fieldLink RX1 30 "JobShop$Search" "workLeft" "[I", Cond.fieldLink RX1 33 "JobShop$Search" "waiting" "[I", Cond.fieldLink RX1 59 "JobShop$Search" "placed" "I", Cond.fieldLink RX1 62 "JobShop$Search" "least" "I", Cond.fieldLink RX1 65 "JobShop$Floor" "size" "I"]
def wsX2_solve_r2 : List Cond := [Cond.fieldLink RX1 68 "JobShop$Floor" "duration" "[I", Cond.fieldLink RX1 71 "JobShop$Floor" "machineOf" "[I", Cond.fieldLink RX1 18 "JobShop$Search" "needs" "[I", Cond.methodLink RX1 74 yX1_forerunners, Cond.instanceMethod yX1_forerunners, Cond.selects RX1 yX1_forerunners yX1_forerunners, Cond.code yX1_forerunners cX1_forerunners 4 (some .int), Cond.methodLink RX1 78 yX0_hasArc, Cond.instanceMethod yX0_hasArc, Cond.selects RX0 yX0_hasArc yX0_hasArc, Cond.initialized RX0, Cond.code yX0_hasArc cX0_hasArc 3 (some .boolean), Cond.fieldLink RX0 30 "JobShop$Floor" "arcs" "[I", Cond.static yX2_isIn, Cond.initialized RX2, Cond.code yX2_isIn cX2_isIn 2 (some .boolean), Cond.methodLink RX1 47 yX1_extend, Cond.instanceMethod yX1_extend, Cond.selects RX1 yX1_extend yX1_extend, Cond.code yX1_extend cX1_extend 6 none, Cond.methodLink RX1 82 yX1_keep, Cond.instanceMethod yX1_keep, Cond.selects RX1 yX1_keep yX1_keep, Cond.code yX1_keep cX1_keep 3 none]
def wsX2_solve_r3 : List Cond := [Cond.fieldLink RX1 15 "JobShop$Search" "start" "[I", Cond.methodLink RX1 118 Lib.Math.max.name, Cond.static Lib.Math.max.name, Cond.initialized "java/lang/Math", Cond.code Lib.Math.max.name Lib.Math.max.code 2 (some .int), Cond.fieldLink RX1 9 "JobShop$Search" "plan" "[I", Cond.methodLink RX1 134 arraycopyName, Cond.native arraycopyName, Cond.static arraycopyName, Cond.initialized "java/lang/System", Cond.methodLink RX1 130 yX1_isEarlier, Cond.instanceMethod yX1_isEarlier, Cond.selects RX1 yX1_isEarlier yX1_isEarlier, Cond.code yX1_isEarlier cX1_isEarlier 2 (some .boolean), Cond.methodLink RX1 85 yX1_isHopeless, Cond.instanceMethod yX1_isHopeless, Cond.selects RX1 yX1_isHopeless yX1_isHopeless, Cond.code yX1_isHopeless cX1_isHopeless 5 (some .boolean), Cond.methodLink RX1 88 yX0_isOperation, Cond.instanceMethod yX0_isOperation, Cond.selects RX0 yX0_isOperation yX0_isOperation, Cond.code yX0_isOperation cX0_isOperation 2 (some .boolean), Cond.fieldLink RX0 46 "JobShop$Floor" "size" "I", Cond.methodLink RX1 109 yX1_endsAbove]
def wsX2_solve_r4 : List Cond := [Cond.instanceMethod yX1_endsAbove, Cond.selects RX1 yX1_endsAbove yX1_endsAbove, Cond.code yX1_endsAbove cX1_endsAbove 2 (some .boolean), Cond.fieldLink RX1 115 "JobShop$Floor" "head" "[I", Cond.fieldLink RX1 124 "JobShop$Floor" "tail" "[I", Cond.methodLink RX1 103 yX1_earliest, Cond.instanceMethod yX1_earliest, Cond.selects RX1 yX1_earliest yX1_earliest, Cond.code yX1_earliest cX1_earliest 4 (some .int), Cond.fieldLink RX1 100 "JobShop$Floor" "jobOf" "[I", Cond.methodLink RX1 112 yX1_isStranded, Cond.instanceMethod yX1_isStranded, Cond.selects RX1 yX1_isStranded yX1_isStranded, Cond.code yX1_isStranded cX1_isStranded 5 (some .boolean), Cond.fieldLink RX1 127 "JobShop$Floor" "arcs" "[I", Cond.methodLink RX1 92 yX1_isPassed, Cond.instanceMethod yX1_isPassed, Cond.selects RX1 yX1_isPassed yX1_isPassed, Cond.code yX1_isPassed cX1_isPassed 5 (some .boolean), Cond.methodLink RX1 96 yX1_place, Cond.instanceMethod yX1_place, Cond.selects RX1 yX1_place yX1_place, Cond.code yX1_place cX1_place 8 none, Cond.fieldLink RX1 106 "JobShop$Floor" "nextOf" "[I"]
def wsX2_solve : List Cond := .code yX2_solve cX2_solve 1 (some .int) :: ((wsX2_solve_r1 ++ (wsX2_solve_r2 ++ (wsX2_solve_r3 ++ wsX2_solve_r4))) ++ wsX20 ++ wsX10 ++ wsX00)
def wsX2_optima : List Cond := .code yX2_optima cX2_optima 1 (some .int) :: ([.fieldLink RX2 29 "JobShop" "planned" "Z", .fieldLink RX2 21 "JobShop" "search" "LJobShop$Search;", .fieldLink RX2 121 "JobShop$Search" "found" "I"] ++ wsX20 ++ wsX10)
def wsX2_at : List Cond := .code yX2_at cX2_at 5 (some .int) :: ([.fieldLink RX2 29 "JobShop" "planned" "Z", .fieldLink RX2 10 "JobShop" "floor" "LJobShop$Floor;", .fieldLink RX2 33 "JobShop$Floor" "size" "I", .fieldLink RX2 21 "JobShop" "search" "LJobShop$Search;", .fieldLink RX2 106 "JobShop$Search" "plan" "[I", .fieldLink RX2 87 "JobShop$Floor" "machineOf" "[I", .fieldLink RX2 90 "JobShop$Floor" "duration" "[I", .methodLink RX2 51 yX2_isMachine, .static yX2_isMachine, .initialized RX2, .code yX2_isMachine cX2_isMachine 1 (some .boolean)] ++ wsX20 ++ wsX00 ++ wsX10)
def wsX2_draft : List Cond := .code yX2_draft cX2_draft 4 (some .int) :: ([.fieldLink RX2 10 "JobShop" "floor" "LJobShop$Floor;", .fieldLink RX2 25 "JobShop" "drafted" "[I", .methodLink RX2 81 yX0_isOperation, .instanceMethod yX0_isOperation, .selects RX0 yX0_isOperation yX0_isOperation, .initialized RX0, .code yX0_isOperation cX0_isOperation 2 (some .boolean), .fieldLink RX0 46 "JobShop$Floor" "size" "I"] ++ wsX20 ++ wsX00)
def wsX2_draftEnd : List Cond := .code yX2_draftEnd cX2_draftEnd 2 (some .int) :: ([.fieldLink RX2 25 "JobShop" "drafted" "[I", .fieldLink RX2 10 "JobShop" "floor" "LJobShop$Floor;", .fieldLink RX2 90 "JobShop$Floor" "duration" "[I"] ++ wsX20 ++ wsX00)
def wsX2_endsTooLate : List Cond := .code yX2_endsTooLate cX2_endsTooLate 4 (some .boolean) :: ([.fieldLink RX2 10 "JobShop" "floor" "LJobShop$Floor;", .fieldLink RX2 33 "JobShop$Floor" "size" "I", .fieldLink RX2 25 "JobShop" "drafted" "[I", .methodLink RX2 148 yX0_followers, .instanceMethod yX0_followers, .selects RX0 yX0_followers yX0_followers, .initialized RX0, .code yX0_followers cX0_followers 2 (some .int), .fieldLink RX0 27 "JobShop$Floor" "nextOf" "[I", .fieldLink RX0 30 "JobShop$Floor" "arcs" "[I", .methodLink RX2 151 yX2_isIn, .static yX2_isIn, .initialized RX2, .code yX2_isIn cX2_isIn 2 (some .boolean), .methodLink RX2 130 yX2_draftEnd, .instanceMethod yX2_draftEnd, .selects RX2 yX2_draftEnd yX2_draftEnd, .code yX2_draftEnd cX2_draftEnd 2 (some .int), .fieldLink RX2 90 "JobShop$Floor" "duration" "[I"] ++ wsX20 ++ wsX00)
def wsX2_meetsGreater : List Cond := .code yX2_meetsGreater cX2_meetsGreater 3 (some .boolean) :: ([.fieldLink RX2 10 "JobShop" "floor" "LJobShop$Floor;", .fieldLink RX2 33 "JobShop$Floor" "size" "I", .fieldLink RX2 87 "JobShop$Floor" "machineOf" "[I", .fieldLink RX2 25 "JobShop" "drafted" "[I", .methodLink RX2 130 yX2_draftEnd, .instanceMethod yX2_draftEnd, .selects RX2 yX2_draftEnd yX2_draftEnd, .initialized RX2, .code yX2_draftEnd cX2_draftEnd 2 (some .int), .fieldLink RX2 90 "JobShop$Floor" "duration" "[I"] ++ wsX20 ++ wsX00)
def wsX2_check_r1 : List Cond := [Cond.fieldLink RX2 10 "JobShop" "floor" "LJobShop$Floor;", Cond.fieldLink RX2 33 "JobShop$Floor" "size" "I", Cond.methodLink RX2 133 Lib.Math.max.name, Cond.static Lib.Math.max.name, Cond.initialized "java/lang/Math", Cond.code Lib.Math.max.name Lib.Math.max.code 2 (some .int), Cond.methodLink RX2 124 yX2_endsTooLate, Cond.instanceMethod yX2_endsTooLate, Cond.selects RX2 yX2_endsTooLate yX2_endsTooLate, Cond.initialized RX2, Cond.code yX2_endsTooLate cX2_endsTooLate 4 (some .boolean), Cond.fieldLink RX2 25 "JobShop" "drafted" "[I", Cond.methodLink RX2 148 yX0_followers, Cond.instanceMethod yX0_followers, Cond.selects RX0 yX0_followers yX0_followers, Cond.initialized RX0, Cond.code yX0_followers cX0_followers 2 (some .int), Cond.fieldLink RX0 27 "JobShop$Floor" "nextOf" "[I", Cond.fieldLink RX0 30 "JobShop$Floor" "arcs" "[I", Cond.methodLink RX2 151 yX2_isIn, Cond.static yX2_isIn, Cond.code yX2_isIn cX2_isIn 2 (some .boolean), Cond.methodLink RX2 130 yX2_draftEnd, Cond.instanceMethod yX2_draftEnd]
def wsX2_check_r2 : List Cond := [Cond.selects RX2 yX2_draftEnd yX2_draftEnd, Cond.code yX2_draftEnd cX2_draftEnd 2 (some .int), Cond.fieldLink RX2 90 "JobShop$Floor" "duration" "[I", Cond.methodLink RX2 127 yX2_meetsGreater, Cond.instanceMethod yX2_meetsGreater, Cond.selects RX2 yX2_meetsGreater yX2_meetsGreater, Cond.code yX2_meetsGreater cX2_meetsGreater 3 (some .boolean), Cond.fieldLink RX2 87 "JobShop$Floor" "machineOf" "[I"]
def wsX2_check : List Cond := .code yX2_check cX2_check 3 (some .int) :: ((wsX2_check_r1 ++ wsX2_check_r2) ++ wsX20 ++ wsX00)
def wsX2_adopt : List Cond := .code yX2_adopt cX2_adopt 2 (some .int) :: ([.fieldLink RX2 29 "JobShop" "planned" "Z", .fieldLink RX2 10 "JobShop" "floor" "LJobShop$Floor;", .fieldLink RX2 33 "JobShop$Floor" "size" "I", .fieldLink RX2 25 "JobShop" "drafted" "[I", .fieldLink RX2 21 "JobShop" "search" "LJobShop$Search;", .fieldLink RX2 106 "JobShop$Search" "plan" "[I", .fieldLink RX2 118 "JobShop$Search" "least" "I"] ++ wsX20 ++ wsX00 ++ wsX10)
def wsX2_count_r1 : List Cond := [Cond.fieldLink RX2 10 "JobShop" "floor" "LJobShop$Floor;", Cond.fieldLink RX2 40 "JobShop$Floor" "jobs" "I", Cond.fieldLink RX2 33 "JobShop$Floor" "size" "I", Cond.fieldLink RX2 29 "JobShop" "planned" "Z", Cond.fieldLink RX2 21 "JobShop" "search" "LJobShop$Search;", Cond.fieldLink RX2 118 "JobShop$Search" "least" "I", Cond.methodLink RX2 139 yX0_tiedPairs, Cond.instanceMethod yX0_tiedPairs, Cond.selects RX0 yX0_tiedPairs yX0_tiedPairs, Cond.initialized RX0, Cond.code yX0_tiedPairs cX0_tiedPairs 3 (some .int), Cond.fieldLink RX0 46 "JobShop$Floor" "size" "I", Cond.fieldLink RX0 30 "JobShop$Floor" "arcs" "[I", Cond.methodLink RX0 90 yJ6_bitCount_0f7a4, Cond.static yJ6_bitCount_0f7a4, Cond.initialized RJ6, Cond.code yJ6_bitCount_0f7a4 cJ6_bitCount_0f7a4 1 (some .int), Cond.constant RJ6 265 (1431655765), Cond.constant RJ6 266 (858993459), Cond.constant RJ6 267 (252645135), Cond.methodLink RX2 142 yX0_pairs, Cond.instanceMethod yX0_pairs, Cond.selects RX0 yX0_pairs yX0_pairs, Cond.code yX0_pairs cX0_pairs 4 (some .int)]
def wsX2_count_r2 : List Cond := [Cond.fieldLink RX0 21 "JobShop$Floor" "machineOf" "[I", Cond.methodLink RX2 145 yX0_bound, Cond.instanceMethod yX0_bound, Cond.selects RX0 yX0_bound yX0_bound, Cond.code yX0_bound cX0_bound 3 (some .int), Cond.methodLink RX0 73 Lib.Math.max.name, Cond.static Lib.Math.max.name, Cond.initialized "java/lang/Math", Cond.code Lib.Math.max.name Lib.Math.max.code 2 (some .int), Cond.methodLink RX0 83 yX0_longest, Cond.instanceMethod yX0_longest, Cond.selects RX0 yX0_longest yX0_longest, Cond.code yX0_longest cX0_longest 3 (some .int), Cond.methodLink RX0 70 yX0_through, Cond.instanceMethod yX0_through, Cond.selects RX0 yX0_through yX0_through, Cond.code yX0_through cX0_through 2 (some .int), Cond.fieldLink RX0 33 "JobShop$Floor" "head" "[I", Cond.fieldLink RX0 24 "JobShop$Floor" "duration" "[I", Cond.fieldLink RX0 36 "JobShop$Floor" "tail" "[I", Cond.methodLink RX0 87 yX0_burden, Cond.instanceMethod yX0_burden, Cond.selects RX0 yX0_burden yX0_burden, Cond.code yX0_burden cX0_burden 6 (some .int)]
def wsX2_count_r3 : List Cond := [Cond.methodLink RX0 79 yX0_workFrom, Cond.instanceMethod yX0_workFrom, Cond.selects RX0 yX0_workFrom yX0_workFrom, Cond.code yX0_workFrom cX0_workFrom 6 (some .int)]
def wsX2_count : List Cond := .code yX2_count cX2_count 2 (some .int) :: ((wsX2_count_r1 ++ (wsX2_count_r2 ++ wsX2_count_r3)) ++ wsX20 ++ wsX00 ++ wsX10)
def wsX3_init : List Cond := .code yX3_init cX3_init 1 none :: ([.methodLink RX3 1 objectInit, .instanceMethod objectInit, .code objectInit ⟨#[0xb1]⟩ 1 none, .arrayClass .int, .fieldLink RX3 7 "JobShopModel" "jobOf" "[I", .fieldLink RX3 13 "JobShopModel" "machineOf" "[I", .fieldLink RX3 16 "JobShopModel" "durations" "[I", .arrayClass .boolean, .fieldLink RX3 19 "JobShopModel" "arcs" "[Z", .fieldLink RX3 23 "JobShopModel" "drafts" "[I", .fieldLink RX3 26 "JobShopModel" "starts" "[I", .fieldLink RX3 29 "JobShopModel" "heads" "[I", .fieldLink RX3 32 "JobShopModel" "tails" "[I", .fieldLink RX3 35 "JobShopModel" "chosen" "[Z", .fieldLink RX3 38 "JobShopModel" "orders" "[I", .fieldLink RX3 41 "JobShopModel" "sizes" "[I", .fieldLink RX3 44 "JobShopModel" "least" "I"] ++ wsX30)
def wsX3_in : List Cond := .code yX3_in cX3_in 3 (some .boolean) :: ([])
def wsX3_isOperation : List Cond := .code yX3_isOperation cX3_isOperation 2 (some .boolean) :: ([.fieldLink RX3 48 "JobShopModel" "many" "I", .methodLink RX3 51 yX3_in, .static yX3_in, .initialized RX3, .code yX3_in cX3_in 3 (some .boolean)] ++ wsX30)
def wsX3_isPair : List Cond := .code yX3_isPair cX3_isPair 3 (some .boolean) :: ([.fieldLink RX3 13 "JobShopModel" "machineOf" "[I", .methodLink RX3 55 yX3_isOperation, .instanceMethod yX3_isOperation, .selects RX3 yX3_isOperation yX3_isOperation, .initialized RX3, .code yX3_isOperation cX3_isOperation 2 (some .boolean), .fieldLink RX3 48 "JobShopModel" "many" "I", .methodLink RX3 51 yX3_in, .static yX3_in, .code yX3_in cX3_in 3 (some .boolean)] ++ wsX30)
def wsX3_forget : List Cond := .code yX3_forget cX3_forget 1 none :: ([.fieldLink RX3 59 "JobShopModel" "isPlanned" "Z"] ++ wsX30)
def wsX3_clear : List Cond := .code yX3_clear cX3_clear 3 (some .int) :: ([.fieldLink RX3 48 "JobShopModel" "many" "I", .fieldLink RX3 63 "JobShopModel" "jobs" "I", .fieldLink RX3 19 "JobShopModel" "arcs" "[Z", .fieldLink RX3 23 "JobShopModel" "drafts" "[I", .methodLink RX3 66 yX3_forget, .instanceMethod yX3_forget, .selects RX3 yX3_forget yX3_forget, .initialized RX3, .code yX3_forget cX3_forget 1 none, .fieldLink RX3 59 "JobShopModel" "isPlanned" "Z"] ++ wsX30)
def wsX3_job : List Cond := .code yX3_job cX3_job 1 (some .int) :: ([.fieldLink RX3 63 "JobShopModel" "jobs" "I"] ++ wsX30)
def wsX3_operation : List Cond := .code yX3_operation cX3_operation 5 (some .int) :: ([.fieldLink RX3 63 "JobShopModel" "jobs" "I", .fieldLink RX3 48 "JobShopModel" "many" "I", .fieldLink RX3 7 "JobShopModel" "jobOf" "[I", .fieldLink RX3 13 "JobShopModel" "machineOf" "[I", .fieldLink RX3 16 "JobShopModel" "durations" "[I", .fieldLink RX3 23 "JobShopModel" "drafts" "[I", .methodLink RX3 51 yX3_in, .static yX3_in, .initialized RX3, .code yX3_in cX3_in 3 (some .boolean), .methodLink RX3 66 yX3_forget, .instanceMethod yX3_forget, .selects RX3 yX3_forget yX3_forget, .code yX3_forget cX3_forget 1 none, .fieldLink RX3 59 "JobShopModel" "isPlanned" "Z"] ++ wsX30)
def wsX3_nextOf : List Cond := .code yX3_nextOf cX3_nextOf 3 (some .int) :: ([.fieldLink RX3 48 "JobShopModel" "many" "I", .fieldLink RX3 7 "JobShopModel" "jobOf" "[I"] ++ wsX30)
def wsX3_leads : List Cond := .code yX3_leads cX3_leads 4 (some .boolean) :: ([.methodLink RX3 69 yX3_nextOf, .instanceMethod yX3_nextOf, .selects RX3 yX3_nextOf yX3_nextOf, .initialized RX3, .code yX3_nextOf cX3_nextOf 3 (some .int), .fieldLink RX3 48 "JobShopModel" "many" "I", .fieldLink RX3 7 "JobShopModel" "jobOf" "[I"] ++ wsX30)
def wsX3_findHeads : List Cond := .code yX3_findHeads cX3_findHeads 7 (some .boolean) :: ([.fieldLink RX3 48 "JobShopModel" "many" "I", .fieldLink RX3 29 "JobShopModel" "heads" "[I", .fieldLink RX3 16 "JobShopModel" "durations" "[I", .methodLink RX3 73 yX3_leads, .instanceMethod yX3_leads, .selects RX3 yX3_leads yX3_leads, .initialized RX3, .code yX3_leads cX3_leads 4 (some .boolean), .methodLink RX3 69 yX3_nextOf, .instanceMethod yX3_nextOf, .selects RX3 yX3_nextOf yX3_nextOf, .code yX3_nextOf cX3_nextOf 3 (some .int), .fieldLink RX3 7 "JobShopModel" "jobOf" "[I"] ++ wsX30)
def wsX3_findTails : List Cond := .code yX3_findTails cX3_findTails 6 none :: ([.fieldLink RX3 48 "JobShopModel" "many" "I", .fieldLink RX3 32 "JobShopModel" "tails" "[I", .fieldLink RX3 16 "JobShopModel" "durations" "[I", .methodLink RX3 73 yX3_leads, .instanceMethod yX3_leads, .selects RX3 yX3_leads yX3_leads, .initialized RX3, .code yX3_leads cX3_leads 4 (some .boolean), .methodLink RX3 69 yX3_nextOf, .instanceMethod yX3_nextOf, .selects RX3 yX3_nextOf yX3_nextOf, .code yX3_nextOf cX3_nextOf 3 (some .int), .fieldLink RX3 7 "JobShopModel" "jobOf" "[I"] ++ wsX30)
def wsX3_longest : List Cond := .code yX3_longest cX3_longest 4 (some .int) :: ([.fieldLink RX3 48 "JobShopModel" "many" "I", .fieldLink RX3 29 "JobShopModel" "heads" "[I", .fieldLink RX3 16 "JobShopModel" "durations" "[I", .fieldLink RX3 32 "JobShopModel" "tails" "[I"] ++ wsX30)
def wsX3_look : List Cond := .code yX3_look cX3_look 3 none :: ([.methodLink RX3 77 yX3_findHeads, .instanceMethod yX3_findHeads, .selects RX3 yX3_findHeads yX3_findHeads, .initialized RX3, .code yX3_findHeads cX3_findHeads 7 (some .boolean), .fieldLink RX3 48 "JobShopModel" "many" "I", .fieldLink RX3 29 "JobShopModel" "heads" "[I", .fieldLink RX3 16 "JobShopModel" "durations" "[I", .methodLink RX3 73 yX3_leads, .instanceMethod yX3_leads, .selects RX3 yX3_leads yX3_leads, .code yX3_leads cX3_leads 4 (some .boolean), .methodLink RX3 69 yX3_nextOf, .instanceMethod yX3_nextOf, .selects RX3 yX3_nextOf yX3_nextOf, .code yX3_nextOf cX3_nextOf 3 (some .int), .fieldLink RX3 7 "JobShopModel" "jobOf" "[I", .methodLink RX3 81 yX3_findTails, .instanceMethod yX3_findTails, .selects RX3 yX3_findTails yX3_findTails, .code yX3_findTails cX3_findTails 6 none, .fieldLink RX3 32 "JobShopModel" "tails" "[I"] ++ wsX30)
def wsX3_hasPath : List Cond := .code yX3_hasPath cX3_hasPath 8 (some .boolean) :: ([.fieldLink RX3 48 "JobShopModel" "many" "I", .methodLink RX3 73 yX3_leads, .instanceMethod yX3_leads, .selects RX3 yX3_leads yX3_leads, .initialized RX3, .code yX3_leads cX3_leads 4 (some .boolean), .methodLink RX3 69 yX3_nextOf, .instanceMethod yX3_nextOf, .selects RX3 yX3_nextOf yX3_nextOf, .code yX3_nextOf cX3_nextOf 3 (some .int), .fieldLink RX3 7 "JobShopModel" "jobOf" "[I"] ++ wsX30)
def wsX3_before_r1 : List Cond := [Cond.fieldLink RX3 19 "JobShopModel" "arcs" "[Z", Cond.methodLink RX3 85 yX3_isPair, Cond.instanceMethod yX3_isPair, Cond.selects RX3 yX3_isPair yX3_isPair, Cond.initialized RX3, Cond.code yX3_isPair cX3_isPair 3 (some .boolean), Cond.fieldLink RX3 13 "JobShopModel" "machineOf" "[I", Cond.methodLink RX3 55 yX3_isOperation, Cond.instanceMethod yX3_isOperation, Cond.selects RX3 yX3_isOperation yX3_isOperation, Cond.code yX3_isOperation cX3_isOperation 2 (some .boolean), Cond.fieldLink RX3 48 "JobShopModel" "many" "I", Cond.methodLink RX3 51 yX3_in, Cond.static yX3_in, Cond.code yX3_in cX3_in 3 (some .boolean), Cond.methodLink RX3 89 yX3_hasPath, Cond.instanceMethod yX3_hasPath, Cond.selects RX3 yX3_hasPath yX3_hasPath, Cond.code yX3_hasPath cX3_hasPath 8 (some .boolean), Cond.methodLink RX3 73 yX3_leads, Cond.instanceMethod yX3_leads, Cond.selects RX3 yX3_leads yX3_leads, Cond.code yX3_leads cX3_leads 4 (some .boolean), Cond.methodLink RX3 69 yX3_nextOf]
def wsX3_before_r2 : List Cond := [Cond.instanceMethod yX3_nextOf, Cond.selects RX3 yX3_nextOf yX3_nextOf, Cond.code yX3_nextOf cX3_nextOf 3 (some .int), Cond.fieldLink RX3 7 "JobShopModel" "jobOf" "[I", Cond.methodLink RX3 66 yX3_forget, Cond.instanceMethod yX3_forget, Cond.selects RX3 yX3_forget yX3_forget, Cond.code yX3_forget cX3_forget 1 none, Cond.fieldLink RX3 59 "JobShopModel" "isPlanned" "Z"]
def wsX3_before : List Cond := .code yX3_before cX3_before 3 (some .int) :: ((wsX3_before_r1 ++ wsX3_before_r2) ++ wsX30)
def wsX3_free : List Cond := .code yX3_free cX3_free 3 (some .int) :: ([.fieldLink RX3 19 "JobShopModel" "arcs" "[Z", .methodLink RX3 85 yX3_isPair, .instanceMethod yX3_isPair, .selects RX3 yX3_isPair yX3_isPair, .initialized RX3, .code yX3_isPair cX3_isPair 3 (some .boolean), .fieldLink RX3 13 "JobShopModel" "machineOf" "[I", .methodLink RX3 55 yX3_isOperation, .instanceMethod yX3_isOperation, .selects RX3 yX3_isOperation yX3_isOperation, .code yX3_isOperation cX3_isOperation 2 (some .boolean), .fieldLink RX3 48 "JobShopModel" "many" "I", .methodLink RX3 51 yX3_in, .static yX3_in, .code yX3_in cX3_in 3 (some .boolean), .methodLink RX3 66 yX3_forget, .instanceMethod yX3_forget, .selects RX3 yX3_forget yX3_forget, .code yX3_forget cX3_forget 1 none, .fieldLink RX3 59 "JobShopModel" "isPlanned" "Z"] ++ wsX30)
def wsX3_arc : List Cond := .code yX3_arc cX3_arc 3 (some .int) :: ([.fieldLink RX3 19 "JobShopModel" "arcs" "[Z", .methodLink RX3 85 yX3_isPair, .instanceMethod yX3_isPair, .selects RX3 yX3_isPair yX3_isPair, .initialized RX3, .code yX3_isPair cX3_isPair 3 (some .boolean), .fieldLink RX3 13 "JobShopModel" "machineOf" "[I", .methodLink RX3 55 yX3_isOperation, .instanceMethod yX3_isOperation, .selects RX3 yX3_isOperation yX3_isOperation, .code yX3_isOperation cX3_isOperation 2 (some .boolean), .fieldLink RX3 48 "JobShopModel" "many" "I", .methodLink RX3 51 yX3_in, .static yX3_in, .code yX3_in cX3_in 3 (some .boolean)] ++ wsX30)
def wsX3_told_r1 : List Cond := [Cond.fieldLink RX3 19 "JobShopModel" "arcs" "[Z", Cond.fieldLink RX3 7 "JobShopModel" "jobOf" "[I", Cond.fieldLink RX3 13 "JobShopModel" "machineOf" "[I", Cond.fieldLink RX3 16 "JobShopModel" "durations" "[I", Cond.fieldLink RX3 29 "JobShopModel" "heads" "[I", Cond.fieldLink RX3 32 "JobShopModel" "tails" "[I", Cond.fieldLink RX3 59 "JobShopModel" "isPlanned" "Z", Cond.fieldLink RX3 26 "JobShopModel" "starts" "[I", Cond.methodLink RX3 55 yX3_isOperation, Cond.instanceMethod yX3_isOperation, Cond.selects RX3 yX3_isOperation yX3_isOperation, Cond.initialized RX3, Cond.code yX3_isOperation cX3_isOperation 2 (some .boolean), Cond.fieldLink RX3 48 "JobShopModel" "many" "I", Cond.methodLink RX3 51 yX3_in, Cond.static yX3_in, Cond.code yX3_in cX3_in 3 (some .boolean), Cond.methodLink RX3 92 yX3_look, Cond.instanceMethod yX3_look, Cond.selects RX3 yX3_look yX3_look, Cond.code yX3_look cX3_look 3 none, Cond.methodLink RX3 77 yX3_findHeads, Cond.instanceMethod yX3_findHeads, Cond.selects RX3 yX3_findHeads yX3_findHeads]
def wsX3_told_r2 : List Cond := [Cond.code yX3_findHeads cX3_findHeads 7 (some .boolean), Cond.methodLink RX3 73 yX3_leads, Cond.instanceMethod yX3_leads, Cond.selects RX3 yX3_leads yX3_leads, Cond.code yX3_leads cX3_leads 4 (some .boolean), Cond.methodLink RX3 69 yX3_nextOf, Cond.instanceMethod yX3_nextOf, Cond.selects RX3 yX3_nextOf yX3_nextOf, Cond.code yX3_nextOf cX3_nextOf 3 (some .int), Cond.methodLink RX3 81 yX3_findTails, Cond.instanceMethod yX3_findTails, Cond.selects RX3 yX3_findTails yX3_findTails, Cond.code yX3_findTails cX3_findTails 6 none, Cond.methodLink RX3 95 yX3_longest, Cond.instanceMethod yX3_longest, Cond.selects RX3 yX3_longest yX3_longest, Cond.code yX3_longest cX3_longest 4 (some .int)]
def wsX3_told : List Cond := .code yX3_told cX3_told 3 (some .int) :: ((wsX3_told_r1 ++ wsX3_told_r2) ++ wsX30)
def wsX3_length_r1 : List Cond := [Cond.fieldLink RX3 19 "JobShopModel" "arcs" "[Z", Cond.methodLink RX3 92 yX3_look, Cond.instanceMethod yX3_look, Cond.selects RX3 yX3_look yX3_look, Cond.initialized RX3, Cond.code yX3_look cX3_look 3 none, Cond.methodLink RX3 77 yX3_findHeads, Cond.instanceMethod yX3_findHeads, Cond.selects RX3 yX3_findHeads yX3_findHeads, Cond.code yX3_findHeads cX3_findHeads 7 (some .boolean), Cond.fieldLink RX3 48 "JobShopModel" "many" "I", Cond.fieldLink RX3 29 "JobShopModel" "heads" "[I", Cond.fieldLink RX3 16 "JobShopModel" "durations" "[I", Cond.methodLink RX3 73 yX3_leads, Cond.instanceMethod yX3_leads, Cond.selects RX3 yX3_leads yX3_leads, Cond.code yX3_leads cX3_leads 4 (some .boolean), Cond.methodLink RX3 69 yX3_nextOf, Cond.instanceMethod yX3_nextOf, Cond.selects RX3 yX3_nextOf yX3_nextOf, Cond.code yX3_nextOf cX3_nextOf 3 (some .int), Cond.fieldLink RX3 7 "JobShopModel" "jobOf" "[I", Cond.methodLink RX3 81 yX3_findTails, Cond.instanceMethod yX3_findTails]
def wsX3_length_r2 : List Cond := [Cond.selects RX3 yX3_findTails yX3_findTails, Cond.code yX3_findTails cX3_findTails 6 none, Cond.fieldLink RX3 32 "JobShopModel" "tails" "[I", Cond.methodLink RX3 95 yX3_longest, Cond.instanceMethod yX3_longest, Cond.selects RX3 yX3_longest yX3_longest, Cond.code yX3_longest cX3_longest 4 (some .int)]
def wsX3_length : List Cond := .code yX3_length cX3_length 1 (some .int) :: ((wsX3_length_r1 ++ wsX3_length_r2) ++ wsX30)
def wsX3_load_r1 : List Cond := [Cond.fieldLink RX3 19 "JobShopModel" "arcs" "[Z", Cond.fieldLink RX3 48 "JobShopModel" "many" "I", Cond.fieldLink RX3 13 "JobShopModel" "machineOf" "[I", Cond.fieldLink RX3 29 "JobShopModel" "heads" "[I", Cond.fieldLink RX3 32 "JobShopModel" "tails" "[I", Cond.fieldLink RX3 16 "JobShopModel" "durations" "[I", Cond.methodLink RX3 51 yX3_in, Cond.static yX3_in, Cond.initialized RX3, Cond.code yX3_in cX3_in 3 (some .boolean), Cond.methodLink RX3 92 yX3_look, Cond.instanceMethod yX3_look, Cond.selects RX3 yX3_look yX3_look, Cond.code yX3_look cX3_look 3 none, Cond.methodLink RX3 77 yX3_findHeads, Cond.instanceMethod yX3_findHeads, Cond.selects RX3 yX3_findHeads yX3_findHeads, Cond.code yX3_findHeads cX3_findHeads 7 (some .boolean), Cond.methodLink RX3 73 yX3_leads, Cond.instanceMethod yX3_leads, Cond.selects RX3 yX3_leads yX3_leads, Cond.code yX3_leads cX3_leads 4 (some .boolean), Cond.methodLink RX3 69 yX3_nextOf, Cond.instanceMethod yX3_nextOf]
def wsX3_load_r2 : List Cond := [Cond.selects RX3 yX3_nextOf yX3_nextOf, Cond.code yX3_nextOf cX3_nextOf 3 (some .int), Cond.fieldLink RX3 7 "JobShopModel" "jobOf" "[I", Cond.methodLink RX3 81 yX3_findTails, Cond.instanceMethod yX3_findTails, Cond.selects RX3 yX3_findTails yX3_findTails, Cond.code yX3_findTails cX3_findTails 6 none]
def wsX3_load : List Cond := .code yX3_load cX3_load 9 (some .int) :: ((wsX3_load_r1 ++ wsX3_load_r2) ++ wsX30)
def wsX3_isForced : List Cond := .code yX3_isForced cX3_isForced 4 (some .boolean) :: ([.fieldLink RX3 29 "JobShopModel" "heads" "[I", .fieldLink RX3 16 "JobShopModel" "durations" "[I", .fieldLink RX3 32 "JobShopModel" "tails" "[I"] ++ wsX30)
def wsX3_select_r1 : List Cond := [Cond.fieldLink RX3 35 "JobShopModel" "chosen" "[Z", Cond.fieldLink RX3 19 "JobShopModel" "arcs" "[Z", Cond.fieldLink RX3 48 "JobShopModel" "many" "I", Cond.methodLink RX3 92 yX3_look, Cond.instanceMethod yX3_look, Cond.selects RX3 yX3_look yX3_look, Cond.initialized RX3, Cond.code yX3_look cX3_look 3 none, Cond.methodLink RX3 77 yX3_findHeads, Cond.instanceMethod yX3_findHeads, Cond.selects RX3 yX3_findHeads yX3_findHeads, Cond.code yX3_findHeads cX3_findHeads 7 (some .boolean), Cond.fieldLink RX3 29 "JobShopModel" "heads" "[I", Cond.fieldLink RX3 16 "JobShopModel" "durations" "[I", Cond.methodLink RX3 73 yX3_leads, Cond.instanceMethod yX3_leads, Cond.selects RX3 yX3_leads yX3_leads, Cond.code yX3_leads cX3_leads 4 (some .boolean), Cond.methodLink RX3 69 yX3_nextOf, Cond.instanceMethod yX3_nextOf, Cond.selects RX3 yX3_nextOf yX3_nextOf, Cond.code yX3_nextOf cX3_nextOf 3 (some .int), Cond.fieldLink RX3 7 "JobShopModel" "jobOf" "[I", Cond.methodLink RX3 81 yX3_findTails]
def wsX3_select_r2 : List Cond := [Cond.instanceMethod yX3_findTails, Cond.selects RX3 yX3_findTails yX3_findTails, Cond.code yX3_findTails cX3_findTails 6 none, Cond.fieldLink RX3 32 "JobShopModel" "tails" "[I", Cond.methodLink RX3 85 yX3_isPair, Cond.instanceMethod yX3_isPair, Cond.selects RX3 yX3_isPair yX3_isPair, Cond.code yX3_isPair cX3_isPair 3 (some .boolean), Cond.fieldLink RX3 13 "JobShopModel" "machineOf" "[I", Cond.methodLink RX3 55 yX3_isOperation, Cond.instanceMethod yX3_isOperation, Cond.selects RX3 yX3_isOperation yX3_isOperation, Cond.code yX3_isOperation cX3_isOperation 2 (some .boolean), Cond.methodLink RX3 51 yX3_in, Cond.static yX3_in, Cond.code yX3_in cX3_in 3 (some .boolean), Cond.methodLink RX3 99 yX3_isForced, Cond.instanceMethod yX3_isForced, Cond.selects RX3 yX3_isForced yX3_isForced, Cond.code yX3_isForced cX3_isForced 4 (some .boolean), Cond.methodLink RX3 89 yX3_hasPath, Cond.instanceMethod yX3_hasPath, Cond.selects RX3 yX3_hasPath yX3_hasPath, Cond.code yX3_hasPath cX3_hasPath 8 (some .boolean)]
def wsX3_select_r3 : List Cond := [Cond.methodLink RX3 95 yX3_longest, Cond.instanceMethod yX3_longest, Cond.selects RX3 yX3_longest yX3_longest, Cond.code yX3_longest cX3_longest 4 (some .int), Cond.methodLink RX3 66 yX3_forget, Cond.instanceMethod yX3_forget, Cond.selects RX3 yX3_forget yX3_forget, Cond.code yX3_forget cX3_forget 1 none, Cond.fieldLink RX3 59 "JobShopModel" "isPlanned" "Z"]
def wsX3_select : List Cond := .code yX3_select cX3_select 6 (some .int) :: ((wsX3_select_r1 ++ (wsX3_select_r2 ++ wsX3_select_r3)) ++ wsX30)
def wsX3_layFirst : List Cond := .code yX3_layFirst cX3_layFirst 3 none :: ([.fieldLink RX3 41 "JobShopModel" "sizes" "[I", .fieldLink RX3 48 "JobShopModel" "many" "I", .fieldLink RX3 13 "JobShopModel" "machineOf" "[I", .fieldLink RX3 38 "JobShopModel" "orders" "[I"] ++ wsX30)
def wsX3_nextOrder : List Cond := .code yX3_nextOrder cX3_nextOrder 9 (some .boolean) :: ([.fieldLink RX3 41 "JobShopModel" "sizes" "[I", .fieldLink RX3 38 "JobShopModel" "orders" "[I", .methodLink RX3 102 yX3_layFirst, .instanceMethod yX3_layFirst, .selects RX3 yX3_layFirst yX3_layFirst, .initialized RX3, .code yX3_layFirst cX3_layFirst 3 none, .fieldLink RX3 48 "JobShopModel" "many" "I", .fieldLink RX3 13 "JobShopModel" "machineOf" "[I"] ++ wsX30)
def wsX3_choose : List Cond := .code yX3_choose cX3_choose 4 (some .boolean) :: ([.fieldLink RX3 35 "JobShopModel" "chosen" "[Z", .fieldLink RX3 41 "JobShopModel" "sizes" "[I", .fieldLink RX3 38 "JobShopModel" "orders" "[I", .fieldLink RX3 19 "JobShopModel" "arcs" "[Z"] ++ wsX30)
def wsX3_isEarlier : List Cond := .code yX3_isEarlier cX3_isEarlier 2 (some .boolean) :: ([.fieldLink RX3 48 "JobShopModel" "many" "I", .fieldLink RX3 29 "JobShopModel" "heads" "[I", .fieldLink RX3 26 "JobShopModel" "starts" "[I"] ++ wsX30)
def wsX3_weigh : List Cond := .code yX3_weigh cX3_weigh 5 none :: ([.fieldLink RX3 48 "JobShopModel" "many" "I", .fieldLink RX3 29 "JobShopModel" "heads" "[I", .fieldLink RX3 16 "JobShopModel" "durations" "[I", .fieldLink RX3 59 "JobShopModel" "isPlanned" "Z", .fieldLink RX3 44 "JobShopModel" "least" "I", .fieldLink RX3 106 "JobShopModel" "optima" "I", .fieldLink RX3 26 "JobShopModel" "starts" "[I", .methodLink RX3 109 yX3_isEarlier, .instanceMethod yX3_isEarlier, .selects RX3 yX3_isEarlier yX3_isEarlier, .initialized RX3, .code yX3_isEarlier cX3_isEarlier 2 (some .boolean)] ++ wsX30)
def wsX3_solve_r1 : List Cond := [Cond.fieldLink RX3 59 "JobShopModel" "isPlanned" "Z", Cond.fieldLink RX3 35 "JobShopModel" "chosen" "[Z", Cond.fieldLink RX3 44 "JobShopModel" "least" "I", Cond.methodLink RX3 102 yX3_layFirst, Cond.instanceMethod yX3_layFirst, Cond.selects RX3 yX3_layFirst yX3_layFirst, Cond.initialized RX3, Cond.code yX3_layFirst cX3_layFirst 3 none, Cond.fieldLink RX3 41 "JobShopModel" "sizes" "[I", Cond.fieldLink RX3 48 "JobShopModel" "many" "I", Cond.fieldLink RX3 13 "JobShopModel" "machineOf" "[I", Cond.fieldLink RX3 38 "JobShopModel" "orders" "[I", Cond.methodLink RX3 113 yX3_choose, Cond.instanceMethod yX3_choose, Cond.selects RX3 yX3_choose yX3_choose, Cond.code yX3_choose cX3_choose 4 (some .boolean), Cond.fieldLink RX3 19 "JobShopModel" "arcs" "[Z", Cond.methodLink RX3 77 yX3_findHeads, Cond.instanceMethod yX3_findHeads, Cond.selects RX3 yX3_findHeads yX3_findHeads, Cond.code yX3_findHeads cX3_findHeads 7 (some .boolean), Cond.fieldLink RX3 29 "JobShopModel" "heads" "[I", Cond.fieldLink RX3 16 "JobShopModel" "durations" "[I", Cond.methodLink RX3 73 yX3_leads]
def wsX3_solve_r2 : List Cond := [Cond.instanceMethod yX3_leads, Cond.selects RX3 yX3_leads yX3_leads, Cond.code yX3_leads cX3_leads 4 (some .boolean), Cond.methodLink RX3 69 yX3_nextOf, Cond.instanceMethod yX3_nextOf, Cond.selects RX3 yX3_nextOf yX3_nextOf, Cond.code yX3_nextOf cX3_nextOf 3 (some .int), Cond.fieldLink RX3 7 "JobShopModel" "jobOf" "[I", Cond.methodLink RX3 116 yX3_weigh, Cond.instanceMethod yX3_weigh, Cond.selects RX3 yX3_weigh yX3_weigh, Cond.code yX3_weigh cX3_weigh 5 none, Cond.fieldLink RX3 106 "JobShopModel" "optima" "I", Cond.fieldLink RX3 26 "JobShopModel" "starts" "[I", Cond.methodLink RX3 109 yX3_isEarlier, Cond.instanceMethod yX3_isEarlier, Cond.selects RX3 yX3_isEarlier yX3_isEarlier, Cond.code yX3_isEarlier cX3_isEarlier 2 (some .boolean), Cond.methodLink RX3 119 yX3_nextOrder, Cond.instanceMethod yX3_nextOrder, Cond.selects RX3 yX3_nextOrder yX3_nextOrder, Cond.code yX3_nextOrder cX3_nextOrder 9 (some .boolean)]
def wsX3_solve : List Cond := .code yX3_solve cX3_solve 3 (some .int) :: ((wsX3_solve_r1 ++ wsX3_solve_r2) ++ wsX30)
def wsX3_optima : List Cond := .code yX3_optima cX3_optima 1 (some .int) :: ([.fieldLink RX3 59 "JobShopModel" "isPlanned" "Z", .fieldLink RX3 106 "JobShopModel" "optima" "I"] ++ wsX30)
def wsX3_at : List Cond := .code yX3_at cX3_at 4 (some .int) :: ([.fieldLink RX3 48 "JobShopModel" "many" "I", .fieldLink RX3 59 "JobShopModel" "isPlanned" "Z", .fieldLink RX3 13 "JobShopModel" "machineOf" "[I", .fieldLink RX3 26 "JobShopModel" "starts" "[I", .fieldLink RX3 16 "JobShopModel" "durations" "[I", .methodLink RX3 51 yX3_in, .static yX3_in, .initialized RX3, .code yX3_in cX3_in 3 (some .boolean)] ++ wsX30)
def wsX3_draft : List Cond := .code yX3_draft cX3_draft 4 (some .int) :: ([.fieldLink RX3 23 "JobShopModel" "drafts" "[I", .methodLink RX3 55 yX3_isOperation, .instanceMethod yX3_isOperation, .selects RX3 yX3_isOperation yX3_isOperation, .initialized RX3, .code yX3_isOperation cX3_isOperation 2 (some .boolean), .fieldLink RX3 48 "JobShopModel" "many" "I", .methodLink RX3 51 yX3_in, .static yX3_in, .code yX3_in cX3_in 3 (some .boolean)] ++ wsX30)
def wsX3_isOverBehind : List Cond := .code yX3_isOverBehind cX3_isOverBehind 3 (some .boolean) :: ([.fieldLink RX3 48 "JobShopModel" "many" "I", .fieldLink RX3 19 "JobShopModel" "arcs" "[Z", .fieldLink RX3 23 "JobShopModel" "drafts" "[I", .fieldLink RX3 16 "JobShopModel" "durations" "[I", .methodLink RX3 73 yX3_leads, .instanceMethod yX3_leads, .selects RX3 yX3_leads yX3_leads, .initialized RX3, .code yX3_leads cX3_leads 4 (some .boolean), .methodLink RX3 69 yX3_nextOf, .instanceMethod yX3_nextOf, .selects RX3 yX3_nextOf yX3_nextOf, .code yX3_nextOf cX3_nextOf 3 (some .int), .fieldLink RX3 7 "JobShopModel" "jobOf" "[I"] ++ wsX30)
def wsX3_meets : List Cond := .code yX3_meets cX3_meets 3 (some .boolean) :: ([.fieldLink RX3 48 "JobShopModel" "many" "I", .fieldLink RX3 13 "JobShopModel" "machineOf" "[I", .fieldLink RX3 23 "JobShopModel" "drafts" "[I", .fieldLink RX3 16 "JobShopModel" "durations" "[I"] ++ wsX30)
def wsX3_check : List Cond := .code yX3_check cX3_check 4 (some .int) :: ([.fieldLink RX3 48 "JobShopModel" "many" "I", .fieldLink RX3 23 "JobShopModel" "drafts" "[I", .fieldLink RX3 16 "JobShopModel" "durations" "[I", .methodLink RX3 122 yX3_isOverBehind, .instanceMethod yX3_isOverBehind, .selects RX3 yX3_isOverBehind yX3_isOverBehind, .initialized RX3, .code yX3_isOverBehind cX3_isOverBehind 3 (some .boolean), .fieldLink RX3 19 "JobShopModel" "arcs" "[Z", .methodLink RX3 73 yX3_leads, .instanceMethod yX3_leads, .selects RX3 yX3_leads yX3_leads, .code yX3_leads cX3_leads 4 (some .boolean), .methodLink RX3 69 yX3_nextOf, .instanceMethod yX3_nextOf, .selects RX3 yX3_nextOf yX3_nextOf, .code yX3_nextOf cX3_nextOf 3 (some .int), .fieldLink RX3 7 "JobShopModel" "jobOf" "[I", .methodLink RX3 125 yX3_meets, .instanceMethod yX3_meets, .selects RX3 yX3_meets yX3_meets, .code yX3_meets cX3_meets 3 (some .boolean), .fieldLink RX3 13 "JobShopModel" "machineOf" "[I"] ++ wsX30)
def wsX3_adopt : List Cond := .code yX3_adopt cX3_adopt 2 (some .int) :: ([.fieldLink RX3 59 "JobShopModel" "isPlanned" "Z", .fieldLink RX3 48 "JobShopModel" "many" "I", .fieldLink RX3 23 "JobShopModel" "drafts" "[I", .fieldLink RX3 26 "JobShopModel" "starts" "[I", .fieldLink RX3 44 "JobShopModel" "least" "I"] ++ wsX30)
def wsX3_count_r1 : List Cond := [Cond.fieldLink RX3 48 "JobShopModel" "many" "I", Cond.fieldLink RX3 19 "JobShopModel" "arcs" "[Z", Cond.fieldLink RX3 63 "JobShopModel" "jobs" "I", Cond.fieldLink RX3 59 "JobShopModel" "isPlanned" "Z", Cond.fieldLink RX3 44 "JobShopModel" "least" "I", Cond.methodLink RX3 85 yX3_isPair, Cond.instanceMethod yX3_isPair, Cond.selects RX3 yX3_isPair yX3_isPair, Cond.initialized RX3, Cond.code yX3_isPair cX3_isPair 3 (some .boolean), Cond.fieldLink RX3 13 "JobShopModel" "machineOf" "[I", Cond.methodLink RX3 55 yX3_isOperation, Cond.instanceMethod yX3_isOperation, Cond.selects RX3 yX3_isOperation yX3_isOperation, Cond.code yX3_isOperation cX3_isOperation 2 (some .boolean), Cond.methodLink RX3 51 yX3_in, Cond.static yX3_in, Cond.code yX3_in cX3_in 3 (some .boolean), Cond.methodLink RX3 128 yX3_length, Cond.instanceMethod yX3_length, Cond.selects RX3 yX3_length yX3_length, Cond.code yX3_length cX3_length 1 (some .int), Cond.methodLink RX3 92 yX3_look, Cond.instanceMethod yX3_look]
def wsX3_count_r2 : List Cond := [Cond.selects RX3 yX3_look yX3_look, Cond.code yX3_look cX3_look 3 none, Cond.methodLink RX3 77 yX3_findHeads, Cond.instanceMethod yX3_findHeads, Cond.selects RX3 yX3_findHeads yX3_findHeads, Cond.code yX3_findHeads cX3_findHeads 7 (some .boolean), Cond.fieldLink RX3 29 "JobShopModel" "heads" "[I", Cond.fieldLink RX3 16 "JobShopModel" "durations" "[I", Cond.methodLink RX3 73 yX3_leads, Cond.instanceMethod yX3_leads, Cond.selects RX3 yX3_leads yX3_leads, Cond.code yX3_leads cX3_leads 4 (some .boolean), Cond.methodLink RX3 69 yX3_nextOf, Cond.instanceMethod yX3_nextOf, Cond.selects RX3 yX3_nextOf yX3_nextOf, Cond.code yX3_nextOf cX3_nextOf 3 (some .int), Cond.fieldLink RX3 7 "JobShopModel" "jobOf" "[I", Cond.methodLink RX3 81 yX3_findTails, Cond.instanceMethod yX3_findTails, Cond.selects RX3 yX3_findTails yX3_findTails, Cond.code yX3_findTails cX3_findTails 6 none, Cond.fieldLink RX3 32 "JobShopModel" "tails" "[I", Cond.methodLink RX3 95 yX3_longest, Cond.instanceMethod yX3_longest]
def wsX3_count_r3 : List Cond := [Cond.selects RX3 yX3_longest yX3_longest, Cond.code yX3_longest cX3_longest 4 (some .int), Cond.methodLink RX3 131 yX3_load, Cond.instanceMethod yX3_load, Cond.selects RX3 yX3_load yX3_load, Cond.code yX3_load cX3_load 9 (some .int)]
def wsX3_count : List Cond := .code yX3_count cX3_count 7 (some .int) :: ((wsX3_count_r1 ++ (wsX3_count_r2 ++ wsX3_count_r3)) ++ wsX30)
def wsJ9_max_7cf53 : List Cond := .code yJ9_max_7cf53 cJ9_max_7cf53 2 (some .int) :: ([])
def wsL_law_r1 : List Cond := [Cond.classLink RL 7 RX2, Cond.instantiable RX2 4, Cond.initialized RX2, Cond.classLink RL 10 RX3, Cond.instantiable RX3 16, Cond.initialized RX3, Cond.methodLink RL 9 yX2_init, Cond.instanceMethod yX2_init, Cond.code yX2_init cX2_init 1 none, Cond.methodLink RX2 1 objectInit, Cond.instanceMethod objectInit, Cond.code objectInit ⟨#[0xb1]⟩ 1 none, Cond.classLink RX2 7 RX0, Cond.instantiable RX0 12, Cond.initialized RX0, Cond.fieldLink RX2 10 "JobShop" "floor" "LJobShop$Floor;", Cond.classLink RX2 16 RX1, Cond.instantiable RX1 12, Cond.initialized RX1, Cond.fieldLink RX2 21 "JobShop" "search" "LJobShop$Search;", Cond.arrayClass .int, Cond.fieldLink RX2 25 "JobShop" "drafted" "[I", Cond.fieldLink RX2 29 "JobShop" "planned" "Z", Cond.instanceMethod yX0_init]
def wsL_law_r2 : List Cond := [Cond.code yX0_init cX0_init 1 none, Cond.methodLink RX0 3 objectInit, Cond.fieldLink RX0 9 "JobShop$Floor" "firstOf" "[I", Cond.fieldLink RX0 15 "JobShop$Floor" "lastOf" "[I", Cond.fieldLink RX0 18 "JobShop$Floor" "jobOf" "[I", Cond.fieldLink RX0 21 "JobShop$Floor" "machineOf" "[I", Cond.fieldLink RX0 24 "JobShop$Floor" "duration" "[I", Cond.fieldLink RX0 27 "JobShop$Floor" "nextOf" "[I", Cond.fieldLink RX0 30 "JobShop$Floor" "arcs" "[I", Cond.fieldLink RX0 33 "JobShop$Floor" "head" "[I", Cond.fieldLink RX0 36 "JobShop$Floor" "tail" "[I", Cond.fieldLink RX0 39 "JobShop$Floor" "kept" "[I", Cond.methodLink RX2 18 yX1_init, Cond.instanceMethod yX1_init, Cond.code yX1_init cX1_init 2 none, Cond.methodLink RX1 3 objectInit, Cond.fieldLink RX1 9 "JobShop$Search" "plan" "[I", Cond.fieldLink RX1 15 "JobShop$Search" "start" "[I", Cond.fieldLink RX1 18 "JobShop$Search" "needs" "[I", Cond.fieldLink RX1 21 "JobShop$Search" "turn" "[I", Cond.fieldLink RX1 24 "JobShop$Search" "jobFree" "[I", Cond.fieldLink RX1 27 "JobShop$Search" "machineFree" "[I", Cond.fieldLink RX1 30 "JobShop$Search" "workLeft" "[I", Cond.fieldLink RX1 33 "JobShop$Search" "waiting" "[I"]
def wsL_law_r3 : List Cond := [Cond.fieldLink RX1 36 "JobShop$Search" "floor" "LJobShop$Floor;", Cond.methodLink RL 12 yX3_init, Cond.instanceMethod yX3_init, Cond.code yX3_init cX3_init 1 none, Cond.methodLink RX3 1 objectInit, Cond.fieldLink RX3 7 "JobShopModel" "jobOf" "[I", Cond.fieldLink RX3 13 "JobShopModel" "machineOf" "[I", Cond.fieldLink RX3 16 "JobShopModel" "durations" "[I", Cond.arrayClass .boolean, Cond.fieldLink RX3 19 "JobShopModel" "arcs" "[Z", Cond.fieldLink RX3 23 "JobShopModel" "drafts" "[I", Cond.fieldLink RX3 26 "JobShopModel" "starts" "[I", Cond.fieldLink RX3 29 "JobShopModel" "heads" "[I", Cond.fieldLink RX3 32 "JobShopModel" "tails" "[I", Cond.fieldLink RX3 35 "JobShopModel" "chosen" "[Z", Cond.fieldLink RX3 38 "JobShopModel" "orders" "[I", Cond.fieldLink RX3 41 "JobShopModel" "sizes" "[I", Cond.fieldLink RX3 44 "JobShopModel" "least" "I", Cond.methodLink RL 13 yX2_clear, Cond.instanceMethod yX2_clear, Cond.selects RX2 yX2_clear yX2_clear, Cond.code yX2_clear cX2_clear 2 (some .int), Cond.fieldLink RX2 33 "JobShop$Floor" "size" "I", Cond.methodLink RX2 37 yX0_empty]
def wsL_law_r4 : List Cond := [Cond.instanceMethod yX0_empty, Cond.selects RX0 yX0_empty yX0_empty, Cond.code yX0_empty cX0_empty 1 none, Cond.fieldLink RX0 42 "JobShop$Floor" "jobs" "I", Cond.fieldLink RX0 46 "JobShop$Floor" "size" "I", Cond.methodLink RL 17 yX3_clear, Cond.instanceMethod yX3_clear, Cond.selects RX3 yX3_clear yX3_clear, Cond.code yX3_clear cX3_clear 3 (some .int), Cond.fieldLink RX3 48 "JobShopModel" "many" "I", Cond.fieldLink RX3 63 "JobShopModel" "jobs" "I", Cond.methodLink RX3 66 yX3_forget, Cond.instanceMethod yX3_forget, Cond.selects RX3 yX3_forget yX3_forget, Cond.code yX3_forget cX3_forget 1 none, Cond.fieldLink RX3 59 "JobShopModel" "isPlanned" "Z", Cond.methodLink RL 18 yX2_job, Cond.instanceMethod yX2_job, Cond.selects RX2 yX2_job yX2_job, Cond.code yX2_job cX2_job 1 (some .int), Cond.fieldLink RX2 40 "JobShop$Floor" "jobs" "I", Cond.methodLink RX2 43 yX0_addJob, Cond.instanceMethod yX0_addJob, Cond.selects RX0 yX0_addJob yX0_addJob]
def wsL_law_r5 : List Cond := [Cond.code yX0_addJob cX0_addJob 2 (some .int), Cond.methodLink RL 21 yX3_job, Cond.instanceMethod yX3_job, Cond.selects RX3 yX3_job yX3_job, Cond.code yX3_job cX3_job 1 (some .int), Cond.methodLink RL 22 yX2_operation, Cond.instanceMethod yX2_operation, Cond.selects RX2 yX2_operation yX2_operation, Cond.code yX2_operation cX2_operation 6 (some .int), Cond.methodLink RX2 47 yX0_isJob, Cond.instanceMethod yX0_isJob, Cond.selects RX0 yX0_isJob yX0_isJob, Cond.code yX0_isJob cX0_isJob 2 (some .boolean), Cond.methodLink RX2 51 yX2_isMachine, Cond.static yX2_isMachine, Cond.code yX2_isMachine cX2_isMachine 1 (some .boolean), Cond.methodLink RX2 54 yX0_visits, Cond.instanceMethod yX0_visits, Cond.selects RX0 yX0_visits yX0_visits, Cond.code yX0_visits cX0_visits 4 (some .boolean), Cond.methodLink RX2 58 yX0_addOperation, Cond.instanceMethod yX0_addOperation, Cond.selects RX0 yX0_addOperation yX0_addOperation, Cond.code yX0_addOperation cX0_addOperation 6 (some .int)]
def wsL_law_r6 : List Cond := [Cond.methodLink RX0 49 yX0_isOperation, Cond.instanceMethod yX0_isOperation, Cond.selects RX0 yX0_isOperation yX0_isOperation, Cond.code yX0_isOperation cX0_isOperation 2 (some .boolean), Cond.methodLink RX0 53 yX0_measure, Cond.instanceMethod yX0_measure, Cond.selects RX0 yX0_measure yX0_measure, Cond.code yX0_measure cX0_measure 4 none, Cond.methodLink RX0 67 yX0_stretch, Cond.instanceMethod yX0_stretch, Cond.selects RX0 yX0_stretch yX0_stretch, Cond.code yX0_stretch cX0_stretch 5 (some .boolean), Cond.methodLink RX0 63 yX0_followers, Cond.instanceMethod yX0_followers, Cond.selects RX0 yX0_followers yX0_followers, Cond.code yX0_followers cX0_followers 2 (some .int), Cond.static yX2_isIn, Cond.code yX2_isIn cX2_isIn 2 (some .boolean), Cond.methodLink RL 26 yX3_operation, Cond.instanceMethod yX3_operation, Cond.selects RX3 yX3_operation yX3_operation, Cond.code yX3_operation cX3_operation 5 (some .int), Cond.methodLink RX3 51 yX3_in, Cond.static yX3_in]
def wsL_law_r7 : List Cond := [Cond.code yX3_in cX3_in 3 (some .boolean), Cond.methodLink RL 27 yX2_before, Cond.instanceMethod yX2_before, Cond.selects RX2 yX2_before yX2_before, Cond.code yX2_before cX2_before 3 (some .int), Cond.methodLink RX2 62 yX0_isPair, Cond.instanceMethod yX0_isPair, Cond.selects RX0 yX0_isPair yX0_isPair, Cond.code yX0_isPair cX0_isPair 3 (some .boolean), Cond.methodLink RX2 65 yX0_leads, Cond.instanceMethod yX0_leads, Cond.selects RX0 yX0_leads yX0_leads, Cond.code yX0_leads cX0_leads 7 (some .boolean), Cond.methodLink RX2 68 yX0_hasArc, Cond.instanceMethod yX0_hasArc, Cond.selects RX0 yX0_hasArc yX0_hasArc, Cond.code yX0_hasArc cX0_hasArc 3 (some .boolean), Cond.methodLink RX2 71 yX0_putArc, Cond.instanceMethod yX0_putArc, Cond.selects RX0 yX0_putArc yX0_putArc, Cond.code yX0_putArc cX0_putArc 3 none, Cond.methodLink RL 31 yX3_before, Cond.instanceMethod yX3_before, Cond.selects RX3 yX3_before yX3_before]
def wsL_law_r8 : List Cond := [Cond.code yX3_before cX3_before 3 (some .int), Cond.methodLink RX3 85 yX3_isPair, Cond.instanceMethod yX3_isPair, Cond.selects RX3 yX3_isPair yX3_isPair, Cond.code yX3_isPair cX3_isPair 3 (some .boolean), Cond.methodLink RX3 55 yX3_isOperation, Cond.instanceMethod yX3_isOperation, Cond.selects RX3 yX3_isOperation yX3_isOperation, Cond.code yX3_isOperation cX3_isOperation 2 (some .boolean), Cond.methodLink RX3 89 yX3_hasPath, Cond.instanceMethod yX3_hasPath, Cond.selects RX3 yX3_hasPath yX3_hasPath, Cond.code yX3_hasPath cX3_hasPath 8 (some .boolean), Cond.methodLink RX3 73 yX3_leads, Cond.instanceMethod yX3_leads, Cond.selects RX3 yX3_leads yX3_leads, Cond.code yX3_leads cX3_leads 4 (some .boolean), Cond.methodLink RX3 69 yX3_nextOf, Cond.instanceMethod yX3_nextOf, Cond.selects RX3 yX3_nextOf yX3_nextOf, Cond.code yX3_nextOf cX3_nextOf 3 (some .int), Cond.methodLink RL 32 yX2_free, Cond.instanceMethod yX2_free, Cond.selects RX2 yX2_free yX2_free]
def wsL_law_r9 : List Cond := [Cond.code yX2_free cX2_free 3 (some .int), Cond.methodLink RX2 75 yX0_isTied, Cond.instanceMethod yX0_isTied, Cond.selects RX0 yX0_isTied yX0_isTied, Cond.code yX0_isTied cX0_isTied 3 (some .boolean), Cond.methodLink RX0 60 yX0_hasArc, Cond.methodLink RX2 78 yX0_dropArcs, Cond.instanceMethod yX0_dropArcs, Cond.selects RX0 yX0_dropArcs yX0_dropArcs, Cond.code yX0_dropArcs cX0_dropArcs 3 none, Cond.methodLink RL 35 yX3_free, Cond.instanceMethod yX3_free, Cond.selects RX3 yX3_free yX3_free, Cond.code yX3_free cX3_free 3 (some .int), Cond.methodLink RL 36 yX2_arc, Cond.instanceMethod yX2_arc, Cond.selects RX2 yX2_arc yX2_arc, Cond.code yX2_arc cX2_arc 3 (some .int), Cond.methodLink RL 39 yX3_arc, Cond.instanceMethod yX3_arc, Cond.selects RX3 yX3_arc yX3_arc, Cond.code yX3_arc cX3_arc 3 (some .int), Cond.methodLink RL 40 yX2_told, Cond.instanceMethod yX2_told]
def wsL_law_r10 : List Cond := [Cond.selects RX2 yX2_told yX2_told, Cond.code yX2_told cX2_told 3 (some .int), Cond.fieldLink RX2 84 "JobShop$Floor" "jobOf" "[I", Cond.fieldLink RX2 87 "JobShop$Floor" "machineOf" "[I", Cond.fieldLink RX2 90 "JobShop$Floor" "duration" "[I", Cond.fieldLink RX2 93 "JobShop$Floor" "head" "[I", Cond.fieldLink RX2 96 "JobShop$Floor" "tail" "[I", Cond.fieldLink RX2 106 "JobShop$Search" "plan" "[I", Cond.methodLink RX2 81 yX0_isOperation, Cond.methodLink RX2 99 yX0_through, Cond.instanceMethod yX0_through, Cond.selects RX0 yX0_through yX0_through, Cond.code yX0_through cX0_through 2 (some .int), Cond.methodLink RX2 103 yX0_longest, Cond.instanceMethod yX0_longest, Cond.selects RX0 yX0_longest yX0_longest, Cond.code yX0_longest cX0_longest 3 (some .int), Cond.methodLink RX0 73 Lib.Math.max.name, Cond.static Lib.Math.max.name, Cond.initialized "java/lang/Math", Cond.code Lib.Math.max.name Lib.Math.max.code 2 (some .int), Cond.methodLink RX0 70 yX0_through, Cond.methodLink RL 43 yX3_told, Cond.instanceMethod yX3_told]
def wsL_law_r11 : List Cond := [Cond.selects RX3 yX3_told yX3_told, Cond.code yX3_told cX3_told 3 (some .int), Cond.methodLink RX3 92 yX3_look, Cond.instanceMethod yX3_look, Cond.selects RX3 yX3_look yX3_look, Cond.code yX3_look cX3_look 3 none, Cond.methodLink RX3 77 yX3_findHeads, Cond.instanceMethod yX3_findHeads, Cond.selects RX3 yX3_findHeads yX3_findHeads, Cond.code yX3_findHeads cX3_findHeads 7 (some .boolean), Cond.methodLink RX3 81 yX3_findTails, Cond.instanceMethod yX3_findTails, Cond.selects RX3 yX3_findTails yX3_findTails, Cond.code yX3_findTails cX3_findTails 6 none, Cond.methodLink RX3 95 yX3_longest, Cond.instanceMethod yX3_longest, Cond.selects RX3 yX3_longest yX3_longest, Cond.code yX3_longest cX3_longest 4 (some .int), Cond.methodLink RL 44 yX2_length, Cond.instanceMethod yX2_length, Cond.selects RX2 yX2_length yX2_length, Cond.code yX2_length cX2_length 1 (some .int), Cond.methodLink RL 47 yX3_length, Cond.instanceMethod yX3_length]
def wsL_law_r12 : List Cond := [Cond.selects RX3 yX3_length yX3_length, Cond.code yX3_length cX3_length 1 (some .int), Cond.methodLink RL 48 yX2_load, Cond.instanceMethod yX2_load, Cond.selects RX2 yX2_load yX2_load, Cond.code yX2_load cX2_load 2 (some .int), Cond.methodLink RX2 109 yX0_burden, Cond.instanceMethod yX0_burden, Cond.selects RX0 yX0_burden yX0_burden, Cond.code yX0_burden cX0_burden 6 (some .int), Cond.methodLink RX0 79 yX0_workFrom, Cond.instanceMethod yX0_workFrom, Cond.selects RX0 yX0_workFrom yX0_workFrom, Cond.code yX0_workFrom cX0_workFrom 6 (some .int), Cond.methodLink RL 52 yX3_load, Cond.instanceMethod yX3_load, Cond.selects RX3 yX3_load yX3_load, Cond.code yX3_load cX3_load 9 (some .int), Cond.methodLink RL 53 yX2_select, Cond.instanceMethod yX2_select, Cond.selects RX2 yX2_select yX2_select, Cond.code yX2_select cX2_select 3 (some .int), Cond.methodLink RX2 112 yX0_force, Cond.instanceMethod yX0_force]
def wsL_law_r13 : List Cond := [Cond.selects RX0 yX0_force yX0_force, Cond.code yX0_force cX0_force 7 (some .int), Cond.methodLink RX0 95 arraycopyName, Cond.native arraycopyName, Cond.static arraycopyName, Cond.initialized "java/lang/System", Cond.methodLink RX0 101 yX0_tiedPairs, Cond.instanceMethod yX0_tiedPairs, Cond.selects RX0 yX0_tiedPairs yX0_tiedPairs, Cond.code yX0_tiedPairs cX0_tiedPairs 3 (some .int), Cond.methodLink RX0 90 yJ6_bitCount_0f7a4, Cond.static yJ6_bitCount_0f7a4, Cond.initialized RJ6, Cond.code yJ6_bitCount_0f7a4 cJ6_bitCount_0f7a4 1 (some .int), Cond.constant RJ6 265 (1431655765), Cond.constant RJ6 266 (858993459), Cond.constant RJ6 267 (252645135), Cond.methodLink RX0 104 yX0_forceFrom, Cond.instanceMethod yX0_forceFrom, Cond.selects RX0 yX0_forceFrom yX0_forceFrom, Cond.code yX0_forceFrom cX0_forceFrom 4 (some .boolean), Cond.methodLink RX0 107 yX0_isPair, Cond.methodLink RX0 110 yX0_isTied, Cond.methodLink RX0 113 yX0_mustPrecede]
def wsL_law_r14 : List Cond := [Cond.instanceMethod yX0_mustPrecede, Cond.selects RX0 yX0_mustPrecede yX0_mustPrecede, Cond.code yX0_mustPrecede cX0_mustPrecede 4 (some .boolean), Cond.methodLink RX0 117 yX0_leads, Cond.methodLink RX0 120 yX0_putArc, Cond.methodLink RX0 83 yX0_longest, Cond.methodLink RL 56 yX3_select, Cond.instanceMethod yX3_select, Cond.selects RX3 yX3_select yX3_select, Cond.code yX3_select cX3_select 6 (some .int), Cond.methodLink RX3 99 yX3_isForced, Cond.instanceMethod yX3_isForced, Cond.selects RX3 yX3_isForced yX3_isForced, Cond.code yX3_isForced cX3_isForced 4 (some .boolean), Cond.methodLink RL 57 yX2_solve, Cond.instanceMethod yX2_solve, Cond.selects RX2 yX2_solve yX2_solve, Cond.code yX2_solve cX2_solve 1 (some .int), Cond.fieldLink RX2 118 "JobShop$Search" "least" "I", Cond.methodLink RX2 115 yX1_run, Cond.instanceMethod yX1_run, Cond.selects RX1 yX1_run yX1_run, Cond.code yX1_run cX1_run 1 none, Cond.fieldLink RX1 43 "JobShop$Search" "found" "I"]
def wsL_law_r15 : List Cond := [Cond.methodLink RX1 40 yX1_prepare, Cond.instanceMethod yX1_prepare, Cond.selects RX1 yX1_prepare yX1_prepare, Cond.code yX1_prepare cX1_prepare 2 none, Cond.fieldLink RX1 51 "JobShop$Floor" "jobs" "I", Cond.fieldLink RX1 56 "JobShop$Floor" "firstOf" "[I", Cond.fieldLink RX1 59 "JobShop$Search" "placed" "I", Cond.fieldLink RX1 62 "JobShop$Search" "least" "I", Cond.fieldLink RX1 65 "JobShop$Floor" "size" "I", Cond.fieldLink RX1 68 "JobShop$Floor" "duration" "[I", Cond.fieldLink RX1 71 "JobShop$Floor" "machineOf" "[I", Cond.methodLink RX1 74 yX1_forerunners, Cond.instanceMethod yX1_forerunners, Cond.selects RX1 yX1_forerunners yX1_forerunners, Cond.code yX1_forerunners cX1_forerunners 4 (some .int), Cond.methodLink RX1 78 yX0_hasArc, Cond.methodLink RX1 47 yX1_extend, Cond.instanceMethod yX1_extend, Cond.selects RX1 yX1_extend yX1_extend, Cond.code yX1_extend cX1_extend 6 none, Cond.methodLink RX1 82 yX1_keep, Cond.instanceMethod yX1_keep, Cond.selects RX1 yX1_keep yX1_keep, Cond.code yX1_keep cX1_keep 3 none]
def wsL_law_r16 : List Cond := [Cond.methodLink RX1 118 Lib.Math.max.name, Cond.methodLink RX1 134 arraycopyName, Cond.methodLink RX1 130 yX1_isEarlier, Cond.instanceMethod yX1_isEarlier, Cond.selects RX1 yX1_isEarlier yX1_isEarlier, Cond.code yX1_isEarlier cX1_isEarlier 2 (some .boolean), Cond.methodLink RX1 85 yX1_isHopeless, Cond.instanceMethod yX1_isHopeless, Cond.selects RX1 yX1_isHopeless yX1_isHopeless, Cond.code yX1_isHopeless cX1_isHopeless 5 (some .boolean), Cond.methodLink RX1 88 yX0_isOperation, Cond.methodLink RX1 109 yX1_endsAbove, Cond.instanceMethod yX1_endsAbove, Cond.selects RX1 yX1_endsAbove yX1_endsAbove, Cond.code yX1_endsAbove cX1_endsAbove 2 (some .boolean), Cond.fieldLink RX1 115 "JobShop$Floor" "head" "[I", Cond.fieldLink RX1 124 "JobShop$Floor" "tail" "[I", Cond.methodLink RX1 103 yX1_earliest, Cond.instanceMethod yX1_earliest, Cond.selects RX1 yX1_earliest yX1_earliest, Cond.code yX1_earliest cX1_earliest 4 (some .int), Cond.fieldLink RX1 100 "JobShop$Floor" "jobOf" "[I", Cond.methodLink RX1 112 yX1_isStranded, Cond.instanceMethod yX1_isStranded]
def wsL_law_r17 : List Cond := [Cond.selects RX1 yX1_isStranded yX1_isStranded, Cond.code yX1_isStranded cX1_isStranded 5 (some .boolean), Cond.fieldLink RX1 127 "JobShop$Floor" "arcs" "[I", Cond.methodLink RX1 92 yX1_isPassed, Cond.instanceMethod yX1_isPassed, Cond.selects RX1 yX1_isPassed yX1_isPassed, Cond.code yX1_isPassed cX1_isPassed 5 (some .boolean), Cond.methodLink RX1 96 yX1_place, Cond.instanceMethod yX1_place, Cond.selects RX1 yX1_place yX1_place, Cond.code yX1_place cX1_place 8 none, Cond.fieldLink RX1 106 "JobShop$Floor" "nextOf" "[I", Cond.methodLink RL 60 yX3_solve, Cond.instanceMethod yX3_solve, Cond.selects RX3 yX3_solve yX3_solve, Cond.code yX3_solve cX3_solve 3 (some .int), Cond.methodLink RX3 102 yX3_layFirst, Cond.instanceMethod yX3_layFirst, Cond.selects RX3 yX3_layFirst yX3_layFirst, Cond.code yX3_layFirst cX3_layFirst 3 none, Cond.methodLink RX3 113 yX3_choose, Cond.instanceMethod yX3_choose, Cond.selects RX3 yX3_choose yX3_choose, Cond.code yX3_choose cX3_choose 4 (some .boolean)]
def wsL_law_r18 : List Cond := [Cond.methodLink RX3 116 yX3_weigh, Cond.instanceMethod yX3_weigh, Cond.selects RX3 yX3_weigh yX3_weigh, Cond.code yX3_weigh cX3_weigh 5 none, Cond.fieldLink RX3 106 "JobShopModel" "optima" "I", Cond.methodLink RX3 109 yX3_isEarlier, Cond.instanceMethod yX3_isEarlier, Cond.selects RX3 yX3_isEarlier yX3_isEarlier, Cond.code yX3_isEarlier cX3_isEarlier 2 (some .boolean), Cond.methodLink RX3 119 yX3_nextOrder, Cond.instanceMethod yX3_nextOrder, Cond.selects RX3 yX3_nextOrder yX3_nextOrder, Cond.code yX3_nextOrder cX3_nextOrder 9 (some .boolean), Cond.methodLink RL 61 yX2_optima, Cond.instanceMethod yX2_optima, Cond.selects RX2 yX2_optima yX2_optima, Cond.code yX2_optima cX2_optima 1 (some .int), Cond.fieldLink RX2 121 "JobShop$Search" "found" "I", Cond.methodLink RL 64 yX3_optima, Cond.instanceMethod yX3_optima, Cond.selects RX3 yX3_optima yX3_optima, Cond.code yX3_optima cX3_optima 1 (some .int), Cond.methodLink RL 65 yX2_at, Cond.instanceMethod yX2_at]
def wsL_law_r19 : List Cond := [Cond.selects RX2 yX2_at yX2_at, Cond.code yX2_at cX2_at 5 (some .int), Cond.methodLink RL 68 yX3_at, Cond.instanceMethod yX3_at, Cond.selects RX3 yX3_at yX3_at, Cond.code yX3_at cX3_at 4 (some .int), Cond.methodLink RL 69 yX2_draft, Cond.instanceMethod yX2_draft, Cond.selects RX2 yX2_draft yX2_draft, Cond.code yX2_draft cX2_draft 4 (some .int), Cond.methodLink RL 72 yX3_draft, Cond.instanceMethod yX3_draft, Cond.selects RX3 yX3_draft yX3_draft, Cond.code yX3_draft cX3_draft 4 (some .int), Cond.methodLink RL 73 yX2_check, Cond.instanceMethod yX2_check, Cond.selects RX2 yX2_check yX2_check, Cond.code yX2_check cX2_check 3 (some .int), Cond.methodLink RX2 133 Lib.Math.max.name, Cond.methodLink RX2 124 yX2_endsTooLate, Cond.instanceMethod yX2_endsTooLate, Cond.selects RX2 yX2_endsTooLate yX2_endsTooLate, Cond.code yX2_endsTooLate cX2_endsTooLate 4 (some .boolean), Cond.methodLink RX2 148 yX0_followers]
def wsL_law_r20 : List Cond := [Cond.methodLink RX2 151 yX2_isIn, Cond.methodLink RX2 130 yX2_draftEnd, Cond.instanceMethod yX2_draftEnd, Cond.selects RX2 yX2_draftEnd yX2_draftEnd, Cond.code yX2_draftEnd cX2_draftEnd 2 (some .int), Cond.methodLink RX2 127 yX2_meetsGreater, Cond.instanceMethod yX2_meetsGreater, Cond.selects RX2 yX2_meetsGreater yX2_meetsGreater, Cond.code yX2_meetsGreater cX2_meetsGreater 3 (some .boolean), Cond.methodLink RL 76 yX3_check, Cond.instanceMethod yX3_check, Cond.selects RX3 yX3_check yX3_check, Cond.code yX3_check cX3_check 4 (some .int), Cond.methodLink RX3 122 yX3_isOverBehind, Cond.instanceMethod yX3_isOverBehind, Cond.selects RX3 yX3_isOverBehind yX3_isOverBehind, Cond.code yX3_isOverBehind cX3_isOverBehind 3 (some .boolean), Cond.methodLink RX3 125 yX3_meets, Cond.instanceMethod yX3_meets, Cond.selects RX3 yX3_meets yX3_meets, Cond.code yX3_meets cX3_meets 3 (some .boolean), Cond.methodLink RL 77 yX2_adopt, Cond.instanceMethod yX2_adopt, Cond.selects RX2 yX2_adopt yX2_adopt]
def wsL_law_r21 : List Cond := [Cond.code yX2_adopt cX2_adopt 2 (some .int), Cond.methodLink RL 80 yX3_adopt, Cond.instanceMethod yX3_adopt, Cond.selects RX3 yX3_adopt yX3_adopt, Cond.code yX3_adopt cX3_adopt 2 (some .int), Cond.methodLink RL 81 yX2_count, Cond.instanceMethod yX2_count, Cond.selects RX2 yX2_count yX2_count, Cond.code yX2_count cX2_count 2 (some .int), Cond.methodLink RX2 139 yX0_tiedPairs, Cond.methodLink RX2 142 yX0_pairs, Cond.instanceMethod yX0_pairs, Cond.selects RX0 yX0_pairs yX0_pairs, Cond.code yX0_pairs cX0_pairs 4 (some .int), Cond.methodLink RX2 145 yX0_bound, Cond.instanceMethod yX0_bound, Cond.selects RX0 yX0_bound yX0_bound, Cond.code yX0_bound cX0_bound 3 (some .int), Cond.methodLink RX0 87 yX0_burden, Cond.methodLink RL 84 yX3_count, Cond.instanceMethod yX3_count, Cond.selects RX3 yX3_count yX3_count, Cond.code yX3_count cX3_count 7 (some .int), Cond.methodLink RX3 128 yX3_length]
def wsL_law_r22 : List Cond := [Cond.methodLink RX3 131 yX3_load]
def wsL_law : List Cond := (wsL_law_r1 ++ (wsL_law_r2 ++ (wsL_law_r3 ++ (wsL_law_r4 ++ (wsL_law_r5 ++ (wsL_law_r6 ++ (wsL_law_r7 ++ (wsL_law_r8 ++ (wsL_law_r9 ++ (wsL_law_r10 ++ (wsL_law_r11 ++ (wsL_law_r12 ++ (wsL_law_r13 ++ (wsL_law_r14 ++ (wsL_law_r15 ++ (wsL_law_r16 ++ (wsL_law_r17 ++ (wsL_law_r18 ++ (wsL_law_r19 ++ (wsL_law_r20 ++ (wsL_law_r21 ++ wsL_law_r22))))))))))))))))))))) ++ wsX20 ++ wsX30 ++ wsX00 ++ wsX10 ++ ([] : List Cond)
set_option maxRecDepth 20000 in
theorem wsL_law_in : ∀ w ∈ wsL_law, w ∈ lw_tbl := fun w h => (goodIn_p wsL_law [49, 52, 57, 118, 440, 176, 180, 495, 499, 184, 188, 503, 192, 196, 199, 203, 207, 211, 215, 219, 223, 226, 507, 510, 230, 234, 238, 242, 246, 514, 518, 522, 526, 530, 534, 250, 254, 259, 538, 263, 542, 267, 272, 276, 280, 546, 550, 554, 558, 562, 284, 566, 288, 292, 296, 570, 300, 304, 311, 314, 321, 327, 574, 578, 334, 338, 342, 346, 351, 355, 360, 365, 370, 374, 378, 382, 386, 582, 586, 590, 594, 598, 602, 390, 606, 394, 610, 398, 614, 402, 406, 412, 416, 618, 622, 626, 421, 630, 425, 430, 434, 634] (by decide +kernel) (by decide +kernel) w h).1
theorem inlX0 : ∀ w ∈ wsX00, w ∈ wsL_law := fun _ h => List.mem_append_left _ (List.mem_append_left _ (List.mem_append_right _ h))
theorem inX0 : ∀ w ∈ wsX00, w ∈ lw_tbl := fun w h => wsL_law_in w (inlX0 w h)
theorem inlX1 : ∀ w ∈ wsX10, w ∈ wsL_law := fun _ h => List.mem_append_left _ (List.mem_append_right _ h)
theorem inX1 : ∀ w ∈ wsX10, w ∈ lw_tbl := fun w h => wsL_law_in w (inlX1 w h)
theorem inlX2 : ∀ w ∈ wsX20, w ∈ wsL_law := fun _ h => List.mem_append_left _ (List.mem_append_left _ (List.mem_append_left _ (List.mem_append_left _ (List.mem_append_right _ h))))
theorem inX2 : ∀ w ∈ wsX20, w ∈ lw_tbl := fun w h => wsL_law_in w (inlX2 w h)
theorem inlX3 : ∀ w ∈ wsX30, w ∈ wsL_law := fun _ h => List.mem_append_left _ (List.mem_append_left _ (List.mem_append_left _ (List.mem_append_right _ h)))
theorem inX3 : ∀ w ∈ wsX30, w ∈ lw_tbl := fun w h => wsL_law_in w (inlX3 w h)
theorem inJ6 : ∀ w ∈ wsJ60, w ∈ lw_tbl := by decide +kernel
theorem inJ9 : ∀ w ∈ wsJ90, w ∈ lw_tbl := by decide +kernel
theorem inJ10 : ∀ w ∈ wsJ100, w ∈ lw_tbl := by decide +kernel
theorem dX0_init_0 : decode cX0_init 0 = .ok (.aload_n 0, 1) := by decide +kernel
theorem dX0_init_1 : decode cX0_init 1 = .ok (.invokespecial 3, 3) := by decide +kernel
theorem dX0_init_4 : decode cX0_init 4 = .ok (.aload_n 0, 1) := by decide +kernel
theorem dX0_init_5 : decode cX0_init 5 = .ok (.iconst 4, 1) := by decide +kernel
theorem dX0_init_6 : decode cX0_init 6 = .ok (.newarray .int, 2) := by decide +kernel
theorem dX0_init_8 : decode cX0_init 8 = .ok (.putfield 9, 3) := by decide +kernel
theorem dX0_init_11 : decode cX0_init 11 = .ok (.aload_n 0, 1) := by decide +kernel
theorem dX0_init_12 : decode cX0_init 12 = .ok (.iconst 4, 1) := by decide +kernel
theorem dX0_init_13 : decode cX0_init 13 = .ok (.newarray .int, 2) := by decide +kernel
theorem dX0_init_15 : decode cX0_init 15 = .ok (.putfield 15, 3) := by decide +kernel
theorem dX0_init_18 : decode cX0_init 18 = .ok (.aload_n 0, 1) := by decide +kernel
theorem dX0_init_19 : decode cX0_init 19 = .ok (.bipush 12, 2) := by decide +kernel
theorem dX0_init_21 : decode cX0_init 21 = .ok (.newarray .int, 2) := by decide +kernel
theorem dX0_init_23 : decode cX0_init 23 = .ok (.putfield 18, 3) := by decide +kernel
theorem dX0_init_26 : decode cX0_init 26 = .ok (.aload_n 0, 1) := by decide +kernel
theorem dX0_init_27 : decode cX0_init 27 = .ok (.bipush 12, 2) := by decide +kernel
theorem dX0_init_29 : decode cX0_init 29 = .ok (.newarray .int, 2) := by decide +kernel
theorem dX0_init_31 : decode cX0_init 31 = .ok (.putfield 21, 3) := by decide +kernel
theorem dX0_init_34 : decode cX0_init 34 = .ok (.aload_n 0, 1) := by decide +kernel
theorem dX0_init_35 : decode cX0_init 35 = .ok (.bipush 12, 2) := by decide +kernel
theorem dX0_init_37 : decode cX0_init 37 = .ok (.newarray .int, 2) := by decide +kernel
theorem dX0_init_39 : decode cX0_init 39 = .ok (.putfield 24, 3) := by decide +kernel
theorem dX0_init_42 : decode cX0_init 42 = .ok (.aload_n 0, 1) := by decide +kernel
theorem dX0_init_43 : decode cX0_init 43 = .ok (.bipush 12, 2) := by decide +kernel
theorem dX0_init_45 : decode cX0_init 45 = .ok (.newarray .int, 2) := by decide +kernel
theorem dX0_init_47 : decode cX0_init 47 = .ok (.putfield 27, 3) := by decide +kernel
theorem dX0_init_50 : decode cX0_init 50 = .ok (.aload_n 0, 1) := by decide +kernel
theorem dX0_init_51 : decode cX0_init 51 = .ok (.bipush 12, 2) := by decide +kernel
theorem dX0_init_53 : decode cX0_init 53 = .ok (.newarray .int, 2) := by decide +kernel
theorem dX0_init_55 : decode cX0_init 55 = .ok (.putfield 30, 3) := by decide +kernel
theorem dX0_init_58 : decode cX0_init 58 = .ok (.aload_n 0, 1) := by decide +kernel
theorem dX0_init_59 : decode cX0_init 59 = .ok (.bipush 12, 2) := by decide +kernel
theorem dX0_init_61 : decode cX0_init 61 = .ok (.newarray .int, 2) := by decide +kernel
theorem dX0_init_63 : decode cX0_init 63 = .ok (.putfield 33, 3) := by decide +kernel
theorem dX0_init_66 : decode cX0_init 66 = .ok (.aload_n 0, 1) := by decide +kernel
theorem dX0_init_67 : decode cX0_init 67 = .ok (.bipush 12, 2) := by decide +kernel
theorem dX0_init_69 : decode cX0_init 69 = .ok (.newarray .int, 2) := by decide +kernel
theorem dX0_init_71 : decode cX0_init 71 = .ok (.putfield 36, 3) := by decide +kernel
theorem dX0_init_74 : decode cX0_init 74 = .ok (.aload_n 0, 1) := by decide +kernel
theorem dX0_init_75 : decode cX0_init 75 = .ok (.bipush 12, 2) := by decide +kernel
theorem dX0_init_77 : decode cX0_init 77 = .ok (.newarray .int, 2) := by decide +kernel
theorem dX0_init_79 : decode cX0_init 79 = .ok (.putfield 39, 3) := by decide +kernel
theorem dX0_init_82 : decode cX0_init 82 = .ok (.return_, 1) := by decide +kernel
theorem dX0_empty_0 : decode cX0_empty 0 = .ok (.aload_n 0, 1) := by decide +kernel
theorem dX0_empty_1 : decode cX0_empty 1 = .ok (.iconst 0, 1) := by decide +kernel
theorem dX0_empty_2 : decode cX0_empty 2 = .ok (.putfield 42, 3) := by decide +kernel
theorem dX0_empty_5 : decode cX0_empty 5 = .ok (.aload_n 0, 1) := by decide +kernel
theorem dX0_empty_6 : decode cX0_empty 6 = .ok (.iconst 0, 1) := by decide +kernel
theorem dX0_empty_7 : decode cX0_empty 7 = .ok (.putfield 46, 3) := by decide +kernel
theorem dX0_empty_10 : decode cX0_empty 10 = .ok (.return_, 1) := by decide +kernel
theorem dX0_isJob_0 : decode cX0_isJob 0 = .ok (.iload_n 1, 1) := by decide +kernel
theorem dX0_isJob_1 : decode cX0_isJob 1 = .ok (.ifCond .lt 15, 3) := by decide +kernel
theorem dX0_isJob_4 : decode cX0_isJob 4 = .ok (.iload_n 1, 1) := by decide +kernel
theorem dX0_isJob_5 : decode cX0_isJob 5 = .ok (.aload_n 0, 1) := by decide +kernel
theorem dX0_isJob_6 : decode cX0_isJob 6 = .ok (.getfield 42, 3) := by decide +kernel
theorem dX0_isJob_9 : decode cX0_isJob 9 = .ok (.if_icmp .ge 7, 3) := by decide +kernel
theorem dX0_isJob_12 : decode cX0_isJob 12 = .ok (.iconst 1, 1) := by decide +kernel
theorem dX0_isJob_13 : decode cX0_isJob 13 = .ok (.goto 4, 3) := by decide +kernel
theorem dX0_isJob_16 : decode cX0_isJob 16 = .ok (.iconst 0, 1) := by decide +kernel
theorem dX0_isJob_17 : decode cX0_isJob 17 = .ok (.ireturn, 1) := by decide +kernel
theorem dX0_isOperation_0 : decode cX0_isOperation 0 = .ok (.iload_n 1, 1) := by decide +kernel
theorem dX0_isOperation_1 : decode cX0_isOperation 1 = .ok (.ifCond .lt 15, 3) := by decide +kernel
theorem dX0_isOperation_4 : decode cX0_isOperation 4 = .ok (.iload_n 1, 1) := by decide +kernel
theorem dX0_isOperation_5 : decode cX0_isOperation 5 = .ok (.aload_n 0, 1) := by decide +kernel
theorem dX0_isOperation_6 : decode cX0_isOperation 6 = .ok (.getfield 46, 3) := by decide +kernel
theorem dX0_isOperation_9 : decode cX0_isOperation 9 = .ok (.if_icmp .ge 7, 3) := by decide +kernel
theorem dX0_isOperation_12 : decode cX0_isOperation 12 = .ok (.iconst 1, 1) := by decide +kernel
theorem dX0_isOperation_13 : decode cX0_isOperation 13 = .ok (.goto 4, 3) := by decide +kernel
theorem dX0_isOperation_16 : decode cX0_isOperation 16 = .ok (.iconst 0, 1) := by decide +kernel
theorem dX0_isOperation_17 : decode cX0_isOperation 17 = .ok (.ireturn, 1) := by decide +kernel
set_option maxRecDepth 20000 in
theorem ggX0_isPair_X0_isOperation : GoodIn wsX0_isPair wsX0_isOperation := goodIn_r _ [6, 7, 8, 9, 10, 11, 12, 13, 14, 15, 16, 17, 18, 19] (by decide +kernel) (by decide +kernel)
set_option maxRecDepth 20000 in
theorem gX0_isPair_X0_isOperation : GoodIn wsX0_isPair (wsV RX0 49 RX0 yX0_isOperation wsX0_isOperation) := goodIn_app (goodIn_of _ (by decide +kernel)) ggX0_isPair_X0_isOperation
theorem dX0_isPair_0 : decode cX0_isPair 0 = .ok (.aload_n 0, 1) := by decide +kernel
theorem dX0_isPair_1 : decode cX0_isPair 1 = .ok (.iload_n 1, 1) := by decide +kernel
theorem dX0_isPair_2 : decode cX0_isPair 2 = .ok (.invokevirtual 49, 3) := by decide +kernel
theorem dX0_isPair_5 : decode cX0_isPair 5 = .ok (.ifCond .eq 35, 3) := by decide +kernel
theorem dX0_isPair_8 : decode cX0_isPair 8 = .ok (.aload_n 0, 1) := by decide +kernel
theorem dX0_isPair_9 : decode cX0_isPair 9 = .ok (.iload_n 2, 1) := by decide +kernel
theorem dX0_isPair_10 : decode cX0_isPair 10 = .ok (.invokevirtual 49, 3) := by decide +kernel
theorem dX0_isPair_13 : decode cX0_isPair 13 = .ok (.ifCond .eq 27, 3) := by decide +kernel
theorem dX0_isPair_16 : decode cX0_isPair 16 = .ok (.iload_n 1, 1) := by decide +kernel
theorem dX0_isPair_17 : decode cX0_isPair 17 = .ok (.iload_n 2, 1) := by decide +kernel
theorem dX0_isPair_18 : decode cX0_isPair 18 = .ok (.if_icmp .eq 22, 3) := by decide +kernel
theorem dX0_isPair_21 : decode cX0_isPair 21 = .ok (.aload_n 0, 1) := by decide +kernel
theorem dX0_isPair_22 : decode cX0_isPair 22 = .ok (.getfield 21, 3) := by decide +kernel
theorem dX0_isPair_25 : decode cX0_isPair 25 = .ok (.iload_n 1, 1) := by decide +kernel
theorem dX0_isPair_26 : decode cX0_isPair 26 = .ok (.iaload, 1) := by decide +kernel
theorem dX0_isPair_27 : decode cX0_isPair 27 = .ok (.aload_n 0, 1) := by decide +kernel
theorem dX0_isPair_28 : decode cX0_isPair 28 = .ok (.getfield 21, 3) := by decide +kernel
theorem dX0_isPair_31 : decode cX0_isPair 31 = .ok (.iload_n 2, 1) := by decide +kernel
theorem dX0_isPair_32 : decode cX0_isPair 32 = .ok (.iaload, 1) := by decide +kernel
theorem dX0_isPair_33 : decode cX0_isPair 33 = .ok (.if_icmp .ne 7, 3) := by decide +kernel
theorem dX0_isPair_36 : decode cX0_isPair 36 = .ok (.iconst 1, 1) := by decide +kernel
theorem dX0_isPair_37 : decode cX0_isPair 37 = .ok (.goto 4, 3) := by decide +kernel
theorem dX0_isPair_40 : decode cX0_isPair 40 = .ok (.iconst 0, 1) := by decide +kernel
theorem dX0_isPair_41 : decode cX0_isPair 41 = .ok (.ireturn, 1) := by decide +kernel
theorem dX0_addJob_0 : decode cX0_addJob 0 = .ok (.aload_n 0, 1) := by decide +kernel
theorem dX0_addJob_1 : decode cX0_addJob 1 = .ok (.getfield 42, 3) := by decide +kernel
theorem dX0_addJob_4 : decode cX0_addJob 4 = .ok (.istore_n 1, 1) := by decide +kernel
theorem dX0_addJob_5 : decode cX0_addJob 5 = .ok (.aload_n 0, 1) := by decide +kernel
theorem dX0_addJob_6 : decode cX0_addJob 6 = .ok (.getfield 9, 3) := by decide +kernel
theorem dX0_addJob_9 : decode cX0_addJob 9 = .ok (.iload_n 1, 1) := by decide +kernel
theorem dX0_addJob_10 : decode cX0_addJob 10 = .ok (.iconst (-1), 1) := by decide +kernel
theorem dX0_addJob_11 : decode cX0_addJob 11 = .ok (.iastore, 1) := by decide +kernel
theorem dX0_addJob_12 : decode cX0_addJob 12 = .ok (.aload_n 0, 1) := by decide +kernel
theorem dX0_addJob_13 : decode cX0_addJob 13 = .ok (.getfield 15, 3) := by decide +kernel
theorem dX0_addJob_16 : decode cX0_addJob 16 = .ok (.iload_n 1, 1) := by decide +kernel
theorem dX0_addJob_17 : decode cX0_addJob 17 = .ok (.iconst (-1), 1) := by decide +kernel
theorem dX0_addJob_18 : decode cX0_addJob 18 = .ok (.iastore, 1) := by decide +kernel
theorem dX0_addJob_19 : decode cX0_addJob 19 = .ok (.aload_n 0, 1) := by decide +kernel
theorem dX0_addJob_20 : decode cX0_addJob 20 = .ok (.dup, 1) := by decide +kernel
theorem dX0_addJob_21 : decode cX0_addJob 21 = .ok (.getfield 42, 3) := by decide +kernel
theorem dX0_addJob_24 : decode cX0_addJob 24 = .ok (.iconst 1, 1) := by decide +kernel
theorem dX0_addJob_25 : decode cX0_addJob 25 = .ok (.iadd, 1) := by decide +kernel
theorem dX0_addJob_26 : decode cX0_addJob 26 = .ok (.putfield 42, 3) := by decide +kernel
theorem dX0_addJob_29 : decode cX0_addJob 29 = .ok (.iload_n 1, 1) := by decide +kernel
theorem dX0_addJob_30 : decode cX0_addJob 30 = .ok (.ireturn, 1) := by decide +kernel
theorem dX0_visits_0 : decode cX0_visits 0 = .ok (.iconst 0, 1) := by decide +kernel
theorem dX0_visits_1 : decode cX0_visits 1 = .ok (.istore_n 3, 1) := by decide +kernel
theorem dX0_visits_2 : decode cX0_visits 2 = .ok (.iload_n 3, 1) := by decide +kernel
theorem dX0_visits_3 : decode cX0_visits 3 = .ok (.aload_n 0, 1) := by decide +kernel
theorem dX0_visits_4 : decode cX0_visits 4 = .ok (.getfield 46, 3) := by decide +kernel
theorem dX0_visits_7 : decode cX0_visits 7 = .ok (.if_icmp .ge 31, 3) := by decide +kernel
theorem dX0_visits_10 : decode cX0_visits 10 = .ok (.aload_n 0, 1) := by decide +kernel
theorem dX0_visits_11 : decode cX0_visits 11 = .ok (.getfield 18, 3) := by decide +kernel
theorem dX0_visits_14 : decode cX0_visits 14 = .ok (.iload_n 3, 1) := by decide +kernel
theorem dX0_visits_15 : decode cX0_visits 15 = .ok (.iaload, 1) := by decide +kernel
theorem dX0_visits_16 : decode cX0_visits 16 = .ok (.iload_n 1, 1) := by decide +kernel
theorem dX0_visits_17 : decode cX0_visits 17 = .ok (.if_icmp .ne 15, 3) := by decide +kernel
theorem dX0_visits_20 : decode cX0_visits 20 = .ok (.aload_n 0, 1) := by decide +kernel
theorem dX0_visits_21 : decode cX0_visits 21 = .ok (.getfield 21, 3) := by decide +kernel
theorem dX0_visits_24 : decode cX0_visits 24 = .ok (.iload_n 3, 1) := by decide +kernel
theorem dX0_visits_25 : decode cX0_visits 25 = .ok (.iaload, 1) := by decide +kernel
theorem dX0_visits_26 : decode cX0_visits 26 = .ok (.iload_n 2, 1) := by decide +kernel
theorem dX0_visits_27 : decode cX0_visits 27 = .ok (.if_icmp .ne 5, 3) := by decide +kernel
theorem dX0_visits_30 : decode cX0_visits 30 = .ok (.iconst 1, 1) := by decide +kernel
theorem dX0_visits_31 : decode cX0_visits 31 = .ok (.ireturn, 1) := by decide +kernel
theorem dX0_visits_32 : decode cX0_visits 32 = .ok (.iinc 3 1, 3) := by decide +kernel
theorem dX0_visits_35 : decode cX0_visits 35 = .ok (.goto (-33), 3) := by decide +kernel
theorem dX0_visits_38 : decode cX0_visits 38 = .ok (.iconst 0, 1) := by decide +kernel
theorem dX0_visits_39 : decode cX0_visits 39 = .ok (.ireturn, 1) := by decide +kernel
set_option maxRecDepth 20000 in
theorem ggX0_addOperation_X0_isOperation : GoodIn wsX0_addOperation wsX0_isOperation := goodIn_r _ [13, 1, 31, 32, 33, 34, 35, 36, 37, 38, 39, 40, 41, 42] (by decide +kernel) (by decide +kernel)
set_option maxRecDepth 20000 in
theorem gX0_addOperation_X0_isOperation : GoodIn wsX0_addOperation (wsV RX0 49 RX0 yX0_isOperation wsX0_isOperation) := goodIn_app (goodIn_of _ (by decide +kernel)) ggX0_addOperation_X0_isOperation
set_option maxRecDepth 20000 in
theorem ggX0_addOperation_X0_measure : GoodIn wsX0_addOperation wsX0_measure := goodIn_r _ [17, 1, 18, 19, 20, 21, 22, 12, 23, 4, 24, 25, 26, 27, 5, 6, 28, 29, 30, 31, 32, 33, 34, 35, 36, 37, 38, 39, 40, 41, 42] (by decide +kernel) (by decide +kernel)
set_option maxRecDepth 20000 in
theorem gX0_addOperation_X0_measure : GoodIn wsX0_addOperation (wsV RX0 53 RX0 yX0_measure wsX0_measure) := goodIn_app (goodIn_of _ (by decide +kernel)) ggX0_addOperation_X0_measure
theorem dX0_addOperation_0 : decode cX0_addOperation 0 = .ok (.aload_n 0, 1) := by decide +kernel
theorem dX0_addOperation_1 : decode cX0_addOperation 1 = .ok (.getfield 46, 3) := by decide +kernel
theorem dX0_addOperation_4 : decode cX0_addOperation 4 = .ok (.istore 4, 2) := by decide +kernel
theorem dX0_addOperation_6 : decode cX0_addOperation 6 = .ok (.aload_n 0, 1) := by decide +kernel
theorem dX0_addOperation_7 : decode cX0_addOperation 7 = .ok (.getfield 18, 3) := by decide +kernel
theorem dX0_addOperation_10 : decode cX0_addOperation 10 = .ok (.iload 4, 2) := by decide +kernel
theorem dX0_addOperation_12 : decode cX0_addOperation 12 = .ok (.iload_n 1, 1) := by decide +kernel
theorem dX0_addOperation_13 : decode cX0_addOperation 13 = .ok (.iastore, 1) := by decide +kernel
theorem dX0_addOperation_14 : decode cX0_addOperation 14 = .ok (.aload_n 0, 1) := by decide +kernel
theorem dX0_addOperation_15 : decode cX0_addOperation 15 = .ok (.getfield 21, 3) := by decide +kernel
theorem dX0_addOperation_18 : decode cX0_addOperation 18 = .ok (.iload 4, 2) := by decide +kernel
theorem dX0_addOperation_20 : decode cX0_addOperation 20 = .ok (.iload_n 2, 1) := by decide +kernel
theorem dX0_addOperation_21 : decode cX0_addOperation 21 = .ok (.iastore, 1) := by decide +kernel
theorem dX0_addOperation_22 : decode cX0_addOperation 22 = .ok (.aload_n 0, 1) := by decide +kernel
theorem dX0_addOperation_23 : decode cX0_addOperation 23 = .ok (.getfield 24, 3) := by decide +kernel
theorem dX0_addOperation_26 : decode cX0_addOperation 26 = .ok (.iload 4, 2) := by decide +kernel
theorem dX0_addOperation_28 : decode cX0_addOperation 28 = .ok (.iload_n 3, 1) := by decide +kernel
theorem dX0_addOperation_29 : decode cX0_addOperation 29 = .ok (.iastore, 1) := by decide +kernel
theorem dX0_addOperation_30 : decode cX0_addOperation 30 = .ok (.aload_n 0, 1) := by decide +kernel
theorem dX0_addOperation_31 : decode cX0_addOperation 31 = .ok (.getfield 27, 3) := by decide +kernel
theorem dX0_addOperation_34 : decode cX0_addOperation 34 = .ok (.iload 4, 2) := by decide +kernel
theorem dX0_addOperation_36 : decode cX0_addOperation 36 = .ok (.iconst (-1), 1) := by decide +kernel
theorem dX0_addOperation_37 : decode cX0_addOperation 37 = .ok (.iastore, 1) := by decide +kernel
theorem dX0_addOperation_38 : decode cX0_addOperation 38 = .ok (.aload_n 0, 1) := by decide +kernel
theorem dX0_addOperation_39 : decode cX0_addOperation 39 = .ok (.getfield 30, 3) := by decide +kernel
theorem dX0_addOperation_42 : decode cX0_addOperation 42 = .ok (.iload 4, 2) := by decide +kernel
theorem dX0_addOperation_44 : decode cX0_addOperation 44 = .ok (.iconst 0, 1) := by decide +kernel
theorem dX0_addOperation_45 : decode cX0_addOperation 45 = .ok (.iastore, 1) := by decide +kernel
theorem dX0_addOperation_46 : decode cX0_addOperation 46 = .ok (.aload_n 0, 1) := by decide +kernel
theorem dX0_addOperation_47 : decode cX0_addOperation 47 = .ok (.getfield 15, 3) := by decide +kernel
theorem dX0_addOperation_50 : decode cX0_addOperation 50 = .ok (.iload_n 1, 1) := by decide +kernel
theorem dX0_addOperation_51 : decode cX0_addOperation 51 = .ok (.iaload, 1) := by decide +kernel
theorem dX0_addOperation_52 : decode cX0_addOperation 52 = .ok (.istore 5, 2) := by decide +kernel
theorem dX0_addOperation_54 : decode cX0_addOperation 54 = .ok (.aload_n 0, 1) := by decide +kernel
theorem dX0_addOperation_55 : decode cX0_addOperation 55 = .ok (.iload 5, 2) := by decide +kernel
theorem dX0_addOperation_57 : decode cX0_addOperation 57 = .ok (.invokevirtual 49, 3) := by decide +kernel
theorem dX0_addOperation_60 : decode cX0_addOperation 60 = .ok (.ifCond .eq 15, 3) := by decide +kernel
theorem dX0_addOperation_63 : decode cX0_addOperation 63 = .ok (.aload_n 0, 1) := by decide +kernel
theorem dX0_addOperation_64 : decode cX0_addOperation 64 = .ok (.getfield 27, 3) := by decide +kernel
theorem dX0_addOperation_67 : decode cX0_addOperation 67 = .ok (.iload 5, 2) := by decide +kernel
theorem dX0_addOperation_69 : decode cX0_addOperation 69 = .ok (.iload 4, 2) := by decide +kernel
theorem dX0_addOperation_71 : decode cX0_addOperation 71 = .ok (.iastore, 1) := by decide +kernel
theorem dX0_addOperation_72 : decode cX0_addOperation 72 = .ok (.goto 11, 3) := by decide +kernel
theorem dX0_addOperation_75 : decode cX0_addOperation 75 = .ok (.aload_n 0, 1) := by decide +kernel
theorem dX0_addOperation_76 : decode cX0_addOperation 76 = .ok (.getfield 9, 3) := by decide +kernel
theorem dX0_addOperation_79 : decode cX0_addOperation 79 = .ok (.iload_n 1, 1) := by decide +kernel
theorem dX0_addOperation_80 : decode cX0_addOperation 80 = .ok (.iload 4, 2) := by decide +kernel
theorem dX0_addOperation_82 : decode cX0_addOperation 82 = .ok (.iastore, 1) := by decide +kernel
theorem dX0_addOperation_83 : decode cX0_addOperation 83 = .ok (.aload_n 0, 1) := by decide +kernel
theorem dX0_addOperation_84 : decode cX0_addOperation 84 = .ok (.getfield 15, 3) := by decide +kernel
theorem dX0_addOperation_87 : decode cX0_addOperation 87 = .ok (.iload_n 1, 1) := by decide +kernel
theorem dX0_addOperation_88 : decode cX0_addOperation 88 = .ok (.iload 4, 2) := by decide +kernel
theorem dX0_addOperation_90 : decode cX0_addOperation 90 = .ok (.iastore, 1) := by decide +kernel
theorem dX0_addOperation_91 : decode cX0_addOperation 91 = .ok (.aload_n 0, 1) := by decide +kernel
theorem dX0_addOperation_92 : decode cX0_addOperation 92 = .ok (.dup, 1) := by decide +kernel
theorem dX0_addOperation_93 : decode cX0_addOperation 93 = .ok (.getfield 46, 3) := by decide +kernel
theorem dX0_addOperation_96 : decode cX0_addOperation 96 = .ok (.iconst 1, 1) := by decide +kernel
theorem dX0_addOperation_97 : decode cX0_addOperation 97 = .ok (.iadd, 1) := by decide +kernel
theorem dX0_addOperation_98 : decode cX0_addOperation 98 = .ok (.putfield 46, 3) := by decide +kernel
theorem dX0_addOperation_101 : decode cX0_addOperation 101 = .ok (.aload_n 0, 1) := by decide +kernel
theorem dX0_addOperation_102 : decode cX0_addOperation 102 = .ok (.invokevirtual 53, 3) := by decide +kernel
theorem dX0_addOperation_105 : decode cX0_addOperation 105 = .ok (.iload 4, 2) := by decide +kernel
theorem dX0_addOperation_107 : decode cX0_addOperation 107 = .ok (.ireturn, 1) := by decide +kernel
set_option maxRecDepth 20000 in
theorem ggX0_hasArc_X2_isIn : GoodIn wsX0_hasArc wsX2_isIn := goodIn_r _ [4] (by decide +kernel) (by decide +kernel)
set_option maxRecDepth 20000 in
theorem gX0_hasArc_X2_isIn_n56 : GoodIn wsX0_hasArc (wsX2_isIn) := ggX0_hasArc_X2_isIn
theorem dX0_hasArc_0 : decode cX0_hasArc 0 = .ok (.aload_n 0, 1) := by decide +kernel
theorem dX0_hasArc_1 : decode cX0_hasArc 1 = .ok (.getfield 30, 3) := by decide +kernel
theorem dX0_hasArc_4 : decode cX0_hasArc 4 = .ok (.iload_n 1, 1) := by decide +kernel
theorem dX0_hasArc_5 : decode cX0_hasArc 5 = .ok (.iaload, 1) := by decide +kernel
theorem dX0_hasArc_6 : decode cX0_hasArc 6 = .ok (.iload_n 2, 1) := by decide +kernel
theorem dX0_hasArc_7 : decode cX0_hasArc 7 = .ok (.invokestatic 56, 3) := by decide +kernel
theorem dX0_hasArc_10 : decode cX0_hasArc 10 = .ok (.ireturn, 1) := by decide +kernel
set_option maxRecDepth 20000 in
theorem ggX0_isTied_X0_hasArc : GoodIn wsX0_isTied wsX0_hasArc := goodIn_r _ [5, 6, 7, 8, 9, 10, 11, 12, 13, 14, 15, 16, 17, 18, 19, 20, 21] (by decide +kernel) (by decide +kernel)
set_option maxRecDepth 20000 in
theorem gX0_isTied_X0_hasArc : GoodIn wsX0_isTied (wsV RX0 60 RX0 yX0_hasArc wsX0_hasArc) := goodIn_app (goodIn_of _ (by decide +kernel)) ggX0_isTied_X0_hasArc
theorem dX0_isTied_0 : decode cX0_isTied 0 = .ok (.aload_n 0, 1) := by decide +kernel
theorem dX0_isTied_1 : decode cX0_isTied 1 = .ok (.iload_n 1, 1) := by decide +kernel
theorem dX0_isTied_2 : decode cX0_isTied 2 = .ok (.iload_n 2, 1) := by decide +kernel
theorem dX0_isTied_3 : decode cX0_isTied 3 = .ok (.invokevirtual 60, 3) := by decide +kernel
theorem dX0_isTied_6 : decode cX0_isTied 6 = .ok (.ifCond .ne 12, 3) := by decide +kernel
theorem dX0_isTied_9 : decode cX0_isTied 9 = .ok (.aload_n 0, 1) := by decide +kernel
theorem dX0_isTied_10 : decode cX0_isTied 10 = .ok (.iload_n 2, 1) := by decide +kernel
theorem dX0_isTied_11 : decode cX0_isTied 11 = .ok (.iload_n 1, 1) := by decide +kernel
theorem dX0_isTied_12 : decode cX0_isTied 12 = .ok (.invokevirtual 60, 3) := by decide +kernel
theorem dX0_isTied_15 : decode cX0_isTied 15 = .ok (.ifCond .eq 7, 3) := by decide +kernel
theorem dX0_isTied_18 : decode cX0_isTied 18 = .ok (.iconst 1, 1) := by decide +kernel
theorem dX0_isTied_19 : decode cX0_isTied 19 = .ok (.goto 4, 3) := by decide +kernel
theorem dX0_isTied_22 : decode cX0_isTied 22 = .ok (.iconst 0, 1) := by decide +kernel
theorem dX0_isTied_23 : decode cX0_isTied 23 = .ok (.ireturn, 1) := by decide +kernel
set_option maxRecDepth 20000 in
theorem ggX0_putArc_X0_measure : GoodIn wsX0_putArc wsX0_measure := goodIn_r _ [6, 7, 8, 9, 10, 11, 12, 5, 13, 14, 15, 16, 17, 18, 19, 1, 20, 21, 22, 23, 24, 25, 26, 27, 28, 29, 30, 31, 32, 33, 34] (by decide +kernel) (by decide +kernel)
set_option maxRecDepth 20000 in
theorem gX0_putArc_X0_measure : GoodIn wsX0_putArc (wsV RX0 53 RX0 yX0_measure wsX0_measure) := goodIn_app (goodIn_of _ (by decide +kernel)) ggX0_putArc_X0_measure
theorem dX0_putArc_0 : decode cX0_putArc 0 = .ok (.aload_n 0, 1) := by decide +kernel
theorem dX0_putArc_1 : decode cX0_putArc 1 = .ok (.getfield 30, 3) := by decide +kernel
theorem dX0_putArc_4 : decode cX0_putArc 4 = .ok (.iload_n 1, 1) := by decide +kernel
theorem dX0_putArc_5 : decode cX0_putArc 5 = .ok (.dup2, 1) := by decide +kernel
theorem dX0_putArc_6 : decode cX0_putArc 6 = .ok (.iaload, 1) := by decide +kernel
theorem dX0_putArc_7 : decode cX0_putArc 7 = .ok (.iconst 1, 1) := by decide +kernel
theorem dX0_putArc_8 : decode cX0_putArc 8 = .ok (.iload_n 2, 1) := by decide +kernel
theorem dX0_putArc_9 : decode cX0_putArc 9 = .ok (.ishl, 1) := by decide +kernel
theorem dX0_putArc_10 : decode cX0_putArc 10 = .ok (.ior, 1) := by decide +kernel
theorem dX0_putArc_11 : decode cX0_putArc 11 = .ok (.iastore, 1) := by decide +kernel
theorem dX0_putArc_12 : decode cX0_putArc 12 = .ok (.aload_n 0, 1) := by decide +kernel
theorem dX0_putArc_13 : decode cX0_putArc 13 = .ok (.invokevirtual 53, 3) := by decide +kernel
theorem dX0_putArc_16 : decode cX0_putArc 16 = .ok (.return_, 1) := by decide +kernel
set_option maxRecDepth 20000 in
theorem ggX0_dropArcs_X0_measure : GoodIn wsX0_dropArcs wsX0_measure := goodIn_r _ [6, 7, 8, 9, 10, 11, 12, 5, 13, 14, 15, 16, 17, 18, 19, 1, 20, 21, 22, 23, 24, 25, 26, 27, 28, 29, 30, 31, 32, 33, 34] (by decide +kernel) (by decide +kernel)
set_option maxRecDepth 20000 in
theorem gX0_dropArcs_X0_measure : GoodIn wsX0_dropArcs (wsV RX0 53 RX0 yX0_measure wsX0_measure) := goodIn_app (goodIn_of _ (by decide +kernel)) ggX0_dropArcs_X0_measure
theorem dX0_dropArcs_0 : decode cX0_dropArcs 0 = .ok (.aload_n 0, 1) := by decide +kernel
theorem dX0_dropArcs_1 : decode cX0_dropArcs 1 = .ok (.getfield 30, 3) := by decide +kernel
theorem dX0_dropArcs_4 : decode cX0_dropArcs 4 = .ok (.iload_n 1, 1) := by decide +kernel
theorem dX0_dropArcs_5 : decode cX0_dropArcs 5 = .ok (.dup2, 1) := by decide +kernel
theorem dX0_dropArcs_6 : decode cX0_dropArcs 6 = .ok (.iaload, 1) := by decide +kernel
theorem dX0_dropArcs_7 : decode cX0_dropArcs 7 = .ok (.iconst 1, 1) := by decide +kernel
theorem dX0_dropArcs_8 : decode cX0_dropArcs 8 = .ok (.iload_n 2, 1) := by decide +kernel
theorem dX0_dropArcs_9 : decode cX0_dropArcs 9 = .ok (.ishl, 1) := by decide +kernel
theorem dX0_dropArcs_10 : decode cX0_dropArcs 10 = .ok (.iconst (-1), 1) := by decide +kernel
theorem dX0_dropArcs_11 : decode cX0_dropArcs 11 = .ok (.ixor, 1) := by decide +kernel
theorem dX0_dropArcs_12 : decode cX0_dropArcs 12 = .ok (.iand, 1) := by decide +kernel
theorem dX0_dropArcs_13 : decode cX0_dropArcs 13 = .ok (.iastore, 1) := by decide +kernel
theorem dX0_dropArcs_14 : decode cX0_dropArcs 14 = .ok (.aload_n 0, 1) := by decide +kernel
theorem dX0_dropArcs_15 : decode cX0_dropArcs 15 = .ok (.getfield 30, 3) := by decide +kernel
theorem dX0_dropArcs_18 : decode cX0_dropArcs 18 = .ok (.iload_n 2, 1) := by decide +kernel
theorem dX0_dropArcs_19 : decode cX0_dropArcs 19 = .ok (.dup2, 1) := by decide +kernel
theorem dX0_dropArcs_20 : decode cX0_dropArcs 20 = .ok (.iaload, 1) := by decide +kernel
theorem dX0_dropArcs_21 : decode cX0_dropArcs 21 = .ok (.iconst 1, 1) := by decide +kernel
theorem dX0_dropArcs_22 : decode cX0_dropArcs 22 = .ok (.iload_n 1, 1) := by decide +kernel
theorem dX0_dropArcs_23 : decode cX0_dropArcs 23 = .ok (.ishl, 1) := by decide +kernel
theorem dX0_dropArcs_24 : decode cX0_dropArcs 24 = .ok (.iconst (-1), 1) := by decide +kernel
theorem dX0_dropArcs_25 : decode cX0_dropArcs 25 = .ok (.ixor, 1) := by decide +kernel
theorem dX0_dropArcs_26 : decode cX0_dropArcs 26 = .ok (.iand, 1) := by decide +kernel
theorem dX0_dropArcs_27 : decode cX0_dropArcs 27 = .ok (.iastore, 1) := by decide +kernel
theorem dX0_dropArcs_28 : decode cX0_dropArcs 28 = .ok (.aload_n 0, 1) := by decide +kernel
theorem dX0_dropArcs_29 : decode cX0_dropArcs 29 = .ok (.invokevirtual 53, 3) := by decide +kernel
theorem dX0_dropArcs_32 : decode cX0_dropArcs 32 = .ok (.return_, 1) := by decide +kernel
theorem dX0_followers_0 : decode cX0_followers 0 = .ok (.aload_n 0, 1) := by decide +kernel
theorem dX0_followers_1 : decode cX0_followers 1 = .ok (.getfield 27, 3) := by decide +kernel
theorem dX0_followers_4 : decode cX0_followers 4 = .ok (.iload_n 1, 1) := by decide +kernel
theorem dX0_followers_5 : decode cX0_followers 5 = .ok (.iaload, 1) := by decide +kernel
theorem dX0_followers_6 : decode cX0_followers 6 = .ok (.iconst (-1), 1) := by decide +kernel
theorem dX0_followers_7 : decode cX0_followers 7 = .ok (.if_icmp .ne 12, 3) := by decide +kernel
theorem dX0_followers_10 : decode cX0_followers 10 = .ok (.aload_n 0, 1) := by decide +kernel
theorem dX0_followers_11 : decode cX0_followers 11 = .ok (.getfield 30, 3) := by decide +kernel
theorem dX0_followers_14 : decode cX0_followers 14 = .ok (.iload_n 1, 1) := by decide +kernel
theorem dX0_followers_15 : decode cX0_followers 15 = .ok (.iaload, 1) := by decide +kernel
theorem dX0_followers_16 : decode cX0_followers 16 = .ok (.goto 18, 3) := by decide +kernel
theorem dX0_followers_19 : decode cX0_followers 19 = .ok (.aload_n 0, 1) := by decide +kernel
theorem dX0_followers_20 : decode cX0_followers 20 = .ok (.getfield 30, 3) := by decide +kernel
theorem dX0_followers_23 : decode cX0_followers 23 = .ok (.iload_n 1, 1) := by decide +kernel
theorem dX0_followers_24 : decode cX0_followers 24 = .ok (.iaload, 1) := by decide +kernel
theorem dX0_followers_25 : decode cX0_followers 25 = .ok (.iconst 1, 1) := by decide +kernel
theorem dX0_followers_26 : decode cX0_followers 26 = .ok (.aload_n 0, 1) := by decide +kernel
theorem dX0_followers_27 : decode cX0_followers 27 = .ok (.getfield 27, 3) := by decide +kernel
theorem dX0_followers_30 : decode cX0_followers 30 = .ok (.iload_n 1, 1) := by decide +kernel
theorem dX0_followers_31 : decode cX0_followers 31 = .ok (.iaload, 1) := by decide +kernel
theorem dX0_followers_32 : decode cX0_followers 32 = .ok (.ishl, 1) := by decide +kernel
theorem dX0_followers_33 : decode cX0_followers 33 = .ok (.ior, 1) := by decide +kernel
theorem dX0_followers_34 : decode cX0_followers 34 = .ok (.ireturn, 1) := by decide +kernel
set_option maxRecDepth 20000 in
theorem ggX0_leads_X0_followers : GoodIn wsX0_leads wsX0_followers := goodIn_r _ [6, 7, 8, 12, 13, 14, 15, 16, 17, 18, 19, 20, 21, 22, 23] (by decide +kernel) (by decide +kernel)
set_option maxRecDepth 20000 in
theorem gX0_leads_X0_followers : GoodIn wsX0_leads (wsV RX0 63 RX0 yX0_followers wsX0_followers) := goodIn_app (goodIn_of _ (by decide +kernel)) ggX0_leads_X0_followers
set_option maxRecDepth 20000 in
theorem ggX0_leads_X2_isIn : GoodIn wsX0_leads wsX2_isIn := goodIn_r _ [11] (by decide +kernel) (by decide +kernel)
set_option maxRecDepth 20000 in
theorem gX0_leads_X2_isIn_n56 : GoodIn wsX0_leads (wsX2_isIn) := ggX0_leads_X2_isIn
theorem dX0_leads_0 : decode cX0_leads 0 = .ok (.aload_n 0, 1) := by decide +kernel
theorem dX0_leads_1 : decode cX0_leads 1 = .ok (.iload_n 1, 1) := by decide +kernel
theorem dX0_leads_2 : decode cX0_leads 2 = .ok (.invokevirtual 63, 3) := by decide +kernel
theorem dX0_leads_5 : decode cX0_leads 5 = .ok (.istore_n 3, 1) := by decide +kernel
theorem dX0_leads_6 : decode cX0_leads 6 = .ok (.iconst 0, 1) := by decide +kernel
theorem dX0_leads_7 : decode cX0_leads 7 = .ok (.istore 4, 2) := by decide +kernel
theorem dX0_leads_9 : decode cX0_leads 9 = .ok (.iconst 0, 1) := by decide +kernel
theorem dX0_leads_10 : decode cX0_leads 10 = .ok (.istore 5, 2) := by decide +kernel
theorem dX0_leads_12 : decode cX0_leads 12 = .ok (.iload 5, 2) := by decide +kernel
theorem dX0_leads_14 : decode cX0_leads 14 = .ok (.aload_n 0, 1) := by decide +kernel
theorem dX0_leads_15 : decode cX0_leads 15 = .ok (.getfield 46, 3) := by decide +kernel
theorem dX0_leads_18 : decode cX0_leads 18 = .ok (.if_icmp .ge 55, 3) := by decide +kernel
theorem dX0_leads_21 : decode cX0_leads 21 = .ok (.iload 4, 2) := by decide +kernel
theorem dX0_leads_23 : decode cX0_leads 23 = .ok (.iload_n 3, 1) := by decide +kernel
theorem dX0_leads_24 : decode cX0_leads 24 = .ok (.if_icmp .eq 49, 3) := by decide +kernel
theorem dX0_leads_27 : decode cX0_leads 27 = .ok (.iload_n 3, 1) := by decide +kernel
theorem dX0_leads_28 : decode cX0_leads 28 = .ok (.istore 4, 2) := by decide +kernel
theorem dX0_leads_30 : decode cX0_leads 30 = .ok (.iconst 0, 1) := by decide +kernel
theorem dX0_leads_31 : decode cX0_leads 31 = .ok (.istore 6, 2) := by decide +kernel
theorem dX0_leads_33 : decode cX0_leads 33 = .ok (.iload 6, 2) := by decide +kernel
theorem dX0_leads_35 : decode cX0_leads 35 = .ok (.aload_n 0, 1) := by decide +kernel
theorem dX0_leads_36 : decode cX0_leads 36 = .ok (.getfield 46, 3) := by decide +kernel
theorem dX0_leads_39 : decode cX0_leads 39 = .ok (.if_icmp .ge 28, 3) := by decide +kernel
theorem dX0_leads_42 : decode cX0_leads 42 = .ok (.iload 4, 2) := by decide +kernel
theorem dX0_leads_44 : decode cX0_leads 44 = .ok (.iload 6, 2) := by decide +kernel
theorem dX0_leads_46 : decode cX0_leads 46 = .ok (.invokestatic 56, 3) := by decide +kernel
theorem dX0_leads_49 : decode cX0_leads 49 = .ok (.ifCond .eq 12, 3) := by decide +kernel
theorem dX0_leads_52 : decode cX0_leads 52 = .ok (.iload_n 3, 1) := by decide +kernel
theorem dX0_leads_53 : decode cX0_leads 53 = .ok (.aload_n 0, 1) := by decide +kernel
theorem dX0_leads_54 : decode cX0_leads 54 = .ok (.iload 6, 2) := by decide +kernel
theorem dX0_leads_56 : decode cX0_leads 56 = .ok (.invokevirtual 63, 3) := by decide +kernel
theorem dX0_leads_59 : decode cX0_leads 59 = .ok (.ior, 1) := by decide +kernel
theorem dX0_leads_60 : decode cX0_leads 60 = .ok (.istore_n 3, 1) := by decide +kernel
theorem dX0_leads_61 : decode cX0_leads 61 = .ok (.iinc 6 1, 3) := by decide +kernel
theorem dX0_leads_64 : decode cX0_leads 64 = .ok (.goto (-31), 3) := by decide +kernel
theorem dX0_leads_67 : decode cX0_leads 67 = .ok (.iinc 5 1, 3) := by decide +kernel
theorem dX0_leads_70 : decode cX0_leads 70 = .ok (.goto (-58), 3) := by decide +kernel
theorem dX0_leads_73 : decode cX0_leads 73 = .ok (.iload_n 3, 1) := by decide +kernel
theorem dX0_leads_74 : decode cX0_leads 74 = .ok (.iload_n 2, 1) := by decide +kernel
theorem dX0_leads_75 : decode cX0_leads 75 = .ok (.invokestatic 56, 3) := by decide +kernel
theorem dX0_leads_78 : decode cX0_leads 78 = .ok (.ireturn, 1) := by decide +kernel
set_option maxRecDepth 20000 in
theorem ggX0_measure_X0_stretch : GoodIn wsX0_measure wsX0_stretch := goodIn_r _ [8, 1, 2, 9, 3, 10, 11, 12, 7, 13, 14, 15, 16, 17, 18, 19, 20, 21, 22, 23, 24, 25, 26, 27, 28, 29, 30] (by decide +kernel) (by decide +kernel)
set_option maxRecDepth 20000 in
theorem gX0_measure_X0_stretch : GoodIn wsX0_measure (wsV RX0 67 RX0 yX0_stretch wsX0_stretch) := goodIn_app (goodIn_of _ (by decide +kernel)) ggX0_measure_X0_stretch
theorem dX0_measure_0 : decode cX0_measure 0 = .ok (.iconst 0, 1) := by decide +kernel
theorem dX0_measure_1 : decode cX0_measure 1 = .ok (.istore_n 1, 1) := by decide +kernel
theorem dX0_measure_2 : decode cX0_measure 2 = .ok (.iload_n 1, 1) := by decide +kernel
theorem dX0_measure_3 : decode cX0_measure 3 = .ok (.aload_n 0, 1) := by decide +kernel
theorem dX0_measure_4 : decode cX0_measure 4 = .ok (.getfield 46, 3) := by decide +kernel
theorem dX0_measure_7 : decode cX0_measure 7 = .ok (.if_icmp .ge 23, 3) := by decide +kernel
theorem dX0_measure_10 : decode cX0_measure 10 = .ok (.aload_n 0, 1) := by decide +kernel
theorem dX0_measure_11 : decode cX0_measure 11 = .ok (.getfield 33, 3) := by decide +kernel
theorem dX0_measure_14 : decode cX0_measure 14 = .ok (.iload_n 1, 1) := by decide +kernel
theorem dX0_measure_15 : decode cX0_measure 15 = .ok (.iconst 0, 1) := by decide +kernel
theorem dX0_measure_16 : decode cX0_measure 16 = .ok (.iastore, 1) := by decide +kernel
theorem dX0_measure_17 : decode cX0_measure 17 = .ok (.aload_n 0, 1) := by decide +kernel
theorem dX0_measure_18 : decode cX0_measure 18 = .ok (.getfield 36, 3) := by decide +kernel
theorem dX0_measure_21 : decode cX0_measure 21 = .ok (.iload_n 1, 1) := by decide +kernel
theorem dX0_measure_22 : decode cX0_measure 22 = .ok (.iconst 0, 1) := by decide +kernel
theorem dX0_measure_23 : decode cX0_measure 23 = .ok (.iastore, 1) := by decide +kernel
theorem dX0_measure_24 : decode cX0_measure 24 = .ok (.iinc 1 1, 3) := by decide +kernel
theorem dX0_measure_27 : decode cX0_measure 27 = .ok (.goto (-25), 3) := by decide +kernel
theorem dX0_measure_30 : decode cX0_measure 30 = .ok (.iconst 1, 1) := by decide +kernel
theorem dX0_measure_31 : decode cX0_measure 31 = .ok (.istore_n 1, 1) := by decide +kernel
theorem dX0_measure_32 : decode cX0_measure 32 = .ok (.iconst 0, 1) := by decide +kernel
theorem dX0_measure_33 : decode cX0_measure 33 = .ok (.istore_n 2, 1) := by decide +kernel
theorem dX0_measure_34 : decode cX0_measure 34 = .ok (.iload_n 2, 1) := by decide +kernel
theorem dX0_measure_35 : decode cX0_measure 35 = .ok (.aload_n 0, 1) := by decide +kernel
theorem dX0_measure_36 : decode cX0_measure 36 = .ok (.getfield 46, 3) := by decide +kernel
theorem dX0_measure_39 : decode cX0_measure 39 = .ok (.if_icmp .ge 41, 3) := by decide +kernel
theorem dX0_measure_42 : decode cX0_measure 42 = .ok (.iload_n 1, 1) := by decide +kernel
theorem dX0_measure_43 : decode cX0_measure 43 = .ok (.ifCond .eq 37, 3) := by decide +kernel
theorem dX0_measure_46 : decode cX0_measure 46 = .ok (.iconst 0, 1) := by decide +kernel
theorem dX0_measure_47 : decode cX0_measure 47 = .ok (.istore_n 1, 1) := by decide +kernel
theorem dX0_measure_48 : decode cX0_measure 48 = .ok (.iconst 0, 1) := by decide +kernel
theorem dX0_measure_49 : decode cX0_measure 49 = .ok (.istore_n 3, 1) := by decide +kernel
theorem dX0_measure_50 : decode cX0_measure 50 = .ok (.iload_n 3, 1) := by decide +kernel
theorem dX0_measure_51 : decode cX0_measure 51 = .ok (.aload_n 0, 1) := by decide +kernel
theorem dX0_measure_52 : decode cX0_measure 52 = .ok (.getfield 46, 3) := by decide +kernel
theorem dX0_measure_55 : decode cX0_measure 55 = .ok (.if_icmp .ge 19, 3) := by decide +kernel
theorem dX0_measure_58 : decode cX0_measure 58 = .ok (.aload_n 0, 1) := by decide +kernel
theorem dX0_measure_59 : decode cX0_measure 59 = .ok (.iload_n 3, 1) := by decide +kernel
theorem dX0_measure_60 : decode cX0_measure 60 = .ok (.invokevirtual 67, 3) := by decide +kernel
theorem dX0_measure_63 : decode cX0_measure 63 = .ok (.ifCond .eq 5, 3) := by decide +kernel
theorem dX0_measure_66 : decode cX0_measure 66 = .ok (.iconst 1, 1) := by decide +kernel
theorem dX0_measure_67 : decode cX0_measure 67 = .ok (.istore_n 1, 1) := by decide +kernel
theorem dX0_measure_68 : decode cX0_measure 68 = .ok (.iinc 3 1, 3) := by decide +kernel
theorem dX0_measure_71 : decode cX0_measure 71 = .ok (.goto (-21), 3) := by decide +kernel
theorem dX0_measure_74 : decode cX0_measure 74 = .ok (.iinc 2 1, 3) := by decide +kernel
theorem dX0_measure_77 : decode cX0_measure 77 = .ok (.goto (-43), 3) := by decide +kernel
theorem dX0_measure_80 : decode cX0_measure 80 = .ok (.return_, 1) := by decide +kernel
set_option maxRecDepth 20000 in
theorem ggX0_stretch_X0_followers : GoodIn wsX0_stretch wsX0_followers := goodIn_r _ [9, 10, 11, 15, 16, 17, 18, 19, 20, 21, 22, 23, 24, 25, 26] (by decide +kernel) (by decide +kernel)
set_option maxRecDepth 20000 in
theorem gX0_stretch_X0_followers : GoodIn wsX0_stretch (wsV RX0 63 RX0 yX0_followers wsX0_followers) := goodIn_app (goodIn_of _ (by decide +kernel)) ggX0_stretch_X0_followers
set_option maxRecDepth 20000 in
theorem ggX0_stretch_X2_isIn : GoodIn wsX0_stretch wsX2_isIn := goodIn_r _ [14] (by decide +kernel) (by decide +kernel)
set_option maxRecDepth 20000 in
theorem gX0_stretch_X2_isIn_n56 : GoodIn wsX0_stretch (wsX2_isIn) := ggX0_stretch_X2_isIn
theorem dX0_stretch_0 : decode cX0_stretch 0 = .ok (.iconst 0, 1) := by decide +kernel
theorem dX0_stretch_1 : decode cX0_stretch 1 = .ok (.istore_n 2, 1) := by decide +kernel
theorem dX0_stretch_2 : decode cX0_stretch 2 = .ok (.aload_n 0, 1) := by decide +kernel
theorem dX0_stretch_3 : decode cX0_stretch 3 = .ok (.iload_n 1, 1) := by decide +kernel
theorem dX0_stretch_4 : decode cX0_stretch 4 = .ok (.invokevirtual 63, 3) := by decide +kernel
theorem dX0_stretch_7 : decode cX0_stretch 7 = .ok (.istore_n 3, 1) := by decide +kernel
theorem dX0_stretch_8 : decode cX0_stretch 8 = .ok (.iconst 0, 1) := by decide +kernel
theorem dX0_stretch_9 : decode cX0_stretch 9 = .ok (.istore 4, 2) := by decide +kernel
theorem dX0_stretch_11 : decode cX0_stretch 11 = .ok (.iload 4, 2) := by decide +kernel
theorem dX0_stretch_13 : decode cX0_stretch 13 = .ok (.aload_n 0, 1) := by decide +kernel
theorem dX0_stretch_14 : decode cX0_stretch 14 = .ok (.getfield 46, 3) := by decide +kernel
theorem dX0_stretch_17 : decode cX0_stretch 17 = .ok (.if_icmp .ge 110, 3) := by decide +kernel
theorem dX0_stretch_20 : decode cX0_stretch 20 = .ok (.iload_n 3, 1) := by decide +kernel
theorem dX0_stretch_21 : decode cX0_stretch 21 = .ok (.iload 4, 2) := by decide +kernel
theorem dX0_stretch_23 : decode cX0_stretch 23 = .ok (.invokestatic 56, 3) := by decide +kernel
theorem dX0_stretch_26 : decode cX0_stretch 26 = .ok (.ifCond .eq 95, 3) := by decide +kernel
theorem dX0_stretch_29 : decode cX0_stretch 29 = .ok (.aload_n 0, 1) := by decide +kernel
theorem dX0_stretch_30 : decode cX0_stretch 30 = .ok (.getfield 33, 3) := by decide +kernel
theorem dX0_stretch_33 : decode cX0_stretch 33 = .ok (.iload 4, 2) := by decide +kernel
theorem dX0_stretch_35 : decode cX0_stretch 35 = .ok (.iaload, 1) := by decide +kernel
theorem dX0_stretch_36 : decode cX0_stretch 36 = .ok (.aload_n 0, 1) := by decide +kernel
theorem dX0_stretch_37 : decode cX0_stretch 37 = .ok (.getfield 33, 3) := by decide +kernel
theorem dX0_stretch_40 : decode cX0_stretch 40 = .ok (.iload_n 1, 1) := by decide +kernel
theorem dX0_stretch_41 : decode cX0_stretch 41 = .ok (.iaload, 1) := by decide +kernel
theorem dX0_stretch_42 : decode cX0_stretch 42 = .ok (.aload_n 0, 1) := by decide +kernel
theorem dX0_stretch_43 : decode cX0_stretch 43 = .ok (.getfield 24, 3) := by decide +kernel
theorem dX0_stretch_46 : decode cX0_stretch 46 = .ok (.iload_n 1, 1) := by decide +kernel
theorem dX0_stretch_47 : decode cX0_stretch 47 = .ok (.iaload, 1) := by decide +kernel
theorem dX0_stretch_48 : decode cX0_stretch 48 = .ok (.iadd, 1) := by decide +kernel
theorem dX0_stretch_49 : decode cX0_stretch 49 = .ok (.if_icmp .ge 25, 3) := by decide +kernel
theorem dX0_stretch_52 : decode cX0_stretch 52 = .ok (.aload_n 0, 1) := by decide +kernel
theorem dX0_stretch_53 : decode cX0_stretch 53 = .ok (.getfield 33, 3) := by decide +kernel
theorem dX0_stretch_56 : decode cX0_stretch 56 = .ok (.iload 4, 2) := by decide +kernel
theorem dX0_stretch_58 : decode cX0_stretch 58 = .ok (.aload_n 0, 1) := by decide +kernel
theorem dX0_stretch_59 : decode cX0_stretch 59 = .ok (.getfield 33, 3) := by decide +kernel
theorem dX0_stretch_62 : decode cX0_stretch 62 = .ok (.iload_n 1, 1) := by decide +kernel
theorem dX0_stretch_63 : decode cX0_stretch 63 = .ok (.iaload, 1) := by decide +kernel
theorem dX0_stretch_64 : decode cX0_stretch 64 = .ok (.aload_n 0, 1) := by decide +kernel
theorem dX0_stretch_65 : decode cX0_stretch 65 = .ok (.getfield 24, 3) := by decide +kernel
theorem dX0_stretch_68 : decode cX0_stretch 68 = .ok (.iload_n 1, 1) := by decide +kernel
theorem dX0_stretch_69 : decode cX0_stretch 69 = .ok (.iaload, 1) := by decide +kernel
theorem dX0_stretch_70 : decode cX0_stretch 70 = .ok (.iadd, 1) := by decide +kernel
theorem dX0_stretch_71 : decode cX0_stretch 71 = .ok (.iastore, 1) := by decide +kernel
theorem dX0_stretch_72 : decode cX0_stretch 72 = .ok (.iconst 1, 1) := by decide +kernel
theorem dX0_stretch_73 : decode cX0_stretch 73 = .ok (.istore_n 2, 1) := by decide +kernel
theorem dX0_stretch_74 : decode cX0_stretch 74 = .ok (.aload_n 0, 1) := by decide +kernel
theorem dX0_stretch_75 : decode cX0_stretch 75 = .ok (.getfield 36, 3) := by decide +kernel
theorem dX0_stretch_78 : decode cX0_stretch 78 = .ok (.iload_n 1, 1) := by decide +kernel
theorem dX0_stretch_79 : decode cX0_stretch 79 = .ok (.iaload, 1) := by decide +kernel
theorem dX0_stretch_80 : decode cX0_stretch 80 = .ok (.aload_n 0, 1) := by decide +kernel
theorem dX0_stretch_81 : decode cX0_stretch 81 = .ok (.getfield 24, 3) := by decide +kernel
theorem dX0_stretch_84 : decode cX0_stretch 84 = .ok (.iload 4, 2) := by decide +kernel
theorem dX0_stretch_86 : decode cX0_stretch 86 = .ok (.iaload, 1) := by decide +kernel
theorem dX0_stretch_87 : decode cX0_stretch 87 = .ok (.aload_n 0, 1) := by decide +kernel
theorem dX0_stretch_88 : decode cX0_stretch 88 = .ok (.getfield 36, 3) := by decide +kernel
theorem dX0_stretch_91 : decode cX0_stretch 91 = .ok (.iload 4, 2) := by decide +kernel
theorem dX0_stretch_93 : decode cX0_stretch 93 = .ok (.iaload, 1) := by decide +kernel
theorem dX0_stretch_94 : decode cX0_stretch 94 = .ok (.iadd, 1) := by decide +kernel
theorem dX0_stretch_95 : decode cX0_stretch 95 = .ok (.if_icmp .ge 26, 3) := by decide +kernel
theorem dX0_stretch_98 : decode cX0_stretch 98 = .ok (.aload_n 0, 1) := by decide +kernel
theorem dX0_stretch_99 : decode cX0_stretch 99 = .ok (.getfield 36, 3) := by decide +kernel
theorem dX0_stretch_102 : decode cX0_stretch 102 = .ok (.iload_n 1, 1) := by decide +kernel
theorem dX0_stretch_103 : decode cX0_stretch 103 = .ok (.aload_n 0, 1) := by decide +kernel
theorem dX0_stretch_104 : decode cX0_stretch 104 = .ok (.getfield 24, 3) := by decide +kernel
theorem dX0_stretch_107 : decode cX0_stretch 107 = .ok (.iload 4, 2) := by decide +kernel
theorem dX0_stretch_109 : decode cX0_stretch 109 = .ok (.iaload, 1) := by decide +kernel
theorem dX0_stretch_110 : decode cX0_stretch 110 = .ok (.aload_n 0, 1) := by decide +kernel
theorem dX0_stretch_111 : decode cX0_stretch 111 = .ok (.getfield 36, 3) := by decide +kernel
theorem dX0_stretch_114 : decode cX0_stretch 114 = .ok (.iload 4, 2) := by decide +kernel
theorem dX0_stretch_116 : decode cX0_stretch 116 = .ok (.iaload, 1) := by decide +kernel
theorem dX0_stretch_117 : decode cX0_stretch 117 = .ok (.iadd, 1) := by decide +kernel
theorem dX0_stretch_118 : decode cX0_stretch 118 = .ok (.iastore, 1) := by decide +kernel
theorem dX0_stretch_119 : decode cX0_stretch 119 = .ok (.iconst 1, 1) := by decide +kernel
theorem dX0_stretch_120 : decode cX0_stretch 120 = .ok (.istore_n 2, 1) := by decide +kernel
theorem dX0_stretch_121 : decode cX0_stretch 121 = .ok (.iinc 4 1, 3) := by decide +kernel
theorem dX0_stretch_124 : decode cX0_stretch 124 = .ok (.goto (-113), 3) := by decide +kernel
theorem dX0_stretch_127 : decode cX0_stretch 127 = .ok (.iload_n 2, 1) := by decide +kernel
theorem dX0_stretch_128 : decode cX0_stretch 128 = .ok (.ireturn, 1) := by decide +kernel
theorem dX0_through_0 : decode cX0_through 0 = .ok (.aload_n 0, 1) := by decide +kernel
theorem dX0_through_1 : decode cX0_through 1 = .ok (.getfield 33, 3) := by decide +kernel
theorem dX0_through_4 : decode cX0_through 4 = .ok (.iload_n 1, 1) := by decide +kernel
theorem dX0_through_5 : decode cX0_through 5 = .ok (.iaload, 1) := by decide +kernel
theorem dX0_through_6 : decode cX0_through 6 = .ok (.aload_n 0, 1) := by decide +kernel
theorem dX0_through_7 : decode cX0_through 7 = .ok (.getfield 24, 3) := by decide +kernel
theorem dX0_through_10 : decode cX0_through 10 = .ok (.iload_n 1, 1) := by decide +kernel
theorem dX0_through_11 : decode cX0_through 11 = .ok (.iaload, 1) := by decide +kernel
theorem dX0_through_12 : decode cX0_through 12 = .ok (.iadd, 1) := by decide +kernel
theorem dX0_through_13 : decode cX0_through 13 = .ok (.aload_n 0, 1) := by decide +kernel
theorem dX0_through_14 : decode cX0_through 14 = .ok (.getfield 36, 3) := by decide +kernel
theorem dX0_through_17 : decode cX0_through 17 = .ok (.iload_n 1, 1) := by decide +kernel
theorem dX0_through_18 : decode cX0_through 18 = .ok (.iaload, 1) := by decide +kernel
theorem dX0_through_19 : decode cX0_through 19 = .ok (.iadd, 1) := by decide +kernel
theorem dX0_through_20 : decode cX0_through 20 = .ok (.ireturn, 1) := by decide +kernel
set_option maxRecDepth 20000 in
theorem ggX0_longest_X0_through : GoodIn wsX0_longest wsX0_through := goodIn_r _ [10, 11, 12, 13, 14, 15, 16, 17, 18, 19, 20, 21, 22, 23, 24, 25] (by decide +kernel) (by decide +kernel)
set_option maxRecDepth 20000 in
theorem gX0_longest_X0_through : GoodIn wsX0_longest (wsV RX0 70 RX0 yX0_through wsX0_through) := goodIn_app (goodIn_of _ (by decide +kernel)) ggX0_longest_X0_through
theorem dX0_longest_0 : decode cX0_longest 0 = .ok (.iconst 0, 1) := by decide +kernel
theorem dX0_longest_1 : decode cX0_longest 1 = .ok (.istore_n 1, 1) := by decide +kernel
theorem dX0_longest_2 : decode cX0_longest 2 = .ok (.iconst 0, 1) := by decide +kernel
theorem dX0_longest_3 : decode cX0_longest 3 = .ok (.istore_n 2, 1) := by decide +kernel
theorem dX0_longest_4 : decode cX0_longest 4 = .ok (.iload_n 2, 1) := by decide +kernel
theorem dX0_longest_5 : decode cX0_longest 5 = .ok (.aload_n 0, 1) := by decide +kernel
theorem dX0_longest_6 : decode cX0_longest 6 = .ok (.getfield 46, 3) := by decide +kernel
theorem dX0_longest_9 : decode cX0_longest 9 = .ok (.if_icmp .ge 19, 3) := by decide +kernel
theorem dX0_longest_12 : decode cX0_longest 12 = .ok (.iload_n 1, 1) := by decide +kernel
theorem dX0_longest_13 : decode cX0_longest 13 = .ok (.aload_n 0, 1) := by decide +kernel
theorem dX0_longest_14 : decode cX0_longest 14 = .ok (.iload_n 2, 1) := by decide +kernel
theorem dX0_longest_15 : decode cX0_longest 15 = .ok (.invokevirtual 70, 3) := by decide +kernel
theorem dX0_longest_18 : decode cX0_longest 18 = .ok (.invokestatic 73, 3) := by decide +kernel
theorem dX0_longest_21 : decode cX0_longest 21 = .ok (.istore_n 1, 1) := by decide +kernel
theorem dX0_longest_22 : decode cX0_longest 22 = .ok (.iinc 2 1, 3) := by decide +kernel
theorem dX0_longest_25 : decode cX0_longest 25 = .ok (.goto (-21), 3) := by decide +kernel
theorem dX0_longest_28 : decode cX0_longest 28 = .ok (.iload_n 1, 1) := by decide +kernel
theorem dX0_longest_29 : decode cX0_longest 29 = .ok (.ireturn, 1) := by decide +kernel
set_option maxRecDepth 20000 in
theorem ggX0_burden_X0_workFrom : GoodIn wsX0_burden wsX0_workFrom := goodIn_r _ [13, 1, 2, 3, 4, 14, 15, 16, 17, 18, 19, 20, 21, 22, 23, 24, 25, 26] (by decide +kernel) (by decide +kernel)
set_option maxRecDepth 20000 in
theorem gX0_burden_X0_workFrom : GoodIn wsX0_burden (wsV RX0 79 RX0 yX0_workFrom wsX0_workFrom) := goodIn_app (goodIn_of _ (by decide +kernel)) ggX0_burden_X0_workFrom
theorem dX0_burden_0 : decode cX0_burden 0 = .ok (.iconst 0, 1) := by decide +kernel
theorem dX0_burden_1 : decode cX0_burden 1 = .ok (.istore_n 2, 1) := by decide +kernel
theorem dX0_burden_2 : decode cX0_burden 2 = .ok (.iconst 0, 1) := by decide +kernel
theorem dX0_burden_3 : decode cX0_burden 3 = .ok (.istore_n 3, 1) := by decide +kernel
theorem dX0_burden_4 : decode cX0_burden 4 = .ok (.iload_n 3, 1) := by decide +kernel
theorem dX0_burden_5 : decode cX0_burden 5 = .ok (.aload_n 0, 1) := by decide +kernel
theorem dX0_burden_6 : decode cX0_burden 6 = .ok (.getfield 46, 3) := by decide +kernel
theorem dX0_burden_9 : decode cX0_burden 9 = .ok (.if_icmp .ge 95, 3) := by decide +kernel
theorem dX0_burden_12 : decode cX0_burden 12 = .ok (.iconst 0, 1) := by decide +kernel
theorem dX0_burden_13 : decode cX0_burden 13 = .ok (.istore 4, 2) := by decide +kernel
theorem dX0_burden_15 : decode cX0_burden 15 = .ok (.iload 4, 2) := by decide +kernel
theorem dX0_burden_17 : decode cX0_burden 17 = .ok (.aload_n 0, 1) := by decide +kernel
theorem dX0_burden_18 : decode cX0_burden 18 = .ok (.getfield 46, 3) := by decide +kernel
theorem dX0_burden_21 : decode cX0_burden 21 = .ok (.if_icmp .ge 77, 3) := by decide +kernel
theorem dX0_burden_24 : decode cX0_burden 24 = .ok (.aload_n 0, 1) := by decide +kernel
theorem dX0_burden_25 : decode cX0_burden 25 = .ok (.getfield 21, 3) := by decide +kernel
theorem dX0_burden_28 : decode cX0_burden 28 = .ok (.iload_n 3, 1) := by decide +kernel
theorem dX0_burden_29 : decode cX0_burden 29 = .ok (.iaload, 1) := by decide +kernel
theorem dX0_burden_30 : decode cX0_burden 30 = .ok (.iload_n 1, 1) := by decide +kernel
theorem dX0_burden_31 : decode cX0_burden 31 = .ok (.if_icmp .ne 61, 3) := by decide +kernel
theorem dX0_burden_34 : decode cX0_burden 34 = .ok (.aload_n 0, 1) := by decide +kernel
theorem dX0_burden_35 : decode cX0_burden 35 = .ok (.getfield 21, 3) := by decide +kernel
theorem dX0_burden_38 : decode cX0_burden 38 = .ok (.iload 4, 2) := by decide +kernel
theorem dX0_burden_40 : decode cX0_burden 40 = .ok (.iaload, 1) := by decide +kernel
theorem dX0_burden_41 : decode cX0_burden 41 = .ok (.iload_n 1, 1) := by decide +kernel
theorem dX0_burden_42 : decode cX0_burden 42 = .ok (.if_icmp .ne 50, 3) := by decide +kernel
theorem dX0_burden_45 : decode cX0_burden 45 = .ok (.aload_n 0, 1) := by decide +kernel
theorem dX0_burden_46 : decode cX0_burden 46 = .ok (.iload_n 1, 1) := by decide +kernel
theorem dX0_burden_47 : decode cX0_burden 47 = .ok (.aload_n 0, 1) := by decide +kernel
theorem dX0_burden_48 : decode cX0_burden 48 = .ok (.getfield 33, 3) := by decide +kernel
theorem dX0_burden_51 : decode cX0_burden 51 = .ok (.iload_n 3, 1) := by decide +kernel
theorem dX0_burden_52 : decode cX0_burden 52 = .ok (.iaload, 1) := by decide +kernel
theorem dX0_burden_53 : decode cX0_burden 53 = .ok (.aload_n 0, 1) := by decide +kernel
theorem dX0_burden_54 : decode cX0_burden 54 = .ok (.getfield 36, 3) := by decide +kernel
theorem dX0_burden_57 : decode cX0_burden 57 = .ok (.iload 4, 2) := by decide +kernel
theorem dX0_burden_59 : decode cX0_burden 59 = .ok (.iaload, 1) := by decide +kernel
theorem dX0_burden_60 : decode cX0_burden 60 = .ok (.invokevirtual 79, 3) := by decide +kernel
theorem dX0_burden_63 : decode cX0_burden 63 = .ok (.istore 5, 2) := by decide +kernel
theorem dX0_burden_65 : decode cX0_burden 65 = .ok (.iload 5, 2) := by decide +kernel
theorem dX0_burden_67 : decode cX0_burden 67 = .ok (.ifCond .le 25, 3) := by decide +kernel
theorem dX0_burden_70 : decode cX0_burden 70 = .ok (.iload_n 2, 1) := by decide +kernel
theorem dX0_burden_71 : decode cX0_burden 71 = .ok (.aload_n 0, 1) := by decide +kernel
theorem dX0_burden_72 : decode cX0_burden 72 = .ok (.getfield 33, 3) := by decide +kernel
theorem dX0_burden_75 : decode cX0_burden 75 = .ok (.iload_n 3, 1) := by decide +kernel
theorem dX0_burden_76 : decode cX0_burden 76 = .ok (.iaload, 1) := by decide +kernel
theorem dX0_burden_77 : decode cX0_burden 77 = .ok (.iload 5, 2) := by decide +kernel
theorem dX0_burden_79 : decode cX0_burden 79 = .ok (.iadd, 1) := by decide +kernel
theorem dX0_burden_80 : decode cX0_burden 80 = .ok (.aload_n 0, 1) := by decide +kernel
theorem dX0_burden_81 : decode cX0_burden 81 = .ok (.getfield 36, 3) := by decide +kernel
theorem dX0_burden_84 : decode cX0_burden 84 = .ok (.iload 4, 2) := by decide +kernel
theorem dX0_burden_86 : decode cX0_burden 86 = .ok (.iaload, 1) := by decide +kernel
theorem dX0_burden_87 : decode cX0_burden 87 = .ok (.iadd, 1) := by decide +kernel
theorem dX0_burden_88 : decode cX0_burden 88 = .ok (.invokestatic 73, 3) := by decide +kernel
theorem dX0_burden_91 : decode cX0_burden 91 = .ok (.istore_n 2, 1) := by decide +kernel
theorem dX0_burden_92 : decode cX0_burden 92 = .ok (.iinc 4 1, 3) := by decide +kernel
theorem dX0_burden_95 : decode cX0_burden 95 = .ok (.goto (-80), 3) := by decide +kernel
theorem dX0_burden_98 : decode cX0_burden 98 = .ok (.iinc 3 1, 3) := by decide +kernel
theorem dX0_burden_101 : decode cX0_burden 101 = .ok (.goto (-97), 3) := by decide +kernel
theorem dX0_burden_104 : decode cX0_burden 104 = .ok (.iload_n 2, 1) := by decide +kernel
theorem dX0_burden_105 : decode cX0_burden 105 = .ok (.ireturn, 1) := by decide +kernel
theorem dX0_workFrom_0 : decode cX0_workFrom 0 = .ok (.iconst 0, 1) := by decide +kernel
theorem dX0_workFrom_1 : decode cX0_workFrom 1 = .ok (.istore 4, 2) := by decide +kernel
theorem dX0_workFrom_3 : decode cX0_workFrom 3 = .ok (.iconst 0, 1) := by decide +kernel
theorem dX0_workFrom_4 : decode cX0_workFrom 4 = .ok (.istore 5, 2) := by decide +kernel
theorem dX0_workFrom_6 : decode cX0_workFrom 6 = .ok (.iload 5, 2) := by decide +kernel
theorem dX0_workFrom_8 : decode cX0_workFrom 8 = .ok (.aload_n 0, 1) := by decide +kernel
theorem dX0_workFrom_9 : decode cX0_workFrom 9 = .ok (.getfield 46, 3) := by decide +kernel
theorem dX0_workFrom_12 : decode cX0_workFrom 12 = .ok (.if_icmp .ge 54, 3) := by decide +kernel
theorem dX0_workFrom_15 : decode cX0_workFrom 15 = .ok (.aload_n 0, 1) := by decide +kernel
theorem dX0_workFrom_16 : decode cX0_workFrom 16 = .ok (.getfield 21, 3) := by decide +kernel
theorem dX0_workFrom_19 : decode cX0_workFrom 19 = .ok (.iload 5, 2) := by decide +kernel
theorem dX0_workFrom_21 : decode cX0_workFrom 21 = .ok (.iaload, 1) := by decide +kernel
theorem dX0_workFrom_22 : decode cX0_workFrom 22 = .ok (.iload_n 1, 1) := by decide +kernel
theorem dX0_workFrom_23 : decode cX0_workFrom 23 = .ok (.if_icmp .ne 37, 3) := by decide +kernel
theorem dX0_workFrom_26 : decode cX0_workFrom 26 = .ok (.aload_n 0, 1) := by decide +kernel
theorem dX0_workFrom_27 : decode cX0_workFrom 27 = .ok (.getfield 33, 3) := by decide +kernel
theorem dX0_workFrom_30 : decode cX0_workFrom 30 = .ok (.iload 5, 2) := by decide +kernel
theorem dX0_workFrom_32 : decode cX0_workFrom 32 = .ok (.iaload, 1) := by decide +kernel
theorem dX0_workFrom_33 : decode cX0_workFrom 33 = .ok (.iload_n 2, 1) := by decide +kernel
theorem dX0_workFrom_34 : decode cX0_workFrom 34 = .ok (.if_icmp .lt 26, 3) := by decide +kernel
theorem dX0_workFrom_37 : decode cX0_workFrom 37 = .ok (.aload_n 0, 1) := by decide +kernel
theorem dX0_workFrom_38 : decode cX0_workFrom 38 = .ok (.getfield 36, 3) := by decide +kernel
theorem dX0_workFrom_41 : decode cX0_workFrom 41 = .ok (.iload 5, 2) := by decide +kernel
theorem dX0_workFrom_43 : decode cX0_workFrom 43 = .ok (.iaload, 1) := by decide +kernel
theorem dX0_workFrom_44 : decode cX0_workFrom 44 = .ok (.iload_n 3, 1) := by decide +kernel
theorem dX0_workFrom_45 : decode cX0_workFrom 45 = .ok (.if_icmp .lt 15, 3) := by decide +kernel
theorem dX0_workFrom_48 : decode cX0_workFrom 48 = .ok (.iload 4, 2) := by decide +kernel
theorem dX0_workFrom_50 : decode cX0_workFrom 50 = .ok (.aload_n 0, 1) := by decide +kernel
theorem dX0_workFrom_51 : decode cX0_workFrom 51 = .ok (.getfield 24, 3) := by decide +kernel
theorem dX0_workFrom_54 : decode cX0_workFrom 54 = .ok (.iload 5, 2) := by decide +kernel
theorem dX0_workFrom_56 : decode cX0_workFrom 56 = .ok (.iaload, 1) := by decide +kernel
theorem dX0_workFrom_57 : decode cX0_workFrom 57 = .ok (.iadd, 1) := by decide +kernel
theorem dX0_workFrom_58 : decode cX0_workFrom 58 = .ok (.istore 4, 2) := by decide +kernel
theorem dX0_workFrom_60 : decode cX0_workFrom 60 = .ok (.iinc 5 1, 3) := by decide +kernel
theorem dX0_workFrom_63 : decode cX0_workFrom 63 = .ok (.goto (-57), 3) := by decide +kernel
theorem dX0_workFrom_66 : decode cX0_workFrom 66 = .ok (.iload 4, 2) := by decide +kernel
theorem dX0_workFrom_68 : decode cX0_workFrom 68 = .ok (.ireturn, 1) := by decide +kernel
set_option maxRecDepth 20000 in
theorem ggX0_bound_X0_longest : GoodIn wsX0_bound wsX0_longest := goodIn_r _ [9, 10, 1, 2, 3, 4, 11, 12, 13, 8, 14, 15, 16, 17, 27, 28, 29, 30, 31, 32, 33, 34, 35, 36, 37, 38] (by decide +kernel) (by decide +kernel)
set_option maxRecDepth 20000 in
theorem gX0_bound_X0_longest : GoodIn wsX0_bound (wsV RX0 83 RX0 yX0_longest wsX0_longest) := goodIn_app (goodIn_of _ (by decide +kernel)) ggX0_bound_X0_longest
set_option maxRecDepth 20000 in
theorem ggX0_bound_X0_burden : GoodIn wsX0_bound wsX0_burden := goodIn_r _ [21, 10, 22, 15, 17, 1, 2, 3, 4, 23, 24, 25, 8, 26, 16, 27, 28, 29, 30, 31, 32, 33, 34, 35, 36, 37, 38] (by decide +kernel) (by decide +kernel)
set_option maxRecDepth 20000 in
theorem gX0_bound_X0_burden : GoodIn wsX0_bound (wsV RX0 87 RX0 yX0_burden wsX0_burden) := goodIn_app (goodIn_of _ (by decide +kernel)) ggX0_bound_X0_burden
theorem dX0_bound_0 : decode cX0_bound 0 = .ok (.aload_n 0, 1) := by decide +kernel
theorem dX0_bound_1 : decode cX0_bound 1 = .ok (.invokevirtual 83, 3) := by decide +kernel
theorem dX0_bound_4 : decode cX0_bound 4 = .ok (.istore_n 1, 1) := by decide +kernel
theorem dX0_bound_5 : decode cX0_bound 5 = .ok (.iconst 0, 1) := by decide +kernel
theorem dX0_bound_6 : decode cX0_bound 6 = .ok (.istore_n 2, 1) := by decide +kernel
theorem dX0_bound_7 : decode cX0_bound 7 = .ok (.iload_n 2, 1) := by decide +kernel
theorem dX0_bound_8 : decode cX0_bound 8 = .ok (.iconst 4, 1) := by decide +kernel
theorem dX0_bound_9 : decode cX0_bound 9 = .ok (.if_icmp .ge 19, 3) := by decide +kernel
theorem dX0_bound_12 : decode cX0_bound 12 = .ok (.iload_n 1, 1) := by decide +kernel
theorem dX0_bound_13 : decode cX0_bound 13 = .ok (.aload_n 0, 1) := by decide +kernel
theorem dX0_bound_14 : decode cX0_bound 14 = .ok (.iload_n 2, 1) := by decide +kernel
theorem dX0_bound_15 : decode cX0_bound 15 = .ok (.invokevirtual 87, 3) := by decide +kernel
theorem dX0_bound_18 : decode cX0_bound 18 = .ok (.invokestatic 73, 3) := by decide +kernel
theorem dX0_bound_21 : decode cX0_bound 21 = .ok (.istore_n 1, 1) := by decide +kernel
theorem dX0_bound_22 : decode cX0_bound 22 = .ok (.iinc 2 1, 3) := by decide +kernel
theorem dX0_bound_25 : decode cX0_bound 25 = .ok (.goto (-18), 3) := by decide +kernel
theorem dX0_bound_28 : decode cX0_bound 28 = .ok (.iload_n 1, 1) := by decide +kernel
theorem dX0_bound_29 : decode cX0_bound 29 = .ok (.ireturn, 1) := by decide +kernel
theorem dX0_pairs_0 : decode cX0_pairs 0 = .ok (.iconst 0, 1) := by decide +kernel
theorem dX0_pairs_1 : decode cX0_pairs 1 = .ok (.istore_n 1, 1) := by decide +kernel
theorem dX0_pairs_2 : decode cX0_pairs 2 = .ok (.iconst 0, 1) := by decide +kernel
theorem dX0_pairs_3 : decode cX0_pairs 3 = .ok (.istore_n 2, 1) := by decide +kernel
theorem dX0_pairs_4 : decode cX0_pairs 4 = .ok (.iload_n 2, 1) := by decide +kernel
theorem dX0_pairs_5 : decode cX0_pairs 5 = .ok (.aload_n 0, 1) := by decide +kernel
theorem dX0_pairs_6 : decode cX0_pairs 6 = .ok (.getfield 46, 3) := by decide +kernel
theorem dX0_pairs_9 : decode cX0_pairs 9 = .ok (.if_icmp .ge 45, 3) := by decide +kernel
theorem dX0_pairs_12 : decode cX0_pairs 12 = .ok (.iload_n 2, 1) := by decide +kernel
theorem dX0_pairs_13 : decode cX0_pairs 13 = .ok (.iconst 1, 1) := by decide +kernel
theorem dX0_pairs_14 : decode cX0_pairs 14 = .ok (.iadd, 1) := by decide +kernel
theorem dX0_pairs_15 : decode cX0_pairs 15 = .ok (.istore_n 3, 1) := by decide +kernel
theorem dX0_pairs_16 : decode cX0_pairs 16 = .ok (.iload_n 3, 1) := by decide +kernel
theorem dX0_pairs_17 : decode cX0_pairs 17 = .ok (.aload_n 0, 1) := by decide +kernel
theorem dX0_pairs_18 : decode cX0_pairs 18 = .ok (.getfield 46, 3) := by decide +kernel
theorem dX0_pairs_21 : decode cX0_pairs 21 = .ok (.if_icmp .ge 27, 3) := by decide +kernel
theorem dX0_pairs_24 : decode cX0_pairs 24 = .ok (.aload_n 0, 1) := by decide +kernel
theorem dX0_pairs_25 : decode cX0_pairs 25 = .ok (.getfield 21, 3) := by decide +kernel
theorem dX0_pairs_28 : decode cX0_pairs 28 = .ok (.iload_n 2, 1) := by decide +kernel
theorem dX0_pairs_29 : decode cX0_pairs 29 = .ok (.iaload, 1) := by decide +kernel
theorem dX0_pairs_30 : decode cX0_pairs 30 = .ok (.aload_n 0, 1) := by decide +kernel
theorem dX0_pairs_31 : decode cX0_pairs 31 = .ok (.getfield 21, 3) := by decide +kernel
theorem dX0_pairs_34 : decode cX0_pairs 34 = .ok (.iload_n 3, 1) := by decide +kernel
theorem dX0_pairs_35 : decode cX0_pairs 35 = .ok (.iaload, 1) := by decide +kernel
theorem dX0_pairs_36 : decode cX0_pairs 36 = .ok (.if_icmp .ne 6, 3) := by decide +kernel
theorem dX0_pairs_39 : decode cX0_pairs 39 = .ok (.iinc 1 1, 3) := by decide +kernel
theorem dX0_pairs_42 : decode cX0_pairs 42 = .ok (.iinc 3 1, 3) := by decide +kernel
theorem dX0_pairs_45 : decode cX0_pairs 45 = .ok (.goto (-29), 3) := by decide +kernel
theorem dX0_pairs_48 : decode cX0_pairs 48 = .ok (.iinc 2 1, 3) := by decide +kernel
theorem dX0_pairs_51 : decode cX0_pairs 51 = .ok (.goto (-47), 3) := by decide +kernel
theorem dX0_pairs_54 : decode cX0_pairs 54 = .ok (.iload_n 1, 1) := by decide +kernel
theorem dX0_pairs_55 : decode cX0_pairs 55 = .ok (.ireturn, 1) := by decide +kernel
set_option maxRecDepth 20000 in
theorem ggX0_tiedPairs_J6_bitCount_0f7a4 : GoodIn wsX0_tiedPairs wsJ6_bitCount_0f7a4 := goodIn_r _ [6, 7, 8, 9] (by decide +kernel) (by decide +kernel)
set_option maxRecDepth 20000 in
theorem gX0_tiedPairs_J6_bitCount_0f7a4 : GoodIn wsX0_tiedPairs (va_wsS RX0 90 yJ6_bitCount_0f7a4 wsJ6_bitCount_0f7a4) := goodIn_app (goodIn_of _ (by decide +kernel)) ggX0_tiedPairs_J6_bitCount_0f7a4
theorem dX0_tiedPairs_0 : decode cX0_tiedPairs 0 = .ok (.iconst 0, 1) := by decide +kernel
theorem dX0_tiedPairs_1 : decode cX0_tiedPairs 1 = .ok (.istore_n 1, 1) := by decide +kernel
theorem dX0_tiedPairs_2 : decode cX0_tiedPairs 2 = .ok (.iconst 0, 1) := by decide +kernel
theorem dX0_tiedPairs_3 : decode cX0_tiedPairs 3 = .ok (.istore_n 2, 1) := by decide +kernel
theorem dX0_tiedPairs_4 : decode cX0_tiedPairs 4 = .ok (.iload_n 2, 1) := by decide +kernel
theorem dX0_tiedPairs_5 : decode cX0_tiedPairs 5 = .ok (.aload_n 0, 1) := by decide +kernel
theorem dX0_tiedPairs_6 : decode cX0_tiedPairs 6 = .ok (.getfield 46, 3) := by decide +kernel
theorem dX0_tiedPairs_9 : decode cX0_tiedPairs 9 = .ok (.if_icmp .ge 21, 3) := by decide +kernel
theorem dX0_tiedPairs_12 : decode cX0_tiedPairs 12 = .ok (.iload_n 1, 1) := by decide +kernel
theorem dX0_tiedPairs_13 : decode cX0_tiedPairs 13 = .ok (.aload_n 0, 1) := by decide +kernel
theorem dX0_tiedPairs_14 : decode cX0_tiedPairs 14 = .ok (.getfield 30, 3) := by decide +kernel
theorem dX0_tiedPairs_17 : decode cX0_tiedPairs 17 = .ok (.iload_n 2, 1) := by decide +kernel
theorem dX0_tiedPairs_18 : decode cX0_tiedPairs 18 = .ok (.iaload, 1) := by decide +kernel
theorem dX0_tiedPairs_19 : decode cX0_tiedPairs 19 = .ok (.invokestatic 90, 3) := by decide +kernel
theorem dX0_tiedPairs_22 : decode cX0_tiedPairs 22 = .ok (.iadd, 1) := by decide +kernel
theorem dX0_tiedPairs_23 : decode cX0_tiedPairs 23 = .ok (.istore_n 1, 1) := by decide +kernel
theorem dX0_tiedPairs_24 : decode cX0_tiedPairs 24 = .ok (.iinc 2 1, 3) := by decide +kernel
theorem dX0_tiedPairs_27 : decode cX0_tiedPairs 27 = .ok (.goto (-23), 3) := by decide +kernel
theorem dX0_tiedPairs_30 : decode cX0_tiedPairs 30 = .ok (.iload_n 1, 1) := by decide +kernel
theorem dX0_tiedPairs_31 : decode cX0_tiedPairs 31 = .ok (.ireturn, 1) := by decide +kernel
set_option maxRecDepth 20000 in
theorem ggX0_force_X0_tiedPairs : GoodIn wsX0_force wsX0_tiedPairs := goodIn_r _ [12, 3, 1, 13, 14, 15, 16, 17, 18, 19, 84, 85, 86, 87, 88, 89, 90, 91, 92, 93, 94, 95] (by decide +kernel) (by decide +kernel)
set_option maxRecDepth 20000 in
theorem gX0_force_X0_tiedPairs : GoodIn wsX0_force (wsV RX0 101 RX0 yX0_tiedPairs wsX0_tiedPairs) := goodIn_app (goodIn_of _ (by decide +kernel)) ggX0_force_X0_tiedPairs
set_option maxRecDepth 20000 in
theorem ggX0_force_X0_forceFrom : GoodIn wsX0_force wsX0_forceFrom := goodIn_r _ [23, 3, 24, 25, 26, 11, 27, 28, 29, 30, 31, 32, 33, 34, 35, 36, 37, 38, 39, 40, 1, 41, 42, 43, 44, 45, 46, 47, 48, 49, 50, 51, 52, 53, 54, 55, 56, 57, 58, 59, 60, 61, 62, 63, 64, 65, 66, 67, 68, 69, 70, 71, 84, 85, 86, 87, 88, 89, 90, 91, 92, 93, 94, 95] (by decide +kernel) (by decide +kernel)
set_option maxRecDepth 20000 in
theorem gX0_force_X0_forceFrom : GoodIn wsX0_force (wsV RX0 104 RX0 yX0_forceFrom wsX0_forceFrom) := goodIn_app (goodIn_of _ (by decide +kernel)) ggX0_force_X0_forceFrom
set_option maxRecDepth 20000 in
theorem ggX0_force_X0_longest : GoodIn wsX0_force wsX0_longest := goodIn_r _ [75, 3, 76, 77, 78, 79, 80, 81, 82, 11, 83, 48, 49, 50, 84, 85, 86, 87, 88, 89, 90, 91, 92, 93, 94, 95] (by decide +kernel) (by decide +kernel)
set_option maxRecDepth 20000 in
theorem gX0_force_X0_longest : GoodIn wsX0_force (wsV RX0 83 RX0 yX0_longest wsX0_longest) := goodIn_app (goodIn_of _ (by decide +kernel)) ggX0_force_X0_longest
set_option maxRecDepth 20000 in
theorem ggX0_force_X0_measure : GoodIn wsX0_force wsX0_measure := goodIn_r _ [67, 3, 48, 50, 68, 69, 70, 11, 71, 49, 55, 56, 57, 58, 59, 1, 41, 42, 43, 84, 85, 86, 87, 88, 89, 90, 91, 92, 93, 94, 95] (by decide +kernel) (by decide +kernel)
set_option maxRecDepth 20000 in
theorem gX0_force_X0_measure : GoodIn wsX0_force (wsV RX0 53 RX0 yX0_measure wsX0_measure) := goodIn_app (goodIn_of _ (by decide +kernel)) ggX0_force_X0_measure
theorem dX0_force_0 : decode cX0_force 0 = .ok (.aload_n 0, 1) := by decide +kernel
theorem dX0_force_1 : decode cX0_force 1 = .ok (.getfield 30, 3) := by decide +kernel
theorem dX0_force_4 : decode cX0_force 4 = .ok (.iconst 0, 1) := by decide +kernel
theorem dX0_force_5 : decode cX0_force 5 = .ok (.aload_n 0, 1) := by decide +kernel
theorem dX0_force_6 : decode cX0_force 6 = .ok (.getfield 39, 3) := by decide +kernel
theorem dX0_force_9 : decode cX0_force 9 = .ok (.iconst 0, 1) := by decide +kernel
theorem dX0_force_10 : decode cX0_force 10 = .ok (.aload_n 0, 1) := by decide +kernel
theorem dX0_force_11 : decode cX0_force 11 = .ok (.getfield 46, 3) := by decide +kernel
theorem dX0_force_14 : decode cX0_force 14 = .ok (.invokestatic 95, 3) := by decide +kernel
theorem dX0_force_17 : decode cX0_force 17 = .ok (.aload_n 0, 1) := by decide +kernel
theorem dX0_force_18 : decode cX0_force 18 = .ok (.invokevirtual 101, 3) := by decide +kernel
theorem dX0_force_21 : decode cX0_force 21 = .ok (.istore_n 2, 1) := by decide +kernel
theorem dX0_force_22 : decode cX0_force 22 = .ok (.iconst (-1), 1) := by decide +kernel
theorem dX0_force_23 : decode cX0_force 23 = .ok (.istore_n 3, 1) := by decide +kernel
theorem dX0_force_24 : decode cX0_force 24 = .ok (.iconst 1, 1) := by decide +kernel
theorem dX0_force_25 : decode cX0_force 25 = .ok (.istore 4, 2) := by decide +kernel
theorem dX0_force_27 : decode cX0_force 27 = .ok (.iconst 0, 1) := by decide +kernel
theorem dX0_force_28 : decode cX0_force 28 = .ok (.istore 5, 2) := by decide +kernel
theorem dX0_force_30 : decode cX0_force 30 = .ok (.iload 5, 2) := by decide +kernel
theorem dX0_force_32 : decode cX0_force 32 = .ok (.sipush 144, 3) := by decide +kernel
theorem dX0_force_35 : decode cX0_force 35 = .ok (.if_icmp .ge 59, 3) := by decide +kernel
theorem dX0_force_38 : decode cX0_force 38 = .ok (.iload 4, 2) := by decide +kernel
theorem dX0_force_40 : decode cX0_force 40 = .ok (.ifCond .eq 54, 3) := by decide +kernel
theorem dX0_force_43 : decode cX0_force 43 = .ok (.iload_n 3, 1) := by decide +kernel
theorem dX0_force_44 : decode cX0_force 44 = .ok (.aload_n 0, 1) := by decide +kernel
theorem dX0_force_45 : decode cX0_force 45 = .ok (.invokevirtual 101, 3) := by decide +kernel
theorem dX0_force_48 : decode cX0_force 48 = .ok (.if_icmp .eq 46, 3) := by decide +kernel
theorem dX0_force_51 : decode cX0_force 51 = .ok (.aload_n 0, 1) := by decide +kernel
theorem dX0_force_52 : decode cX0_force 52 = .ok (.invokevirtual 101, 3) := by decide +kernel
theorem dX0_force_55 : decode cX0_force 55 = .ok (.istore_n 3, 1) := by decide +kernel
theorem dX0_force_56 : decode cX0_force 56 = .ok (.iconst 0, 1) := by decide +kernel
theorem dX0_force_57 : decode cX0_force 57 = .ok (.istore 6, 2) := by decide +kernel
theorem dX0_force_59 : decode cX0_force 59 = .ok (.iload 6, 2) := by decide +kernel
theorem dX0_force_61 : decode cX0_force 61 = .ok (.aload_n 0, 1) := by decide +kernel
theorem dX0_force_62 : decode cX0_force 62 = .ok (.getfield 46, 3) := by decide +kernel
theorem dX0_force_65 : decode cX0_force 65 = .ok (.if_icmp .ge 23, 3) := by decide +kernel
theorem dX0_force_68 : decode cX0_force 68 = .ok (.iload 4, 2) := by decide +kernel
theorem dX0_force_70 : decode cX0_force 70 = .ok (.ifCond .eq 18, 3) := by decide +kernel
theorem dX0_force_73 : decode cX0_force 73 = .ok (.aload_n 0, 1) := by decide +kernel
theorem dX0_force_74 : decode cX0_force 74 = .ok (.iload 6, 2) := by decide +kernel
theorem dX0_force_76 : decode cX0_force 76 = .ok (.iload_n 1, 1) := by decide +kernel
theorem dX0_force_77 : decode cX0_force 77 = .ok (.invokevirtual 104, 3) := by decide +kernel
theorem dX0_force_80 : decode cX0_force 80 = .ok (.istore 4, 2) := by decide +kernel
theorem dX0_force_82 : decode cX0_force 82 = .ok (.iinc 6 1, 3) := by decide +kernel
theorem dX0_force_85 : decode cX0_force 85 = .ok (.goto (-26), 3) := by decide +kernel
theorem dX0_force_88 : decode cX0_force 88 = .ok (.iinc 5 1, 3) := by decide +kernel
theorem dX0_force_91 : decode cX0_force 91 = .ok (.goto (-61), 3) := by decide +kernel
theorem dX0_force_94 : decode cX0_force 94 = .ok (.iload 4, 2) := by decide +kernel
theorem dX0_force_96 : decode cX0_force 96 = .ok (.ifCond .eq 15, 3) := by decide +kernel
theorem dX0_force_99 : decode cX0_force 99 = .ok (.aload_n 0, 1) := by decide +kernel
theorem dX0_force_100 : decode cX0_force 100 = .ok (.invokevirtual 83, 3) := by decide +kernel
theorem dX0_force_103 : decode cX0_force 103 = .ok (.iload_n 1, 1) := by decide +kernel
theorem dX0_force_104 : decode cX0_force 104 = .ok (.if_icmp .ge 7, 3) := by decide +kernel
theorem dX0_force_107 : decode cX0_force 107 = .ok (.iload_n 3, 1) := by decide +kernel
theorem dX0_force_108 : decode cX0_force 108 = .ok (.iload_n 2, 1) := by decide +kernel
theorem dX0_force_109 : decode cX0_force 109 = .ok (.isub, 1) := by decide +kernel
theorem dX0_force_110 : decode cX0_force 110 = .ok (.ireturn, 1) := by decide +kernel
theorem dX0_force_111 : decode cX0_force 111 = .ok (.aload_n 0, 1) := by decide +kernel
theorem dX0_force_112 : decode cX0_force 112 = .ok (.getfield 39, 3) := by decide +kernel
theorem dX0_force_115 : decode cX0_force 115 = .ok (.iconst 0, 1) := by decide +kernel
theorem dX0_force_116 : decode cX0_force 116 = .ok (.aload_n 0, 1) := by decide +kernel
theorem dX0_force_117 : decode cX0_force 117 = .ok (.getfield 30, 3) := by decide +kernel
theorem dX0_force_120 : decode cX0_force 120 = .ok (.iconst 0, 1) := by decide +kernel
theorem dX0_force_121 : decode cX0_force 121 = .ok (.aload_n 0, 1) := by decide +kernel
theorem dX0_force_122 : decode cX0_force 122 = .ok (.getfield 46, 3) := by decide +kernel
theorem dX0_force_125 : decode cX0_force 125 = .ok (.invokestatic 95, 3) := by decide +kernel
theorem dX0_force_128 : decode cX0_force 128 = .ok (.aload_n 0, 1) := by decide +kernel
theorem dX0_force_129 : decode cX0_force 129 = .ok (.invokevirtual 53, 3) := by decide +kernel
theorem dX0_force_132 : decode cX0_force 132 = .ok (.bipush (-5), 2) := by decide +kernel
theorem dX0_force_134 : decode cX0_force 134 = .ok (.ireturn, 1) := by decide +kernel
set_option maxRecDepth 20000 in
theorem ggX0_forceFrom_X0_isPair : GoodIn wsX0_forceFrom wsX0_isPair := goodIn_r _ [6, 7, 8, 9, 10, 5, 11, 1, 52, 53, 54, 55, 56, 57, 58, 59, 60, 61, 62, 63] (by decide +kernel) (by decide +kernel)
set_option maxRecDepth 20000 in
theorem gX0_forceFrom_X0_isPair : GoodIn wsX0_forceFrom (wsV RX0 107 RX0 yX0_isPair wsX0_isPair) := goodIn_app (goodIn_of _ (by decide +kernel)) ggX0_forceFrom_X0_isPair
set_option maxRecDepth 20000 in
theorem ggX0_forceFrom_X0_isTied : GoodIn wsX0_forceFrom wsX0_isTied := goodIn_r _ [15, 16, 17, 18, 5, 19, 20, 21, 22, 23, 52, 53, 54, 55, 56, 57, 58, 59, 60, 61, 62, 63] (by decide +kernel) (by decide +kernel)
set_option maxRecDepth 20000 in
theorem gX0_forceFrom_X0_isTied : GoodIn wsX0_forceFrom (wsV RX0 110 RX0 yX0_isTied wsX0_isTied) := goodIn_app (goodIn_of _ (by decide +kernel)) ggX0_forceFrom_X0_isTied
set_option maxRecDepth 20000 in
theorem ggX0_forceFrom_X0_mustPrecede : GoodIn wsX0_forceFrom wsX0_mustPrecede := goodIn_r _ [27, 28, 29, 30, 52, 53, 54, 55, 56, 57, 58, 59, 60, 61, 62, 63] (by decide +kernel) (by decide +kernel)
set_option maxRecDepth 20000 in
theorem gX0_forceFrom_X0_mustPrecede : GoodIn wsX0_forceFrom (wsV RX0 113 RX0 yX0_mustPrecede wsX0_mustPrecede) := goodIn_app (goodIn_of _ (by decide +kernel)) ggX0_forceFrom_X0_mustPrecede
set_option maxRecDepth 20000 in
theorem ggX0_forceFrom_X0_leads : GoodIn wsX0_forceFrom wsX0_leads := goodIn_r _ [34, 1, 35, 36, 37, 5, 38, 39, 20, 21, 22, 23, 52, 53, 54, 55, 56, 57, 58, 59, 60, 61, 62, 63] (by decide +kernel) (by decide +kernel)
set_option maxRecDepth 20000 in
theorem gX0_forceFrom_X0_leads : GoodIn wsX0_forceFrom (wsV RX0 117 RX0 yX0_leads wsX0_leads) := goodIn_app (goodIn_of _ (by decide +kernel)) ggX0_forceFrom_X0_leads
set_option maxRecDepth 20000 in
theorem ggX0_forceFrom_X0_putArc : GoodIn wsX0_forceFrom wsX0_putArc := goodIn_r _ [43, 20, 44, 45, 46, 5, 47, 1, 28, 30, 48, 49, 50, 51, 29, 35, 36, 37, 38, 39, 21, 22, 23, 52, 53, 54, 55, 56, 57, 58, 59, 60, 61, 62, 63] (by decide +kernel) (by decide +kernel)
set_option maxRecDepth 20000 in
theorem gX0_forceFrom_X0_putArc : GoodIn wsX0_forceFrom (wsV RX0 120 RX0 yX0_putArc wsX0_putArc) := goodIn_app (goodIn_of _ (by decide +kernel)) ggX0_forceFrom_X0_putArc
theorem dX0_forceFrom_0 : decode cX0_forceFrom 0 = .ok (.iconst 0, 1) := by decide +kernel
theorem dX0_forceFrom_1 : decode cX0_forceFrom 1 = .ok (.istore_n 3, 1) := by decide +kernel
theorem dX0_forceFrom_2 : decode cX0_forceFrom 2 = .ok (.iload_n 3, 1) := by decide +kernel
theorem dX0_forceFrom_3 : decode cX0_forceFrom 3 = .ok (.aload_n 0, 1) := by decide +kernel
theorem dX0_forceFrom_4 : decode cX0_forceFrom 4 = .ok (.getfield 46, 3) := by decide +kernel
theorem dX0_forceFrom_7 : decode cX0_forceFrom 7 = .ok (.if_icmp .ge 64, 3) := by decide +kernel
theorem dX0_forceFrom_10 : decode cX0_forceFrom 10 = .ok (.aload_n 0, 1) := by decide +kernel
theorem dX0_forceFrom_11 : decode cX0_forceFrom 11 = .ok (.iload_n 1, 1) := by decide +kernel
theorem dX0_forceFrom_12 : decode cX0_forceFrom 12 = .ok (.iload_n 3, 1) := by decide +kernel
theorem dX0_forceFrom_13 : decode cX0_forceFrom 13 = .ok (.invokevirtual 107, 3) := by decide +kernel
theorem dX0_forceFrom_16 : decode cX0_forceFrom 16 = .ok (.ifCond .eq 49, 3) := by decide +kernel
theorem dX0_forceFrom_19 : decode cX0_forceFrom 19 = .ok (.aload_n 0, 1) := by decide +kernel
theorem dX0_forceFrom_20 : decode cX0_forceFrom 20 = .ok (.iload_n 1, 1) := by decide +kernel
theorem dX0_forceFrom_21 : decode cX0_forceFrom 21 = .ok (.iload_n 3, 1) := by decide +kernel
theorem dX0_forceFrom_22 : decode cX0_forceFrom 22 = .ok (.invokevirtual 110, 3) := by decide +kernel
theorem dX0_forceFrom_25 : decode cX0_forceFrom 25 = .ok (.ifCond .ne 40, 3) := by decide +kernel
theorem dX0_forceFrom_28 : decode cX0_forceFrom 28 = .ok (.aload_n 0, 1) := by decide +kernel
theorem dX0_forceFrom_29 : decode cX0_forceFrom 29 = .ok (.iload_n 1, 1) := by decide +kernel
theorem dX0_forceFrom_30 : decode cX0_forceFrom 30 = .ok (.iload_n 3, 1) := by decide +kernel
theorem dX0_forceFrom_31 : decode cX0_forceFrom 31 = .ok (.iload_n 2, 1) := by decide +kernel
theorem dX0_forceFrom_32 : decode cX0_forceFrom 32 = .ok (.invokevirtual 113, 3) := by decide +kernel
theorem dX0_forceFrom_35 : decode cX0_forceFrom 35 = .ok (.ifCond .eq 30, 3) := by decide +kernel
theorem dX0_forceFrom_38 : decode cX0_forceFrom 38 = .ok (.aload_n 0, 1) := by decide +kernel
theorem dX0_forceFrom_39 : decode cX0_forceFrom 39 = .ok (.iload_n 3, 1) := by decide +kernel
theorem dX0_forceFrom_40 : decode cX0_forceFrom 40 = .ok (.iload_n 1, 1) := by decide +kernel
theorem dX0_forceFrom_41 : decode cX0_forceFrom 41 = .ok (.iload_n 2, 1) := by decide +kernel
theorem dX0_forceFrom_42 : decode cX0_forceFrom 42 = .ok (.invokevirtual 113, 3) := by decide +kernel
theorem dX0_forceFrom_45 : decode cX0_forceFrom 45 = .ok (.ifCond .ne 12, 3) := by decide +kernel
theorem dX0_forceFrom_48 : decode cX0_forceFrom 48 = .ok (.aload_n 0, 1) := by decide +kernel
theorem dX0_forceFrom_49 : decode cX0_forceFrom 49 = .ok (.iload_n 3, 1) := by decide +kernel
theorem dX0_forceFrom_50 : decode cX0_forceFrom 50 = .ok (.iload_n 1, 1) := by decide +kernel
theorem dX0_forceFrom_51 : decode cX0_forceFrom 51 = .ok (.invokevirtual 117, 3) := by decide +kernel
theorem dX0_forceFrom_54 : decode cX0_forceFrom 54 = .ok (.ifCond .eq 5, 3) := by decide +kernel
theorem dX0_forceFrom_57 : decode cX0_forceFrom 57 = .ok (.iconst 0, 1) := by decide +kernel
theorem dX0_forceFrom_58 : decode cX0_forceFrom 58 = .ok (.ireturn, 1) := by decide +kernel
theorem dX0_forceFrom_59 : decode cX0_forceFrom 59 = .ok (.aload_n 0, 1) := by decide +kernel
theorem dX0_forceFrom_60 : decode cX0_forceFrom 60 = .ok (.iload_n 1, 1) := by decide +kernel
theorem dX0_forceFrom_61 : decode cX0_forceFrom 61 = .ok (.iload_n 3, 1) := by decide +kernel
theorem dX0_forceFrom_62 : decode cX0_forceFrom 62 = .ok (.invokevirtual 120, 3) := by decide +kernel
theorem dX0_forceFrom_65 : decode cX0_forceFrom 65 = .ok (.iinc 3 1, 3) := by decide +kernel
theorem dX0_forceFrom_68 : decode cX0_forceFrom 68 = .ok (.goto (-66), 3) := by decide +kernel
theorem dX0_forceFrom_71 : decode cX0_forceFrom 71 = .ok (.iconst 1, 1) := by decide +kernel
theorem dX0_forceFrom_72 : decode cX0_forceFrom 72 = .ok (.ireturn, 1) := by decide +kernel
theorem dX0_mustPrecede_0 : decode cX0_mustPrecede 0 = .ok (.aload_n 0, 1) := by decide +kernel
theorem dX0_mustPrecede_1 : decode cX0_mustPrecede 1 = .ok (.getfield 33, 3) := by decide +kernel
theorem dX0_mustPrecede_4 : decode cX0_mustPrecede 4 = .ok (.iload_n 2, 1) := by decide +kernel
theorem dX0_mustPrecede_5 : decode cX0_mustPrecede 5 = .ok (.iaload, 1) := by decide +kernel
theorem dX0_mustPrecede_6 : decode cX0_mustPrecede 6 = .ok (.aload_n 0, 1) := by decide +kernel
theorem dX0_mustPrecede_7 : decode cX0_mustPrecede 7 = .ok (.getfield 24, 3) := by decide +kernel
theorem dX0_mustPrecede_10 : decode cX0_mustPrecede 10 = .ok (.iload_n 2, 1) := by decide +kernel
theorem dX0_mustPrecede_11 : decode cX0_mustPrecede 11 = .ok (.iaload, 1) := by decide +kernel
theorem dX0_mustPrecede_12 : decode cX0_mustPrecede 12 = .ok (.iadd, 1) := by decide +kernel
theorem dX0_mustPrecede_13 : decode cX0_mustPrecede 13 = .ok (.aload_n 0, 1) := by decide +kernel
theorem dX0_mustPrecede_14 : decode cX0_mustPrecede 14 = .ok (.getfield 24, 3) := by decide +kernel
theorem dX0_mustPrecede_17 : decode cX0_mustPrecede 17 = .ok (.iload_n 1, 1) := by decide +kernel
theorem dX0_mustPrecede_18 : decode cX0_mustPrecede 18 = .ok (.iaload, 1) := by decide +kernel
theorem dX0_mustPrecede_19 : decode cX0_mustPrecede 19 = .ok (.iadd, 1) := by decide +kernel
theorem dX0_mustPrecede_20 : decode cX0_mustPrecede 20 = .ok (.aload_n 0, 1) := by decide +kernel
theorem dX0_mustPrecede_21 : decode cX0_mustPrecede 21 = .ok (.getfield 36, 3) := by decide +kernel
theorem dX0_mustPrecede_24 : decode cX0_mustPrecede 24 = .ok (.iload_n 1, 1) := by decide +kernel
theorem dX0_mustPrecede_25 : decode cX0_mustPrecede 25 = .ok (.iaload, 1) := by decide +kernel
theorem dX0_mustPrecede_26 : decode cX0_mustPrecede 26 = .ok (.iadd, 1) := by decide +kernel
theorem dX0_mustPrecede_27 : decode cX0_mustPrecede 27 = .ok (.iload_n 3, 1) := by decide +kernel
theorem dX0_mustPrecede_28 : decode cX0_mustPrecede 28 = .ok (.if_icmp .lt 7, 3) := by decide +kernel
theorem dX0_mustPrecede_31 : decode cX0_mustPrecede 31 = .ok (.iconst 1, 1) := by decide +kernel
theorem dX0_mustPrecede_32 : decode cX0_mustPrecede 32 = .ok (.goto 4, 3) := by decide +kernel
theorem dX0_mustPrecede_35 : decode cX0_mustPrecede 35 = .ok (.iconst 0, 1) := by decide +kernel
theorem dX0_mustPrecede_36 : decode cX0_mustPrecede 36 = .ok (.ireturn, 1) := by decide +kernel
theorem dX1_init_0 : decode cX1_init 0 = .ok (.aload_n 0, 1) := by decide +kernel
theorem dX1_init_1 : decode cX1_init 1 = .ok (.invokespecial 3, 3) := by decide +kernel
theorem dX1_init_4 : decode cX1_init 4 = .ok (.aload_n 0, 1) := by decide +kernel
theorem dX1_init_5 : decode cX1_init 5 = .ok (.bipush 12, 2) := by decide +kernel
theorem dX1_init_7 : decode cX1_init 7 = .ok (.newarray .int, 2) := by decide +kernel
theorem dX1_init_9 : decode cX1_init 9 = .ok (.putfield 9, 3) := by decide +kernel
theorem dX1_init_12 : decode cX1_init 12 = .ok (.aload_n 0, 1) := by decide +kernel
theorem dX1_init_13 : decode cX1_init 13 = .ok (.bipush 12, 2) := by decide +kernel
theorem dX1_init_15 : decode cX1_init 15 = .ok (.newarray .int, 2) := by decide +kernel
theorem dX1_init_17 : decode cX1_init 17 = .ok (.putfield 15, 3) := by decide +kernel
theorem dX1_init_20 : decode cX1_init 20 = .ok (.aload_n 0, 1) := by decide +kernel
theorem dX1_init_21 : decode cX1_init 21 = .ok (.bipush 12, 2) := by decide +kernel
theorem dX1_init_23 : decode cX1_init 23 = .ok (.newarray .int, 2) := by decide +kernel
theorem dX1_init_25 : decode cX1_init 25 = .ok (.putfield 18, 3) := by decide +kernel
theorem dX1_init_28 : decode cX1_init 28 = .ok (.aload_n 0, 1) := by decide +kernel
theorem dX1_init_29 : decode cX1_init 29 = .ok (.iconst 4, 1) := by decide +kernel
theorem dX1_init_30 : decode cX1_init 30 = .ok (.newarray .int, 2) := by decide +kernel
theorem dX1_init_32 : decode cX1_init 32 = .ok (.putfield 21, 3) := by decide +kernel
theorem dX1_init_35 : decode cX1_init 35 = .ok (.aload_n 0, 1) := by decide +kernel
theorem dX1_init_36 : decode cX1_init 36 = .ok (.iconst 4, 1) := by decide +kernel
theorem dX1_init_37 : decode cX1_init 37 = .ok (.newarray .int, 2) := by decide +kernel
theorem dX1_init_39 : decode cX1_init 39 = .ok (.putfield 24, 3) := by decide +kernel
theorem dX1_init_42 : decode cX1_init 42 = .ok (.aload_n 0, 1) := by decide +kernel
theorem dX1_init_43 : decode cX1_init 43 = .ok (.iconst 4, 1) := by decide +kernel
theorem dX1_init_44 : decode cX1_init 44 = .ok (.newarray .int, 2) := by decide +kernel
theorem dX1_init_46 : decode cX1_init 46 = .ok (.putfield 27, 3) := by decide +kernel
theorem dX1_init_49 : decode cX1_init 49 = .ok (.aload_n 0, 1) := by decide +kernel
theorem dX1_init_50 : decode cX1_init 50 = .ok (.iconst 4, 1) := by decide +kernel
theorem dX1_init_51 : decode cX1_init 51 = .ok (.newarray .int, 2) := by decide +kernel
theorem dX1_init_53 : decode cX1_init 53 = .ok (.putfield 30, 3) := by decide +kernel
theorem dX1_init_56 : decode cX1_init 56 = .ok (.aload_n 0, 1) := by decide +kernel
theorem dX1_init_57 : decode cX1_init 57 = .ok (.iconst 4, 1) := by decide +kernel
theorem dX1_init_58 : decode cX1_init 58 = .ok (.newarray .int, 2) := by decide +kernel
theorem dX1_init_60 : decode cX1_init 60 = .ok (.putfield 33, 3) := by decide +kernel
theorem dX1_init_63 : decode cX1_init 63 = .ok (.aload_n 0, 1) := by decide +kernel
theorem dX1_init_64 : decode cX1_init 64 = .ok (.aload_n 1, 1) := by decide +kernel
theorem dX1_init_65 : decode cX1_init 65 = .ok (.putfield 36, 3) := by decide +kernel
theorem dX1_init_68 : decode cX1_init 68 = .ok (.return_, 1) := by decide +kernel
set_option maxRecDepth 20000 in
theorem ggX1_run_X1_prepare : GoodIn wsX1_run wsX1_prepare := goodIn_r _ [6, 7, 8, 9, 10, 11, 12, 13, 14, 15, 16, 17, 18, 19, 20, 21, 22, 23, 5, 24, 25, 26, 27, 28, 29, 30, 31, 32, 33, 90, 91, 92, 93, 94, 95, 96, 97, 98, 99, 100, 101, 102, 103, 104, 105, 106, 107, 108, 109, 110, 111, 112, 113] (by decide +kernel) (by decide +kernel)
set_option maxRecDepth 20000 in
theorem gX1_run_X1_prepare : GoodIn wsX1_run (wsV RX1 40 RX1 yX1_prepare wsX1_prepare) := goodIn_app (goodIn_of _ (by decide +kernel)) ggX1_run_X1_prepare
set_option maxRecDepth 20000 in
theorem ggX1_run_X1_extend : GoodIn wsX1_run wsX1_extend := goodIn_r _ [37, 7, 17, 8, 9, 20, 15, 38, 39, 40, 5, 41, 42, 18, 43, 44, 45, 46, 16, 1, 47, 48, 49, 50, 51, 52, 53, 54, 55, 56, 57, 58, 59, 12, 13, 60, 61, 62, 28, 63, 64, 65, 66, 67, 68, 69, 70, 71, 72, 73, 74, 11, 75, 19, 76, 77, 78, 79, 14, 80, 81, 82, 83, 84, 85, 86, 87, 88, 89, 34, 35, 36, 90, 91, 92, 93, 94, 95, 96, 97, 98, 99, 100, 101, 102, 103, 104, 105, 106, 107, 108, 109, 110, 111, 112, 113] (by decide +kernel) (by decide +kernel)
set_option maxRecDepth 20000 in
theorem gX1_run_X1_extend : GoodIn wsX1_run (wsV RX1 47 RX1 yX1_extend wsX1_extend) := goodIn_app (goodIn_of _ (by decide +kernel)) ggX1_run_X1_extend
theorem dX1_run_0 : decode cX1_run 0 = .ok (.aload_n 0, 1) := by decide +kernel
theorem dX1_run_1 : decode cX1_run 1 = .ok (.invokevirtual 40, 3) := by decide +kernel
theorem dX1_run_4 : decode cX1_run 4 = .ok (.aload_n 0, 1) := by decide +kernel
theorem dX1_run_5 : decode cX1_run 5 = .ok (.iconst 0, 1) := by decide +kernel
theorem dX1_run_6 : decode cX1_run 6 = .ok (.putfield 43, 3) := by decide +kernel
theorem dX1_run_9 : decode cX1_run 9 = .ok (.aload_n 0, 1) := by decide +kernel
theorem dX1_run_10 : decode cX1_run 10 = .ok (.iconst 0, 1) := by decide +kernel
theorem dX1_run_11 : decode cX1_run 11 = .ok (.iconst 0, 1) := by decide +kernel
theorem dX1_run_12 : decode cX1_run 12 = .ok (.iconst (-1), 1) := by decide +kernel
theorem dX1_run_13 : decode cX1_run 13 = .ok (.invokevirtual 47, 3) := by decide +kernel
theorem dX1_run_16 : decode cX1_run 16 = .ok (.return_, 1) := by decide +kernel
set_option maxRecDepth 20000 in
theorem ggX1_prepare_X1_forerunners : GoodIn wsX1_prepare wsX1_forerunners := goodIn_r _ [19, 1, 11, 20, 21, 22, 23, 24, 25, 26, 27, 28, 29, 30, 31, 32, 33, 34, 35, 36, 37, 38, 39, 40, 41, 42, 43, 44, 45, 46, 47, 48, 49, 50, 51, 52] (by decide +kernel) (by decide +kernel)
set_option maxRecDepth 20000 in
theorem gX1_prepare_X1_forerunners : GoodIn wsX1_prepare (wsV RX1 74 RX1 yX1_forerunners wsX1_forerunners) := goodIn_app (goodIn_of _ (by decide +kernel)) ggX1_prepare_X1_forerunners
theorem dX1_prepare_0 : decode cX1_prepare 0 = .ok (.iconst 0, 1) := by decide +kernel
theorem dX1_prepare_1 : decode cX1_prepare 1 = .ok (.istore_n 1, 1) := by decide +kernel
theorem dX1_prepare_2 : decode cX1_prepare 2 = .ok (.iload_n 1, 1) := by decide +kernel
theorem dX1_prepare_3 : decode cX1_prepare 3 = .ok (.aload_n 0, 1) := by decide +kernel
theorem dX1_prepare_4 : decode cX1_prepare 4 = .ok (.getfield 36, 3) := by decide +kernel
theorem dX1_prepare_7 : decode cX1_prepare 7 = .ok (.getfield 51, 3) := by decide +kernel
theorem dX1_prepare_10 : decode cX1_prepare 10 = .ok (.if_icmp .ge 31, 3) := by decide +kernel
theorem dX1_prepare_13 : decode cX1_prepare 13 = .ok (.aload_n 0, 1) := by decide +kernel
theorem dX1_prepare_14 : decode cX1_prepare 14 = .ok (.getfield 21, 3) := by decide +kernel
theorem dX1_prepare_17 : decode cX1_prepare 17 = .ok (.iload_n 1, 1) := by decide +kernel
theorem dX1_prepare_18 : decode cX1_prepare 18 = .ok (.aload_n 0, 1) := by decide +kernel
theorem dX1_prepare_19 : decode cX1_prepare 19 = .ok (.getfield 36, 3) := by decide +kernel
theorem dX1_prepare_22 : decode cX1_prepare 22 = .ok (.getfield 56, 3) := by decide +kernel
theorem dX1_prepare_25 : decode cX1_prepare 25 = .ok (.iload_n 1, 1) := by decide +kernel
theorem dX1_prepare_26 : decode cX1_prepare 26 = .ok (.iaload, 1) := by decide +kernel
theorem dX1_prepare_27 : decode cX1_prepare 27 = .ok (.iastore, 1) := by decide +kernel
theorem dX1_prepare_28 : decode cX1_prepare 28 = .ok (.aload_n 0, 1) := by decide +kernel
theorem dX1_prepare_29 : decode cX1_prepare 29 = .ok (.getfield 24, 3) := by decide +kernel
theorem dX1_prepare_32 : decode cX1_prepare 32 = .ok (.iload_n 1, 1) := by decide +kernel
theorem dX1_prepare_33 : decode cX1_prepare 33 = .ok (.iconst 0, 1) := by decide +kernel
theorem dX1_prepare_34 : decode cX1_prepare 34 = .ok (.iastore, 1) := by decide +kernel
theorem dX1_prepare_35 : decode cX1_prepare 35 = .ok (.iinc 1 1, 3) := by decide +kernel
theorem dX1_prepare_38 : decode cX1_prepare 38 = .ok (.goto (-36), 3) := by decide +kernel
theorem dX1_prepare_41 : decode cX1_prepare 41 = .ok (.iconst 0, 1) := by decide +kernel
theorem dX1_prepare_42 : decode cX1_prepare 42 = .ok (.istore_n 1, 1) := by decide +kernel
theorem dX1_prepare_43 : decode cX1_prepare 43 = .ok (.iload_n 1, 1) := by decide +kernel
theorem dX1_prepare_44 : decode cX1_prepare 44 = .ok (.iconst 4, 1) := by decide +kernel
theorem dX1_prepare_45 : decode cX1_prepare 45 = .ok (.if_icmp .ge 30, 3) := by decide +kernel
theorem dX1_prepare_48 : decode cX1_prepare 48 = .ok (.aload_n 0, 1) := by decide +kernel
theorem dX1_prepare_49 : decode cX1_prepare 49 = .ok (.getfield 27, 3) := by decide +kernel
theorem dX1_prepare_52 : decode cX1_prepare 52 = .ok (.iload_n 1, 1) := by decide +kernel
theorem dX1_prepare_53 : decode cX1_prepare 53 = .ok (.iconst 0, 1) := by decide +kernel
theorem dX1_prepare_54 : decode cX1_prepare 54 = .ok (.iastore, 1) := by decide +kernel
theorem dX1_prepare_55 : decode cX1_prepare 55 = .ok (.aload_n 0, 1) := by decide +kernel
theorem dX1_prepare_56 : decode cX1_prepare 56 = .ok (.getfield 30, 3) := by decide +kernel
theorem dX1_prepare_59 : decode cX1_prepare 59 = .ok (.iload_n 1, 1) := by decide +kernel
theorem dX1_prepare_60 : decode cX1_prepare 60 = .ok (.iconst 0, 1) := by decide +kernel
theorem dX1_prepare_61 : decode cX1_prepare 61 = .ok (.iastore, 1) := by decide +kernel
theorem dX1_prepare_62 : decode cX1_prepare 62 = .ok (.aload_n 0, 1) := by decide +kernel
theorem dX1_prepare_63 : decode cX1_prepare 63 = .ok (.getfield 33, 3) := by decide +kernel
theorem dX1_prepare_66 : decode cX1_prepare 66 = .ok (.iload_n 1, 1) := by decide +kernel
theorem dX1_prepare_67 : decode cX1_prepare 67 = .ok (.iconst 0, 1) := by decide +kernel
theorem dX1_prepare_68 : decode cX1_prepare 68 = .ok (.iastore, 1) := by decide +kernel
theorem dX1_prepare_69 : decode cX1_prepare 69 = .ok (.iinc 1 1, 3) := by decide +kernel
theorem dX1_prepare_72 : decode cX1_prepare 72 = .ok (.goto (-29), 3) := by decide +kernel
theorem dX1_prepare_75 : decode cX1_prepare 75 = .ok (.aload_n 0, 1) := by decide +kernel
theorem dX1_prepare_76 : decode cX1_prepare 76 = .ok (.iconst 0, 1) := by decide +kernel
theorem dX1_prepare_77 : decode cX1_prepare 77 = .ok (.putfield 59, 3) := by decide +kernel
theorem dX1_prepare_80 : decode cX1_prepare 80 = .ok (.aload_n 0, 1) := by decide +kernel
theorem dX1_prepare_81 : decode cX1_prepare 81 = .ok (.iconst 0, 1) := by decide +kernel
theorem dX1_prepare_82 : decode cX1_prepare 82 = .ok (.putfield 62, 3) := by decide +kernel
theorem dX1_prepare_85 : decode cX1_prepare 85 = .ok (.iconst 0, 1) := by decide +kernel
theorem dX1_prepare_86 : decode cX1_prepare 86 = .ok (.istore_n 1, 1) := by decide +kernel
theorem dX1_prepare_87 : decode cX1_prepare 87 = .ok (.iload_n 1, 1) := by decide +kernel
theorem dX1_prepare_88 : decode cX1_prepare 88 = .ok (.aload_n 0, 1) := by decide +kernel
theorem dX1_prepare_89 : decode cX1_prepare 89 = .ok (.getfield 36, 3) := by decide +kernel
theorem dX1_prepare_92 : decode cX1_prepare 92 = .ok (.getfield 65, 3) := by decide +kernel
theorem dX1_prepare_95 : decode cX1_prepare 95 = .ok (.if_icmp .ge 84, 3) := by decide +kernel
theorem dX1_prepare_98 : decode cX1_prepare 98 = .ok (.aload_n 0, 1) := by decide +kernel
theorem dX1_prepare_99 : decode cX1_prepare 99 = .ok (.dup, 1) := by decide +kernel
theorem dX1_prepare_100 : decode cX1_prepare 100 = .ok (.getfield 62, 3) := by decide +kernel
theorem dX1_prepare_103 : decode cX1_prepare 103 = .ok (.aload_n 0, 1) := by decide +kernel
theorem dX1_prepare_104 : decode cX1_prepare 104 = .ok (.getfield 36, 3) := by decide +kernel
theorem dX1_prepare_107 : decode cX1_prepare 107 = .ok (.getfield 68, 3) := by decide +kernel
theorem dX1_prepare_110 : decode cX1_prepare 110 = .ok (.iload_n 1, 1) := by decide +kernel
theorem dX1_prepare_111 : decode cX1_prepare 111 = .ok (.iaload, 1) := by decide +kernel
theorem dX1_prepare_112 : decode cX1_prepare 112 = .ok (.iadd, 1) := by decide +kernel
theorem dX1_prepare_113 : decode cX1_prepare 113 = .ok (.putfield 62, 3) := by decide +kernel
theorem dX1_prepare_116 : decode cX1_prepare 116 = .ok (.aload_n 0, 1) := by decide +kernel
theorem dX1_prepare_117 : decode cX1_prepare 117 = .ok (.getfield 30, 3) := by decide +kernel
theorem dX1_prepare_120 : decode cX1_prepare 120 = .ok (.aload_n 0, 1) := by decide +kernel
theorem dX1_prepare_121 : decode cX1_prepare 121 = .ok (.getfield 36, 3) := by decide +kernel
theorem dX1_prepare_124 : decode cX1_prepare 124 = .ok (.getfield 71, 3) := by decide +kernel
theorem dX1_prepare_127 : decode cX1_prepare 127 = .ok (.iload_n 1, 1) := by decide +kernel
theorem dX1_prepare_128 : decode cX1_prepare 128 = .ok (.iaload, 1) := by decide +kernel
theorem dX1_prepare_129 : decode cX1_prepare 129 = .ok (.dup2, 1) := by decide +kernel
theorem dX1_prepare_130 : decode cX1_prepare 130 = .ok (.iaload, 1) := by decide +kernel
theorem dX1_prepare_131 : decode cX1_prepare 131 = .ok (.aload_n 0, 1) := by decide +kernel
theorem dX1_prepare_132 : decode cX1_prepare 132 = .ok (.getfield 36, 3) := by decide +kernel
theorem dX1_prepare_135 : decode cX1_prepare 135 = .ok (.getfield 68, 3) := by decide +kernel
theorem dX1_prepare_138 : decode cX1_prepare 138 = .ok (.iload_n 1, 1) := by decide +kernel
theorem dX1_prepare_139 : decode cX1_prepare 139 = .ok (.iaload, 1) := by decide +kernel
theorem dX1_prepare_140 : decode cX1_prepare 140 = .ok (.iadd, 1) := by decide +kernel
theorem dX1_prepare_141 : decode cX1_prepare 141 = .ok (.iastore, 1) := by decide +kernel
theorem dX1_prepare_142 : decode cX1_prepare 142 = .ok (.aload_n 0, 1) := by decide +kernel
theorem dX1_prepare_143 : decode cX1_prepare 143 = .ok (.getfield 33, 3) := by decide +kernel
theorem dX1_prepare_146 : decode cX1_prepare 146 = .ok (.aload_n 0, 1) := by decide +kernel
theorem dX1_prepare_147 : decode cX1_prepare 147 = .ok (.getfield 36, 3) := by decide +kernel
theorem dX1_prepare_150 : decode cX1_prepare 150 = .ok (.getfield 71, 3) := by decide +kernel
theorem dX1_prepare_153 : decode cX1_prepare 153 = .ok (.iload_n 1, 1) := by decide +kernel
theorem dX1_prepare_154 : decode cX1_prepare 154 = .ok (.iaload, 1) := by decide +kernel
theorem dX1_prepare_155 : decode cX1_prepare 155 = .ok (.dup2, 1) := by decide +kernel
theorem dX1_prepare_156 : decode cX1_prepare 156 = .ok (.iaload, 1) := by decide +kernel
theorem dX1_prepare_157 : decode cX1_prepare 157 = .ok (.iconst 1, 1) := by decide +kernel
theorem dX1_prepare_158 : decode cX1_prepare 158 = .ok (.iload_n 1, 1) := by decide +kernel
theorem dX1_prepare_159 : decode cX1_prepare 159 = .ok (.ishl, 1) := by decide +kernel
theorem dX1_prepare_160 : decode cX1_prepare 160 = .ok (.ior, 1) := by decide +kernel
theorem dX1_prepare_161 : decode cX1_prepare 161 = .ok (.iastore, 1) := by decide +kernel
theorem dX1_prepare_162 : decode cX1_prepare 162 = .ok (.aload_n 0, 1) := by decide +kernel
theorem dX1_prepare_163 : decode cX1_prepare 163 = .ok (.getfield 18, 3) := by decide +kernel
theorem dX1_prepare_166 : decode cX1_prepare 166 = .ok (.iload_n 1, 1) := by decide +kernel
theorem dX1_prepare_167 : decode cX1_prepare 167 = .ok (.aload_n 0, 1) := by decide +kernel
theorem dX1_prepare_168 : decode cX1_prepare 168 = .ok (.iload_n 1, 1) := by decide +kernel
theorem dX1_prepare_169 : decode cX1_prepare 169 = .ok (.invokevirtual 74, 3) := by decide +kernel
theorem dX1_prepare_172 : decode cX1_prepare 172 = .ok (.iastore, 1) := by decide +kernel
theorem dX1_prepare_173 : decode cX1_prepare 173 = .ok (.iinc 1 1, 3) := by decide +kernel
theorem dX1_prepare_176 : decode cX1_prepare 176 = .ok (.goto (-89), 3) := by decide +kernel
theorem dX1_prepare_179 : decode cX1_prepare 179 = .ok (.return_, 1) := by decide +kernel
set_option maxRecDepth 20000 in
theorem ggX1_forerunners_X0_hasArc : GoodIn wsX1_forerunners wsX0_hasArc := goodIn_r _ [7, 8, 9, 10, 11, 24, 25, 26, 27, 28, 29, 30, 31, 32, 33, 34, 35] (by decide +kernel) (by decide +kernel)
set_option maxRecDepth 20000 in
theorem gX1_forerunners_X0_hasArc : GoodIn wsX1_forerunners (wsV RX1 78 RX0 yX0_hasArc wsX0_hasArc) := goodIn_app (goodIn_of _ (by decide +kernel)) ggX1_forerunners_X0_hasArc
theorem dX1_forerunners_0 : decode cX1_forerunners 0 = .ok (.iconst 0, 1) := by decide +kernel
theorem dX1_forerunners_1 : decode cX1_forerunners 1 = .ok (.istore_n 2, 1) := by decide +kernel
theorem dX1_forerunners_2 : decode cX1_forerunners 2 = .ok (.iconst 0, 1) := by decide +kernel
theorem dX1_forerunners_3 : decode cX1_forerunners 3 = .ok (.istore_n 3, 1) := by decide +kernel
theorem dX1_forerunners_4 : decode cX1_forerunners 4 = .ok (.iload_n 3, 1) := by decide +kernel
theorem dX1_forerunners_5 : decode cX1_forerunners 5 = .ok (.aload_n 0, 1) := by decide +kernel
theorem dX1_forerunners_6 : decode cX1_forerunners 6 = .ok (.getfield 36, 3) := by decide +kernel
theorem dX1_forerunners_9 : decode cX1_forerunners 9 = .ok (.getfield 65, 3) := by decide +kernel
theorem dX1_forerunners_12 : decode cX1_forerunners 12 = .ok (.if_icmp .ge 27, 3) := by decide +kernel
theorem dX1_forerunners_15 : decode cX1_forerunners 15 = .ok (.aload_n 0, 1) := by decide +kernel
theorem dX1_forerunners_16 : decode cX1_forerunners 16 = .ok (.getfield 36, 3) := by decide +kernel
theorem dX1_forerunners_19 : decode cX1_forerunners 19 = .ok (.iload_n 3, 1) := by decide +kernel
theorem dX1_forerunners_20 : decode cX1_forerunners 20 = .ok (.iload_n 1, 1) := by decide +kernel
theorem dX1_forerunners_21 : decode cX1_forerunners 21 = .ok (.invokevirtual 78, 3) := by decide +kernel
theorem dX1_forerunners_24 : decode cX1_forerunners 24 = .ok (.ifCond .eq 9, 3) := by decide +kernel
theorem dX1_forerunners_27 : decode cX1_forerunners 27 = .ok (.iload_n 2, 1) := by decide +kernel
theorem dX1_forerunners_28 : decode cX1_forerunners 28 = .ok (.iconst 1, 1) := by decide +kernel
theorem dX1_forerunners_29 : decode cX1_forerunners 29 = .ok (.iload_n 3, 1) := by decide +kernel
theorem dX1_forerunners_30 : decode cX1_forerunners 30 = .ok (.ishl, 1) := by decide +kernel
theorem dX1_forerunners_31 : decode cX1_forerunners 31 = .ok (.ior, 1) := by decide +kernel
theorem dX1_forerunners_32 : decode cX1_forerunners 32 = .ok (.istore_n 2, 1) := by decide +kernel
theorem dX1_forerunners_33 : decode cX1_forerunners 33 = .ok (.iinc 3 1, 3) := by decide +kernel
theorem dX1_forerunners_36 : decode cX1_forerunners 36 = .ok (.goto (-32), 3) := by decide +kernel
theorem dX1_forerunners_39 : decode cX1_forerunners 39 = .ok (.iload_n 2, 1) := by decide +kernel
theorem dX1_forerunners_40 : decode cX1_forerunners 40 = .ok (.ireturn, 1) := by decide +kernel
set_option maxRecDepth 20000 in
theorem ggX1_extend_X1_keep : GoodIn wsX1_extend wsX1_keep := goodIn_r _ [11, 1, 2, 12, 13, 14, 15, 16, 17, 18, 19, 20, 21, 22, 23, 24, 25, 26, 27, 10, 28, 72, 73, 74, 75, 76, 77, 78, 79, 80, 81, 82, 83, 84, 85, 86, 87, 88, 89, 90, 91, 92, 93, 94, 95] (by decide +kernel) (by decide +kernel)
set_option maxRecDepth 20000 in
theorem gX1_extend_X1_keep : GoodIn wsX1_extend (wsV RX1 82 RX1 yX1_keep wsX1_keep) := goodIn_app (goodIn_of _ (by decide +kernel)) ggX1_extend_X1_keep
set_option maxRecDepth 20000 in
theorem ggX1_extend_X1_isHopeless : GoodIn wsX1_extend wsX1_isHopeless := goodIn_r _ [32, 33, 34, 18, 1, 3, 4, 35, 36, 37, 38, 39, 40, 41, 42, 43, 10, 44, 45, 14, 15, 16, 17, 13, 46, 47, 48, 49, 50, 51, 52, 53, 54, 55, 56, 57, 58, 59, 60, 61, 62, 63, 72, 73, 74, 75, 76, 77, 78, 79, 80, 81, 82, 83, 84, 85, 86, 87, 88, 89, 90, 91, 92, 93, 94, 95] (by decide +kernel) (by decide +kernel)
set_option maxRecDepth 20000 in
theorem gX1_extend_X1_isHopeless : GoodIn wsX1_extend (wsV RX1 85 RX1 yX1_isHopeless wsX1_isHopeless) := goodIn_app (goodIn_of _ (by decide +kernel)) ggX1_extend_X1_isHopeless
set_option maxRecDepth 20000 in
theorem ggX1_extend_X0_isOperation : GoodIn wsX1_extend wsX0_isOperation := goodIn_r _ [39, 40, 84, 85, 86, 87, 88, 89, 90, 91, 92, 93, 94, 95] (by decide +kernel) (by decide +kernel)
set_option maxRecDepth 20000 in
theorem gX1_extend_X0_isOperation : GoodIn wsX1_extend (wsV RX1 88 RX0 yX0_isOperation wsX0_isOperation) := goodIn_app (goodIn_of _ (by decide +kernel)) ggX1_extend_X0_isOperation
set_option maxRecDepth 20000 in
theorem ggX1_extend_X1_isPassed : GoodIn wsX1_extend wsX1_isPassed := goodIn_r _ [63, 47, 48, 49, 10, 50, 51, 1, 52, 33, 53, 72, 73, 74, 75, 76, 77, 78, 79, 80, 81, 82, 83, 84, 85, 86, 87, 88, 89, 90, 91, 92, 93, 94, 95] (by decide +kernel) (by decide +kernel)
set_option maxRecDepth 20000 in
theorem gX1_extend_X1_isPassed : GoodIn wsX1_extend (wsV RX1 92 RX1 yX1_isPassed wsX1_isPassed) := goodIn_app (goodIn_of _ (by decide +kernel)) ggX1_extend_X1_isPassed
set_option maxRecDepth 20000 in
theorem ggX1_extend_X1_place : GoodIn wsX1_extend wsX1_place := goodIn_r _ [67, 1, 52, 53, 51, 33, 12, 4, 68, 13, 34, 58, 6, 47, 48, 49, 10, 50, 69, 70, 71, 0, 2, 3, 5, 7, 8, 9, 11, 14, 15, 16, 17, 18, 19, 20, 21, 22, 23, 24, 25, 26, 27, 28, 29, 30, 31, 32, 35, 36, 37, 38, 39, 40, 41, 42, 43, 44, 45, 46, 54, 55, 56, 57, 59, 60, 61, 62, 63, 64, 65, 66, 72, 73, 74, 75, 76, 77, 78, 79, 80, 81, 82, 83, 84, 85, 86, 87, 88, 89, 90, 91, 92, 93, 94, 95] (by decide +kernel) (by decide +kernel)
set_option maxRecDepth 20000 in
theorem gX1_extend_X1_place : GoodIn wsX1_extend (wsV RX1 96 RX1 yX1_place wsX1_place) := goodIn_app (goodIn_of _ (by decide +kernel)) ggX1_extend_X1_place
theorem dX1_extend_0 : decode cX1_extend 0 = .ok (.iload_n 1, 1) := by decide +kernel
theorem dX1_extend_1 : decode cX1_extend 1 = .ok (.aload_n 0, 1) := by decide +kernel
theorem dX1_extend_2 : decode cX1_extend 2 = .ok (.getfield 36, 3) := by decide +kernel
theorem dX1_extend_5 : decode cX1_extend 5 = .ok (.getfield 65, 3) := by decide +kernel
theorem dX1_extend_8 : decode cX1_extend 8 = .ok (.if_icmp .lt 8, 3) := by decide +kernel
theorem dX1_extend_11 : decode cX1_extend 11 = .ok (.aload_n 0, 1) := by decide +kernel
theorem dX1_extend_12 : decode cX1_extend 12 = .ok (.invokevirtual 82, 3) := by decide +kernel
theorem dX1_extend_15 : decode cX1_extend 15 = .ok (.return_, 1) := by decide +kernel
theorem dX1_extend_16 : decode cX1_extend 16 = .ok (.aload_n 0, 1) := by decide +kernel
theorem dX1_extend_17 : decode cX1_extend 17 = .ok (.iload_n 2, 1) := by decide +kernel
theorem dX1_extend_18 : decode cX1_extend 18 = .ok (.iload_n 3, 1) := by decide +kernel
theorem dX1_extend_19 : decode cX1_extend 19 = .ok (.invokevirtual 85, 3) := by decide +kernel
theorem dX1_extend_22 : decode cX1_extend 22 = .ok (.ifCond .eq 4, 3) := by decide +kernel
theorem dX1_extend_25 : decode cX1_extend 25 = .ok (.return_, 1) := by decide +kernel
theorem dX1_extend_26 : decode cX1_extend 26 = .ok (.iconst 0, 1) := by decide +kernel
theorem dX1_extend_27 : decode cX1_extend 27 = .ok (.istore 4, 2) := by decide +kernel
theorem dX1_extend_29 : decode cX1_extend 29 = .ok (.iload 4, 2) := by decide +kernel
theorem dX1_extend_31 : decode cX1_extend 31 = .ok (.aload_n 0, 1) := by decide +kernel
theorem dX1_extend_32 : decode cX1_extend 32 = .ok (.getfield 36, 3) := by decide +kernel
theorem dX1_extend_35 : decode cX1_extend 35 = .ok (.getfield 51, 3) := by decide +kernel
theorem dX1_extend_38 : decode cX1_extend 38 = .ok (.if_icmp .ge 65, 3) := by decide +kernel
theorem dX1_extend_41 : decode cX1_extend 41 = .ok (.aload_n 0, 1) := by decide +kernel
theorem dX1_extend_42 : decode cX1_extend 42 = .ok (.getfield 21, 3) := by decide +kernel
theorem dX1_extend_45 : decode cX1_extend 45 = .ok (.iload 4, 2) := by decide +kernel
theorem dX1_extend_47 : decode cX1_extend 47 = .ok (.iaload, 1) := by decide +kernel
theorem dX1_extend_48 : decode cX1_extend 48 = .ok (.istore 5, 2) := by decide +kernel
theorem dX1_extend_50 : decode cX1_extend 50 = .ok (.aload_n 0, 1) := by decide +kernel
theorem dX1_extend_51 : decode cX1_extend 51 = .ok (.getfield 36, 3) := by decide +kernel
theorem dX1_extend_54 : decode cX1_extend 54 = .ok (.iload 5, 2) := by decide +kernel
theorem dX1_extend_56 : decode cX1_extend 56 = .ok (.invokevirtual 88, 3) := by decide +kernel
theorem dX1_extend_59 : decode cX1_extend 59 = .ok (.ifCond .eq 38, 3) := by decide +kernel
theorem dX1_extend_62 : decode cX1_extend 62 = .ok (.aload_n 0, 1) := by decide +kernel
theorem dX1_extend_63 : decode cX1_extend 63 = .ok (.getfield 18, 3) := by decide +kernel
theorem dX1_extend_66 : decode cX1_extend 66 = .ok (.iload 5, 2) := by decide +kernel
theorem dX1_extend_68 : decode cX1_extend 68 = .ok (.iaload, 1) := by decide +kernel
theorem dX1_extend_69 : decode cX1_extend 69 = .ok (.aload_n 0, 1) := by decide +kernel
theorem dX1_extend_70 : decode cX1_extend 70 = .ok (.getfield 59, 3) := by decide +kernel
theorem dX1_extend_73 : decode cX1_extend 73 = .ok (.iconst (-1), 1) := by decide +kernel
theorem dX1_extend_74 : decode cX1_extend 74 = .ok (.ixor, 1) := by decide +kernel
theorem dX1_extend_75 : decode cX1_extend 75 = .ok (.iand, 1) := by decide +kernel
theorem dX1_extend_76 : decode cX1_extend 76 = .ok (.ifCond .ne 21, 3) := by decide +kernel
theorem dX1_extend_79 : decode cX1_extend 79 = .ok (.aload_n 0, 1) := by decide +kernel
theorem dX1_extend_80 : decode cX1_extend 80 = .ok (.iload 5, 2) := by decide +kernel
theorem dX1_extend_82 : decode cX1_extend 82 = .ok (.iload_n 2, 1) := by decide +kernel
theorem dX1_extend_83 : decode cX1_extend 83 = .ok (.iload_n 3, 1) := by decide +kernel
theorem dX1_extend_84 : decode cX1_extend 84 = .ok (.invokevirtual 92, 3) := by decide +kernel
theorem dX1_extend_87 : decode cX1_extend 87 = .ok (.ifCond .ne 10, 3) := by decide +kernel
theorem dX1_extend_90 : decode cX1_extend 90 = .ok (.aload_n 0, 1) := by decide +kernel
theorem dX1_extend_91 : decode cX1_extend 91 = .ok (.iload 5, 2) := by decide +kernel
theorem dX1_extend_93 : decode cX1_extend 93 = .ok (.iload_n 1, 1) := by decide +kernel
theorem dX1_extend_94 : decode cX1_extend 94 = .ok (.invokevirtual 96, 3) := by decide +kernel
theorem dX1_extend_97 : decode cX1_extend 97 = .ok (.iinc 4 1, 3) := by decide +kernel
theorem dX1_extend_100 : decode cX1_extend 100 = .ok (.goto (-71), 3) := by decide +kernel
theorem dX1_extend_103 : decode cX1_extend 103 = .ok (.return_, 1) := by decide +kernel
theorem dX1_earliest_0 : decode cX1_earliest 0 = .ok (.aload_n 0, 1) := by decide +kernel
theorem dX1_earliest_1 : decode cX1_earliest 1 = .ok (.getfield 24, 3) := by decide +kernel
theorem dX1_earliest_4 : decode cX1_earliest 4 = .ok (.aload_n 0, 1) := by decide +kernel
theorem dX1_earliest_5 : decode cX1_earliest 5 = .ok (.getfield 36, 3) := by decide +kernel
theorem dX1_earliest_8 : decode cX1_earliest 8 = .ok (.getfield 100, 3) := by decide +kernel
theorem dX1_earliest_11 : decode cX1_earliest 11 = .ok (.iload_n 1, 1) := by decide +kernel
theorem dX1_earliest_12 : decode cX1_earliest 12 = .ok (.iaload, 1) := by decide +kernel
theorem dX1_earliest_13 : decode cX1_earliest 13 = .ok (.iaload, 1) := by decide +kernel
theorem dX1_earliest_14 : decode cX1_earliest 14 = .ok (.istore_n 2, 1) := by decide +kernel
theorem dX1_earliest_15 : decode cX1_earliest 15 = .ok (.aload_n 0, 1) := by decide +kernel
theorem dX1_earliest_16 : decode cX1_earliest 16 = .ok (.getfield 27, 3) := by decide +kernel
theorem dX1_earliest_19 : decode cX1_earliest 19 = .ok (.aload_n 0, 1) := by decide +kernel
theorem dX1_earliest_20 : decode cX1_earliest 20 = .ok (.getfield 36, 3) := by decide +kernel
theorem dX1_earliest_23 : decode cX1_earliest 23 = .ok (.getfield 71, 3) := by decide +kernel
theorem dX1_earliest_26 : decode cX1_earliest 26 = .ok (.iload_n 1, 1) := by decide +kernel
theorem dX1_earliest_27 : decode cX1_earliest 27 = .ok (.iaload, 1) := by decide +kernel
theorem dX1_earliest_28 : decode cX1_earliest 28 = .ok (.iaload, 1) := by decide +kernel
theorem dX1_earliest_29 : decode cX1_earliest 29 = .ok (.istore_n 3, 1) := by decide +kernel
theorem dX1_earliest_30 : decode cX1_earliest 30 = .ok (.iload_n 2, 1) := by decide +kernel
theorem dX1_earliest_31 : decode cX1_earliest 31 = .ok (.iload_n 3, 1) := by decide +kernel
theorem dX1_earliest_32 : decode cX1_earliest 32 = .ok (.if_icmp .lt 7, 3) := by decide +kernel
theorem dX1_earliest_35 : decode cX1_earliest 35 = .ok (.iload_n 2, 1) := by decide +kernel
theorem dX1_earliest_36 : decode cX1_earliest 36 = .ok (.goto 4, 3) := by decide +kernel
theorem dX1_earliest_39 : decode cX1_earliest 39 = .ok (.iload_n 3, 1) := by decide +kernel
theorem dX1_earliest_40 : decode cX1_earliest 40 = .ok (.ireturn, 1) := by decide +kernel
set_option maxRecDepth 20000 in
theorem ggX1_isPassed_X1_earliest : GoodIn wsX1_isPassed wsX1_earliest := goodIn_r _ [5, 6, 7, 8, 9, 10, 11, 12, 13, 14, 15, 16, 17, 18, 19, 20, 21, 22, 23, 24, 25, 26, 27, 28, 29, 30, 31, 32, 33, 34] (by decide +kernel) (by decide +kernel)
set_option maxRecDepth 20000 in
theorem gX1_isPassed_X1_earliest : GoodIn wsX1_isPassed (wsV RX1 103 RX1 yX1_earliest wsX1_earliest) := goodIn_app (goodIn_of _ (by decide +kernel)) ggX1_isPassed_X1_earliest
theorem dX1_isPassed_0 : decode cX1_isPassed 0 = .ok (.aload_n 0, 1) := by decide +kernel
theorem dX1_isPassed_1 : decode cX1_isPassed 1 = .ok (.iload_n 1, 1) := by decide +kernel
theorem dX1_isPassed_2 : decode cX1_isPassed 2 = .ok (.invokevirtual 103, 3) := by decide +kernel
theorem dX1_isPassed_5 : decode cX1_isPassed 5 = .ok (.istore 4, 2) := by decide +kernel
theorem dX1_isPassed_7 : decode cX1_isPassed 7 = .ok (.iload 4, 2) := by decide +kernel
theorem dX1_isPassed_9 : decode cX1_isPassed 9 = .ok (.iload_n 2, 1) := by decide +kernel
theorem dX1_isPassed_10 : decode cX1_isPassed 10 = .ok (.if_icmp .lt 14, 3) := by decide +kernel
theorem dX1_isPassed_13 : decode cX1_isPassed 13 = .ok (.iload 4, 2) := by decide +kernel
theorem dX1_isPassed_15 : decode cX1_isPassed 15 = .ok (.iload_n 2, 1) := by decide +kernel
theorem dX1_isPassed_16 : decode cX1_isPassed 16 = .ok (.if_icmp .ne 12, 3) := by decide +kernel
theorem dX1_isPassed_19 : decode cX1_isPassed 19 = .ok (.iload_n 1, 1) := by decide +kernel
theorem dX1_isPassed_20 : decode cX1_isPassed 20 = .ok (.iload_n 3, 1) := by decide +kernel
theorem dX1_isPassed_21 : decode cX1_isPassed 21 = .ok (.if_icmp .ge 7, 3) := by decide +kernel
theorem dX1_isPassed_24 : decode cX1_isPassed 24 = .ok (.iconst 1, 1) := by decide +kernel
theorem dX1_isPassed_25 : decode cX1_isPassed 25 = .ok (.goto 4, 3) := by decide +kernel
theorem dX1_isPassed_28 : decode cX1_isPassed 28 = .ok (.iconst 0, 1) := by decide +kernel
theorem dX1_isPassed_29 : decode cX1_isPassed 29 = .ok (.ireturn, 1) := by decide +kernel
set_option maxRecDepth 20000 in
theorem ggX1_place_X1_earliest : GoodIn wsX1_place wsX1_earliest := goodIn_r _ [17, 4, 1, 2, 5, 3, 72, 73, 74, 75, 76, 77, 78, 79, 80, 81, 82, 83, 84, 85, 86, 87, 88, 89, 90, 91, 92, 93, 94, 95] (by decide +kernel) (by decide +kernel)
set_option maxRecDepth 20000 in
theorem gX1_place_X1_earliest : GoodIn wsX1_place (wsV RX1 103 RX1 yX1_earliest wsX1_earliest) := goodIn_app (goodIn_of _ (by decide +kernel)) ggX1_place_X1_earliest
set_option maxRecDepth 20000 in
theorem ggX1_place_X1_extend : GoodIn wsX1_place wsX1_extend := goodIn_r _ [21, 1, 22, 23, 7, 24, 12, 25, 26, 27, 16, 28, 6, 9, 29, 30, 31, 32, 33, 34, 35, 36, 37, 38, 39, 40, 41, 42, 43, 44, 45, 46, 47, 5, 10, 48, 49, 50, 51, 52, 53, 54, 55, 56, 57, 58, 59, 13, 14, 15, 17, 4, 2, 3, 60, 61, 62, 63, 11, 64, 65, 66, 67, 68, 69, 70, 71, 0, 8, 18, 19, 20, 72, 73, 74, 75, 76, 77, 78, 79, 80, 81, 82, 83, 84, 85, 86, 87, 88, 89, 90, 91, 92, 93, 94, 95] (by decide +kernel) (by decide +kernel)
set_option maxRecDepth 20000 in
theorem gX1_place_X1_extend : GoodIn wsX1_place (wsV RX1 47 RX1 yX1_extend wsX1_extend) := goodIn_app (goodIn_of _ (by decide +kernel)) ggX1_place_X1_extend
theorem dX1_place_0 : decode cX1_place 0 = .ok (.aload_n 0, 1) := by decide +kernel
theorem dX1_place_1 : decode cX1_place 1 = .ok (.getfield 36, 3) := by decide +kernel
theorem dX1_place_4 : decode cX1_place 4 = .ok (.getfield 100, 3) := by decide +kernel
theorem dX1_place_7 : decode cX1_place 7 = .ok (.iload_n 1, 1) := by decide +kernel
theorem dX1_place_8 : decode cX1_place 8 = .ok (.iaload, 1) := by decide +kernel
theorem dX1_place_9 : decode cX1_place 9 = .ok (.istore_n 3, 1) := by decide +kernel
theorem dX1_place_10 : decode cX1_place 10 = .ok (.aload_n 0, 1) := by decide +kernel
theorem dX1_place_11 : decode cX1_place 11 = .ok (.getfield 36, 3) := by decide +kernel
theorem dX1_place_14 : decode cX1_place 14 = .ok (.getfield 71, 3) := by decide +kernel
theorem dX1_place_17 : decode cX1_place 17 = .ok (.iload_n 1, 1) := by decide +kernel
theorem dX1_place_18 : decode cX1_place 18 = .ok (.iaload, 1) := by decide +kernel
theorem dX1_place_19 : decode cX1_place 19 = .ok (.istore 4, 2) := by decide +kernel
theorem dX1_place_21 : decode cX1_place 21 = .ok (.aload_n 0, 1) := by decide +kernel
theorem dX1_place_22 : decode cX1_place 22 = .ok (.getfield 24, 3) := by decide +kernel
theorem dX1_place_25 : decode cX1_place 25 = .ok (.iload_n 3, 1) := by decide +kernel
theorem dX1_place_26 : decode cX1_place 26 = .ok (.iaload, 1) := by decide +kernel
theorem dX1_place_27 : decode cX1_place 27 = .ok (.istore 5, 2) := by decide +kernel
theorem dX1_place_29 : decode cX1_place 29 = .ok (.aload_n 0, 1) := by decide +kernel
theorem dX1_place_30 : decode cX1_place 30 = .ok (.getfield 27, 3) := by decide +kernel
theorem dX1_place_33 : decode cX1_place 33 = .ok (.iload 4, 2) := by decide +kernel
theorem dX1_place_35 : decode cX1_place 35 = .ok (.iaload, 1) := by decide +kernel
theorem dX1_place_36 : decode cX1_place 36 = .ok (.istore 6, 2) := by decide +kernel
theorem dX1_place_38 : decode cX1_place 38 = .ok (.aload_n 0, 1) := by decide +kernel
theorem dX1_place_39 : decode cX1_place 39 = .ok (.iload_n 1, 1) := by decide +kernel
theorem dX1_place_40 : decode cX1_place 40 = .ok (.invokevirtual 103, 3) := by decide +kernel
theorem dX1_place_43 : decode cX1_place 43 = .ok (.istore 7, 2) := by decide +kernel
theorem dX1_place_45 : decode cX1_place 45 = .ok (.aload_n 0, 1) := by decide +kernel
theorem dX1_place_46 : decode cX1_place 46 = .ok (.getfield 15, 3) := by decide +kernel
theorem dX1_place_49 : decode cX1_place 49 = .ok (.iload_n 1, 1) := by decide +kernel
theorem dX1_place_50 : decode cX1_place 50 = .ok (.iload 7, 2) := by decide +kernel
theorem dX1_place_52 : decode cX1_place 52 = .ok (.iastore, 1) := by decide +kernel
theorem dX1_place_53 : decode cX1_place 53 = .ok (.aload_n 0, 1) := by decide +kernel
theorem dX1_place_54 : decode cX1_place 54 = .ok (.getfield 21, 3) := by decide +kernel
theorem dX1_place_57 : decode cX1_place 57 = .ok (.iload_n 3, 1) := by decide +kernel
theorem dX1_place_58 : decode cX1_place 58 = .ok (.aload_n 0, 1) := by decide +kernel
theorem dX1_place_59 : decode cX1_place 59 = .ok (.getfield 36, 3) := by decide +kernel
theorem dX1_place_62 : decode cX1_place 62 = .ok (.getfield 106, 3) := by decide +kernel
theorem dX1_place_65 : decode cX1_place 65 = .ok (.iload_n 1, 1) := by decide +kernel
theorem dX1_place_66 : decode cX1_place 66 = .ok (.iaload, 1) := by decide +kernel
theorem dX1_place_67 : decode cX1_place 67 = .ok (.iastore, 1) := by decide +kernel
theorem dX1_place_68 : decode cX1_place 68 = .ok (.aload_n 0, 1) := by decide +kernel
theorem dX1_place_69 : decode cX1_place 69 = .ok (.getfield 24, 3) := by decide +kernel
theorem dX1_place_72 : decode cX1_place 72 = .ok (.iload_n 3, 1) := by decide +kernel
theorem dX1_place_73 : decode cX1_place 73 = .ok (.iload 7, 2) := by decide +kernel
theorem dX1_place_75 : decode cX1_place 75 = .ok (.aload_n 0, 1) := by decide +kernel
theorem dX1_place_76 : decode cX1_place 76 = .ok (.getfield 36, 3) := by decide +kernel
theorem dX1_place_79 : decode cX1_place 79 = .ok (.getfield 68, 3) := by decide +kernel
theorem dX1_place_82 : decode cX1_place 82 = .ok (.iload_n 1, 1) := by decide +kernel
theorem dX1_place_83 : decode cX1_place 83 = .ok (.iaload, 1) := by decide +kernel
theorem dX1_place_84 : decode cX1_place 84 = .ok (.iadd, 1) := by decide +kernel
theorem dX1_place_85 : decode cX1_place 85 = .ok (.iastore, 1) := by decide +kernel
theorem dX1_place_86 : decode cX1_place 86 = .ok (.aload_n 0, 1) := by decide +kernel
theorem dX1_place_87 : decode cX1_place 87 = .ok (.getfield 27, 3) := by decide +kernel
theorem dX1_place_90 : decode cX1_place 90 = .ok (.iload 4, 2) := by decide +kernel
theorem dX1_place_92 : decode cX1_place 92 = .ok (.iload 7, 2) := by decide +kernel
theorem dX1_place_94 : decode cX1_place 94 = .ok (.aload_n 0, 1) := by decide +kernel
theorem dX1_place_95 : decode cX1_place 95 = .ok (.getfield 36, 3) := by decide +kernel
theorem dX1_place_98 : decode cX1_place 98 = .ok (.getfield 68, 3) := by decide +kernel
theorem dX1_place_101 : decode cX1_place 101 = .ok (.iload_n 1, 1) := by decide +kernel
theorem dX1_place_102 : decode cX1_place 102 = .ok (.iaload, 1) := by decide +kernel
theorem dX1_place_103 : decode cX1_place 103 = .ok (.iadd, 1) := by decide +kernel
theorem dX1_place_104 : decode cX1_place 104 = .ok (.iastore, 1) := by decide +kernel
theorem dX1_place_105 : decode cX1_place 105 = .ok (.aload_n 0, 1) := by decide +kernel
theorem dX1_place_106 : decode cX1_place 106 = .ok (.getfield 30, 3) := by decide +kernel
theorem dX1_place_109 : decode cX1_place 109 = .ok (.iload 4, 2) := by decide +kernel
theorem dX1_place_111 : decode cX1_place 111 = .ok (.dup2, 1) := by decide +kernel
theorem dX1_place_112 : decode cX1_place 112 = .ok (.iaload, 1) := by decide +kernel
theorem dX1_place_113 : decode cX1_place 113 = .ok (.aload_n 0, 1) := by decide +kernel
theorem dX1_place_114 : decode cX1_place 114 = .ok (.getfield 36, 3) := by decide +kernel
theorem dX1_place_117 : decode cX1_place 117 = .ok (.getfield 68, 3) := by decide +kernel
theorem dX1_place_120 : decode cX1_place 120 = .ok (.iload_n 1, 1) := by decide +kernel
theorem dX1_place_121 : decode cX1_place 121 = .ok (.iaload, 1) := by decide +kernel
theorem dX1_place_122 : decode cX1_place 122 = .ok (.isub, 1) := by decide +kernel
theorem dX1_place_123 : decode cX1_place 123 = .ok (.iastore, 1) := by decide +kernel
theorem dX1_place_124 : decode cX1_place 124 = .ok (.aload_n 0, 1) := by decide +kernel
theorem dX1_place_125 : decode cX1_place 125 = .ok (.getfield 33, 3) := by decide +kernel
theorem dX1_place_128 : decode cX1_place 128 = .ok (.iload 4, 2) := by decide +kernel
theorem dX1_place_130 : decode cX1_place 130 = .ok (.dup2, 1) := by decide +kernel
theorem dX1_place_131 : decode cX1_place 131 = .ok (.iaload, 1) := by decide +kernel
theorem dX1_place_132 : decode cX1_place 132 = .ok (.iconst 1, 1) := by decide +kernel
theorem dX1_place_133 : decode cX1_place 133 = .ok (.iload_n 1, 1) := by decide +kernel
theorem dX1_place_134 : decode cX1_place 134 = .ok (.ishl, 1) := by decide +kernel
theorem dX1_place_135 : decode cX1_place 135 = .ok (.ixor, 1) := by decide +kernel
theorem dX1_place_136 : decode cX1_place 136 = .ok (.iastore, 1) := by decide +kernel
theorem dX1_place_137 : decode cX1_place 137 = .ok (.aload_n 0, 1) := by decide +kernel
theorem dX1_place_138 : decode cX1_place 138 = .ok (.dup, 1) := by decide +kernel
theorem dX1_place_139 : decode cX1_place 139 = .ok (.getfield 59, 3) := by decide +kernel
theorem dX1_place_142 : decode cX1_place 142 = .ok (.iconst 1, 1) := by decide +kernel
theorem dX1_place_143 : decode cX1_place 143 = .ok (.iload_n 1, 1) := by decide +kernel
theorem dX1_place_144 : decode cX1_place 144 = .ok (.ishl, 1) := by decide +kernel
theorem dX1_place_145 : decode cX1_place 145 = .ok (.ixor, 1) := by decide +kernel
theorem dX1_place_146 : decode cX1_place 146 = .ok (.putfield 59, 3) := by decide +kernel
theorem dX1_place_149 : decode cX1_place 149 = .ok (.aload_n 0, 1) := by decide +kernel
theorem dX1_place_150 : decode cX1_place 150 = .ok (.iload_n 2, 1) := by decide +kernel
theorem dX1_place_151 : decode cX1_place 151 = .ok (.iconst 1, 1) := by decide +kernel
theorem dX1_place_152 : decode cX1_place 152 = .ok (.iadd, 1) := by decide +kernel
theorem dX1_place_153 : decode cX1_place 153 = .ok (.iload 7, 2) := by decide +kernel
theorem dX1_place_155 : decode cX1_place 155 = .ok (.iload_n 1, 1) := by decide +kernel
theorem dX1_place_156 : decode cX1_place 156 = .ok (.invokevirtual 47, 3) := by decide +kernel
theorem dX1_place_159 : decode cX1_place 159 = .ok (.aload_n 0, 1) := by decide +kernel
theorem dX1_place_160 : decode cX1_place 160 = .ok (.dup, 1) := by decide +kernel
theorem dX1_place_161 : decode cX1_place 161 = .ok (.getfield 59, 3) := by decide +kernel
theorem dX1_place_164 : decode cX1_place 164 = .ok (.iconst 1, 1) := by decide +kernel
theorem dX1_place_165 : decode cX1_place 165 = .ok (.iload_n 1, 1) := by decide +kernel
theorem dX1_place_166 : decode cX1_place 166 = .ok (.ishl, 1) := by decide +kernel
theorem dX1_place_167 : decode cX1_place 167 = .ok (.ixor, 1) := by decide +kernel
theorem dX1_place_168 : decode cX1_place 168 = .ok (.putfield 59, 3) := by decide +kernel
theorem dX1_place_171 : decode cX1_place 171 = .ok (.aload_n 0, 1) := by decide +kernel
theorem dX1_place_172 : decode cX1_place 172 = .ok (.getfield 33, 3) := by decide +kernel
theorem dX1_place_175 : decode cX1_place 175 = .ok (.iload 4, 2) := by decide +kernel
theorem dX1_place_177 : decode cX1_place 177 = .ok (.dup2, 1) := by decide +kernel
theorem dX1_place_178 : decode cX1_place 178 = .ok (.iaload, 1) := by decide +kernel
theorem dX1_place_179 : decode cX1_place 179 = .ok (.iconst 1, 1) := by decide +kernel
theorem dX1_place_180 : decode cX1_place 180 = .ok (.iload_n 1, 1) := by decide +kernel
theorem dX1_place_181 : decode cX1_place 181 = .ok (.ishl, 1) := by decide +kernel
theorem dX1_place_182 : decode cX1_place 182 = .ok (.ixor, 1) := by decide +kernel
theorem dX1_place_183 : decode cX1_place 183 = .ok (.iastore, 1) := by decide +kernel
theorem dX1_place_184 : decode cX1_place 184 = .ok (.aload_n 0, 1) := by decide +kernel
theorem dX1_place_185 : decode cX1_place 185 = .ok (.getfield 30, 3) := by decide +kernel
theorem dX1_place_188 : decode cX1_place 188 = .ok (.iload 4, 2) := by decide +kernel
theorem dX1_place_190 : decode cX1_place 190 = .ok (.dup2, 1) := by decide +kernel
theorem dX1_place_191 : decode cX1_place 191 = .ok (.iaload, 1) := by decide +kernel
theorem dX1_place_192 : decode cX1_place 192 = .ok (.aload_n 0, 1) := by decide +kernel
theorem dX1_place_193 : decode cX1_place 193 = .ok (.getfield 36, 3) := by decide +kernel
theorem dX1_place_196 : decode cX1_place 196 = .ok (.getfield 68, 3) := by decide +kernel
theorem dX1_place_199 : decode cX1_place 199 = .ok (.iload_n 1, 1) := by decide +kernel
theorem dX1_place_200 : decode cX1_place 200 = .ok (.iaload, 1) := by decide +kernel
theorem dX1_place_201 : decode cX1_place 201 = .ok (.iadd, 1) := by decide +kernel
theorem dX1_place_202 : decode cX1_place 202 = .ok (.iastore, 1) := by decide +kernel
theorem dX1_place_203 : decode cX1_place 203 = .ok (.aload_n 0, 1) := by decide +kernel
theorem dX1_place_204 : decode cX1_place 204 = .ok (.getfield 27, 3) := by decide +kernel
theorem dX1_place_207 : decode cX1_place 207 = .ok (.iload 4, 2) := by decide +kernel
theorem dX1_place_209 : decode cX1_place 209 = .ok (.iload 6, 2) := by decide +kernel
theorem dX1_place_211 : decode cX1_place 211 = .ok (.iastore, 1) := by decide +kernel
theorem dX1_place_212 : decode cX1_place 212 = .ok (.aload_n 0, 1) := by decide +kernel
theorem dX1_place_213 : decode cX1_place 213 = .ok (.getfield 24, 3) := by decide +kernel
theorem dX1_place_216 : decode cX1_place 216 = .ok (.iload_n 3, 1) := by decide +kernel
theorem dX1_place_217 : decode cX1_place 217 = .ok (.iload 5, 2) := by decide +kernel
theorem dX1_place_219 : decode cX1_place 219 = .ok (.iastore, 1) := by decide +kernel
theorem dX1_place_220 : decode cX1_place 220 = .ok (.aload_n 0, 1) := by decide +kernel
theorem dX1_place_221 : decode cX1_place 221 = .ok (.getfield 21, 3) := by decide +kernel
theorem dX1_place_224 : decode cX1_place 224 = .ok (.iload_n 3, 1) := by decide +kernel
theorem dX1_place_225 : decode cX1_place 225 = .ok (.iload_n 1, 1) := by decide +kernel
theorem dX1_place_226 : decode cX1_place 226 = .ok (.iastore, 1) := by decide +kernel
theorem dX1_place_227 : decode cX1_place 227 = .ok (.return_, 1) := by decide +kernel
set_option maxRecDepth 20000 in
theorem ggX1_isHopeless_X0_isOperation : GoodIn wsX1_isHopeless wsX0_isOperation := goodIn_r _ [11, 12, 54, 55, 56, 57, 58, 59, 60, 61, 62, 63, 64, 65] (by decide +kernel) (by decide +kernel)
set_option maxRecDepth 20000 in
theorem gX1_isHopeless_X0_isOperation : GoodIn wsX1_isHopeless (wsV RX1 88 RX0 yX0_isOperation wsX0_isOperation) := goodIn_app (goodIn_of _ (by decide +kernel)) ggX1_isHopeless_X0_isOperation
set_option maxRecDepth 20000 in
theorem ggX1_isHopeless_X1_endsAbove : GoodIn wsX1_isHopeless wsX1_endsAbove := goodIn_r _ [17, 4, 18, 19, 20, 21, 22, 23, 24, 3, 25, 26, 27, 16, 28, 29, 30, 1, 31, 42, 43, 44, 45, 46, 47, 48, 49, 50, 51, 52, 53, 54, 55, 56, 57, 58, 59, 60, 61, 62, 63, 64, 65] (by decide +kernel) (by decide +kernel)
set_option maxRecDepth 20000 in
theorem gX1_isHopeless_X1_endsAbove : GoodIn wsX1_isHopeless (wsV RX1 109 RX1 yX1_endsAbove wsX1_endsAbove) := goodIn_app (goodIn_of _ (by decide +kernel)) ggX1_isHopeless_X1_endsAbove
set_option maxRecDepth 20000 in
theorem ggX1_isHopeless_X1_isStranded : GoodIn wsX1_isHopeless wsX1_isStranded := goodIn_r _ [35, 36, 4, 31, 37, 38, 39, 40, 16, 41, 25, 26, 27, 28, 29, 30, 1, 42, 43, 44, 45, 46, 47, 48, 49, 50, 51, 52, 53, 54, 55, 56, 57, 58, 59, 60, 61, 62, 63, 64, 65] (by decide +kernel) (by decide +kernel)
set_option maxRecDepth 20000 in
theorem gX1_isHopeless_X1_isStranded : GoodIn wsX1_isHopeless (wsV RX1 112 RX1 yX1_isStranded wsX1_isStranded) := goodIn_app (goodIn_of _ (by decide +kernel)) ggX1_isHopeless_X1_isStranded
theorem dX1_isHopeless_0 : decode cX1_isHopeless 0 = .ok (.iconst 0, 1) := by decide +kernel
theorem dX1_isHopeless_1 : decode cX1_isHopeless 1 = .ok (.istore_n 3, 1) := by decide +kernel
theorem dX1_isHopeless_2 : decode cX1_isHopeless 2 = .ok (.iload_n 3, 1) := by decide +kernel
theorem dX1_isHopeless_3 : decode cX1_isHopeless 3 = .ok (.iconst 4, 1) := by decide +kernel
theorem dX1_isHopeless_4 : decode cX1_isHopeless 4 = .ok (.if_icmp .ge 31, 3) := by decide +kernel
theorem dX1_isHopeless_7 : decode cX1_isHopeless 7 = .ok (.aload_n 0, 1) := by decide +kernel
theorem dX1_isHopeless_8 : decode cX1_isHopeless 8 = .ok (.getfield 27, 3) := by decide +kernel
theorem dX1_isHopeless_11 : decode cX1_isHopeless 11 = .ok (.iload_n 3, 1) := by decide +kernel
theorem dX1_isHopeless_12 : decode cX1_isHopeless 12 = .ok (.iaload, 1) := by decide +kernel
theorem dX1_isHopeless_13 : decode cX1_isHopeless 13 = .ok (.aload_n 0, 1) := by decide +kernel
theorem dX1_isHopeless_14 : decode cX1_isHopeless 14 = .ok (.getfield 30, 3) := by decide +kernel
theorem dX1_isHopeless_17 : decode cX1_isHopeless 17 = .ok (.iload_n 3, 1) := by decide +kernel
theorem dX1_isHopeless_18 : decode cX1_isHopeless 18 = .ok (.iaload, 1) := by decide +kernel
theorem dX1_isHopeless_19 : decode cX1_isHopeless 19 = .ok (.iadd, 1) := by decide +kernel
theorem dX1_isHopeless_20 : decode cX1_isHopeless 20 = .ok (.aload_n 0, 1) := by decide +kernel
theorem dX1_isHopeless_21 : decode cX1_isHopeless 21 = .ok (.getfield 62, 3) := by decide +kernel
theorem dX1_isHopeless_24 : decode cX1_isHopeless 24 = .ok (.if_icmp .le 5, 3) := by decide +kernel
theorem dX1_isHopeless_27 : decode cX1_isHopeless 27 = .ok (.iconst 1, 1) := by decide +kernel
theorem dX1_isHopeless_28 : decode cX1_isHopeless 28 = .ok (.ireturn, 1) := by decide +kernel
theorem dX1_isHopeless_29 : decode cX1_isHopeless 29 = .ok (.iinc 3 1, 3) := by decide +kernel
theorem dX1_isHopeless_32 : decode cX1_isHopeless 32 = .ok (.goto (-30), 3) := by decide +kernel
theorem dX1_isHopeless_35 : decode cX1_isHopeless 35 = .ok (.iconst 0, 1) := by decide +kernel
theorem dX1_isHopeless_36 : decode cX1_isHopeless 36 = .ok (.istore_n 3, 1) := by decide +kernel
theorem dX1_isHopeless_37 : decode cX1_isHopeless 37 = .ok (.iload_n 3, 1) := by decide +kernel
theorem dX1_isHopeless_38 : decode cX1_isHopeless 38 = .ok (.aload_n 0, 1) := by decide +kernel
theorem dX1_isHopeless_39 : decode cX1_isHopeless 39 = .ok (.getfield 36, 3) := by decide +kernel
theorem dX1_isHopeless_42 : decode cX1_isHopeless 42 = .ok (.getfield 51, 3) := by decide +kernel
theorem dX1_isHopeless_45 : decode cX1_isHopeless 45 = .ok (.if_icmp .ge 51, 3) := by decide +kernel
theorem dX1_isHopeless_48 : decode cX1_isHopeless 48 = .ok (.aload_n 0, 1) := by decide +kernel
theorem dX1_isHopeless_49 : decode cX1_isHopeless 49 = .ok (.getfield 21, 3) := by decide +kernel
theorem dX1_isHopeless_52 : decode cX1_isHopeless 52 = .ok (.iload_n 3, 1) := by decide +kernel
theorem dX1_isHopeless_53 : decode cX1_isHopeless 53 = .ok (.iaload, 1) := by decide +kernel
theorem dX1_isHopeless_54 : decode cX1_isHopeless 54 = .ok (.istore 4, 2) := by decide +kernel
theorem dX1_isHopeless_56 : decode cX1_isHopeless 56 = .ok (.aload_n 0, 1) := by decide +kernel
theorem dX1_isHopeless_57 : decode cX1_isHopeless 57 = .ok (.getfield 36, 3) := by decide +kernel
theorem dX1_isHopeless_60 : decode cX1_isHopeless 60 = .ok (.iload 4, 2) := by decide +kernel
theorem dX1_isHopeless_62 : decode cX1_isHopeless 62 = .ok (.invokevirtual 88, 3) := by decide +kernel
theorem dX1_isHopeless_65 : decode cX1_isHopeless 65 = .ok (.ifCond .eq 25, 3) := by decide +kernel
theorem dX1_isHopeless_68 : decode cX1_isHopeless 68 = .ok (.aload_n 0, 1) := by decide +kernel
theorem dX1_isHopeless_69 : decode cX1_isHopeless 69 = .ok (.iload 4, 2) := by decide +kernel
theorem dX1_isHopeless_71 : decode cX1_isHopeless 71 = .ok (.invokevirtual 109, 3) := by decide +kernel
theorem dX1_isHopeless_74 : decode cX1_isHopeless 74 = .ok (.ifCond .ne 14, 3) := by decide +kernel
theorem dX1_isHopeless_77 : decode cX1_isHopeless 77 = .ok (.aload_n 0, 1) := by decide +kernel
theorem dX1_isHopeless_78 : decode cX1_isHopeless 78 = .ok (.iload 4, 2) := by decide +kernel
theorem dX1_isHopeless_80 : decode cX1_isHopeless 80 = .ok (.iload_n 1, 1) := by decide +kernel
theorem dX1_isHopeless_81 : decode cX1_isHopeless 81 = .ok (.iload_n 2, 1) := by decide +kernel
theorem dX1_isHopeless_82 : decode cX1_isHopeless 82 = .ok (.invokevirtual 112, 3) := by decide +kernel
theorem dX1_isHopeless_85 : decode cX1_isHopeless 85 = .ok (.ifCond .eq 5, 3) := by decide +kernel
theorem dX1_isHopeless_88 : decode cX1_isHopeless 88 = .ok (.iconst 1, 1) := by decide +kernel
theorem dX1_isHopeless_89 : decode cX1_isHopeless 89 = .ok (.ireturn, 1) := by decide +kernel
theorem dX1_isHopeless_90 : decode cX1_isHopeless 90 = .ok (.iinc 3 1, 3) := by decide +kernel
theorem dX1_isHopeless_93 : decode cX1_isHopeless 93 = .ok (.goto (-56), 3) := by decide +kernel
theorem dX1_isHopeless_96 : decode cX1_isHopeless 96 = .ok (.iconst 0, 1) := by decide +kernel
theorem dX1_isHopeless_97 : decode cX1_isHopeless 97 = .ok (.ireturn, 1) := by decide +kernel
set_option maxRecDepth 20000 in
theorem ggX1_endsAbove_X1_earliest : GoodIn wsX1_endsAbove wsX1_earliest := goodIn_r _ [14, 15, 1, 16, 17, 18, 19, 20, 21, 22, 23, 24, 25, 26, 27, 28, 29, 30, 31, 32, 33, 34, 35, 36, 37, 38, 39, 40, 41, 42] (by decide +kernel) (by decide +kernel)
set_option maxRecDepth 20000 in
theorem gX1_endsAbove_X1_earliest : GoodIn wsX1_endsAbove (wsV RX1 103 RX1 yX1_earliest wsX1_earliest) := goodIn_app (goodIn_of _ (by decide +kernel)) ggX1_endsAbove_X1_earliest
theorem dX1_endsAbove_0 : decode cX1_endsAbove 0 = .ok (.aload_n 0, 1) := by decide +kernel
theorem dX1_endsAbove_1 : decode cX1_endsAbove 1 = .ok (.iload_n 1, 1) := by decide +kernel
theorem dX1_endsAbove_2 : decode cX1_endsAbove 2 = .ok (.invokevirtual 103, 3) := by decide +kernel
theorem dX1_endsAbove_5 : decode cX1_endsAbove 5 = .ok (.aload_n 0, 1) := by decide +kernel
theorem dX1_endsAbove_6 : decode cX1_endsAbove 6 = .ok (.getfield 36, 3) := by decide +kernel
theorem dX1_endsAbove_9 : decode cX1_endsAbove 9 = .ok (.getfield 115, 3) := by decide +kernel
theorem dX1_endsAbove_12 : decode cX1_endsAbove 12 = .ok (.iload_n 1, 1) := by decide +kernel
theorem dX1_endsAbove_13 : decode cX1_endsAbove 13 = .ok (.iaload, 1) := by decide +kernel
theorem dX1_endsAbove_14 : decode cX1_endsAbove 14 = .ok (.invokestatic 118, 3) := by decide +kernel
theorem dX1_endsAbove_17 : decode cX1_endsAbove 17 = .ok (.aload_n 0, 1) := by decide +kernel
theorem dX1_endsAbove_18 : decode cX1_endsAbove 18 = .ok (.getfield 36, 3) := by decide +kernel
theorem dX1_endsAbove_21 : decode cX1_endsAbove 21 = .ok (.getfield 68, 3) := by decide +kernel
theorem dX1_endsAbove_24 : decode cX1_endsAbove 24 = .ok (.iload_n 1, 1) := by decide +kernel
theorem dX1_endsAbove_25 : decode cX1_endsAbove 25 = .ok (.iaload, 1) := by decide +kernel
theorem dX1_endsAbove_26 : decode cX1_endsAbove 26 = .ok (.iadd, 1) := by decide +kernel
theorem dX1_endsAbove_27 : decode cX1_endsAbove 27 = .ok (.aload_n 0, 1) := by decide +kernel
theorem dX1_endsAbove_28 : decode cX1_endsAbove 28 = .ok (.getfield 36, 3) := by decide +kernel
theorem dX1_endsAbove_31 : decode cX1_endsAbove 31 = .ok (.getfield 124, 3) := by decide +kernel
theorem dX1_endsAbove_34 : decode cX1_endsAbove 34 = .ok (.iload_n 1, 1) := by decide +kernel
theorem dX1_endsAbove_35 : decode cX1_endsAbove 35 = .ok (.iaload, 1) := by decide +kernel
theorem dX1_endsAbove_36 : decode cX1_endsAbove 36 = .ok (.iadd, 1) := by decide +kernel
theorem dX1_endsAbove_37 : decode cX1_endsAbove 37 = .ok (.aload_n 0, 1) := by decide +kernel
theorem dX1_endsAbove_38 : decode cX1_endsAbove 38 = .ok (.getfield 62, 3) := by decide +kernel
theorem dX1_endsAbove_41 : decode cX1_endsAbove 41 = .ok (.if_icmp .le 7, 3) := by decide +kernel
theorem dX1_endsAbove_44 : decode cX1_endsAbove 44 = .ok (.iconst 1, 1) := by decide +kernel
theorem dX1_endsAbove_45 : decode cX1_endsAbove 45 = .ok (.goto 4, 3) := by decide +kernel
theorem dX1_endsAbove_48 : decode cX1_endsAbove 48 = .ok (.iconst 0, 1) := by decide +kernel
theorem dX1_endsAbove_49 : decode cX1_endsAbove 49 = .ok (.ireturn, 1) := by decide +kernel
set_option maxRecDepth 20000 in
theorem ggX1_isStranded_X1_isPassed : GoodIn wsX1_isStranded wsX1_isPassed := goodIn_r _ [9, 10, 11, 12, 8, 13, 14, 2, 15, 16, 3, 17, 18, 19, 20, 21, 22, 23, 24, 25, 26, 27, 28, 29, 30, 31, 32, 33, 34, 35, 36, 37, 38, 39, 40] (by decide +kernel) (by decide +kernel)
set_option maxRecDepth 20000 in
theorem gX1_isStranded_X1_isPassed : GoodIn wsX1_isStranded (wsV RX1 92 RX1 yX1_isPassed wsX1_isPassed) := goodIn_app (goodIn_of _ (by decide +kernel)) ggX1_isStranded_X1_isPassed
theorem dX1_isStranded_0 : decode cX1_isStranded 0 = .ok (.aload_n 0, 1) := by decide +kernel
theorem dX1_isStranded_1 : decode cX1_isStranded 1 = .ok (.getfield 33, 3) := by decide +kernel
theorem dX1_isStranded_4 : decode cX1_isStranded 4 = .ok (.aload_n 0, 1) := by decide +kernel
theorem dX1_isStranded_5 : decode cX1_isStranded 5 = .ok (.getfield 36, 3) := by decide +kernel
theorem dX1_isStranded_8 : decode cX1_isStranded 8 = .ok (.getfield 71, 3) := by decide +kernel
theorem dX1_isStranded_11 : decode cX1_isStranded 11 = .ok (.iload_n 1, 1) := by decide +kernel
theorem dX1_isStranded_12 : decode cX1_isStranded 12 = .ok (.iaload, 1) := by decide +kernel
theorem dX1_isStranded_13 : decode cX1_isStranded 13 = .ok (.iaload, 1) := by decide +kernel
theorem dX1_isStranded_14 : decode cX1_isStranded 14 = .ok (.iconst 1, 1) := by decide +kernel
theorem dX1_isStranded_15 : decode cX1_isStranded 15 = .ok (.iload_n 1, 1) := by decide +kernel
theorem dX1_isStranded_16 : decode cX1_isStranded 16 = .ok (.ishl, 1) := by decide +kernel
theorem dX1_isStranded_17 : decode cX1_isStranded 17 = .ok (.iconst (-1), 1) := by decide +kernel
theorem dX1_isStranded_18 : decode cX1_isStranded 18 = .ok (.ixor, 1) := by decide +kernel
theorem dX1_isStranded_19 : decode cX1_isStranded 19 = .ok (.iand, 1) := by decide +kernel
theorem dX1_isStranded_20 : decode cX1_isStranded 20 = .ok (.aload_n 0, 1) := by decide +kernel
theorem dX1_isStranded_21 : decode cX1_isStranded 21 = .ok (.getfield 36, 3) := by decide +kernel
theorem dX1_isStranded_24 : decode cX1_isStranded 24 = .ok (.getfield 127, 3) := by decide +kernel
theorem dX1_isStranded_27 : decode cX1_isStranded 27 = .ok (.iload_n 1, 1) := by decide +kernel
theorem dX1_isStranded_28 : decode cX1_isStranded 28 = .ok (.iaload, 1) := by decide +kernel
theorem dX1_isStranded_29 : decode cX1_isStranded 29 = .ok (.iconst (-1), 1) := by decide +kernel
theorem dX1_isStranded_30 : decode cX1_isStranded 30 = .ok (.ixor, 1) := by decide +kernel
theorem dX1_isStranded_31 : decode cX1_isStranded 31 = .ok (.iand, 1) := by decide +kernel
theorem dX1_isStranded_32 : decode cX1_isStranded 32 = .ok (.istore 4, 2) := by decide +kernel
theorem dX1_isStranded_34 : decode cX1_isStranded 34 = .ok (.iload 4, 2) := by decide +kernel
theorem dX1_isStranded_36 : decode cX1_isStranded 36 = .ok (.ifCond .ne 17, 3) := by decide +kernel
theorem dX1_isStranded_39 : decode cX1_isStranded 39 = .ok (.aload_n 0, 1) := by decide +kernel
theorem dX1_isStranded_40 : decode cX1_isStranded 40 = .ok (.iload_n 1, 1) := by decide +kernel
theorem dX1_isStranded_41 : decode cX1_isStranded 41 = .ok (.iload_n 2, 1) := by decide +kernel
theorem dX1_isStranded_42 : decode cX1_isStranded 42 = .ok (.iload_n 3, 1) := by decide +kernel
theorem dX1_isStranded_43 : decode cX1_isStranded 43 = .ok (.invokevirtual 92, 3) := by decide +kernel
theorem dX1_isStranded_46 : decode cX1_isStranded 46 = .ok (.ifCond .eq 7, 3) := by decide +kernel
theorem dX1_isStranded_49 : decode cX1_isStranded 49 = .ok (.iconst 1, 1) := by decide +kernel
theorem dX1_isStranded_50 : decode cX1_isStranded 50 = .ok (.goto 4, 3) := by decide +kernel
theorem dX1_isStranded_53 : decode cX1_isStranded 53 = .ok (.iconst 0, 1) := by decide +kernel
theorem dX1_isStranded_54 : decode cX1_isStranded 54 = .ok (.ireturn, 1) := by decide +kernel
set_option maxRecDepth 20000 in
theorem ggX1_keep_X1_isEarlier : GoodIn wsX1_keep wsX1_isEarlier := goodIn_r _ [20, 1, 2, 3, 11, 21, 22, 23, 24, 25, 26, 27, 28, 29, 30, 31, 32, 33, 34, 35, 36, 37, 38, 39, 40, 41, 42, 43, 44] (by decide +kernel) (by decide +kernel)
set_option maxRecDepth 20000 in
theorem gX1_keep_X1_isEarlier : GoodIn wsX1_keep (wsV RX1 130 RX1 yX1_isEarlier wsX1_isEarlier) := goodIn_app (goodIn_of _ (by decide +kernel)) ggX1_keep_X1_isEarlier
theorem dX1_keep_0 : decode cX1_keep 0 = .ok (.iconst 0, 1) := by decide +kernel
theorem dX1_keep_1 : decode cX1_keep 1 = .ok (.istore_n 1, 1) := by decide +kernel
theorem dX1_keep_2 : decode cX1_keep 2 = .ok (.iconst 0, 1) := by decide +kernel
theorem dX1_keep_3 : decode cX1_keep 3 = .ok (.istore_n 2, 1) := by decide +kernel
theorem dX1_keep_4 : decode cX1_keep 4 = .ok (.iload_n 2, 1) := by decide +kernel
theorem dX1_keep_5 : decode cX1_keep 5 = .ok (.aload_n 0, 1) := by decide +kernel
theorem dX1_keep_6 : decode cX1_keep 6 = .ok (.getfield 36, 3) := by decide +kernel
theorem dX1_keep_9 : decode cX1_keep 9 = .ok (.getfield 65, 3) := by decide +kernel
theorem dX1_keep_12 : decode cX1_keep 12 = .ok (.if_icmp .ge 30, 3) := by decide +kernel
theorem dX1_keep_15 : decode cX1_keep 15 = .ok (.iload_n 1, 1) := by decide +kernel
theorem dX1_keep_16 : decode cX1_keep 16 = .ok (.aload_n 0, 1) := by decide +kernel
theorem dX1_keep_17 : decode cX1_keep 17 = .ok (.getfield 15, 3) := by decide +kernel
theorem dX1_keep_20 : decode cX1_keep 20 = .ok (.iload_n 2, 1) := by decide +kernel
theorem dX1_keep_21 : decode cX1_keep 21 = .ok (.iaload, 1) := by decide +kernel
theorem dX1_keep_22 : decode cX1_keep 22 = .ok (.aload_n 0, 1) := by decide +kernel
theorem dX1_keep_23 : decode cX1_keep 23 = .ok (.getfield 36, 3) := by decide +kernel
theorem dX1_keep_26 : decode cX1_keep 26 = .ok (.getfield 68, 3) := by decide +kernel
theorem dX1_keep_29 : decode cX1_keep 29 = .ok (.iload_n 2, 1) := by decide +kernel
theorem dX1_keep_30 : decode cX1_keep 30 = .ok (.iaload, 1) := by decide +kernel
theorem dX1_keep_31 : decode cX1_keep 31 = .ok (.iadd, 1) := by decide +kernel
theorem dX1_keep_32 : decode cX1_keep 32 = .ok (.invokestatic 118, 3) := by decide +kernel
theorem dX1_keep_35 : decode cX1_keep 35 = .ok (.istore_n 1, 1) := by decide +kernel
theorem dX1_keep_36 : decode cX1_keep 36 = .ok (.iinc 2 1, 3) := by decide +kernel
theorem dX1_keep_39 : decode cX1_keep 39 = .ok (.goto (-35), 3) := by decide +kernel
theorem dX1_keep_42 : decode cX1_keep 42 = .ok (.iload_n 1, 1) := by decide +kernel
theorem dX1_keep_43 : decode cX1_keep 43 = .ok (.aload_n 0, 1) := by decide +kernel
theorem dX1_keep_44 : decode cX1_keep 44 = .ok (.getfield 62, 3) := by decide +kernel
theorem dX1_keep_47 : decode cX1_keep 47 = .ok (.if_icmp .le 4, 3) := by decide +kernel
theorem dX1_keep_50 : decode cX1_keep 50 = .ok (.return_, 1) := by decide +kernel
theorem dX1_keep_51 : decode cX1_keep 51 = .ok (.iload_n 1, 1) := by decide +kernel
theorem dX1_keep_52 : decode cX1_keep 52 = .ok (.aload_n 0, 1) := by decide +kernel
theorem dX1_keep_53 : decode cX1_keep 53 = .ok (.getfield 62, 3) := by decide +kernel
theorem dX1_keep_56 : decode cX1_keep 56 = .ok (.if_icmp .ge 13, 3) := by decide +kernel
theorem dX1_keep_59 : decode cX1_keep 59 = .ok (.aload_n 0, 1) := by decide +kernel
theorem dX1_keep_60 : decode cX1_keep 60 = .ok (.iload_n 1, 1) := by decide +kernel
theorem dX1_keep_61 : decode cX1_keep 61 = .ok (.putfield 62, 3) := by decide +kernel
theorem dX1_keep_64 : decode cX1_keep 64 = .ok (.aload_n 0, 1) := by decide +kernel
theorem dX1_keep_65 : decode cX1_keep 65 = .ok (.iconst 0, 1) := by decide +kernel
theorem dX1_keep_66 : decode cX1_keep 66 = .ok (.putfield 43, 3) := by decide +kernel
theorem dX1_keep_69 : decode cX1_keep 69 = .ok (.aload_n 0, 1) := by decide +kernel
theorem dX1_keep_70 : decode cX1_keep 70 = .ok (.getfield 43, 3) := by decide +kernel
theorem dX1_keep_73 : decode cX1_keep 73 = .ok (.ifCond .eq 10, 3) := by decide +kernel
theorem dX1_keep_76 : decode cX1_keep 76 = .ok (.aload_n 0, 1) := by decide +kernel
theorem dX1_keep_77 : decode cX1_keep 77 = .ok (.invokevirtual 130, 3) := by decide +kernel
theorem dX1_keep_80 : decode cX1_keep 80 = .ok (.ifCond .eq 23, 3) := by decide +kernel
theorem dX1_keep_83 : decode cX1_keep 83 = .ok (.aload_n 0, 1) := by decide +kernel
theorem dX1_keep_84 : decode cX1_keep 84 = .ok (.getfield 15, 3) := by decide +kernel
theorem dX1_keep_87 : decode cX1_keep 87 = .ok (.iconst 0, 1) := by decide +kernel
theorem dX1_keep_88 : decode cX1_keep 88 = .ok (.aload_n 0, 1) := by decide +kernel
theorem dX1_keep_89 : decode cX1_keep 89 = .ok (.getfield 9, 3) := by decide +kernel
theorem dX1_keep_92 : decode cX1_keep 92 = .ok (.iconst 0, 1) := by decide +kernel
theorem dX1_keep_93 : decode cX1_keep 93 = .ok (.aload_n 0, 1) := by decide +kernel
theorem dX1_keep_94 : decode cX1_keep 94 = .ok (.getfield 36, 3) := by decide +kernel
theorem dX1_keep_97 : decode cX1_keep 97 = .ok (.getfield 65, 3) := by decide +kernel
theorem dX1_keep_100 : decode cX1_keep 100 = .ok (.invokestatic 134, 3) := by decide +kernel
theorem dX1_keep_103 : decode cX1_keep 103 = .ok (.aload_n 0, 1) := by decide +kernel
theorem dX1_keep_104 : decode cX1_keep 104 = .ok (.dup, 1) := by decide +kernel
theorem dX1_keep_105 : decode cX1_keep 105 = .ok (.getfield 43, 3) := by decide +kernel
theorem dX1_keep_108 : decode cX1_keep 108 = .ok (.iconst 1, 1) := by decide +kernel
theorem dX1_keep_109 : decode cX1_keep 109 = .ok (.iadd, 1) := by decide +kernel
theorem dX1_keep_110 : decode cX1_keep 110 = .ok (.putfield 43, 3) := by decide +kernel
theorem dX1_keep_113 : decode cX1_keep 113 = .ok (.return_, 1) := by decide +kernel
theorem dX1_isEarlier_0 : decode cX1_isEarlier 0 = .ok (.iconst 0, 1) := by decide +kernel
theorem dX1_isEarlier_1 : decode cX1_isEarlier 1 = .ok (.istore_n 1, 1) := by decide +kernel
theorem dX1_isEarlier_2 : decode cX1_isEarlier 2 = .ok (.iload_n 1, 1) := by decide +kernel
theorem dX1_isEarlier_3 : decode cX1_isEarlier 3 = .ok (.aload_n 0, 1) := by decide +kernel
theorem dX1_isEarlier_4 : decode cX1_isEarlier 4 = .ok (.getfield 36, 3) := by decide +kernel
theorem dX1_isEarlier_7 : decode cX1_isEarlier 7 = .ok (.getfield 65, 3) := by decide +kernel
theorem dX1_isEarlier_10 : decode cX1_isEarlier 10 = .ok (.if_icmp .ge 45, 3) := by decide +kernel
theorem dX1_isEarlier_13 : decode cX1_isEarlier 13 = .ok (.aload_n 0, 1) := by decide +kernel
theorem dX1_isEarlier_14 : decode cX1_isEarlier 14 = .ok (.getfield 15, 3) := by decide +kernel
theorem dX1_isEarlier_17 : decode cX1_isEarlier 17 = .ok (.iload_n 1, 1) := by decide +kernel
theorem dX1_isEarlier_18 : decode cX1_isEarlier 18 = .ok (.iaload, 1) := by decide +kernel
theorem dX1_isEarlier_19 : decode cX1_isEarlier 19 = .ok (.aload_n 0, 1) := by decide +kernel
theorem dX1_isEarlier_20 : decode cX1_isEarlier 20 = .ok (.getfield 9, 3) := by decide +kernel
theorem dX1_isEarlier_23 : decode cX1_isEarlier 23 = .ok (.iload_n 1, 1) := by decide +kernel
theorem dX1_isEarlier_24 : decode cX1_isEarlier 24 = .ok (.iaload, 1) := by decide +kernel
theorem dX1_isEarlier_25 : decode cX1_isEarlier 25 = .ok (.if_icmp .eq 24, 3) := by decide +kernel
theorem dX1_isEarlier_28 : decode cX1_isEarlier 28 = .ok (.aload_n 0, 1) := by decide +kernel
theorem dX1_isEarlier_29 : decode cX1_isEarlier 29 = .ok (.getfield 15, 3) := by decide +kernel
theorem dX1_isEarlier_32 : decode cX1_isEarlier 32 = .ok (.iload_n 1, 1) := by decide +kernel
theorem dX1_isEarlier_33 : decode cX1_isEarlier 33 = .ok (.iaload, 1) := by decide +kernel
theorem dX1_isEarlier_34 : decode cX1_isEarlier 34 = .ok (.aload_n 0, 1) := by decide +kernel
theorem dX1_isEarlier_35 : decode cX1_isEarlier 35 = .ok (.getfield 9, 3) := by decide +kernel
theorem dX1_isEarlier_38 : decode cX1_isEarlier 38 = .ok (.iload_n 1, 1) := by decide +kernel
theorem dX1_isEarlier_39 : decode cX1_isEarlier 39 = .ok (.iaload, 1) := by decide +kernel
theorem dX1_isEarlier_40 : decode cX1_isEarlier 40 = .ok (.if_icmp .ge 7, 3) := by decide +kernel
theorem dX1_isEarlier_43 : decode cX1_isEarlier 43 = .ok (.iconst 1, 1) := by decide +kernel
theorem dX1_isEarlier_44 : decode cX1_isEarlier 44 = .ok (.goto 4, 3) := by decide +kernel
theorem dX1_isEarlier_47 : decode cX1_isEarlier 47 = .ok (.iconst 0, 1) := by decide +kernel
theorem dX1_isEarlier_48 : decode cX1_isEarlier 48 = .ok (.ireturn, 1) := by decide +kernel
theorem dX1_isEarlier_49 : decode cX1_isEarlier 49 = .ok (.iinc 1 1, 3) := by decide +kernel
theorem dX1_isEarlier_52 : decode cX1_isEarlier 52 = .ok (.goto (-50), 3) := by decide +kernel
theorem dX1_isEarlier_55 : decode cX1_isEarlier 55 = .ok (.iconst 0, 1) := by decide +kernel
theorem dX1_isEarlier_56 : decode cX1_isEarlier 56 = .ok (.ireturn, 1) := by decide +kernel
set_option maxRecDepth 20000 in
theorem ggX2_init_X0_init : GoodIn wsX2_init wsX0_init := goodIn_r _ [16, 17, 2, 3, 12, 18, 19, 20, 21, 22, 23, 24, 25, 26, 27, 41, 42, 43, 44, 45, 46, 47, 48, 49, 50, 51, 52] (by decide +kernel) (by decide +kernel)
set_option maxRecDepth 20000 in
theorem gX2_init_X0_init_n9 : GoodIn wsX2_init (wsX0_init) := ggX2_init_X0_init
set_option maxRecDepth 20000 in
theorem ggX2_init_X1_init : GoodIn wsX2_init wsX1_init := goodIn_r _ [30, 31, 2, 3, 12, 32, 33, 34, 35, 36, 37, 38, 39, 40, 57, 58, 59, 60, 61, 62, 63, 64, 65, 66, 67, 68] (by decide +kernel) (by decide +kernel)
set_option maxRecDepth 20000 in
theorem gX2_init_X1_init : GoodIn wsX2_init (wsX1_init) := ggX2_init_X1_init
theorem dX2_init_0 : decode cX2_init 0 = .ok (.aload_n 0, 1) := by decide +kernel
theorem dX2_init_1 : decode cX2_init 1 = .ok (.invokespecial 1, 3) := by decide +kernel
theorem dX2_init_4 : decode cX2_init 4 = .ok (.aload_n 0, 1) := by decide +kernel
theorem dX2_init_5 : decode cX2_init 5 = .ok (.new 7, 3) := by decide +kernel
theorem dX2_init_8 : decode cX2_init 8 = .ok (.dup, 1) := by decide +kernel
theorem dX2_init_9 : decode cX2_init 9 = .ok (.invokespecial 9, 3) := by decide +kernel
theorem dX2_init_12 : decode cX2_init 12 = .ok (.putfield 10, 3) := by decide +kernel
theorem dX2_init_15 : decode cX2_init 15 = .ok (.aload_n 0, 1) := by decide +kernel
theorem dX2_init_16 : decode cX2_init 16 = .ok (.new 16, 3) := by decide +kernel
theorem dX2_init_19 : decode cX2_init 19 = .ok (.dup, 1) := by decide +kernel
theorem dX2_init_20 : decode cX2_init 20 = .ok (.aload_n 0, 1) := by decide +kernel
theorem dX2_init_21 : decode cX2_init 21 = .ok (.getfield 10, 3) := by decide +kernel
theorem dX2_init_24 : decode cX2_init 24 = .ok (.invokespecial 18, 3) := by decide +kernel
theorem dX2_init_27 : decode cX2_init 27 = .ok (.putfield 21, 3) := by decide +kernel
theorem dX2_init_30 : decode cX2_init 30 = .ok (.aload_n 0, 1) := by decide +kernel
theorem dX2_init_31 : decode cX2_init 31 = .ok (.bipush 12, 2) := by decide +kernel
theorem dX2_init_33 : decode cX2_init 33 = .ok (.newarray .int, 2) := by decide +kernel
theorem dX2_init_35 : decode cX2_init 35 = .ok (.putfield 25, 3) := by decide +kernel
theorem dX2_init_38 : decode cX2_init 38 = .ok (.aload_n 0, 1) := by decide +kernel
theorem dX2_init_39 : decode cX2_init 39 = .ok (.iconst 0, 1) := by decide +kernel
theorem dX2_init_40 : decode cX2_init 40 = .ok (.putfield 29, 3) := by decide +kernel
theorem dX2_init_43 : decode cX2_init 43 = .ok (.return_, 1) := by decide +kernel
set_option maxRecDepth 20000 in
theorem ggX2_clear_X0_empty : GoodIn wsX2_clear wsX0_empty := goodIn_r _ [8, 9, 10, 15, 16, 17, 18, 19, 20, 21, 22, 23, 24, 25, 26] (by decide +kernel) (by decide +kernel)
set_option maxRecDepth 20000 in
theorem gX2_clear_X0_empty : GoodIn wsX2_clear (wsV RX2 37 RX0 yX0_empty wsX0_empty) := goodIn_app (goodIn_of _ (by decide +kernel)) ggX2_clear_X0_empty
theorem dX2_clear_0 : decode cX2_clear 0 = .ok (.aload_n 0, 1) := by decide +kernel
theorem dX2_clear_1 : decode cX2_clear 1 = .ok (.getfield 10, 3) := by decide +kernel
theorem dX2_clear_4 : decode cX2_clear 4 = .ok (.getfield 33, 3) := by decide +kernel
theorem dX2_clear_7 : decode cX2_clear 7 = .ok (.istore_n 1, 1) := by decide +kernel
theorem dX2_clear_8 : decode cX2_clear 8 = .ok (.aload_n 0, 1) := by decide +kernel
theorem dX2_clear_9 : decode cX2_clear 9 = .ok (.getfield 10, 3) := by decide +kernel
theorem dX2_clear_12 : decode cX2_clear 12 = .ok (.invokevirtual 37, 3) := by decide +kernel
theorem dX2_clear_15 : decode cX2_clear 15 = .ok (.aload_n 0, 1) := by decide +kernel
theorem dX2_clear_16 : decode cX2_clear 16 = .ok (.iconst 0, 1) := by decide +kernel
theorem dX2_clear_17 : decode cX2_clear 17 = .ok (.putfield 29, 3) := by decide +kernel
theorem dX2_clear_20 : decode cX2_clear 20 = .ok (.iload_n 1, 1) := by decide +kernel
theorem dX2_clear_21 : decode cX2_clear 21 = .ok (.ireturn, 1) := by decide +kernel
set_option maxRecDepth 20000 in
theorem ggX2_job_X0_addJob : GoodIn wsX2_job wsX0_addJob := goodIn_r _ [7, 8, 9, 10, 15, 16, 17, 18, 19, 20, 21, 22, 23, 24, 25, 26] (by decide +kernel) (by decide +kernel)
set_option maxRecDepth 20000 in
theorem gX2_job_X0_addJob : GoodIn wsX2_job (wsV RX2 43 RX0 yX0_addJob wsX0_addJob) := goodIn_app (goodIn_of _ (by decide +kernel)) ggX2_job_X0_addJob
theorem dX2_job_0 : decode cX2_job 0 = .ok (.aload_n 0, 1) := by decide +kernel
theorem dX2_job_1 : decode cX2_job 1 = .ok (.getfield 10, 3) := by decide +kernel
theorem dX2_job_4 : decode cX2_job 4 = .ok (.getfield 40, 3) := by decide +kernel
theorem dX2_job_7 : decode cX2_job 7 = .ok (.iconst 4, 1) := by decide +kernel
theorem dX2_job_8 : decode cX2_job 8 = .ok (.if_icmp .ge 13, 3) := by decide +kernel
theorem dX2_job_11 : decode cX2_job 11 = .ok (.aload_n 0, 1) := by decide +kernel
theorem dX2_job_12 : decode cX2_job 12 = .ok (.getfield 10, 3) := by decide +kernel
theorem dX2_job_15 : decode cX2_job 15 = .ok (.invokevirtual 43, 3) := by decide +kernel
theorem dX2_job_18 : decode cX2_job 18 = .ok (.goto 5, 3) := by decide +kernel
theorem dX2_job_21 : decode cX2_job 21 = .ok (.bipush (-3), 2) := by decide +kernel
theorem dX2_job_23 : decode cX2_job 23 = .ok (.ireturn, 1) := by decide +kernel
set_option maxRecDepth 20000 in
theorem ggX2_operation_X0_isJob : GoodIn wsX2_operation wsX0_isJob := goodIn_r _ [9, 10, 55, 56, 57, 58, 59, 60, 61, 62, 63, 64, 65, 66] (by decide +kernel) (by decide +kernel)
set_option maxRecDepth 20000 in
theorem gX2_operation_X0_isJob : GoodIn wsX2_operation (wsV RX2 47 RX0 yX0_isJob wsX0_isJob) := goodIn_app (goodIn_of _ (by decide +kernel)) ggX2_operation_X0_isJob
set_option maxRecDepth 20000 in
theorem ggX2_operation_X2_isMachine : GoodIn wsX2_operation wsX2_isMachine := goodIn_r _ [14] (by decide +kernel) (by decide +kernel)
set_option maxRecDepth 20000 in
theorem gX2_operation_X2_isMachine : GoodIn wsX2_operation (va_wsS RX2 51 yX2_isMachine wsX2_isMachine) := goodIn_app (goodIn_of _ (by decide +kernel)) ggX2_operation_X2_isMachine
set_option maxRecDepth 20000 in
theorem ggX2_operation_X0_visits : GoodIn wsX2_operation wsX0_visits := goodIn_r _ [18, 19, 20, 21, 55, 56, 57, 58, 59, 60, 61, 62, 63, 64, 65, 66] (by decide +kernel) (by decide +kernel)
set_option maxRecDepth 20000 in
theorem gX2_operation_X0_visits : GoodIn wsX2_operation (wsV RX2 54 RX0 yX0_visits wsX0_visits) := goodIn_app (goodIn_of _ (by decide +kernel)) ggX2_operation_X0_visits
set_option maxRecDepth 20000 in
theorem ggX2_operation_X0_addOperation : GoodIn wsX2_operation wsX0_addOperation := goodIn_r _ [25, 19, 20, 21, 26, 27, 28, 29, 30, 31, 32, 33, 8, 34, 35, 36, 37, 38, 39, 40, 41, 42, 43, 44, 45, 46, 47, 48, 49, 13, 50, 55, 56, 57, 58, 59, 60, 61, 62, 63, 64, 65, 66] (by decide +kernel) (by decide +kernel)
set_option maxRecDepth 20000 in
theorem gX2_operation_X0_addOperation : GoodIn wsX2_operation (wsV RX2 58 RX0 yX0_addOperation wsX0_addOperation) := goodIn_app (goodIn_of _ (by decide +kernel)) ggX2_operation_X0_addOperation
theorem dX2_operation_0 : decode cX2_operation 0 = .ok (.aload_n 0, 1) := by decide +kernel
theorem dX2_operation_1 : decode cX2_operation 1 = .ok (.getfield 10, 3) := by decide +kernel
theorem dX2_operation_4 : decode cX2_operation 4 = .ok (.iload_n 1, 1) := by decide +kernel
theorem dX2_operation_5 : decode cX2_operation 5 = .ok (.invokevirtual 47, 3) := by decide +kernel
theorem dX2_operation_8 : decode cX2_operation 8 = .ok (.ifCond .eq 21, 3) := by decide +kernel
theorem dX2_operation_11 : decode cX2_operation 11 = .ok (.iload_n 2, 1) := by decide +kernel
theorem dX2_operation_12 : decode cX2_operation 12 = .ok (.invokestatic 51, 3) := by decide +kernel
theorem dX2_operation_15 : decode cX2_operation 15 = .ok (.ifCond .eq 14, 3) := by decide +kernel
theorem dX2_operation_18 : decode cX2_operation 18 = .ok (.iload_n 3, 1) := by decide +kernel
theorem dX2_operation_19 : decode cX2_operation 19 = .ok (.iconst 1, 1) := by decide +kernel
theorem dX2_operation_20 : decode cX2_operation 20 = .ok (.if_icmp .lt 9, 3) := by decide +kernel
theorem dX2_operation_23 : decode cX2_operation 23 = .ok (.iload_n 3, 1) := by decide +kernel
theorem dX2_operation_24 : decode cX2_operation 24 = .ok (.bipush 50, 2) := by decide +kernel
theorem dX2_operation_26 : decode cX2_operation 26 = .ok (.if_icmp .le 6, 3) := by decide +kernel
theorem dX2_operation_29 : decode cX2_operation 29 = .ok (.bipush (-2), 2) := by decide +kernel
theorem dX2_operation_31 : decode cX2_operation 31 = .ok (.ireturn, 1) := by decide +kernel
theorem dX2_operation_32 : decode cX2_operation 32 = .ok (.aload_n 0, 1) := by decide +kernel
theorem dX2_operation_33 : decode cX2_operation 33 = .ok (.getfield 10, 3) := by decide +kernel
theorem dX2_operation_36 : decode cX2_operation 36 = .ok (.iload_n 1, 1) := by decide +kernel
theorem dX2_operation_37 : decode cX2_operation 37 = .ok (.iload_n 2, 1) := by decide +kernel
theorem dX2_operation_38 : decode cX2_operation 38 = .ok (.invokevirtual 54, 3) := by decide +kernel
theorem dX2_operation_41 : decode cX2_operation 41 = .ok (.ifCond .eq 6, 3) := by decide +kernel
theorem dX2_operation_44 : decode cX2_operation 44 = .ok (.bipush (-2), 2) := by decide +kernel
theorem dX2_operation_46 : decode cX2_operation 46 = .ok (.ireturn, 1) := by decide +kernel
theorem dX2_operation_47 : decode cX2_operation 47 = .ok (.aload_n 0, 1) := by decide +kernel
theorem dX2_operation_48 : decode cX2_operation 48 = .ok (.getfield 10, 3) := by decide +kernel
theorem dX2_operation_51 : decode cX2_operation 51 = .ok (.getfield 33, 3) := by decide +kernel
theorem dX2_operation_54 : decode cX2_operation 54 = .ok (.bipush 12, 2) := by decide +kernel
theorem dX2_operation_56 : decode cX2_operation 56 = .ok (.if_icmp .lt 6, 3) := by decide +kernel
theorem dX2_operation_59 : decode cX2_operation 59 = .ok (.bipush (-3), 2) := by decide +kernel
theorem dX2_operation_61 : decode cX2_operation 61 = .ok (.ireturn, 1) := by decide +kernel
theorem dX2_operation_62 : decode cX2_operation 62 = .ok (.aload_n 0, 1) := by decide +kernel
theorem dX2_operation_63 : decode cX2_operation 63 = .ok (.iconst 0, 1) := by decide +kernel
theorem dX2_operation_64 : decode cX2_operation 64 = .ok (.putfield 29, 3) := by decide +kernel
theorem dX2_operation_67 : decode cX2_operation 67 = .ok (.aload_n 0, 1) := by decide +kernel
theorem dX2_operation_68 : decode cX2_operation 68 = .ok (.getfield 10, 3) := by decide +kernel
theorem dX2_operation_71 : decode cX2_operation 71 = .ok (.iload_n 1, 1) := by decide +kernel
theorem dX2_operation_72 : decode cX2_operation 72 = .ok (.iload_n 2, 1) := by decide +kernel
theorem dX2_operation_73 : decode cX2_operation 73 = .ok (.iload_n 3, 1) := by decide +kernel
theorem dX2_operation_74 : decode cX2_operation 74 = .ok (.invokevirtual 58, 3) := by decide +kernel
theorem dX2_operation_77 : decode cX2_operation 77 = .ok (.istore 4, 2) := by decide +kernel
theorem dX2_operation_79 : decode cX2_operation 79 = .ok (.iconst 0, 1) := by decide +kernel
theorem dX2_operation_80 : decode cX2_operation 80 = .ok (.istore 5, 2) := by decide +kernel
theorem dX2_operation_82 : decode cX2_operation 82 = .ok (.iload 5, 2) := by decide +kernel
theorem dX2_operation_84 : decode cX2_operation 84 = .ok (.aload_n 0, 1) := by decide +kernel
theorem dX2_operation_85 : decode cX2_operation 85 = .ok (.getfield 10, 3) := by decide +kernel
theorem dX2_operation_88 : decode cX2_operation 88 = .ok (.getfield 33, 3) := by decide +kernel
theorem dX2_operation_91 : decode cX2_operation 91 = .ok (.if_icmp .ge 17, 3) := by decide +kernel
theorem dX2_operation_94 : decode cX2_operation 94 = .ok (.aload_n 0, 1) := by decide +kernel
theorem dX2_operation_95 : decode cX2_operation 95 = .ok (.getfield 25, 3) := by decide +kernel
theorem dX2_operation_98 : decode cX2_operation 98 = .ok (.iload 5, 2) := by decide +kernel
theorem dX2_operation_100 : decode cX2_operation 100 = .ok (.iconst 0, 1) := by decide +kernel
theorem dX2_operation_101 : decode cX2_operation 101 = .ok (.iastore, 1) := by decide +kernel
theorem dX2_operation_102 : decode cX2_operation 102 = .ok (.iinc 5 1, 3) := by decide +kernel
theorem dX2_operation_105 : decode cX2_operation 105 = .ok (.goto (-23), 3) := by decide +kernel
theorem dX2_operation_108 : decode cX2_operation 108 = .ok (.iload 4, 2) := by decide +kernel
theorem dX2_operation_110 : decode cX2_operation 110 = .ok (.ireturn, 1) := by decide +kernel
set_option maxRecDepth 20000 in
theorem ggX2_before_X0_isPair : GoodIn wsX2_before wsX0_isPair := goodIn_r _ [7, 8, 9, 10, 11, 6, 12, 13, 50, 51, 52, 53, 54, 55, 56, 57, 58, 59, 60, 61] (by decide +kernel) (by decide +kernel)
set_option maxRecDepth 20000 in
theorem gX2_before_X0_isPair : GoodIn wsX2_before (wsV RX2 62 RX0 yX0_isPair wsX0_isPair) := goodIn_app (goodIn_of _ (by decide +kernel)) ggX2_before_X0_isPair
set_option maxRecDepth 20000 in
theorem ggX2_before_X0_leads : GoodIn wsX2_before wsX0_leads := goodIn_r _ [17, 13, 18, 19, 20, 6, 21, 22, 23, 24, 25, 26, 50, 51, 52, 53, 54, 55, 56, 57, 58, 59, 60, 61] (by decide +kernel) (by decide +kernel)
set_option maxRecDepth 20000 in
theorem gX2_before_X0_leads : GoodIn wsX2_before (wsV RX2 65 RX0 yX0_leads wsX0_leads) := goodIn_app (goodIn_of _ (by decide +kernel)) ggX2_before_X0_leads
set_option maxRecDepth 20000 in
theorem ggX2_before_X0_hasArc : GoodIn wsX2_before wsX0_hasArc := goodIn_r _ [30, 23, 24, 25, 26, 50, 51, 52, 53, 54, 55, 56, 57, 58, 59, 60, 61] (by decide +kernel) (by decide +kernel)
set_option maxRecDepth 20000 in
theorem gX2_before_X0_hasArc : GoodIn wsX2_before (wsV RX2 68 RX0 yX0_hasArc wsX0_hasArc) := goodIn_app (goodIn_of _ (by decide +kernel)) ggX2_before_X0_hasArc
set_option maxRecDepth 20000 in
theorem ggX2_before_X0_putArc : GoodIn wsX2_before wsX0_putArc := goodIn_r _ [34, 23, 35, 36, 37, 6, 38, 13, 39, 40, 41, 42, 43, 44, 45, 18, 19, 20, 21, 22, 24, 25, 26, 50, 51, 52, 53, 54, 55, 56, 57, 58, 59, 60, 61] (by decide +kernel) (by decide +kernel)
set_option maxRecDepth 20000 in
theorem gX2_before_X0_putArc : GoodIn wsX2_before (wsV RX2 71 RX0 yX0_putArc wsX0_putArc) := goodIn_app (goodIn_of _ (by decide +kernel)) ggX2_before_X0_putArc
theorem dX2_before_0 : decode cX2_before 0 = .ok (.aload_n 0, 1) := by decide +kernel
theorem dX2_before_1 : decode cX2_before 1 = .ok (.getfield 10, 3) := by decide +kernel
theorem dX2_before_4 : decode cX2_before 4 = .ok (.iload_n 1, 1) := by decide +kernel
theorem dX2_before_5 : decode cX2_before 5 = .ok (.iload_n 2, 1) := by decide +kernel
theorem dX2_before_6 : decode cX2_before 6 = .ok (.invokevirtual 62, 3) := by decide +kernel
theorem dX2_before_9 : decode cX2_before 9 = .ok (.ifCond .ne 6, 3) := by decide +kernel
theorem dX2_before_12 : decode cX2_before 12 = .ok (.bipush (-2), 2) := by decide +kernel
theorem dX2_before_14 : decode cX2_before 14 = .ok (.ireturn, 1) := by decide +kernel
theorem dX2_before_15 : decode cX2_before 15 = .ok (.aload_n 0, 1) := by decide +kernel
theorem dX2_before_16 : decode cX2_before 16 = .ok (.getfield 10, 3) := by decide +kernel
theorem dX2_before_19 : decode cX2_before 19 = .ok (.iload_n 2, 1) := by decide +kernel
theorem dX2_before_20 : decode cX2_before 20 = .ok (.iload_n 1, 1) := by decide +kernel
theorem dX2_before_21 : decode cX2_before 21 = .ok (.invokevirtual 65, 3) := by decide +kernel
theorem dX2_before_24 : decode cX2_before 24 = .ok (.ifCond .eq 6, 3) := by decide +kernel
theorem dX2_before_27 : decode cX2_before 27 = .ok (.bipush (-4), 2) := by decide +kernel
theorem dX2_before_29 : decode cX2_before 29 = .ok (.ireturn, 1) := by decide +kernel
theorem dX2_before_30 : decode cX2_before 30 = .ok (.aload_n 0, 1) := by decide +kernel
theorem dX2_before_31 : decode cX2_before 31 = .ok (.getfield 10, 3) := by decide +kernel
theorem dX2_before_34 : decode cX2_before 34 = .ok (.iload_n 1, 1) := by decide +kernel
theorem dX2_before_35 : decode cX2_before 35 = .ok (.iload_n 2, 1) := by decide +kernel
theorem dX2_before_36 : decode cX2_before 36 = .ok (.invokevirtual 68, 3) := by decide +kernel
theorem dX2_before_39 : decode cX2_before 39 = .ok (.ifCond .eq 5, 3) := by decide +kernel
theorem dX2_before_42 : decode cX2_before 42 = .ok (.iconst 0, 1) := by decide +kernel
theorem dX2_before_43 : decode cX2_before 43 = .ok (.ireturn, 1) := by decide +kernel
theorem dX2_before_44 : decode cX2_before 44 = .ok (.aload_n 0, 1) := by decide +kernel
theorem dX2_before_45 : decode cX2_before 45 = .ok (.getfield 10, 3) := by decide +kernel
theorem dX2_before_48 : decode cX2_before 48 = .ok (.iload_n 1, 1) := by decide +kernel
theorem dX2_before_49 : decode cX2_before 49 = .ok (.iload_n 2, 1) := by decide +kernel
theorem dX2_before_50 : decode cX2_before 50 = .ok (.invokevirtual 71, 3) := by decide +kernel
theorem dX2_before_53 : decode cX2_before 53 = .ok (.aload_n 0, 1) := by decide +kernel
theorem dX2_before_54 : decode cX2_before 54 = .ok (.iconst 0, 1) := by decide +kernel
theorem dX2_before_55 : decode cX2_before 55 = .ok (.putfield 29, 3) := by decide +kernel
theorem dX2_before_58 : decode cX2_before 58 = .ok (.iconst 1, 1) := by decide +kernel
theorem dX2_before_59 : decode cX2_before 59 = .ok (.ireturn, 1) := by decide +kernel
set_option maxRecDepth 20000 in
theorem ggX2_free_X0_isPair : GoodIn wsX2_free wsX0_isPair := goodIn_r _ [7, 8, 9, 10, 11, 6, 12, 13, 50, 51, 52, 53, 54, 55, 56, 57, 58, 59, 60, 61] (by decide +kernel) (by decide +kernel)
set_option maxRecDepth 20000 in
theorem gX2_free_X0_isPair : GoodIn wsX2_free (wsV RX2 62 RX0 yX0_isPair wsX0_isPair) := goodIn_app (goodIn_of _ (by decide +kernel)) ggX2_free_X0_isPair
set_option maxRecDepth 20000 in
theorem ggX2_free_X0_isTied : GoodIn wsX2_free wsX0_isTied := goodIn_r _ [17, 18, 19, 20, 6, 21, 22, 23, 24, 25, 50, 51, 52, 53, 54, 55, 56, 57, 58, 59, 60, 61] (by decide +kernel) (by decide +kernel)
set_option maxRecDepth 20000 in
theorem gX2_free_X0_isTied : GoodIn wsX2_free (wsV RX2 75 RX0 yX0_isTied wsX0_isTied) := goodIn_app (goodIn_of _ (by decide +kernel)) ggX2_free_X0_isTied
set_option maxRecDepth 20000 in
theorem ggX2_free_X0_dropArcs : GoodIn wsX2_free wsX0_dropArcs := goodIn_r _ [29, 22, 30, 31, 32, 6, 33, 13, 34, 35, 36, 37, 38, 39, 40, 41, 42, 43, 44, 45, 23, 24, 25, 50, 51, 52, 53, 54, 55, 56, 57, 58, 59, 60, 61] (by decide +kernel) (by decide +kernel)
set_option maxRecDepth 20000 in
theorem gX2_free_X0_dropArcs : GoodIn wsX2_free (wsV RX2 78 RX0 yX0_dropArcs wsX0_dropArcs) := goodIn_app (goodIn_of _ (by decide +kernel)) ggX2_free_X0_dropArcs
theorem dX2_free_0 : decode cX2_free 0 = .ok (.aload_n 0, 1) := by decide +kernel
theorem dX2_free_1 : decode cX2_free 1 = .ok (.getfield 10, 3) := by decide +kernel
theorem dX2_free_4 : decode cX2_free 4 = .ok (.iload_n 1, 1) := by decide +kernel
theorem dX2_free_5 : decode cX2_free 5 = .ok (.iload_n 2, 1) := by decide +kernel
theorem dX2_free_6 : decode cX2_free 6 = .ok (.invokevirtual 62, 3) := by decide +kernel
theorem dX2_free_9 : decode cX2_free 9 = .ok (.ifCond .ne 6, 3) := by decide +kernel
theorem dX2_free_12 : decode cX2_free 12 = .ok (.bipush (-2), 2) := by decide +kernel
theorem dX2_free_14 : decode cX2_free 14 = .ok (.ireturn, 1) := by decide +kernel
theorem dX2_free_15 : decode cX2_free 15 = .ok (.aload_n 0, 1) := by decide +kernel
theorem dX2_free_16 : decode cX2_free 16 = .ok (.getfield 10, 3) := by decide +kernel
theorem dX2_free_19 : decode cX2_free 19 = .ok (.iload_n 1, 1) := by decide +kernel
theorem dX2_free_20 : decode cX2_free 20 = .ok (.iload_n 2, 1) := by decide +kernel
theorem dX2_free_21 : decode cX2_free 21 = .ok (.invokevirtual 75, 3) := by decide +kernel
theorem dX2_free_24 : decode cX2_free 24 = .ok (.ifCond .ne 5, 3) := by decide +kernel
theorem dX2_free_27 : decode cX2_free 27 = .ok (.iconst 0, 1) := by decide +kernel
theorem dX2_free_28 : decode cX2_free 28 = .ok (.ireturn, 1) := by decide +kernel
theorem dX2_free_29 : decode cX2_free 29 = .ok (.aload_n 0, 1) := by decide +kernel
theorem dX2_free_30 : decode cX2_free 30 = .ok (.getfield 10, 3) := by decide +kernel
theorem dX2_free_33 : decode cX2_free 33 = .ok (.iload_n 1, 1) := by decide +kernel
theorem dX2_free_34 : decode cX2_free 34 = .ok (.iload_n 2, 1) := by decide +kernel
theorem dX2_free_35 : decode cX2_free 35 = .ok (.invokevirtual 78, 3) := by decide +kernel
theorem dX2_free_38 : decode cX2_free 38 = .ok (.aload_n 0, 1) := by decide +kernel
theorem dX2_free_39 : decode cX2_free 39 = .ok (.iconst 0, 1) := by decide +kernel
theorem dX2_free_40 : decode cX2_free 40 = .ok (.putfield 29, 3) := by decide +kernel
theorem dX2_free_43 : decode cX2_free 43 = .ok (.iconst 1, 1) := by decide +kernel
theorem dX2_free_44 : decode cX2_free 44 = .ok (.ireturn, 1) := by decide +kernel
set_option maxRecDepth 20000 in
theorem ggX2_arc_X0_isPair : GoodIn wsX2_arc wsX0_isPair := goodIn_r _ [6, 7, 8, 9, 10, 5, 11, 12, 25, 26, 27, 28, 29, 30, 31, 32, 33, 34, 35, 36] (by decide +kernel) (by decide +kernel)
set_option maxRecDepth 20000 in
theorem gX2_arc_X0_isPair : GoodIn wsX2_arc (wsV RX2 62 RX0 yX0_isPair wsX0_isPair) := goodIn_app (goodIn_of _ (by decide +kernel)) ggX2_arc_X0_isPair
set_option maxRecDepth 20000 in
theorem ggX2_arc_X0_hasArc : GoodIn wsX2_arc wsX0_hasArc := goodIn_r _ [16, 17, 18, 19, 20, 25, 26, 27, 28, 29, 30, 31, 32, 33, 34, 35, 36] (by decide +kernel) (by decide +kernel)
set_option maxRecDepth 20000 in
theorem gX2_arc_X0_hasArc : GoodIn wsX2_arc (wsV RX2 68 RX0 yX0_hasArc wsX0_hasArc) := goodIn_app (goodIn_of _ (by decide +kernel)) ggX2_arc_X0_hasArc
theorem dX2_arc_0 : decode cX2_arc 0 = .ok (.aload_n 0, 1) := by decide +kernel
theorem dX2_arc_1 : decode cX2_arc 1 = .ok (.getfield 10, 3) := by decide +kernel
theorem dX2_arc_4 : decode cX2_arc 4 = .ok (.iload_n 1, 1) := by decide +kernel
theorem dX2_arc_5 : decode cX2_arc 5 = .ok (.iload_n 2, 1) := by decide +kernel
theorem dX2_arc_6 : decode cX2_arc 6 = .ok (.invokevirtual 62, 3) := by decide +kernel
theorem dX2_arc_9 : decode cX2_arc 9 = .ok (.ifCond .ne 6, 3) := by decide +kernel
theorem dX2_arc_12 : decode cX2_arc 12 = .ok (.bipush (-2), 2) := by decide +kernel
theorem dX2_arc_14 : decode cX2_arc 14 = .ok (.ireturn, 1) := by decide +kernel
theorem dX2_arc_15 : decode cX2_arc 15 = .ok (.aload_n 0, 1) := by decide +kernel
theorem dX2_arc_16 : decode cX2_arc 16 = .ok (.getfield 10, 3) := by decide +kernel
theorem dX2_arc_19 : decode cX2_arc 19 = .ok (.iload_n 1, 1) := by decide +kernel
theorem dX2_arc_20 : decode cX2_arc 20 = .ok (.iload_n 2, 1) := by decide +kernel
theorem dX2_arc_21 : decode cX2_arc 21 = .ok (.invokevirtual 68, 3) := by decide +kernel
theorem dX2_arc_24 : decode cX2_arc 24 = .ok (.ifCond .eq 7, 3) := by decide +kernel
theorem dX2_arc_27 : decode cX2_arc 27 = .ok (.iconst 1, 1) := by decide +kernel
theorem dX2_arc_28 : decode cX2_arc 28 = .ok (.goto 4, 3) := by decide +kernel
theorem dX2_arc_31 : decode cX2_arc 31 = .ok (.iconst 0, 1) := by decide +kernel
theorem dX2_arc_32 : decode cX2_arc 32 = .ok (.ireturn, 1) := by decide +kernel
set_option maxRecDepth 20000 in
theorem ggX2_told_X0_isOperation : GoodIn wsX2_told wsX0_isOperation := goodIn_r _ [14, 15, 36, 37, 38, 39, 40, 41, 42, 43, 44, 45, 46, 47] (by decide +kernel) (by decide +kernel)
set_option maxRecDepth 20000 in
theorem gX2_told_X0_isOperation : GoodIn wsX2_told (wsV RX2 81 RX0 yX0_isOperation wsX0_isOperation) := goodIn_app (goodIn_of _ (by decide +kernel)) ggX2_told_X0_isOperation
set_option maxRecDepth 20000 in
theorem ggX2_told_X0_through : GoodIn wsX2_told wsX0_through := goodIn_r _ [19, 20, 21, 22, 36, 37, 38, 39, 40, 41, 42, 43, 44, 45, 46, 47] (by decide +kernel) (by decide +kernel)
set_option maxRecDepth 20000 in
theorem gX2_told_X0_through : GoodIn wsX2_told (wsV RX2 99 RX0 yX0_through wsX0_through) := goodIn_app (goodIn_of _ (by decide +kernel)) ggX2_told_X0_through
set_option maxRecDepth 20000 in
theorem ggX2_told_X0_longest : GoodIn wsX2_told wsX0_longest := goodIn_r _ [26, 15, 27, 28, 29, 30, 31, 17, 18, 13, 19, 20, 21, 22, 36, 37, 38, 39, 40, 41, 42, 43, 44, 45, 46, 47] (by decide +kernel) (by decide +kernel)
set_option maxRecDepth 20000 in
theorem gX2_told_X0_longest : GoodIn wsX2_told (wsV RX2 103 RX0 yX0_longest wsX0_longest) := goodIn_app (goodIn_of _ (by decide +kernel)) ggX2_told_X0_longest
theorem dX2_told_0 : decode cX2_told 0 = .ok (.aload_n 0, 1) := by decide +kernel
theorem dX2_told_1 : decode cX2_told 1 = .ok (.getfield 10, 3) := by decide +kernel
theorem dX2_told_4 : decode cX2_told 4 = .ok (.iload_n 1, 1) := by decide +kernel
theorem dX2_told_5 : decode cX2_told 5 = .ok (.invokevirtual 81, 3) := by decide +kernel
theorem dX2_told_8 : decode cX2_told 8 = .ok (.ifCond .ne 5, 3) := by decide +kernel
theorem dX2_told_11 : decode cX2_told 11 = .ok (.iconst (-1), 1) := by decide +kernel
theorem dX2_told_12 : decode cX2_told 12 = .ok (.ireturn, 1) := by decide +kernel
theorem dX2_told_13 : decode cX2_told 13 = .ok (.iload_n 2, 1) := by decide +kernel
theorem dX2_told_14 : decode cX2_told 14 = .ok (.tableswitch 137 0 6 #[42, 52, 62, 72, 82, 92, 116], 42) := by decide +kernel
theorem dX2_told_56 : decode cX2_told 56 = .ok (.aload_n 0, 1) := by decide +kernel
theorem dX2_told_57 : decode cX2_told 57 = .ok (.getfield 10, 3) := by decide +kernel
theorem dX2_told_60 : decode cX2_told 60 = .ok (.getfield 84, 3) := by decide +kernel
theorem dX2_told_63 : decode cX2_told 63 = .ok (.iload_n 1, 1) := by decide +kernel
theorem dX2_told_64 : decode cX2_told 64 = .ok (.iaload, 1) := by decide +kernel
theorem dX2_told_65 : decode cX2_told 65 = .ok (.ireturn, 1) := by decide +kernel
theorem dX2_told_66 : decode cX2_told 66 = .ok (.aload_n 0, 1) := by decide +kernel
theorem dX2_told_67 : decode cX2_told 67 = .ok (.getfield 10, 3) := by decide +kernel
theorem dX2_told_70 : decode cX2_told 70 = .ok (.getfield 87, 3) := by decide +kernel
theorem dX2_told_73 : decode cX2_told 73 = .ok (.iload_n 1, 1) := by decide +kernel
theorem dX2_told_74 : decode cX2_told 74 = .ok (.iaload, 1) := by decide +kernel
theorem dX2_told_75 : decode cX2_told 75 = .ok (.ireturn, 1) := by decide +kernel
theorem dX2_told_76 : decode cX2_told 76 = .ok (.aload_n 0, 1) := by decide +kernel
theorem dX2_told_77 : decode cX2_told 77 = .ok (.getfield 10, 3) := by decide +kernel
theorem dX2_told_80 : decode cX2_told 80 = .ok (.getfield 90, 3) := by decide +kernel
theorem dX2_told_83 : decode cX2_told 83 = .ok (.iload_n 1, 1) := by decide +kernel
theorem dX2_told_84 : decode cX2_told 84 = .ok (.iaload, 1) := by decide +kernel
theorem dX2_told_85 : decode cX2_told 85 = .ok (.ireturn, 1) := by decide +kernel
theorem dX2_told_86 : decode cX2_told 86 = .ok (.aload_n 0, 1) := by decide +kernel
theorem dX2_told_87 : decode cX2_told 87 = .ok (.getfield 10, 3) := by decide +kernel
theorem dX2_told_90 : decode cX2_told 90 = .ok (.getfield 93, 3) := by decide +kernel
theorem dX2_told_93 : decode cX2_told 93 = .ok (.iload_n 1, 1) := by decide +kernel
theorem dX2_told_94 : decode cX2_told 94 = .ok (.iaload, 1) := by decide +kernel
theorem dX2_told_95 : decode cX2_told 95 = .ok (.ireturn, 1) := by decide +kernel
theorem dX2_told_96 : decode cX2_told 96 = .ok (.aload_n 0, 1) := by decide +kernel
theorem dX2_told_97 : decode cX2_told 97 = .ok (.getfield 10, 3) := by decide +kernel
theorem dX2_told_100 : decode cX2_told 100 = .ok (.getfield 96, 3) := by decide +kernel
theorem dX2_told_103 : decode cX2_told 103 = .ok (.iload_n 1, 1) := by decide +kernel
theorem dX2_told_104 : decode cX2_told 104 = .ok (.iaload, 1) := by decide +kernel
theorem dX2_told_105 : decode cX2_told 105 = .ok (.ireturn, 1) := by decide +kernel
theorem dX2_told_106 : decode cX2_told 106 = .ok (.aload_n 0, 1) := by decide +kernel
theorem dX2_told_107 : decode cX2_told 107 = .ok (.getfield 10, 3) := by decide +kernel
theorem dX2_told_110 : decode cX2_told 110 = .ok (.iload_n 1, 1) := by decide +kernel
theorem dX2_told_111 : decode cX2_told 111 = .ok (.invokevirtual 99, 3) := by decide +kernel
theorem dX2_told_114 : decode cX2_told 114 = .ok (.aload_n 0, 1) := by decide +kernel
theorem dX2_told_115 : decode cX2_told 115 = .ok (.getfield 10, 3) := by decide +kernel
theorem dX2_told_118 : decode cX2_told 118 = .ok (.invokevirtual 103, 3) := by decide +kernel
theorem dX2_told_121 : decode cX2_told 121 = .ok (.if_icmp .ne 7, 3) := by decide +kernel
theorem dX2_told_124 : decode cX2_told 124 = .ok (.iconst 1, 1) := by decide +kernel
theorem dX2_told_125 : decode cX2_told 125 = .ok (.goto 4, 3) := by decide +kernel
theorem dX2_told_128 : decode cX2_told 128 = .ok (.iconst 0, 1) := by decide +kernel
theorem dX2_told_129 : decode cX2_told 129 = .ok (.ireturn, 1) := by decide +kernel
theorem dX2_told_130 : decode cX2_told 130 = .ok (.aload_n 0, 1) := by decide +kernel
theorem dX2_told_131 : decode cX2_told 131 = .ok (.getfield 29, 3) := by decide +kernel
theorem dX2_told_134 : decode cX2_told 134 = .ok (.ifCond .eq 15, 3) := by decide +kernel
theorem dX2_told_137 : decode cX2_told 137 = .ok (.aload_n 0, 1) := by decide +kernel
theorem dX2_told_138 : decode cX2_told 138 = .ok (.getfield 21, 3) := by decide +kernel
theorem dX2_told_141 : decode cX2_told 141 = .ok (.getfield 106, 3) := by decide +kernel
theorem dX2_told_144 : decode cX2_told 144 = .ok (.iload_n 1, 1) := by decide +kernel
theorem dX2_told_145 : decode cX2_told 145 = .ok (.iaload, 1) := by decide +kernel
theorem dX2_told_146 : decode cX2_told 146 = .ok (.goto 4, 3) := by decide +kernel
theorem dX2_told_149 : decode cX2_told 149 = .ok (.iconst (-1), 1) := by decide +kernel
theorem dX2_told_150 : decode cX2_told 150 = .ok (.ireturn, 1) := by decide +kernel
theorem dX2_told_151 : decode cX2_told 151 = .ok (.bipush (-2), 2) := by decide +kernel
theorem dX2_told_153 : decode cX2_told 153 = .ok (.ireturn, 1) := by decide +kernel
set_option maxRecDepth 20000 in
theorem ggX2_length_X0_longest : GoodIn wsX2_length wsX0_longest := goodIn_r _ [6, 7, 8, 9, 10, 11, 12, 13, 14, 5, 15, 16, 17, 18, 23, 24, 25, 26, 27, 28, 29, 30, 31, 32, 33, 34] (by decide +kernel) (by decide +kernel)
set_option maxRecDepth 20000 in
theorem gX2_length_X0_longest : GoodIn wsX2_length (wsV RX2 103 RX0 yX0_longest wsX0_longest) := goodIn_app (goodIn_of _ (by decide +kernel)) ggX2_length_X0_longest
theorem dX2_length_0 : decode cX2_length 0 = .ok (.aload_n 0, 1) := by decide +kernel
theorem dX2_length_1 : decode cX2_length 1 = .ok (.getfield 10, 3) := by decide +kernel
theorem dX2_length_4 : decode cX2_length 4 = .ok (.invokevirtual 103, 3) := by decide +kernel
theorem dX2_length_7 : decode cX2_length 7 = .ok (.ireturn, 1) := by decide +kernel
set_option maxRecDepth 20000 in
theorem ggX2_load_X2_isMachine : GoodIn wsX2_load wsX2_isMachine := goodIn_r _ [5] (by decide +kernel) (by decide +kernel)
set_option maxRecDepth 20000 in
theorem gX2_load_X2_isMachine : GoodIn wsX2_load (va_wsS RX2 51 yX2_isMachine wsX2_isMachine) := goodIn_app (goodIn_of _ (by decide +kernel)) ggX2_load_X2_isMachine
set_option maxRecDepth 20000 in
theorem ggX2_load_X0_burden : GoodIn wsX2_load wsX0_burden := goodIn_r _ [10, 11, 12, 13, 14, 15, 16, 17, 18, 19, 20, 21, 9, 22, 23, 28, 29, 30, 31, 32, 33, 34, 35, 36, 37, 38, 39] (by decide +kernel) (by decide +kernel)
set_option maxRecDepth 20000 in
theorem gX2_load_X0_burden : GoodIn wsX2_load (wsV RX2 109 RX0 yX0_burden wsX0_burden) := goodIn_app (goodIn_of _ (by decide +kernel)) ggX2_load_X0_burden
theorem dX2_load_0 : decode cX2_load 0 = .ok (.iload_n 1, 1) := by decide +kernel
theorem dX2_load_1 : decode cX2_load 1 = .ok (.invokestatic 51, 3) := by decide +kernel
theorem dX2_load_4 : decode cX2_load 4 = .ok (.ifCond .eq 14, 3) := by decide +kernel
theorem dX2_load_7 : decode cX2_load 7 = .ok (.aload_n 0, 1) := by decide +kernel
theorem dX2_load_8 : decode cX2_load 8 = .ok (.getfield 10, 3) := by decide +kernel
theorem dX2_load_11 : decode cX2_load 11 = .ok (.iload_n 1, 1) := by decide +kernel
theorem dX2_load_12 : decode cX2_load 12 = .ok (.invokevirtual 109, 3) := by decide +kernel
theorem dX2_load_15 : decode cX2_load 15 = .ok (.goto 5, 3) := by decide +kernel
theorem dX2_load_18 : decode cX2_load 18 = .ok (.bipush (-2), 2) := by decide +kernel
theorem dX2_load_20 : decode cX2_load 20 = .ok (.ireturn, 1) := by decide +kernel
set_option maxRecDepth 20000 in
theorem ggX2_select_X0_force : GoodIn wsX2_select wsX0_force := goodIn_r _ [7, 8, 9, 10, 11, 12, 13, 14, 15, 16, 17, 6, 18, 19, 20, 21, 22, 23, 24, 25, 26, 27, 28, 29, 30, 31, 32, 33, 34, 35, 36, 37, 38, 39, 40, 41, 42, 43, 44, 45, 46, 47, 48, 49, 50, 51, 52, 53, 54, 55, 56, 57, 58, 59, 60, 61, 62, 63, 64, 65, 66, 67, 68, 69, 70, 71, 72, 73, 74, 75, 76, 77, 78, 79, 80, 81, 82, 83, 84, 85, 86, 87, 88, 89, 94, 95, 96, 97, 98, 99, 100, 101, 102, 103, 104, 105] (by decide +kernel) (by decide +kernel)
set_option maxRecDepth 20000 in
theorem gX2_select_X0_force : GoodIn wsX2_select (wsV RX2 112 RX0 yX0_force wsX0_force) := goodIn_app (goodIn_of _ (by decide +kernel)) ggX2_select_X0_force
theorem dX2_select_0 : decode cX2_select 0 = .ok (.aload_n 0, 1) := by decide +kernel
theorem dX2_select_1 : decode cX2_select 1 = .ok (.getfield 10, 3) := by decide +kernel
theorem dX2_select_4 : decode cX2_select 4 = .ok (.iload_n 1, 1) := by decide +kernel
theorem dX2_select_5 : decode cX2_select 5 = .ok (.invokevirtual 112, 3) := by decide +kernel
theorem dX2_select_8 : decode cX2_select 8 = .ok (.istore_n 2, 1) := by decide +kernel
theorem dX2_select_9 : decode cX2_select 9 = .ok (.iload_n 2, 1) := by decide +kernel
theorem dX2_select_10 : decode cX2_select 10 = .ok (.ifCond .le 8, 3) := by decide +kernel
theorem dX2_select_13 : decode cX2_select 13 = .ok (.aload_n 0, 1) := by decide +kernel
theorem dX2_select_14 : decode cX2_select 14 = .ok (.iconst 0, 1) := by decide +kernel
theorem dX2_select_15 : decode cX2_select 15 = .ok (.putfield 29, 3) := by decide +kernel
theorem dX2_select_18 : decode cX2_select 18 = .ok (.iload_n 2, 1) := by decide +kernel
theorem dX2_select_19 : decode cX2_select 19 = .ok (.ireturn, 1) := by decide +kernel
set_option maxRecDepth 20000 in
theorem ggX2_solve_X1_run : GoodIn wsX2_solve wsX1_run := goodIn_r _ [8, 9, 10, 11, 12, 7, 13, 14, 15, 16, 17, 18, 19, 20, 21, 22, 23, 24, 25, 26, 27, 28, 29, 30, 31, 32, 33, 34, 35, 36, 37, 38, 39, 40, 41, 42, 43, 44, 45, 46, 47, 48, 49, 50, 51, 52, 53, 54, 55, 56, 57, 58, 59, 60, 61, 62, 63, 64, 65, 66, 67, 68, 69, 70, 71, 72, 73, 74, 75, 76, 77, 78, 79, 80, 81, 82, 83, 84, 85, 86, 87, 88, 89, 90, 91, 92, 93, 94, 95, 96, 101, 102, 103, 104, 105, 106, 107, 108, 109, 110, 111, 112, 113, 114, 115, 116, 117, 118, 119, 120, 121, 122, 123, 124] (by decide +kernel) (by decide +kernel)
set_option maxRecDepth 20000 in
theorem gX2_solve_X1_run : GoodIn wsX2_solve (wsV RX2 115 RX1 yX1_run wsX1_run) := goodIn_app (goodIn_of _ (by decide +kernel)) ggX2_solve_X1_run
theorem dX2_solve_0 : decode cX2_solve 0 = .ok (.aload_n 0, 1) := by decide +kernel
theorem dX2_solve_1 : decode cX2_solve 1 = .ok (.getfield 29, 3) := by decide +kernel
theorem dX2_solve_4 : decode cX2_solve 4 = .ok (.ifCond .ne 15, 3) := by decide +kernel
theorem dX2_solve_7 : decode cX2_solve 7 = .ok (.aload_n 0, 1) := by decide +kernel
theorem dX2_solve_8 : decode cX2_solve 8 = .ok (.getfield 21, 3) := by decide +kernel
theorem dX2_solve_11 : decode cX2_solve 11 = .ok (.invokevirtual 115, 3) := by decide +kernel
theorem dX2_solve_14 : decode cX2_solve 14 = .ok (.aload_n 0, 1) := by decide +kernel
theorem dX2_solve_15 : decode cX2_solve 15 = .ok (.iconst 1, 1) := by decide +kernel
theorem dX2_solve_16 : decode cX2_solve 16 = .ok (.putfield 29, 3) := by decide +kernel
theorem dX2_solve_19 : decode cX2_solve 19 = .ok (.aload_n 0, 1) := by decide +kernel
theorem dX2_solve_20 : decode cX2_solve 20 = .ok (.getfield 21, 3) := by decide +kernel
theorem dX2_solve_23 : decode cX2_solve 23 = .ok (.getfield 118, 3) := by decide +kernel
theorem dX2_solve_26 : decode cX2_solve 26 = .ok (.ireturn, 1) := by decide +kernel
theorem dX2_optima_0 : decode cX2_optima 0 = .ok (.aload_n 0, 1) := by decide +kernel
theorem dX2_optima_1 : decode cX2_optima 1 = .ok (.getfield 29, 3) := by decide +kernel
theorem dX2_optima_4 : decode cX2_optima 4 = .ok (.ifCond .eq 13, 3) := by decide +kernel
theorem dX2_optima_7 : decode cX2_optima 7 = .ok (.aload_n 0, 1) := by decide +kernel
theorem dX2_optima_8 : decode cX2_optima 8 = .ok (.getfield 21, 3) := by decide +kernel
theorem dX2_optima_11 : decode cX2_optima 11 = .ok (.getfield 121, 3) := by decide +kernel
theorem dX2_optima_14 : decode cX2_optima 14 = .ok (.goto 4, 3) := by decide +kernel
theorem dX2_optima_17 : decode cX2_optima 17 = .ok (.iconst (-1), 1) := by decide +kernel
theorem dX2_optima_18 : decode cX2_optima 18 = .ok (.ireturn, 1) := by decide +kernel
set_option maxRecDepth 20000 in
theorem ggX2_at_X2_isMachine : GoodIn wsX2_at wsX2_isMachine := goodIn_r _ [11] (by decide +kernel) (by decide +kernel)
set_option maxRecDepth 20000 in
theorem gX2_at_X2_isMachine : GoodIn wsX2_at (va_wsS RX2 51 yX2_isMachine wsX2_isMachine) := goodIn_app (goodIn_of _ (by decide +kernel)) ggX2_at_X2_isMachine
theorem dX2_at_0 : decode cX2_at 0 = .ok (.iload_n 1, 1) := by decide +kernel
theorem dX2_at_1 : decode cX2_at 1 = .ok (.invokestatic 51, 3) := by decide +kernel
theorem dX2_at_4 : decode cX2_at 4 = .ok (.ifCond .ne 6, 3) := by decide +kernel
theorem dX2_at_7 : decode cX2_at 7 = .ok (.bipush (-2), 2) := by decide +kernel
theorem dX2_at_9 : decode cX2_at 9 = .ok (.ireturn, 1) := by decide +kernel
theorem dX2_at_10 : decode cX2_at 10 = .ok (.aload_n 0, 1) := by decide +kernel
theorem dX2_at_11 : decode cX2_at 11 = .ok (.getfield 29, 3) := by decide +kernel
theorem dX2_at_14 : decode cX2_at 14 = .ok (.ifCond .ne 5, 3) := by decide +kernel
theorem dX2_at_17 : decode cX2_at 17 = .ok (.iconst (-1), 1) := by decide +kernel
theorem dX2_at_18 : decode cX2_at 18 = .ok (.ireturn, 1) := by decide +kernel
theorem dX2_at_19 : decode cX2_at 19 = .ok (.iconst 0, 1) := by decide +kernel
theorem dX2_at_20 : decode cX2_at 20 = .ok (.istore_n 3, 1) := by decide +kernel
theorem dX2_at_21 : decode cX2_at 21 = .ok (.iload_n 3, 1) := by decide +kernel
theorem dX2_at_22 : decode cX2_at 22 = .ok (.aload_n 0, 1) := by decide +kernel
theorem dX2_at_23 : decode cX2_at 23 = .ok (.getfield 10, 3) := by decide +kernel
theorem dX2_at_26 : decode cX2_at 26 = .ok (.getfield 33, 3) := by decide +kernel
theorem dX2_at_29 : decode cX2_at 29 = .ok (.if_icmp .ge 57, 3) := by decide +kernel
theorem dX2_at_32 : decode cX2_at 32 = .ok (.aload_n 0, 1) := by decide +kernel
theorem dX2_at_33 : decode cX2_at 33 = .ok (.getfield 21, 3) := by decide +kernel
theorem dX2_at_36 : decode cX2_at 36 = .ok (.getfield 106, 3) := by decide +kernel
theorem dX2_at_39 : decode cX2_at 39 = .ok (.iload_n 3, 1) := by decide +kernel
theorem dX2_at_40 : decode cX2_at 40 = .ok (.iaload, 1) := by decide +kernel
theorem dX2_at_41 : decode cX2_at 41 = .ok (.istore 4, 2) := by decide +kernel
theorem dX2_at_43 : decode cX2_at 43 = .ok (.aload_n 0, 1) := by decide +kernel
theorem dX2_at_44 : decode cX2_at 44 = .ok (.getfield 10, 3) := by decide +kernel
theorem dX2_at_47 : decode cX2_at 47 = .ok (.getfield 87, 3) := by decide +kernel
theorem dX2_at_50 : decode cX2_at 50 = .ok (.iload_n 3, 1) := by decide +kernel
theorem dX2_at_51 : decode cX2_at 51 = .ok (.iaload, 1) := by decide +kernel
theorem dX2_at_52 : decode cX2_at 52 = .ok (.iload_n 1, 1) := by decide +kernel
theorem dX2_at_53 : decode cX2_at 53 = .ok (.if_icmp .ne 27, 3) := by decide +kernel
theorem dX2_at_56 : decode cX2_at 56 = .ok (.iload 4, 2) := by decide +kernel
theorem dX2_at_58 : decode cX2_at 58 = .ok (.iload_n 2, 1) := by decide +kernel
theorem dX2_at_59 : decode cX2_at 59 = .ok (.if_icmp .gt 21, 3) := by decide +kernel
theorem dX2_at_62 : decode cX2_at 62 = .ok (.iload_n 2, 1) := by decide +kernel
theorem dX2_at_63 : decode cX2_at 63 = .ok (.iload 4, 2) := by decide +kernel
theorem dX2_at_65 : decode cX2_at 65 = .ok (.aload_n 0, 1) := by decide +kernel
theorem dX2_at_66 : decode cX2_at 66 = .ok (.getfield 10, 3) := by decide +kernel
theorem dX2_at_69 : decode cX2_at 69 = .ok (.getfield 90, 3) := by decide +kernel
theorem dX2_at_72 : decode cX2_at 72 = .ok (.iload_n 3, 1) := by decide +kernel
theorem dX2_at_73 : decode cX2_at 73 = .ok (.iaload, 1) := by decide +kernel
theorem dX2_at_74 : decode cX2_at 74 = .ok (.iadd, 1) := by decide +kernel
theorem dX2_at_75 : decode cX2_at 75 = .ok (.if_icmp .ge 5, 3) := by decide +kernel
theorem dX2_at_78 : decode cX2_at 78 = .ok (.iload_n 3, 1) := by decide +kernel
theorem dX2_at_79 : decode cX2_at 79 = .ok (.ireturn, 1) := by decide +kernel
theorem dX2_at_80 : decode cX2_at 80 = .ok (.iinc 3 1, 3) := by decide +kernel
theorem dX2_at_83 : decode cX2_at 83 = .ok (.goto (-62), 3) := by decide +kernel
theorem dX2_at_86 : decode cX2_at 86 = .ok (.iconst (-1), 1) := by decide +kernel
theorem dX2_at_87 : decode cX2_at 87 = .ok (.ireturn, 1) := by decide +kernel
set_option maxRecDepth 20000 in
theorem ggX2_draft_X0_isOperation : GoodIn wsX2_draft wsX0_isOperation := goodIn_r _ [7, 8, 13, 14, 15, 16, 17, 18, 19, 20, 21, 22, 23, 24] (by decide +kernel) (by decide +kernel)
set_option maxRecDepth 20000 in
theorem gX2_draft_X0_isOperation : GoodIn wsX2_draft (wsV RX2 81 RX0 yX0_isOperation wsX0_isOperation) := goodIn_app (goodIn_of _ (by decide +kernel)) ggX2_draft_X0_isOperation
theorem dX2_draft_0 : decode cX2_draft 0 = .ok (.aload_n 0, 1) := by decide +kernel
theorem dX2_draft_1 : decode cX2_draft 1 = .ok (.getfield 10, 3) := by decide +kernel
theorem dX2_draft_4 : decode cX2_draft 4 = .ok (.iload_n 1, 1) := by decide +kernel
theorem dX2_draft_5 : decode cX2_draft 5 = .ok (.invokevirtual 81, 3) := by decide +kernel
theorem dX2_draft_8 : decode cX2_draft 8 = .ok (.ifCond .eq 14, 3) := by decide +kernel
theorem dX2_draft_11 : decode cX2_draft 11 = .ok (.iload_n 2, 1) := by decide +kernel
theorem dX2_draft_12 : decode cX2_draft 12 = .ok (.ifCond .lt 10, 3) := by decide +kernel
theorem dX2_draft_15 : decode cX2_draft 15 = .ok (.iload_n 2, 1) := by decide +kernel
theorem dX2_draft_16 : decode cX2_draft 16 = .ok (.sipush 1000, 3) := by decide +kernel
theorem dX2_draft_19 : decode cX2_draft 19 = .ok (.if_icmp .le 6, 3) := by decide +kernel
theorem dX2_draft_22 : decode cX2_draft 22 = .ok (.bipush (-2), 2) := by decide +kernel
theorem dX2_draft_24 : decode cX2_draft 24 = .ok (.ireturn, 1) := by decide +kernel
theorem dX2_draft_25 : decode cX2_draft 25 = .ok (.aload_n 0, 1) := by decide +kernel
theorem dX2_draft_26 : decode cX2_draft 26 = .ok (.getfield 25, 3) := by decide +kernel
theorem dX2_draft_29 : decode cX2_draft 29 = .ok (.iload_n 1, 1) := by decide +kernel
theorem dX2_draft_30 : decode cX2_draft 30 = .ok (.iaload, 1) := by decide +kernel
theorem dX2_draft_31 : decode cX2_draft 31 = .ok (.istore_n 3, 1) := by decide +kernel
theorem dX2_draft_32 : decode cX2_draft 32 = .ok (.aload_n 0, 1) := by decide +kernel
theorem dX2_draft_33 : decode cX2_draft 33 = .ok (.getfield 25, 3) := by decide +kernel
theorem dX2_draft_36 : decode cX2_draft 36 = .ok (.iload_n 1, 1) := by decide +kernel
theorem dX2_draft_37 : decode cX2_draft 37 = .ok (.iload_n 2, 1) := by decide +kernel
theorem dX2_draft_38 : decode cX2_draft 38 = .ok (.iastore, 1) := by decide +kernel
theorem dX2_draft_39 : decode cX2_draft 39 = .ok (.iload_n 3, 1) := by decide +kernel
theorem dX2_draft_40 : decode cX2_draft 40 = .ok (.ireturn, 1) := by decide +kernel
set_option maxRecDepth 20000 in
theorem ggX2_check_X2_endsTooLate : GoodIn wsX2_check wsX2_endsTooLate := goodIn_r _ [11, 1, 2, 12, 13, 14, 15, 16, 17, 18, 19, 20, 21, 10, 22, 23, 24, 25, 26, 27, 33, 34, 35, 36, 37, 38, 39, 40, 41, 42, 43, 44, 45, 46, 47, 48] (by decide +kernel) (by decide +kernel)
set_option maxRecDepth 20000 in
theorem gX2_check_X2_endsTooLate : GoodIn wsX2_check (wsV RX2 124 RX2 yX2_endsTooLate wsX2_endsTooLate) := goodIn_app (goodIn_of _ (by decide +kernel)) ggX2_check_X2_endsTooLate
set_option maxRecDepth 20000 in
theorem ggX2_check_X2_meetsGreater : GoodIn wsX2_check wsX2_meetsGreater := goodIn_r _ [31, 1, 2, 32, 12, 23, 24, 25, 10, 26, 27, 33, 34, 35, 36, 37, 38, 39, 40, 41, 42, 43, 44, 45, 46, 47, 48] (by decide +kernel) (by decide +kernel)
set_option maxRecDepth 20000 in
theorem gX2_check_X2_meetsGreater : GoodIn wsX2_check (wsV RX2 127 RX2 yX2_meetsGreater wsX2_meetsGreater) := goodIn_app (goodIn_of _ (by decide +kernel)) ggX2_check_X2_meetsGreater
set_option maxRecDepth 20000 in
theorem ggX2_check_X2_draftEnd : GoodIn wsX2_check wsX2_draftEnd := goodIn_r _ [26, 12, 1, 27, 33, 34, 35, 36, 37, 38, 39, 40, 41, 42, 43, 44, 45, 46, 47, 48] (by decide +kernel) (by decide +kernel)
set_option maxRecDepth 20000 in
theorem gX2_check_X2_draftEnd : GoodIn wsX2_check (wsV RX2 130 RX2 yX2_draftEnd wsX2_draftEnd) := goodIn_app (goodIn_of _ (by decide +kernel)) ggX2_check_X2_draftEnd
theorem dX2_check_0 : decode cX2_check 0 = .ok (.iconst 0, 1) := by decide +kernel
theorem dX2_check_1 : decode cX2_check 1 = .ok (.istore_n 1, 1) := by decide +kernel
theorem dX2_check_2 : decode cX2_check 2 = .ok (.iload_n 1, 1) := by decide +kernel
theorem dX2_check_3 : decode cX2_check 3 = .ok (.aload_n 0, 1) := by decide +kernel
theorem dX2_check_4 : decode cX2_check 4 = .ok (.getfield 10, 3) := by decide +kernel
theorem dX2_check_7 : decode cX2_check 7 = .ok (.getfield 33, 3) := by decide +kernel
theorem dX2_check_10 : decode cX2_check 10 = .ok (.if_icmp .ge 22, 3) := by decide +kernel
theorem dX2_check_13 : decode cX2_check 13 = .ok (.aload_n 0, 1) := by decide +kernel
theorem dX2_check_14 : decode cX2_check 14 = .ok (.iload_n 1, 1) := by decide +kernel
theorem dX2_check_15 : decode cX2_check 15 = .ok (.invokevirtual 124, 3) := by decide +kernel
theorem dX2_check_18 : decode cX2_check 18 = .ok (.ifCond .eq 8, 3) := by decide +kernel
theorem dX2_check_21 : decode cX2_check 21 = .ok (.bipush (-10), 2) := by decide +kernel
theorem dX2_check_23 : decode cX2_check 23 = .ok (.iload_n 1, 1) := by decide +kernel
theorem dX2_check_24 : decode cX2_check 24 = .ok (.isub, 1) := by decide +kernel
theorem dX2_check_25 : decode cX2_check 25 = .ok (.ireturn, 1) := by decide +kernel
theorem dX2_check_26 : decode cX2_check 26 = .ok (.iinc 1 1, 3) := by decide +kernel
theorem dX2_check_29 : decode cX2_check 29 = .ok (.goto (-27), 3) := by decide +kernel
theorem dX2_check_32 : decode cX2_check 32 = .ok (.iconst 0, 1) := by decide +kernel
theorem dX2_check_33 : decode cX2_check 33 = .ok (.istore_n 1, 1) := by decide +kernel
theorem dX2_check_34 : decode cX2_check 34 = .ok (.iload_n 1, 1) := by decide +kernel
theorem dX2_check_35 : decode cX2_check 35 = .ok (.aload_n 0, 1) := by decide +kernel
theorem dX2_check_36 : decode cX2_check 36 = .ok (.getfield 10, 3) := by decide +kernel
theorem dX2_check_39 : decode cX2_check 39 = .ok (.getfield 33, 3) := by decide +kernel
theorem dX2_check_42 : decode cX2_check 42 = .ok (.if_icmp .ge 22, 3) := by decide +kernel
theorem dX2_check_45 : decode cX2_check 45 = .ok (.aload_n 0, 1) := by decide +kernel
theorem dX2_check_46 : decode cX2_check 46 = .ok (.iload_n 1, 1) := by decide +kernel
theorem dX2_check_47 : decode cX2_check 47 = .ok (.invokevirtual 127, 3) := by decide +kernel
theorem dX2_check_50 : decode cX2_check 50 = .ok (.ifCond .eq 8, 3) := by decide +kernel
theorem dX2_check_53 : decode cX2_check 53 = .ok (.bipush (-30), 2) := by decide +kernel
theorem dX2_check_55 : decode cX2_check 55 = .ok (.iload_n 1, 1) := by decide +kernel
theorem dX2_check_56 : decode cX2_check 56 = .ok (.isub, 1) := by decide +kernel
theorem dX2_check_57 : decode cX2_check 57 = .ok (.ireturn, 1) := by decide +kernel
theorem dX2_check_58 : decode cX2_check 58 = .ok (.iinc 1 1, 3) := by decide +kernel
theorem dX2_check_61 : decode cX2_check 61 = .ok (.goto (-27), 3) := by decide +kernel
theorem dX2_check_64 : decode cX2_check 64 = .ok (.iconst 0, 1) := by decide +kernel
theorem dX2_check_65 : decode cX2_check 65 = .ok (.istore_n 1, 1) := by decide +kernel
theorem dX2_check_66 : decode cX2_check 66 = .ok (.iconst 0, 1) := by decide +kernel
theorem dX2_check_67 : decode cX2_check 67 = .ok (.istore_n 2, 1) := by decide +kernel
theorem dX2_check_68 : decode cX2_check 68 = .ok (.iload_n 2, 1) := by decide +kernel
theorem dX2_check_69 : decode cX2_check 69 = .ok (.aload_n 0, 1) := by decide +kernel
theorem dX2_check_70 : decode cX2_check 70 = .ok (.getfield 10, 3) := by decide +kernel
theorem dX2_check_73 : decode cX2_check 73 = .ok (.getfield 33, 3) := by decide +kernel
theorem dX2_check_76 : decode cX2_check 76 = .ok (.if_icmp .ge 19, 3) := by decide +kernel
theorem dX2_check_79 : decode cX2_check 79 = .ok (.iload_n 1, 1) := by decide +kernel
theorem dX2_check_80 : decode cX2_check 80 = .ok (.aload_n 0, 1) := by decide +kernel
theorem dX2_check_81 : decode cX2_check 81 = .ok (.iload_n 2, 1) := by decide +kernel
theorem dX2_check_82 : decode cX2_check 82 = .ok (.invokevirtual 130, 3) := by decide +kernel
theorem dX2_check_85 : decode cX2_check 85 = .ok (.invokestatic 133, 3) := by decide +kernel
theorem dX2_check_88 : decode cX2_check 88 = .ok (.istore_n 1, 1) := by decide +kernel
theorem dX2_check_89 : decode cX2_check 89 = .ok (.iinc 2 1, 3) := by decide +kernel
theorem dX2_check_92 : decode cX2_check 92 = .ok (.goto (-24), 3) := by decide +kernel
theorem dX2_check_95 : decode cX2_check 95 = .ok (.iload_n 1, 1) := by decide +kernel
theorem dX2_check_96 : decode cX2_check 96 = .ok (.ireturn, 1) := by decide +kernel
theorem dX2_adopt_0 : decode cX2_adopt 0 = .ok (.aload_n 0, 1) := by decide +kernel
theorem dX2_adopt_1 : decode cX2_adopt 1 = .ok (.getfield 29, 3) := by decide +kernel
theorem dX2_adopt_4 : decode cX2_adopt 4 = .ok (.ifCond .ne 5, 3) := by decide +kernel
theorem dX2_adopt_7 : decode cX2_adopt 7 = .ok (.iconst (-1), 1) := by decide +kernel
theorem dX2_adopt_8 : decode cX2_adopt 8 = .ok (.ireturn, 1) := by decide +kernel
theorem dX2_adopt_9 : decode cX2_adopt 9 = .ok (.iconst 0, 1) := by decide +kernel
theorem dX2_adopt_10 : decode cX2_adopt 10 = .ok (.istore_n 1, 1) := by decide +kernel
theorem dX2_adopt_11 : decode cX2_adopt 11 = .ok (.iload_n 1, 1) := by decide +kernel
theorem dX2_adopt_12 : decode cX2_adopt 12 = .ok (.aload_n 0, 1) := by decide +kernel
theorem dX2_adopt_13 : decode cX2_adopt 13 = .ok (.getfield 10, 3) := by decide +kernel
theorem dX2_adopt_16 : decode cX2_adopt 16 = .ok (.getfield 33, 3) := by decide +kernel
theorem dX2_adopt_19 : decode cX2_adopt 19 = .ok (.if_icmp .ge 24, 3) := by decide +kernel
theorem dX2_adopt_22 : decode cX2_adopt 22 = .ok (.aload_n 0, 1) := by decide +kernel
theorem dX2_adopt_23 : decode cX2_adopt 23 = .ok (.getfield 25, 3) := by decide +kernel
theorem dX2_adopt_26 : decode cX2_adopt 26 = .ok (.iload_n 1, 1) := by decide +kernel
theorem dX2_adopt_27 : decode cX2_adopt 27 = .ok (.aload_n 0, 1) := by decide +kernel
theorem dX2_adopt_28 : decode cX2_adopt 28 = .ok (.getfield 21, 3) := by decide +kernel
theorem dX2_adopt_31 : decode cX2_adopt 31 = .ok (.getfield 106, 3) := by decide +kernel
theorem dX2_adopt_34 : decode cX2_adopt 34 = .ok (.iload_n 1, 1) := by decide +kernel
theorem dX2_adopt_35 : decode cX2_adopt 35 = .ok (.iaload, 1) := by decide +kernel
theorem dX2_adopt_36 : decode cX2_adopt 36 = .ok (.iastore, 1) := by decide +kernel
theorem dX2_adopt_37 : decode cX2_adopt 37 = .ok (.iinc 1 1, 3) := by decide +kernel
theorem dX2_adopt_40 : decode cX2_adopt 40 = .ok (.goto (-29), 3) := by decide +kernel
theorem dX2_adopt_43 : decode cX2_adopt 43 = .ok (.aload_n 0, 1) := by decide +kernel
theorem dX2_adopt_44 : decode cX2_adopt 44 = .ok (.getfield 21, 3) := by decide +kernel
theorem dX2_adopt_47 : decode cX2_adopt 47 = .ok (.getfield 118, 3) := by decide +kernel
theorem dX2_adopt_50 : decode cX2_adopt 50 = .ok (.ireturn, 1) := by decide +kernel
set_option maxRecDepth 20000 in
theorem ggX2_count_X0_tiedPairs : GoodIn wsX2_count wsX0_tiedPairs := goodIn_r _ [11, 12, 13, 14, 15, 16, 17, 18, 19, 20, 57, 58, 59, 60, 61, 62, 63, 64, 65, 66, 67, 68] (by decide +kernel) (by decide +kernel)
set_option maxRecDepth 20000 in
theorem gX2_count_X0_tiedPairs : GoodIn wsX2_count (wsV RX2 139 RX0 yX0_tiedPairs wsX0_tiedPairs) := goodIn_app (goodIn_of _ (by decide +kernel)) ggX2_count_X0_tiedPairs
set_option maxRecDepth 20000 in
theorem ggX2_count_X0_pairs : GoodIn wsX2_count wsX0_pairs := goodIn_r _ [24, 12, 25, 57, 58, 59, 60, 61, 62, 63, 64, 65, 66, 67, 68] (by decide +kernel) (by decide +kernel)
set_option maxRecDepth 20000 in
theorem gX2_count_X0_pairs : GoodIn wsX2_count (wsV RX2 142 RX0 yX0_pairs wsX0_pairs) := goodIn_app (goodIn_of _ (by decide +kernel)) ggX2_count_X0_pairs
set_option maxRecDepth 20000 in
theorem ggX2_count_X0_bound : GoodIn wsX2_count wsX0_bound := goodIn_r _ [29, 30, 31, 32, 33, 34, 35, 36, 10, 37, 12, 38, 39, 40, 41, 42, 43, 44, 45, 46, 47, 48, 25, 49, 50, 51, 52, 57, 58, 59, 60, 61, 62, 63, 64, 65, 66, 67, 68] (by decide +kernel) (by decide +kernel)
set_option maxRecDepth 20000 in
theorem gX2_count_X0_bound : GoodIn wsX2_count (wsV RX2 145 RX0 yX0_bound wsX0_bound) := goodIn_app (goodIn_of _ (by decide +kernel)) ggX2_count_X0_bound
theorem dX2_count_0 : decode cX2_count 0 = .ok (.iload_n 1, 1) := by decide +kernel
theorem dX2_count_1 : decode cX2_count 1 = .ok (.tableswitch 106 0 5 #[39, 47, 55, 63, 79, 87], 39) := by decide +kernel
theorem dX2_count_40 : decode cX2_count 40 = .ok (.aload_n 0, 1) := by decide +kernel
theorem dX2_count_41 : decode cX2_count 41 = .ok (.getfield 10, 3) := by decide +kernel
theorem dX2_count_44 : decode cX2_count 44 = .ok (.getfield 40, 3) := by decide +kernel
theorem dX2_count_47 : decode cX2_count 47 = .ok (.ireturn, 1) := by decide +kernel
theorem dX2_count_48 : decode cX2_count 48 = .ok (.aload_n 0, 1) := by decide +kernel
theorem dX2_count_49 : decode cX2_count 49 = .ok (.getfield 10, 3) := by decide +kernel
theorem dX2_count_52 : decode cX2_count 52 = .ok (.getfield 33, 3) := by decide +kernel
theorem dX2_count_55 : decode cX2_count 55 = .ok (.ireturn, 1) := by decide +kernel
theorem dX2_count_56 : decode cX2_count 56 = .ok (.aload_n 0, 1) := by decide +kernel
theorem dX2_count_57 : decode cX2_count 57 = .ok (.getfield 10, 3) := by decide +kernel
theorem dX2_count_60 : decode cX2_count 60 = .ok (.invokevirtual 139, 3) := by decide +kernel
theorem dX2_count_63 : decode cX2_count 63 = .ok (.ireturn, 1) := by decide +kernel
theorem dX2_count_64 : decode cX2_count 64 = .ok (.aload_n 0, 1) := by decide +kernel
theorem dX2_count_65 : decode cX2_count 65 = .ok (.getfield 10, 3) := by decide +kernel
theorem dX2_count_68 : decode cX2_count 68 = .ok (.invokevirtual 142, 3) := by decide +kernel
theorem dX2_count_71 : decode cX2_count 71 = .ok (.aload_n 0, 1) := by decide +kernel
theorem dX2_count_72 : decode cX2_count 72 = .ok (.getfield 10, 3) := by decide +kernel
theorem dX2_count_75 : decode cX2_count 75 = .ok (.invokevirtual 139, 3) := by decide +kernel
theorem dX2_count_78 : decode cX2_count 78 = .ok (.isub, 1) := by decide +kernel
theorem dX2_count_79 : decode cX2_count 79 = .ok (.ireturn, 1) := by decide +kernel
theorem dX2_count_80 : decode cX2_count 80 = .ok (.aload_n 0, 1) := by decide +kernel
theorem dX2_count_81 : decode cX2_count 81 = .ok (.getfield 10, 3) := by decide +kernel
theorem dX2_count_84 : decode cX2_count 84 = .ok (.invokevirtual 145, 3) := by decide +kernel
theorem dX2_count_87 : decode cX2_count 87 = .ok (.ireturn, 1) := by decide +kernel
theorem dX2_count_88 : decode cX2_count 88 = .ok (.aload_n 0, 1) := by decide +kernel
theorem dX2_count_89 : decode cX2_count 89 = .ok (.getfield 29, 3) := by decide +kernel
theorem dX2_count_92 : decode cX2_count 92 = .ok (.ifCond .eq 13, 3) := by decide +kernel
theorem dX2_count_95 : decode cX2_count 95 = .ok (.aload_n 0, 1) := by decide +kernel
theorem dX2_count_96 : decode cX2_count 96 = .ok (.getfield 21, 3) := by decide +kernel
theorem dX2_count_99 : decode cX2_count 99 = .ok (.getfield 118, 3) := by decide +kernel
theorem dX2_count_102 : decode cX2_count 102 = .ok (.goto 4, 3) := by decide +kernel
theorem dX2_count_105 : decode cX2_count 105 = .ok (.iconst (-1), 1) := by decide +kernel
theorem dX2_count_106 : decode cX2_count 106 = .ok (.ireturn, 1) := by decide +kernel
theorem dX2_count_107 : decode cX2_count 107 = .ok (.bipush (-2), 2) := by decide +kernel
theorem dX2_count_109 : decode cX2_count 109 = .ok (.ireturn, 1) := by decide +kernel
theorem dX2_isMachine_0 : decode cX2_isMachine 0 = .ok (.iload_n 0, 1) := by decide +kernel
theorem dX2_isMachine_1 : decode cX2_isMachine 1 = .ok (.ifCond .lt 12, 3) := by decide +kernel
theorem dX2_isMachine_4 : decode cX2_isMachine 4 = .ok (.iload_n 0, 1) := by decide +kernel
theorem dX2_isMachine_5 : decode cX2_isMachine 5 = .ok (.iconst 4, 1) := by decide +kernel
theorem dX2_isMachine_6 : decode cX2_isMachine 6 = .ok (.if_icmp .ge 7, 3) := by decide +kernel
theorem dX2_isMachine_9 : decode cX2_isMachine 9 = .ok (.iconst 1, 1) := by decide +kernel
theorem dX2_isMachine_10 : decode cX2_isMachine 10 = .ok (.goto 4, 3) := by decide +kernel
theorem dX2_isMachine_13 : decode cX2_isMachine 13 = .ok (.iconst 0, 1) := by decide +kernel
theorem dX2_isMachine_14 : decode cX2_isMachine 14 = .ok (.ireturn, 1) := by decide +kernel
theorem dX2_isIn_0 : decode cX2_isIn 0 = .ok (.iload_n 0, 1) := by decide +kernel
theorem dX2_isIn_1 : decode cX2_isIn 1 = .ok (.iload_n 1, 1) := by decide +kernel
theorem dX2_isIn_2 : decode cX2_isIn 2 = .ok (.ishr, 1) := by decide +kernel
theorem dX2_isIn_3 : decode cX2_isIn 3 = .ok (.iconst 1, 1) := by decide +kernel
theorem dX2_isIn_4 : decode cX2_isIn 4 = .ok (.iand, 1) := by decide +kernel
theorem dX2_isIn_5 : decode cX2_isIn 5 = .ok (.ifCond .eq 7, 3) := by decide +kernel
theorem dX2_isIn_8 : decode cX2_isIn 8 = .ok (.iconst 1, 1) := by decide +kernel
theorem dX2_isIn_9 : decode cX2_isIn 9 = .ok (.goto 4, 3) := by decide +kernel
theorem dX2_isIn_12 : decode cX2_isIn 12 = .ok (.iconst 0, 1) := by decide +kernel
theorem dX2_isIn_13 : decode cX2_isIn 13 = .ok (.ireturn, 1) := by decide +kernel
theorem dX2_draftEnd_0 : decode cX2_draftEnd 0 = .ok (.aload_n 0, 1) := by decide +kernel
theorem dX2_draftEnd_1 : decode cX2_draftEnd 1 = .ok (.getfield 25, 3) := by decide +kernel
theorem dX2_draftEnd_4 : decode cX2_draftEnd 4 = .ok (.iload_n 1, 1) := by decide +kernel
theorem dX2_draftEnd_5 : decode cX2_draftEnd 5 = .ok (.iaload, 1) := by decide +kernel
theorem dX2_draftEnd_6 : decode cX2_draftEnd 6 = .ok (.aload_n 0, 1) := by decide +kernel
theorem dX2_draftEnd_7 : decode cX2_draftEnd 7 = .ok (.getfield 10, 3) := by decide +kernel
theorem dX2_draftEnd_10 : decode cX2_draftEnd 10 = .ok (.getfield 90, 3) := by decide +kernel
theorem dX2_draftEnd_13 : decode cX2_draftEnd 13 = .ok (.iload_n 1, 1) := by decide +kernel
theorem dX2_draftEnd_14 : decode cX2_draftEnd 14 = .ok (.iaload, 1) := by decide +kernel
theorem dX2_draftEnd_15 : decode cX2_draftEnd 15 = .ok (.iadd, 1) := by decide +kernel
theorem dX2_draftEnd_16 : decode cX2_draftEnd 16 = .ok (.ireturn, 1) := by decide +kernel
set_option maxRecDepth 20000 in
theorem ggX2_endsTooLate_X0_followers : GoodIn wsX2_endsTooLate wsX0_followers := goodIn_r _ [8, 9, 10, 24, 25, 26, 27, 28, 29, 30, 31, 32, 33, 34, 35] (by decide +kernel) (by decide +kernel)
set_option maxRecDepth 20000 in
theorem gX2_endsTooLate_X0_followers : GoodIn wsX2_endsTooLate (wsV RX2 148 RX0 yX0_followers wsX0_followers) := goodIn_app (goodIn_of _ (by decide +kernel)) ggX2_endsTooLate_X0_followers
set_option maxRecDepth 20000 in
theorem ggX2_endsTooLate_X2_isIn : GoodIn wsX2_endsTooLate wsX2_isIn := goodIn_r _ [14] (by decide +kernel) (by decide +kernel)
set_option maxRecDepth 20000 in
theorem gX2_endsTooLate_X2_isIn : GoodIn wsX2_endsTooLate (va_wsS RX2 151 yX2_isIn wsX2_isIn) := goodIn_app (goodIn_of _ (by decide +kernel)) ggX2_endsTooLate_X2_isIn
set_option maxRecDepth 20000 in
theorem ggX2_endsTooLate_X2_draftEnd : GoodIn wsX2_endsTooLate wsX2_draftEnd := goodIn_r _ [18, 3, 1, 19, 20, 21, 22, 23, 24, 25, 26, 27, 28, 29, 30, 31, 32, 33, 34, 35] (by decide +kernel) (by decide +kernel)
set_option maxRecDepth 20000 in
theorem gX2_endsTooLate_X2_draftEnd : GoodIn wsX2_endsTooLate (wsV RX2 130 RX2 yX2_draftEnd wsX2_draftEnd) := goodIn_app (goodIn_of _ (by decide +kernel)) ggX2_endsTooLate_X2_draftEnd
theorem dX2_endsTooLate_0 : decode cX2_endsTooLate 0 = .ok (.aload_n 0, 1) := by decide +kernel
theorem dX2_endsTooLate_1 : decode cX2_endsTooLate 1 = .ok (.getfield 10, 3) := by decide +kernel
theorem dX2_endsTooLate_4 : decode cX2_endsTooLate 4 = .ok (.iload_n 1, 1) := by decide +kernel
theorem dX2_endsTooLate_5 : decode cX2_endsTooLate 5 = .ok (.invokevirtual 148, 3) := by decide +kernel
theorem dX2_endsTooLate_8 : decode cX2_endsTooLate 8 = .ok (.istore_n 2, 1) := by decide +kernel
theorem dX2_endsTooLate_9 : decode cX2_endsTooLate 9 = .ok (.iconst 0, 1) := by decide +kernel
theorem dX2_endsTooLate_10 : decode cX2_endsTooLate 10 = .ok (.istore_n 3, 1) := by decide +kernel
theorem dX2_endsTooLate_11 : decode cX2_endsTooLate 11 = .ok (.iload_n 3, 1) := by decide +kernel
theorem dX2_endsTooLate_12 : decode cX2_endsTooLate 12 = .ok (.aload_n 0, 1) := by decide +kernel
theorem dX2_endsTooLate_13 : decode cX2_endsTooLate 13 = .ok (.getfield 10, 3) := by decide +kernel
theorem dX2_endsTooLate_16 : decode cX2_endsTooLate 16 = .ok (.getfield 33, 3) := by decide +kernel
theorem dX2_endsTooLate_19 : decode cX2_endsTooLate 19 = .ok (.if_icmp .ge 33, 3) := by decide +kernel
theorem dX2_endsTooLate_22 : decode cX2_endsTooLate 22 = .ok (.iload_n 2, 1) := by decide +kernel
theorem dX2_endsTooLate_23 : decode cX2_endsTooLate 23 = .ok (.iload_n 3, 1) := by decide +kernel
theorem dX2_endsTooLate_24 : decode cX2_endsTooLate 24 = .ok (.invokestatic 151, 3) := by decide +kernel
theorem dX2_endsTooLate_27 : decode cX2_endsTooLate 27 = .ok (.ifCond .eq 19, 3) := by decide +kernel
theorem dX2_endsTooLate_30 : decode cX2_endsTooLate 30 = .ok (.aload_n 0, 1) := by decide +kernel
theorem dX2_endsTooLate_31 : decode cX2_endsTooLate 31 = .ok (.iload_n 1, 1) := by decide +kernel
theorem dX2_endsTooLate_32 : decode cX2_endsTooLate 32 = .ok (.invokevirtual 130, 3) := by decide +kernel
theorem dX2_endsTooLate_35 : decode cX2_endsTooLate 35 = .ok (.aload_n 0, 1) := by decide +kernel
theorem dX2_endsTooLate_36 : decode cX2_endsTooLate 36 = .ok (.getfield 25, 3) := by decide +kernel
theorem dX2_endsTooLate_39 : decode cX2_endsTooLate 39 = .ok (.iload_n 3, 1) := by decide +kernel
theorem dX2_endsTooLate_40 : decode cX2_endsTooLate 40 = .ok (.iaload, 1) := by decide +kernel
theorem dX2_endsTooLate_41 : decode cX2_endsTooLate 41 = .ok (.if_icmp .le 5, 3) := by decide +kernel
theorem dX2_endsTooLate_44 : decode cX2_endsTooLate 44 = .ok (.iconst 1, 1) := by decide +kernel
theorem dX2_endsTooLate_45 : decode cX2_endsTooLate 45 = .ok (.ireturn, 1) := by decide +kernel
theorem dX2_endsTooLate_46 : decode cX2_endsTooLate 46 = .ok (.iinc 3 1, 3) := by decide +kernel
theorem dX2_endsTooLate_49 : decode cX2_endsTooLate 49 = .ok (.goto (-38), 3) := by decide +kernel
theorem dX2_endsTooLate_52 : decode cX2_endsTooLate 52 = .ok (.iconst 0, 1) := by decide +kernel
theorem dX2_endsTooLate_53 : decode cX2_endsTooLate 53 = .ok (.ireturn, 1) := by decide +kernel
set_option maxRecDepth 20000 in
theorem ggX2_meetsGreater_X2_draftEnd : GoodIn wsX2_meetsGreater wsX2_draftEnd := goodIn_r _ [9, 4, 1, 10, 11, 12, 13, 14, 15, 16, 17, 18, 19, 20, 21, 22, 23, 24, 25, 26] (by decide +kernel) (by decide +kernel)
set_option maxRecDepth 20000 in
theorem gX2_meetsGreater_X2_draftEnd : GoodIn wsX2_meetsGreater (wsV RX2 130 RX2 yX2_draftEnd wsX2_draftEnd) := goodIn_app (goodIn_of _ (by decide +kernel)) ggX2_meetsGreater_X2_draftEnd
theorem dX2_meetsGreater_0 : decode cX2_meetsGreater 0 = .ok (.iload_n 1, 1) := by decide +kernel
theorem dX2_meetsGreater_1 : decode cX2_meetsGreater 1 = .ok (.iconst 1, 1) := by decide +kernel
theorem dX2_meetsGreater_2 : decode cX2_meetsGreater 2 = .ok (.iadd, 1) := by decide +kernel
theorem dX2_meetsGreater_3 : decode cX2_meetsGreater 3 = .ok (.istore_n 2, 1) := by decide +kernel
theorem dX2_meetsGreater_4 : decode cX2_meetsGreater 4 = .ok (.iload_n 2, 1) := by decide +kernel
theorem dX2_meetsGreater_5 : decode cX2_meetsGreater 5 = .ok (.aload_n 0, 1) := by decide +kernel
theorem dX2_meetsGreater_6 : decode cX2_meetsGreater 6 = .ok (.getfield 10, 3) := by decide +kernel
theorem dX2_meetsGreater_9 : decode cX2_meetsGreater 9 = .ok (.getfield 33, 3) := by decide +kernel
theorem dX2_meetsGreater_12 : decode cX2_meetsGreater 12 = .ok (.if_icmp .ge 60, 3) := by decide +kernel
theorem dX2_meetsGreater_15 : decode cX2_meetsGreater 15 = .ok (.aload_n 0, 1) := by decide +kernel
theorem dX2_meetsGreater_16 : decode cX2_meetsGreater 16 = .ok (.getfield 10, 3) := by decide +kernel
theorem dX2_meetsGreater_19 : decode cX2_meetsGreater 19 = .ok (.getfield 87, 3) := by decide +kernel
theorem dX2_meetsGreater_22 : decode cX2_meetsGreater 22 = .ok (.iload_n 2, 1) := by decide +kernel
theorem dX2_meetsGreater_23 : decode cX2_meetsGreater 23 = .ok (.iaload, 1) := by decide +kernel
theorem dX2_meetsGreater_24 : decode cX2_meetsGreater 24 = .ok (.aload_n 0, 1) := by decide +kernel
theorem dX2_meetsGreater_25 : decode cX2_meetsGreater 25 = .ok (.getfield 10, 3) := by decide +kernel
theorem dX2_meetsGreater_28 : decode cX2_meetsGreater 28 = .ok (.getfield 87, 3) := by decide +kernel
theorem dX2_meetsGreater_31 : decode cX2_meetsGreater 31 = .ok (.iload_n 1, 1) := by decide +kernel
theorem dX2_meetsGreater_32 : decode cX2_meetsGreater 32 = .ok (.iaload, 1) := by decide +kernel
theorem dX2_meetsGreater_33 : decode cX2_meetsGreater 33 = .ok (.if_icmp .ne 33, 3) := by decide +kernel
theorem dX2_meetsGreater_36 : decode cX2_meetsGreater 36 = .ok (.aload_n 0, 1) := by decide +kernel
theorem dX2_meetsGreater_37 : decode cX2_meetsGreater 37 = .ok (.getfield 25, 3) := by decide +kernel
theorem dX2_meetsGreater_40 : decode cX2_meetsGreater 40 = .ok (.iload_n 1, 1) := by decide +kernel
theorem dX2_meetsGreater_41 : decode cX2_meetsGreater 41 = .ok (.iaload, 1) := by decide +kernel
theorem dX2_meetsGreater_42 : decode cX2_meetsGreater 42 = .ok (.aload_n 0, 1) := by decide +kernel
theorem dX2_meetsGreater_43 : decode cX2_meetsGreater 43 = .ok (.iload_n 2, 1) := by decide +kernel
theorem dX2_meetsGreater_44 : decode cX2_meetsGreater 44 = .ok (.invokevirtual 130, 3) := by decide +kernel
theorem dX2_meetsGreater_47 : decode cX2_meetsGreater 47 = .ok (.if_icmp .ge 19, 3) := by decide +kernel
theorem dX2_meetsGreater_50 : decode cX2_meetsGreater 50 = .ok (.aload_n 0, 1) := by decide +kernel
theorem dX2_meetsGreater_51 : decode cX2_meetsGreater 51 = .ok (.getfield 25, 3) := by decide +kernel
theorem dX2_meetsGreater_54 : decode cX2_meetsGreater 54 = .ok (.iload_n 2, 1) := by decide +kernel
theorem dX2_meetsGreater_55 : decode cX2_meetsGreater 55 = .ok (.iaload, 1) := by decide +kernel
theorem dX2_meetsGreater_56 : decode cX2_meetsGreater 56 = .ok (.aload_n 0, 1) := by decide +kernel
theorem dX2_meetsGreater_57 : decode cX2_meetsGreater 57 = .ok (.iload_n 1, 1) := by decide +kernel
theorem dX2_meetsGreater_58 : decode cX2_meetsGreater 58 = .ok (.invokevirtual 130, 3) := by decide +kernel
theorem dX2_meetsGreater_61 : decode cX2_meetsGreater 61 = .ok (.if_icmp .ge 5, 3) := by decide +kernel
theorem dX2_meetsGreater_64 : decode cX2_meetsGreater 64 = .ok (.iconst 1, 1) := by decide +kernel
theorem dX2_meetsGreater_65 : decode cX2_meetsGreater 65 = .ok (.ireturn, 1) := by decide +kernel
theorem dX2_meetsGreater_66 : decode cX2_meetsGreater 66 = .ok (.iinc 2 1, 3) := by decide +kernel
theorem dX2_meetsGreater_69 : decode cX2_meetsGreater 69 = .ok (.goto (-65), 3) := by decide +kernel
theorem dX2_meetsGreater_72 : decode cX2_meetsGreater 72 = .ok (.iconst 0, 1) := by decide +kernel
theorem dX2_meetsGreater_73 : decode cX2_meetsGreater 73 = .ok (.ireturn, 1) := by decide +kernel
theorem dX3_init_0 : decode cX3_init 0 = .ok (.aload_n 0, 1) := by decide +kernel
theorem dX3_init_1 : decode cX3_init 1 = .ok (.invokespecial 1, 3) := by decide +kernel
theorem dX3_init_4 : decode cX3_init 4 = .ok (.aload_n 0, 1) := by decide +kernel
theorem dX3_init_5 : decode cX3_init 5 = .ok (.bipush 12, 2) := by decide +kernel
theorem dX3_init_7 : decode cX3_init 7 = .ok (.newarray .int, 2) := by decide +kernel
theorem dX3_init_9 : decode cX3_init 9 = .ok (.putfield 7, 3) := by decide +kernel
theorem dX3_init_12 : decode cX3_init 12 = .ok (.aload_n 0, 1) := by decide +kernel
theorem dX3_init_13 : decode cX3_init 13 = .ok (.bipush 12, 2) := by decide +kernel
theorem dX3_init_15 : decode cX3_init 15 = .ok (.newarray .int, 2) := by decide +kernel
theorem dX3_init_17 : decode cX3_init 17 = .ok (.putfield 13, 3) := by decide +kernel
theorem dX3_init_20 : decode cX3_init 20 = .ok (.aload_n 0, 1) := by decide +kernel
theorem dX3_init_21 : decode cX3_init 21 = .ok (.bipush 12, 2) := by decide +kernel
theorem dX3_init_23 : decode cX3_init 23 = .ok (.newarray .int, 2) := by decide +kernel
theorem dX3_init_25 : decode cX3_init 25 = .ok (.putfield 16, 3) := by decide +kernel
theorem dX3_init_28 : decode cX3_init 28 = .ok (.aload_n 0, 1) := by decide +kernel
theorem dX3_init_29 : decode cX3_init 29 = .ok (.sipush 144, 3) := by decide +kernel
theorem dX3_init_32 : decode cX3_init 32 = .ok (.newarray .boolean, 2) := by decide +kernel
theorem dX3_init_34 : decode cX3_init 34 = .ok (.putfield 19, 3) := by decide +kernel
theorem dX3_init_37 : decode cX3_init 37 = .ok (.aload_n 0, 1) := by decide +kernel
theorem dX3_init_38 : decode cX3_init 38 = .ok (.bipush 12, 2) := by decide +kernel
theorem dX3_init_40 : decode cX3_init 40 = .ok (.newarray .int, 2) := by decide +kernel
theorem dX3_init_42 : decode cX3_init 42 = .ok (.putfield 23, 3) := by decide +kernel
theorem dX3_init_45 : decode cX3_init 45 = .ok (.aload_n 0, 1) := by decide +kernel
theorem dX3_init_46 : decode cX3_init 46 = .ok (.bipush 12, 2) := by decide +kernel
theorem dX3_init_48 : decode cX3_init 48 = .ok (.newarray .int, 2) := by decide +kernel
theorem dX3_init_50 : decode cX3_init 50 = .ok (.putfield 26, 3) := by decide +kernel
theorem dX3_init_53 : decode cX3_init 53 = .ok (.aload_n 0, 1) := by decide +kernel
theorem dX3_init_54 : decode cX3_init 54 = .ok (.bipush 12, 2) := by decide +kernel
theorem dX3_init_56 : decode cX3_init 56 = .ok (.newarray .int, 2) := by decide +kernel
theorem dX3_init_58 : decode cX3_init 58 = .ok (.putfield 29, 3) := by decide +kernel
theorem dX3_init_61 : decode cX3_init 61 = .ok (.aload_n 0, 1) := by decide +kernel
theorem dX3_init_62 : decode cX3_init 62 = .ok (.bipush 12, 2) := by decide +kernel
theorem dX3_init_64 : decode cX3_init 64 = .ok (.newarray .int, 2) := by decide +kernel
theorem dX3_init_66 : decode cX3_init 66 = .ok (.putfield 32, 3) := by decide +kernel
theorem dX3_init_69 : decode cX3_init 69 = .ok (.aload_n 0, 1) := by decide +kernel
theorem dX3_init_70 : decode cX3_init 70 = .ok (.sipush 144, 3) := by decide +kernel
theorem dX3_init_73 : decode cX3_init 73 = .ok (.newarray .boolean, 2) := by decide +kernel
theorem dX3_init_75 : decode cX3_init 75 = .ok (.putfield 35, 3) := by decide +kernel
theorem dX3_init_78 : decode cX3_init 78 = .ok (.aload_n 0, 1) := by decide +kernel
theorem dX3_init_79 : decode cX3_init 79 = .ok (.bipush 16, 2) := by decide +kernel
theorem dX3_init_81 : decode cX3_init 81 = .ok (.newarray .int, 2) := by decide +kernel
theorem dX3_init_83 : decode cX3_init 83 = .ok (.putfield 38, 3) := by decide +kernel
theorem dX3_init_86 : decode cX3_init 86 = .ok (.aload_n 0, 1) := by decide +kernel
theorem dX3_init_87 : decode cX3_init 87 = .ok (.iconst 4, 1) := by decide +kernel
theorem dX3_init_88 : decode cX3_init 88 = .ok (.newarray .int, 2) := by decide +kernel
theorem dX3_init_90 : decode cX3_init 90 = .ok (.putfield 41, 3) := by decide +kernel
theorem dX3_init_93 : decode cX3_init 93 = .ok (.aload_n 0, 1) := by decide +kernel
theorem dX3_init_94 : decode cX3_init 94 = .ok (.iconst (-1), 1) := by decide +kernel
theorem dX3_init_95 : decode cX3_init 95 = .ok (.putfield 44, 3) := by decide +kernel
theorem dX3_init_98 : decode cX3_init 98 = .ok (.return_, 1) := by decide +kernel
theorem dX3_in_0 : decode cX3_in 0 = .ok (.iload_n 0, 1) := by decide +kernel
theorem dX3_in_1 : decode cX3_in 1 = .ok (.iload_n 1, 1) := by decide +kernel
theorem dX3_in_2 : decode cX3_in 2 = .ok (.if_icmp .lt 12, 3) := by decide +kernel
theorem dX3_in_5 : decode cX3_in 5 = .ok (.iload_n 0, 1) := by decide +kernel
theorem dX3_in_6 : decode cX3_in 6 = .ok (.iload_n 2, 1) := by decide +kernel
theorem dX3_in_7 : decode cX3_in 7 = .ok (.if_icmp .gt 7, 3) := by decide +kernel
theorem dX3_in_10 : decode cX3_in 10 = .ok (.iconst 1, 1) := by decide +kernel
theorem dX3_in_11 : decode cX3_in 11 = .ok (.goto 4, 3) := by decide +kernel
theorem dX3_in_14 : decode cX3_in 14 = .ok (.iconst 0, 1) := by decide +kernel
theorem dX3_in_15 : decode cX3_in 15 = .ok (.ireturn, 1) := by decide +kernel
set_option maxRecDepth 20000 in
theorem ggX3_isOperation_X3_in : GoodIn wsX3_isOperation wsX3_in := goodIn_r _ [5] (by decide +kernel) (by decide +kernel)
set_option maxRecDepth 20000 in
theorem gX3_isOperation_X3_in : GoodIn wsX3_isOperation (va_wsS RX3 51 yX3_in wsX3_in) := goodIn_app (goodIn_of _ (by decide +kernel)) ggX3_isOperation_X3_in
theorem dX3_isOperation_0 : decode cX3_isOperation 0 = .ok (.iload_n 1, 1) := by decide +kernel
theorem dX3_isOperation_1 : decode cX3_isOperation 1 = .ok (.iconst 0, 1) := by decide +kernel
theorem dX3_isOperation_2 : decode cX3_isOperation 2 = .ok (.aload_n 0, 1) := by decide +kernel
theorem dX3_isOperation_3 : decode cX3_isOperation 3 = .ok (.getfield 48, 3) := by decide +kernel
theorem dX3_isOperation_6 : decode cX3_isOperation 6 = .ok (.iconst 1, 1) := by decide +kernel
theorem dX3_isOperation_7 : decode cX3_isOperation 7 = .ok (.isub, 1) := by decide +kernel
theorem dX3_isOperation_8 : decode cX3_isOperation 8 = .ok (.invokestatic 51, 3) := by decide +kernel
theorem dX3_isOperation_11 : decode cX3_isOperation 11 = .ok (.ireturn, 1) := by decide +kernel
set_option maxRecDepth 20000 in
theorem ggX3_isPair_X3_isOperation : GoodIn wsX3_isPair wsX3_isOperation := goodIn_r _ [6, 7, 8, 9, 5, 10, 11, 12, 13, 14, 15, 16, 17, 18, 19, 20, 21, 22, 23, 24, 25, 26] (by decide +kernel) (by decide +kernel)
set_option maxRecDepth 20000 in
theorem gX3_isPair_X3_isOperation : GoodIn wsX3_isPair (wsV RX3 55 RX3 yX3_isOperation wsX3_isOperation) := goodIn_app (goodIn_of _ (by decide +kernel)) ggX3_isPair_X3_isOperation
theorem dX3_isPair_0 : decode cX3_isPair 0 = .ok (.aload_n 0, 1) := by decide +kernel
theorem dX3_isPair_1 : decode cX3_isPair 1 = .ok (.iload_n 1, 1) := by decide +kernel
theorem dX3_isPair_2 : decode cX3_isPair 2 = .ok (.invokevirtual 55, 3) := by decide +kernel
theorem dX3_isPair_5 : decode cX3_isPair 5 = .ok (.ifCond .eq 35, 3) := by decide +kernel
theorem dX3_isPair_8 : decode cX3_isPair 8 = .ok (.aload_n 0, 1) := by decide +kernel
theorem dX3_isPair_9 : decode cX3_isPair 9 = .ok (.iload_n 2, 1) := by decide +kernel
theorem dX3_isPair_10 : decode cX3_isPair 10 = .ok (.invokevirtual 55, 3) := by decide +kernel
theorem dX3_isPair_13 : decode cX3_isPair 13 = .ok (.ifCond .eq 27, 3) := by decide +kernel
theorem dX3_isPair_16 : decode cX3_isPair 16 = .ok (.iload_n 1, 1) := by decide +kernel
theorem dX3_isPair_17 : decode cX3_isPair 17 = .ok (.iload_n 2, 1) := by decide +kernel
theorem dX3_isPair_18 : decode cX3_isPair 18 = .ok (.if_icmp .eq 22, 3) := by decide +kernel
theorem dX3_isPair_21 : decode cX3_isPair 21 = .ok (.aload_n 0, 1) := by decide +kernel
theorem dX3_isPair_22 : decode cX3_isPair 22 = .ok (.getfield 13, 3) := by decide +kernel
theorem dX3_isPair_25 : decode cX3_isPair 25 = .ok (.iload_n 1, 1) := by decide +kernel
theorem dX3_isPair_26 : decode cX3_isPair 26 = .ok (.iaload, 1) := by decide +kernel
theorem dX3_isPair_27 : decode cX3_isPair 27 = .ok (.aload_n 0, 1) := by decide +kernel
theorem dX3_isPair_28 : decode cX3_isPair 28 = .ok (.getfield 13, 3) := by decide +kernel
theorem dX3_isPair_31 : decode cX3_isPair 31 = .ok (.iload_n 2, 1) := by decide +kernel
theorem dX3_isPair_32 : decode cX3_isPair 32 = .ok (.iaload, 1) := by decide +kernel
theorem dX3_isPair_33 : decode cX3_isPair 33 = .ok (.if_icmp .ne 7, 3) := by decide +kernel
theorem dX3_isPair_36 : decode cX3_isPair 36 = .ok (.iconst 1, 1) := by decide +kernel
theorem dX3_isPair_37 : decode cX3_isPair 37 = .ok (.goto 4, 3) := by decide +kernel
theorem dX3_isPair_40 : decode cX3_isPair 40 = .ok (.iconst 0, 1) := by decide +kernel
theorem dX3_isPair_41 : decode cX3_isPair 41 = .ok (.ireturn, 1) := by decide +kernel
theorem dX3_forget_0 : decode cX3_forget 0 = .ok (.aload_n 0, 1) := by decide +kernel
theorem dX3_forget_1 : decode cX3_forget 1 = .ok (.iconst 0, 1) := by decide +kernel
theorem dX3_forget_2 : decode cX3_forget 2 = .ok (.putfield 59, 3) := by decide +kernel
theorem dX3_forget_5 : decode cX3_forget 5 = .ok (.return_, 1) := by decide +kernel
set_option maxRecDepth 20000 in
theorem ggX3_clear_X3_forget : GoodIn wsX3_clear wsX3_forget := goodIn_r _ [9, 10, 11, 12, 13, 14, 15, 16, 17, 18, 19, 20, 21, 22, 23, 24, 25, 26] (by decide +kernel) (by decide +kernel)
set_option maxRecDepth 20000 in
theorem gX3_clear_X3_forget : GoodIn wsX3_clear (wsV RX3 66 RX3 yX3_forget wsX3_forget) := goodIn_app (goodIn_of _ (by decide +kernel)) ggX3_clear_X3_forget
theorem dX3_clear_0 : decode cX3_clear 0 = .ok (.aload_n 0, 1) := by decide +kernel
theorem dX3_clear_1 : decode cX3_clear 1 = .ok (.getfield 48, 3) := by decide +kernel
theorem dX3_clear_4 : decode cX3_clear 4 = .ok (.istore_n 1, 1) := by decide +kernel
theorem dX3_clear_5 : decode cX3_clear 5 = .ok (.aload_n 0, 1) := by decide +kernel
theorem dX3_clear_6 : decode cX3_clear 6 = .ok (.iconst 0, 1) := by decide +kernel
theorem dX3_clear_7 : decode cX3_clear 7 = .ok (.putfield 63, 3) := by decide +kernel
theorem dX3_clear_10 : decode cX3_clear 10 = .ok (.aload_n 0, 1) := by decide +kernel
theorem dX3_clear_11 : decode cX3_clear 11 = .ok (.iconst 0, 1) := by decide +kernel
theorem dX3_clear_12 : decode cX3_clear 12 = .ok (.putfield 48, 3) := by decide +kernel
theorem dX3_clear_15 : decode cX3_clear 15 = .ok (.iconst 0, 1) := by decide +kernel
theorem dX3_clear_16 : decode cX3_clear 16 = .ok (.istore_n 2, 1) := by decide +kernel
theorem dX3_clear_17 : decode cX3_clear 17 = .ok (.iload_n 2, 1) := by decide +kernel
theorem dX3_clear_18 : decode cX3_clear 18 = .ok (.sipush 144, 3) := by decide +kernel
theorem dX3_clear_21 : decode cX3_clear 21 = .ok (.if_icmp .ge 16, 3) := by decide +kernel
theorem dX3_clear_24 : decode cX3_clear 24 = .ok (.aload_n 0, 1) := by decide +kernel
theorem dX3_clear_25 : decode cX3_clear 25 = .ok (.getfield 19, 3) := by decide +kernel
theorem dX3_clear_28 : decode cX3_clear 28 = .ok (.iload_n 2, 1) := by decide +kernel
theorem dX3_clear_29 : decode cX3_clear 29 = .ok (.iconst 0, 1) := by decide +kernel
theorem dX3_clear_30 : decode cX3_clear 30 = .ok (.bastore, 1) := by decide +kernel
theorem dX3_clear_31 : decode cX3_clear 31 = .ok (.iinc 2 1, 3) := by decide +kernel
theorem dX3_clear_34 : decode cX3_clear 34 = .ok (.goto (-17), 3) := by decide +kernel
theorem dX3_clear_37 : decode cX3_clear 37 = .ok (.iconst 0, 1) := by decide +kernel
theorem dX3_clear_38 : decode cX3_clear 38 = .ok (.istore_n 2, 1) := by decide +kernel
theorem dX3_clear_39 : decode cX3_clear 39 = .ok (.iload_n 2, 1) := by decide +kernel
theorem dX3_clear_40 : decode cX3_clear 40 = .ok (.bipush 12, 2) := by decide +kernel
theorem dX3_clear_42 : decode cX3_clear 42 = .ok (.if_icmp .ge 16, 3) := by decide +kernel
theorem dX3_clear_45 : decode cX3_clear 45 = .ok (.aload_n 0, 1) := by decide +kernel
theorem dX3_clear_46 : decode cX3_clear 46 = .ok (.getfield 23, 3) := by decide +kernel
theorem dX3_clear_49 : decode cX3_clear 49 = .ok (.iload_n 2, 1) := by decide +kernel
theorem dX3_clear_50 : decode cX3_clear 50 = .ok (.iconst 0, 1) := by decide +kernel
theorem dX3_clear_51 : decode cX3_clear 51 = .ok (.iastore, 1) := by decide +kernel
theorem dX3_clear_52 : decode cX3_clear 52 = .ok (.iinc 2 1, 3) := by decide +kernel
theorem dX3_clear_55 : decode cX3_clear 55 = .ok (.goto (-16), 3) := by decide +kernel
theorem dX3_clear_58 : decode cX3_clear 58 = .ok (.aload_n 0, 1) := by decide +kernel
theorem dX3_clear_59 : decode cX3_clear 59 = .ok (.invokevirtual 66, 3) := by decide +kernel
theorem dX3_clear_62 : decode cX3_clear 62 = .ok (.iload_n 1, 1) := by decide +kernel
theorem dX3_clear_63 : decode cX3_clear 63 = .ok (.ireturn, 1) := by decide +kernel
theorem dX3_job_0 : decode cX3_job 0 = .ok (.aload_n 0, 1) := by decide +kernel
theorem dX3_job_1 : decode cX3_job 1 = .ok (.getfield 63, 3) := by decide +kernel
theorem dX3_job_4 : decode cX3_job 4 = .ok (.iconst 4, 1) := by decide +kernel
theorem dX3_job_5 : decode cX3_job 5 = .ok (.if_icmp .ne 6, 3) := by decide +kernel
theorem dX3_job_8 : decode cX3_job 8 = .ok (.bipush (-3), 2) := by decide +kernel
theorem dX3_job_10 : decode cX3_job 10 = .ok (.ireturn, 1) := by decide +kernel
theorem dX3_job_11 : decode cX3_job 11 = .ok (.aload_n 0, 1) := by decide +kernel
theorem dX3_job_12 : decode cX3_job 12 = .ok (.dup, 1) := by decide +kernel
theorem dX3_job_13 : decode cX3_job 13 = .ok (.getfield 63, 3) := by decide +kernel
theorem dX3_job_16 : decode cX3_job 16 = .ok (.iconst 1, 1) := by decide +kernel
theorem dX3_job_17 : decode cX3_job 17 = .ok (.iadd, 1) := by decide +kernel
theorem dX3_job_18 : decode cX3_job 18 = .ok (.putfield 63, 3) := by decide +kernel
theorem dX3_job_21 : decode cX3_job 21 = .ok (.aload_n 0, 1) := by decide +kernel
theorem dX3_job_22 : decode cX3_job 22 = .ok (.getfield 63, 3) := by decide +kernel
theorem dX3_job_25 : decode cX3_job 25 = .ok (.iconst 1, 1) := by decide +kernel
theorem dX3_job_26 : decode cX3_job 26 = .ok (.isub, 1) := by decide +kernel
theorem dX3_job_27 : decode cX3_job 27 = .ok (.ireturn, 1) := by decide +kernel
set_option maxRecDepth 20000 in
theorem ggX3_operation_X3_in : GoodIn wsX3_operation wsX3_in := goodIn_r _ [10] (by decide +kernel) (by decide +kernel)
set_option maxRecDepth 20000 in
theorem gX3_operation_X3_in : GoodIn wsX3_operation (va_wsS RX3 51 yX3_in wsX3_in) := goodIn_app (goodIn_of _ (by decide +kernel)) ggX3_operation_X3_in
set_option maxRecDepth 20000 in
theorem ggX3_operation_X3_forget : GoodIn wsX3_operation wsX3_forget := goodIn_r _ [14, 15, 16, 17, 18, 19, 20, 21, 22, 23, 24, 25, 26, 27, 28, 29, 30, 31] (by decide +kernel) (by decide +kernel)
set_option maxRecDepth 20000 in
theorem gX3_operation_X3_forget : GoodIn wsX3_operation (wsV RX3 66 RX3 yX3_forget wsX3_forget) := goodIn_app (goodIn_of _ (by decide +kernel)) ggX3_operation_X3_forget
theorem dX3_operation_0 : decode cX3_operation 0 = .ok (.iload_n 1, 1) := by decide +kernel
theorem dX3_operation_1 : decode cX3_operation 1 = .ok (.iconst 0, 1) := by decide +kernel
theorem dX3_operation_2 : decode cX3_operation 2 = .ok (.aload_n 0, 1) := by decide +kernel
theorem dX3_operation_3 : decode cX3_operation 3 = .ok (.getfield 63, 3) := by decide +kernel
theorem dX3_operation_6 : decode cX3_operation 6 = .ok (.iconst 1, 1) := by decide +kernel
theorem dX3_operation_7 : decode cX3_operation 7 = .ok (.isub, 1) := by decide +kernel
theorem dX3_operation_8 : decode cX3_operation 8 = .ok (.invokestatic 51, 3) := by decide +kernel
theorem dX3_operation_11 : decode cX3_operation 11 = .ok (.ifCond .eq 22, 3) := by decide +kernel
theorem dX3_operation_14 : decode cX3_operation 14 = .ok (.iload_n 2, 1) := by decide +kernel
theorem dX3_operation_15 : decode cX3_operation 15 = .ok (.iconst 0, 1) := by decide +kernel
theorem dX3_operation_16 : decode cX3_operation 16 = .ok (.iconst 3, 1) := by decide +kernel
theorem dX3_operation_17 : decode cX3_operation 17 = .ok (.invokestatic 51, 3) := by decide +kernel
theorem dX3_operation_20 : decode cX3_operation 20 = .ok (.ifCond .eq 13, 3) := by decide +kernel
theorem dX3_operation_23 : decode cX3_operation 23 = .ok (.iload_n 3, 1) := by decide +kernel
theorem dX3_operation_24 : decode cX3_operation 24 = .ok (.iconst 1, 1) := by decide +kernel
theorem dX3_operation_25 : decode cX3_operation 25 = .ok (.bipush 50, 2) := by decide +kernel
theorem dX3_operation_27 : decode cX3_operation 27 = .ok (.invokestatic 51, 3) := by decide +kernel
theorem dX3_operation_30 : decode cX3_operation 30 = .ok (.ifCond .ne 6, 3) := by decide +kernel
theorem dX3_operation_33 : decode cX3_operation 33 = .ok (.bipush (-2), 2) := by decide +kernel
theorem dX3_operation_35 : decode cX3_operation 35 = .ok (.ireturn, 1) := by decide +kernel
theorem dX3_operation_36 : decode cX3_operation 36 = .ok (.iconst 0, 1) := by decide +kernel
theorem dX3_operation_37 : decode cX3_operation 37 = .ok (.istore 4, 2) := by decide +kernel
theorem dX3_operation_39 : decode cX3_operation 39 = .ok (.iload 4, 2) := by decide +kernel
theorem dX3_operation_41 : decode cX3_operation 41 = .ok (.aload_n 0, 1) := by decide +kernel
theorem dX3_operation_42 : decode cX3_operation 42 = .ok (.getfield 48, 3) := by decide +kernel
theorem dX3_operation_45 : decode cX3_operation 45 = .ok (.if_icmp .ge 34, 3) := by decide +kernel
theorem dX3_operation_48 : decode cX3_operation 48 = .ok (.aload_n 0, 1) := by decide +kernel
theorem dX3_operation_49 : decode cX3_operation 49 = .ok (.getfield 7, 3) := by decide +kernel
theorem dX3_operation_52 : decode cX3_operation 52 = .ok (.iload 4, 2) := by decide +kernel
theorem dX3_operation_54 : decode cX3_operation 54 = .ok (.iaload, 1) := by decide +kernel
theorem dX3_operation_55 : decode cX3_operation 55 = .ok (.iload_n 1, 1) := by decide +kernel
theorem dX3_operation_56 : decode cX3_operation 56 = .ok (.if_icmp .ne 17, 3) := by decide +kernel
theorem dX3_operation_59 : decode cX3_operation 59 = .ok (.aload_n 0, 1) := by decide +kernel
theorem dX3_operation_60 : decode cX3_operation 60 = .ok (.getfield 13, 3) := by decide +kernel
theorem dX3_operation_63 : decode cX3_operation 63 = .ok (.iload 4, 2) := by decide +kernel
theorem dX3_operation_65 : decode cX3_operation 65 = .ok (.iaload, 1) := by decide +kernel
theorem dX3_operation_66 : decode cX3_operation 66 = .ok (.iload_n 2, 1) := by decide +kernel
theorem dX3_operation_67 : decode cX3_operation 67 = .ok (.if_icmp .ne 6, 3) := by decide +kernel
theorem dX3_operation_70 : decode cX3_operation 70 = .ok (.bipush (-2), 2) := by decide +kernel
theorem dX3_operation_72 : decode cX3_operation 72 = .ok (.ireturn, 1) := by decide +kernel
theorem dX3_operation_73 : decode cX3_operation 73 = .ok (.iinc 4 1, 3) := by decide +kernel
theorem dX3_operation_76 : decode cX3_operation 76 = .ok (.goto (-37), 3) := by decide +kernel
theorem dX3_operation_79 : decode cX3_operation 79 = .ok (.aload_n 0, 1) := by decide +kernel
theorem dX3_operation_80 : decode cX3_operation 80 = .ok (.getfield 48, 3) := by decide +kernel
theorem dX3_operation_83 : decode cX3_operation 83 = .ok (.bipush 12, 2) := by decide +kernel
theorem dX3_operation_85 : decode cX3_operation 85 = .ok (.if_icmp .ne 6, 3) := by decide +kernel
theorem dX3_operation_88 : decode cX3_operation 88 = .ok (.bipush (-3), 2) := by decide +kernel
theorem dX3_operation_90 : decode cX3_operation 90 = .ok (.ireturn, 1) := by decide +kernel
theorem dX3_operation_91 : decode cX3_operation 91 = .ok (.aload_n 0, 1) := by decide +kernel
theorem dX3_operation_92 : decode cX3_operation 92 = .ok (.getfield 7, 3) := by decide +kernel
theorem dX3_operation_95 : decode cX3_operation 95 = .ok (.aload_n 0, 1) := by decide +kernel
theorem dX3_operation_96 : decode cX3_operation 96 = .ok (.getfield 48, 3) := by decide +kernel
theorem dX3_operation_99 : decode cX3_operation 99 = .ok (.iload_n 1, 1) := by decide +kernel
theorem dX3_operation_100 : decode cX3_operation 100 = .ok (.iastore, 1) := by decide +kernel
theorem dX3_operation_101 : decode cX3_operation 101 = .ok (.aload_n 0, 1) := by decide +kernel
theorem dX3_operation_102 : decode cX3_operation 102 = .ok (.getfield 13, 3) := by decide +kernel
theorem dX3_operation_105 : decode cX3_operation 105 = .ok (.aload_n 0, 1) := by decide +kernel
theorem dX3_operation_106 : decode cX3_operation 106 = .ok (.getfield 48, 3) := by decide +kernel
theorem dX3_operation_109 : decode cX3_operation 109 = .ok (.iload_n 2, 1) := by decide +kernel
theorem dX3_operation_110 : decode cX3_operation 110 = .ok (.iastore, 1) := by decide +kernel
theorem dX3_operation_111 : decode cX3_operation 111 = .ok (.aload_n 0, 1) := by decide +kernel
theorem dX3_operation_112 : decode cX3_operation 112 = .ok (.getfield 16, 3) := by decide +kernel
theorem dX3_operation_115 : decode cX3_operation 115 = .ok (.aload_n 0, 1) := by decide +kernel
theorem dX3_operation_116 : decode cX3_operation 116 = .ok (.getfield 48, 3) := by decide +kernel
theorem dX3_operation_119 : decode cX3_operation 119 = .ok (.iload_n 3, 1) := by decide +kernel
theorem dX3_operation_120 : decode cX3_operation 120 = .ok (.iastore, 1) := by decide +kernel
theorem dX3_operation_121 : decode cX3_operation 121 = .ok (.aload_n 0, 1) := by decide +kernel
theorem dX3_operation_122 : decode cX3_operation 122 = .ok (.dup, 1) := by decide +kernel
theorem dX3_operation_123 : decode cX3_operation 123 = .ok (.getfield 48, 3) := by decide +kernel
theorem dX3_operation_126 : decode cX3_operation 126 = .ok (.iconst 1, 1) := by decide +kernel
theorem dX3_operation_127 : decode cX3_operation 127 = .ok (.iadd, 1) := by decide +kernel
theorem dX3_operation_128 : decode cX3_operation 128 = .ok (.putfield 48, 3) := by decide +kernel
theorem dX3_operation_131 : decode cX3_operation 131 = .ok (.iconst 0, 1) := by decide +kernel
theorem dX3_operation_132 : decode cX3_operation 132 = .ok (.istore 4, 2) := by decide +kernel
theorem dX3_operation_134 : decode cX3_operation 134 = .ok (.iload 4, 2) := by decide +kernel
theorem dX3_operation_136 : decode cX3_operation 136 = .ok (.bipush 12, 2) := by decide +kernel
theorem dX3_operation_138 : decode cX3_operation 138 = .ok (.if_icmp .ge 17, 3) := by decide +kernel
theorem dX3_operation_141 : decode cX3_operation 141 = .ok (.aload_n 0, 1) := by decide +kernel
theorem dX3_operation_142 : decode cX3_operation 142 = .ok (.getfield 23, 3) := by decide +kernel
theorem dX3_operation_145 : decode cX3_operation 145 = .ok (.iload 4, 2) := by decide +kernel
theorem dX3_operation_147 : decode cX3_operation 147 = .ok (.iconst 0, 1) := by decide +kernel
theorem dX3_operation_148 : decode cX3_operation 148 = .ok (.iastore, 1) := by decide +kernel
theorem dX3_operation_149 : decode cX3_operation 149 = .ok (.iinc 4 1, 3) := by decide +kernel
theorem dX3_operation_152 : decode cX3_operation 152 = .ok (.goto (-18), 3) := by decide +kernel
theorem dX3_operation_155 : decode cX3_operation 155 = .ok (.aload_n 0, 1) := by decide +kernel
theorem dX3_operation_156 : decode cX3_operation 156 = .ok (.invokevirtual 66, 3) := by decide +kernel
theorem dX3_operation_159 : decode cX3_operation 159 = .ok (.aload_n 0, 1) := by decide +kernel
theorem dX3_operation_160 : decode cX3_operation 160 = .ok (.getfield 48, 3) := by decide +kernel
theorem dX3_operation_163 : decode cX3_operation 163 = .ok (.iconst 1, 1) := by decide +kernel
theorem dX3_operation_164 : decode cX3_operation 164 = .ok (.isub, 1) := by decide +kernel
theorem dX3_operation_165 : decode cX3_operation 165 = .ok (.ireturn, 1) := by decide +kernel
theorem dX3_nextOf_0 : decode cX3_nextOf 0 = .ok (.iload_n 1, 1) := by decide +kernel
theorem dX3_nextOf_1 : decode cX3_nextOf 1 = .ok (.iconst 1, 1) := by decide +kernel
theorem dX3_nextOf_2 : decode cX3_nextOf 2 = .ok (.iadd, 1) := by decide +kernel
theorem dX3_nextOf_3 : decode cX3_nextOf 3 = .ok (.istore_n 2, 1) := by decide +kernel
theorem dX3_nextOf_4 : decode cX3_nextOf 4 = .ok (.iload_n 2, 1) := by decide +kernel
theorem dX3_nextOf_5 : decode cX3_nextOf 5 = .ok (.aload_n 0, 1) := by decide +kernel
theorem dX3_nextOf_6 : decode cX3_nextOf 6 = .ok (.getfield 48, 3) := by decide +kernel
theorem dX3_nextOf_9 : decode cX3_nextOf 9 = .ok (.if_icmp .ge 24, 3) := by decide +kernel
theorem dX3_nextOf_12 : decode cX3_nextOf 12 = .ok (.aload_n 0, 1) := by decide +kernel
theorem dX3_nextOf_13 : decode cX3_nextOf 13 = .ok (.getfield 7, 3) := by decide +kernel
theorem dX3_nextOf_16 : decode cX3_nextOf 16 = .ok (.iload_n 2, 1) := by decide +kernel
theorem dX3_nextOf_17 : decode cX3_nextOf 17 = .ok (.iaload, 1) := by decide +kernel
theorem dX3_nextOf_18 : decode cX3_nextOf 18 = .ok (.aload_n 0, 1) := by decide +kernel
theorem dX3_nextOf_19 : decode cX3_nextOf 19 = .ok (.getfield 7, 3) := by decide +kernel
theorem dX3_nextOf_22 : decode cX3_nextOf 22 = .ok (.iload_n 1, 1) := by decide +kernel
theorem dX3_nextOf_23 : decode cX3_nextOf 23 = .ok (.iaload, 1) := by decide +kernel
theorem dX3_nextOf_24 : decode cX3_nextOf 24 = .ok (.if_icmp .eq 9, 3) := by decide +kernel
theorem dX3_nextOf_27 : decode cX3_nextOf 27 = .ok (.iinc 2 1, 3) := by decide +kernel
theorem dX3_nextOf_30 : decode cX3_nextOf 30 = .ok (.goto (-26), 3) := by decide +kernel
theorem dX3_nextOf_33 : decode cX3_nextOf 33 = .ok (.iload_n 2, 1) := by decide +kernel
theorem dX3_nextOf_34 : decode cX3_nextOf 34 = .ok (.aload_n 0, 1) := by decide +kernel
theorem dX3_nextOf_35 : decode cX3_nextOf 35 = .ok (.getfield 48, 3) := by decide +kernel
theorem dX3_nextOf_38 : decode cX3_nextOf 38 = .ok (.if_icmp .ge 7, 3) := by decide +kernel
theorem dX3_nextOf_41 : decode cX3_nextOf 41 = .ok (.iload_n 2, 1) := by decide +kernel
theorem dX3_nextOf_42 : decode cX3_nextOf 42 = .ok (.goto 4, 3) := by decide +kernel
theorem dX3_nextOf_45 : decode cX3_nextOf 45 = .ok (.iconst (-1), 1) := by decide +kernel
theorem dX3_nextOf_46 : decode cX3_nextOf 46 = .ok (.ireturn, 1) := by decide +kernel
set_option maxRecDepth 20000 in
theorem ggX3_leads_X3_nextOf : GoodIn wsX3_leads wsX3_nextOf := goodIn_r _ [5, 6, 7, 8, 9, 10, 11, 12, 13, 14, 15, 16, 17, 18, 19, 20, 21, 22, 23] (by decide +kernel) (by decide +kernel)
set_option maxRecDepth 20000 in
theorem gX3_leads_X3_nextOf : GoodIn wsX3_leads (wsV RX3 69 RX3 yX3_nextOf wsX3_nextOf) := goodIn_app (goodIn_of _ (by decide +kernel)) ggX3_leads_X3_nextOf
theorem dX3_leads_0 : decode cX3_leads 0 = .ok (.aload_n 1, 1) := by decide +kernel
theorem dX3_leads_1 : decode cX3_leads 1 = .ok (.bipush 12, 2) := by decide +kernel
theorem dX3_leads_3 : decode cX3_leads 3 = .ok (.iload_n 2, 1) := by decide +kernel
theorem dX3_leads_4 : decode cX3_leads 4 = .ok (.imul, 1) := by decide +kernel
theorem dX3_leads_5 : decode cX3_leads 5 = .ok (.iload_n 3, 1) := by decide +kernel
theorem dX3_leads_6 : decode cX3_leads 6 = .ok (.iadd, 1) := by decide +kernel
theorem dX3_leads_7 : decode cX3_leads 7 = .ok (.baload, 1) := by decide +kernel
theorem dX3_leads_8 : decode cX3_leads 8 = .ok (.ifCond .ne 12, 3) := by decide +kernel
theorem dX3_leads_11 : decode cX3_leads 11 = .ok (.aload_n 0, 1) := by decide +kernel
theorem dX3_leads_12 : decode cX3_leads 12 = .ok (.iload_n 2, 1) := by decide +kernel
theorem dX3_leads_13 : decode cX3_leads 13 = .ok (.invokevirtual 69, 3) := by decide +kernel
theorem dX3_leads_16 : decode cX3_leads 16 = .ok (.iload_n 3, 1) := by decide +kernel
theorem dX3_leads_17 : decode cX3_leads 17 = .ok (.if_icmp .ne 7, 3) := by decide +kernel
theorem dX3_leads_20 : decode cX3_leads 20 = .ok (.iconst 1, 1) := by decide +kernel
theorem dX3_leads_21 : decode cX3_leads 21 = .ok (.goto 4, 3) := by decide +kernel
theorem dX3_leads_24 : decode cX3_leads 24 = .ok (.iconst 0, 1) := by decide +kernel
theorem dX3_leads_25 : decode cX3_leads 25 = .ok (.ireturn, 1) := by decide +kernel
set_option maxRecDepth 20000 in
theorem ggX3_findHeads_X3_leads : GoodIn wsX3_findHeads wsX3_leads := goodIn_r _ [8, 9, 10, 11, 7, 12, 1, 13, 14, 15, 16, 17, 18, 19, 20, 21, 22, 23, 24, 25, 26, 27, 28, 29] (by decide +kernel) (by decide +kernel)
set_option maxRecDepth 20000 in
theorem gX3_findHeads_X3_leads : GoodIn wsX3_findHeads (wsV RX3 73 RX3 yX3_leads wsX3_leads) := goodIn_app (goodIn_of _ (by decide +kernel)) ggX3_findHeads_X3_leads
theorem dX3_findHeads_0 : decode cX3_findHeads 0 = .ok (.iconst 0, 1) := by decide +kernel
theorem dX3_findHeads_1 : decode cX3_findHeads 1 = .ok (.istore_n 2, 1) := by decide +kernel
theorem dX3_findHeads_2 : decode cX3_findHeads 2 = .ok (.iload_n 2, 1) := by decide +kernel
theorem dX3_findHeads_3 : decode cX3_findHeads 3 = .ok (.aload_n 0, 1) := by decide +kernel
theorem dX3_findHeads_4 : decode cX3_findHeads 4 = .ok (.getfield 48, 3) := by decide +kernel
theorem dX3_findHeads_7 : decode cX3_findHeads 7 = .ok (.if_icmp .ge 16, 3) := by decide +kernel
theorem dX3_findHeads_10 : decode cX3_findHeads 10 = .ok (.aload_n 0, 1) := by decide +kernel
theorem dX3_findHeads_11 : decode cX3_findHeads 11 = .ok (.getfield 29, 3) := by decide +kernel
theorem dX3_findHeads_14 : decode cX3_findHeads 14 = .ok (.iload_n 2, 1) := by decide +kernel
theorem dX3_findHeads_15 : decode cX3_findHeads 15 = .ok (.iconst 0, 1) := by decide +kernel
theorem dX3_findHeads_16 : decode cX3_findHeads 16 = .ok (.iastore, 1) := by decide +kernel
theorem dX3_findHeads_17 : decode cX3_findHeads 17 = .ok (.iinc 2 1, 3) := by decide +kernel
theorem dX3_findHeads_20 : decode cX3_findHeads 20 = .ok (.goto (-18), 3) := by decide +kernel
theorem dX3_findHeads_23 : decode cX3_findHeads 23 = .ok (.iconst 1, 1) := by decide +kernel
theorem dX3_findHeads_24 : decode cX3_findHeads 24 = .ok (.istore_n 2, 1) := by decide +kernel
theorem dX3_findHeads_25 : decode cX3_findHeads 25 = .ok (.iconst 0, 1) := by decide +kernel
theorem dX3_findHeads_26 : decode cX3_findHeads 26 = .ok (.istore_n 3, 1) := by decide +kernel
theorem dX3_findHeads_27 : decode cX3_findHeads 27 = .ok (.iload_n 2, 1) := by decide +kernel
theorem dX3_findHeads_28 : decode cX3_findHeads 28 = .ok (.ifCond .eq 108, 3) := by decide +kernel
theorem dX3_findHeads_31 : decode cX3_findHeads 31 = .ok (.iconst 0, 1) := by decide +kernel
theorem dX3_findHeads_32 : decode cX3_findHeads 32 = .ok (.istore_n 2, 1) := by decide +kernel
theorem dX3_findHeads_33 : decode cX3_findHeads 33 = .ok (.iconst 0, 1) := by decide +kernel
theorem dX3_findHeads_34 : decode cX3_findHeads 34 = .ok (.istore 4, 2) := by decide +kernel
theorem dX3_findHeads_36 : decode cX3_findHeads 36 = .ok (.iload 4, 2) := by decide +kernel
theorem dX3_findHeads_38 : decode cX3_findHeads 38 = .ok (.aload_n 0, 1) := by decide +kernel
theorem dX3_findHeads_39 : decode cX3_findHeads 39 = .ok (.getfield 48, 3) := by decide +kernel
theorem dX3_findHeads_42 : decode cX3_findHeads 42 = .ok (.if_icmp .ge 79, 3) := by decide +kernel
theorem dX3_findHeads_45 : decode cX3_findHeads 45 = .ok (.iconst 0, 1) := by decide +kernel
theorem dX3_findHeads_46 : decode cX3_findHeads 46 = .ok (.istore 5, 2) := by decide +kernel
theorem dX3_findHeads_48 : decode cX3_findHeads 48 = .ok (.iload 5, 2) := by decide +kernel
theorem dX3_findHeads_50 : decode cX3_findHeads 50 = .ok (.aload_n 0, 1) := by decide +kernel
theorem dX3_findHeads_51 : decode cX3_findHeads 51 = .ok (.getfield 48, 3) := by decide +kernel
theorem dX3_findHeads_54 : decode cX3_findHeads 54 = .ok (.if_icmp .ge 61, 3) := by decide +kernel
theorem dX3_findHeads_57 : decode cX3_findHeads 57 = .ok (.aload_n 0, 1) := by decide +kernel
theorem dX3_findHeads_58 : decode cX3_findHeads 58 = .ok (.getfield 29, 3) := by decide +kernel
theorem dX3_findHeads_61 : decode cX3_findHeads 61 = .ok (.iload 4, 2) := by decide +kernel
theorem dX3_findHeads_63 : decode cX3_findHeads 63 = .ok (.iaload, 1) := by decide +kernel
theorem dX3_findHeads_64 : decode cX3_findHeads 64 = .ok (.aload_n 0, 1) := by decide +kernel
theorem dX3_findHeads_65 : decode cX3_findHeads 65 = .ok (.getfield 16, 3) := by decide +kernel
theorem dX3_findHeads_68 : decode cX3_findHeads 68 = .ok (.iload 4, 2) := by decide +kernel
theorem dX3_findHeads_70 : decode cX3_findHeads 70 = .ok (.iaload, 1) := by decide +kernel
theorem dX3_findHeads_71 : decode cX3_findHeads 71 = .ok (.iadd, 1) := by decide +kernel
theorem dX3_findHeads_72 : decode cX3_findHeads 72 = .ok (.istore 6, 2) := by decide +kernel
theorem dX3_findHeads_74 : decode cX3_findHeads 74 = .ok (.aload_n 0, 1) := by decide +kernel
theorem dX3_findHeads_75 : decode cX3_findHeads 75 = .ok (.aload_n 1, 1) := by decide +kernel
theorem dX3_findHeads_76 : decode cX3_findHeads 76 = .ok (.iload 4, 2) := by decide +kernel
theorem dX3_findHeads_78 : decode cX3_findHeads 78 = .ok (.iload 5, 2) := by decide +kernel
theorem dX3_findHeads_80 : decode cX3_findHeads 80 = .ok (.invokevirtual 73, 3) := by decide +kernel
theorem dX3_findHeads_83 : decode cX3_findHeads 83 = .ok (.ifCond .eq 26, 3) := by decide +kernel
theorem dX3_findHeads_86 : decode cX3_findHeads 86 = .ok (.iload 6, 2) := by decide +kernel
theorem dX3_findHeads_88 : decode cX3_findHeads 88 = .ok (.aload_n 0, 1) := by decide +kernel
theorem dX3_findHeads_89 : decode cX3_findHeads 89 = .ok (.getfield 29, 3) := by decide +kernel
theorem dX3_findHeads_92 : decode cX3_findHeads 92 = .ok (.iload 5, 2) := by decide +kernel
theorem dX3_findHeads_94 : decode cX3_findHeads 94 = .ok (.iaload, 1) := by decide +kernel
theorem dX3_findHeads_95 : decode cX3_findHeads 95 = .ok (.if_icmp .le 14, 3) := by decide +kernel
theorem dX3_findHeads_98 : decode cX3_findHeads 98 = .ok (.aload_n 0, 1) := by decide +kernel
theorem dX3_findHeads_99 : decode cX3_findHeads 99 = .ok (.getfield 29, 3) := by decide +kernel
theorem dX3_findHeads_102 : decode cX3_findHeads 102 = .ok (.iload 5, 2) := by decide +kernel
theorem dX3_findHeads_104 : decode cX3_findHeads 104 = .ok (.iload 6, 2) := by decide +kernel
theorem dX3_findHeads_106 : decode cX3_findHeads 106 = .ok (.iastore, 1) := by decide +kernel
theorem dX3_findHeads_107 : decode cX3_findHeads 107 = .ok (.iconst 1, 1) := by decide +kernel
theorem dX3_findHeads_108 : decode cX3_findHeads 108 = .ok (.istore_n 2, 1) := by decide +kernel
theorem dX3_findHeads_109 : decode cX3_findHeads 109 = .ok (.iinc 5 1, 3) := by decide +kernel
theorem dX3_findHeads_112 : decode cX3_findHeads 112 = .ok (.goto (-64), 3) := by decide +kernel
theorem dX3_findHeads_115 : decode cX3_findHeads 115 = .ok (.iinc 4 1, 3) := by decide +kernel
theorem dX3_findHeads_118 : decode cX3_findHeads 118 = .ok (.goto (-82), 3) := by decide +kernel
theorem dX3_findHeads_121 : decode cX3_findHeads 121 = .ok (.iinc 3 1, 3) := by decide +kernel
theorem dX3_findHeads_124 : decode cX3_findHeads 124 = .ok (.iload_n 3, 1) := by decide +kernel
theorem dX3_findHeads_125 : decode cX3_findHeads 125 = .ok (.aload_n 0, 1) := by decide +kernel
theorem dX3_findHeads_126 : decode cX3_findHeads 126 = .ok (.getfield 48, 3) := by decide +kernel
theorem dX3_findHeads_129 : decode cX3_findHeads 129 = .ok (.iconst 1, 1) := by decide +kernel
theorem dX3_findHeads_130 : decode cX3_findHeads 130 = .ok (.iadd, 1) := by decide +kernel
theorem dX3_findHeads_131 : decode cX3_findHeads 131 = .ok (.if_icmp .le (-104), 3) := by decide +kernel
theorem dX3_findHeads_134 : decode cX3_findHeads 134 = .ok (.iconst 0, 1) := by decide +kernel
theorem dX3_findHeads_135 : decode cX3_findHeads 135 = .ok (.ireturn, 1) := by decide +kernel
theorem dX3_findHeads_136 : decode cX3_findHeads 136 = .ok (.iconst 1, 1) := by decide +kernel
theorem dX3_findHeads_137 : decode cX3_findHeads 137 = .ok (.ireturn, 1) := by decide +kernel
set_option maxRecDepth 20000 in
theorem ggX3_findTails_X3_leads : GoodIn wsX3_findTails wsX3_leads := goodIn_r _ [8, 9, 10, 11, 7, 12, 1, 13, 14, 15, 16, 17, 18, 19, 20, 21, 22, 23, 24, 25, 26, 27, 28, 29] (by decide +kernel) (by decide +kernel)
set_option maxRecDepth 20000 in
theorem gX3_findTails_X3_leads : GoodIn wsX3_findTails (wsV RX3 73 RX3 yX3_leads wsX3_leads) := goodIn_app (goodIn_of _ (by decide +kernel)) ggX3_findTails_X3_leads
theorem dX3_findTails_0 : decode cX3_findTails 0 = .ok (.iconst 0, 1) := by decide +kernel
theorem dX3_findTails_1 : decode cX3_findTails 1 = .ok (.istore_n 2, 1) := by decide +kernel
theorem dX3_findTails_2 : decode cX3_findTails 2 = .ok (.iload_n 2, 1) := by decide +kernel
theorem dX3_findTails_3 : decode cX3_findTails 3 = .ok (.aload_n 0, 1) := by decide +kernel
theorem dX3_findTails_4 : decode cX3_findTails 4 = .ok (.getfield 48, 3) := by decide +kernel
theorem dX3_findTails_7 : decode cX3_findTails 7 = .ok (.if_icmp .ge 16, 3) := by decide +kernel
theorem dX3_findTails_10 : decode cX3_findTails 10 = .ok (.aload_n 0, 1) := by decide +kernel
theorem dX3_findTails_11 : decode cX3_findTails 11 = .ok (.getfield 32, 3) := by decide +kernel
theorem dX3_findTails_14 : decode cX3_findTails 14 = .ok (.iload_n 2, 1) := by decide +kernel
theorem dX3_findTails_15 : decode cX3_findTails 15 = .ok (.iconst 0, 1) := by decide +kernel
theorem dX3_findTails_16 : decode cX3_findTails 16 = .ok (.iastore, 1) := by decide +kernel
theorem dX3_findTails_17 : decode cX3_findTails 17 = .ok (.iinc 2 1, 3) := by decide +kernel
theorem dX3_findTails_20 : decode cX3_findTails 20 = .ok (.goto (-18), 3) := by decide +kernel
theorem dX3_findTails_23 : decode cX3_findTails 23 = .ok (.iconst 1, 1) := by decide +kernel
theorem dX3_findTails_24 : decode cX3_findTails 24 = .ok (.istore_n 2, 1) := by decide +kernel
theorem dX3_findTails_25 : decode cX3_findTails 25 = .ok (.iload_n 2, 1) := by decide +kernel
theorem dX3_findTails_26 : decode cX3_findTails 26 = .ok (.ifCond .eq 91, 3) := by decide +kernel
theorem dX3_findTails_29 : decode cX3_findTails 29 = .ok (.iconst 0, 1) := by decide +kernel
theorem dX3_findTails_30 : decode cX3_findTails 30 = .ok (.istore_n 2, 1) := by decide +kernel
theorem dX3_findTails_31 : decode cX3_findTails 31 = .ok (.iconst 0, 1) := by decide +kernel
theorem dX3_findTails_32 : decode cX3_findTails 32 = .ok (.istore_n 3, 1) := by decide +kernel
theorem dX3_findTails_33 : decode cX3_findTails 33 = .ok (.iload_n 3, 1) := by decide +kernel
theorem dX3_findTails_34 : decode cX3_findTails 34 = .ok (.aload_n 0, 1) := by decide +kernel
theorem dX3_findTails_35 : decode cX3_findTails 35 = .ok (.getfield 48, 3) := by decide +kernel
theorem dX3_findTails_38 : decode cX3_findTails 38 = .ok (.if_icmp .ge 76, 3) := by decide +kernel
theorem dX3_findTails_41 : decode cX3_findTails 41 = .ok (.iconst 0, 1) := by decide +kernel
theorem dX3_findTails_42 : decode cX3_findTails 42 = .ok (.istore 4, 2) := by decide +kernel
theorem dX3_findTails_44 : decode cX3_findTails 44 = .ok (.iload 4, 2) := by decide +kernel
theorem dX3_findTails_46 : decode cX3_findTails 46 = .ok (.aload_n 0, 1) := by decide +kernel
theorem dX3_findTails_47 : decode cX3_findTails 47 = .ok (.getfield 48, 3) := by decide +kernel
theorem dX3_findTails_50 : decode cX3_findTails 50 = .ok (.if_icmp .ge 58, 3) := by decide +kernel
theorem dX3_findTails_53 : decode cX3_findTails 53 = .ok (.aload_n 0, 1) := by decide +kernel
theorem dX3_findTails_54 : decode cX3_findTails 54 = .ok (.getfield 32, 3) := by decide +kernel
theorem dX3_findTails_57 : decode cX3_findTails 57 = .ok (.iload 4, 2) := by decide +kernel
theorem dX3_findTails_59 : decode cX3_findTails 59 = .ok (.iaload, 1) := by decide +kernel
theorem dX3_findTails_60 : decode cX3_findTails 60 = .ok (.aload_n 0, 1) := by decide +kernel
theorem dX3_findTails_61 : decode cX3_findTails 61 = .ok (.getfield 16, 3) := by decide +kernel
theorem dX3_findTails_64 : decode cX3_findTails 64 = .ok (.iload 4, 2) := by decide +kernel
theorem dX3_findTails_66 : decode cX3_findTails 66 = .ok (.iaload, 1) := by decide +kernel
theorem dX3_findTails_67 : decode cX3_findTails 67 = .ok (.iadd, 1) := by decide +kernel
theorem dX3_findTails_68 : decode cX3_findTails 68 = .ok (.istore 5, 2) := by decide +kernel
theorem dX3_findTails_70 : decode cX3_findTails 70 = .ok (.aload_n 0, 1) := by decide +kernel
theorem dX3_findTails_71 : decode cX3_findTails 71 = .ok (.aload_n 1, 1) := by decide +kernel
theorem dX3_findTails_72 : decode cX3_findTails 72 = .ok (.iload_n 3, 1) := by decide +kernel
theorem dX3_findTails_73 : decode cX3_findTails 73 = .ok (.iload 4, 2) := by decide +kernel
theorem dX3_findTails_75 : decode cX3_findTails 75 = .ok (.invokevirtual 73, 3) := by decide +kernel
theorem dX3_findTails_78 : decode cX3_findTails 78 = .ok (.ifCond .eq 24, 3) := by decide +kernel
theorem dX3_findTails_81 : decode cX3_findTails 81 = .ok (.iload 5, 2) := by decide +kernel
theorem dX3_findTails_83 : decode cX3_findTails 83 = .ok (.aload_n 0, 1) := by decide +kernel
theorem dX3_findTails_84 : decode cX3_findTails 84 = .ok (.getfield 32, 3) := by decide +kernel
theorem dX3_findTails_87 : decode cX3_findTails 87 = .ok (.iload_n 3, 1) := by decide +kernel
theorem dX3_findTails_88 : decode cX3_findTails 88 = .ok (.iaload, 1) := by decide +kernel
theorem dX3_findTails_89 : decode cX3_findTails 89 = .ok (.if_icmp .le 13, 3) := by decide +kernel
theorem dX3_findTails_92 : decode cX3_findTails 92 = .ok (.aload_n 0, 1) := by decide +kernel
theorem dX3_findTails_93 : decode cX3_findTails 93 = .ok (.getfield 32, 3) := by decide +kernel
theorem dX3_findTails_96 : decode cX3_findTails 96 = .ok (.iload_n 3, 1) := by decide +kernel
theorem dX3_findTails_97 : decode cX3_findTails 97 = .ok (.iload 5, 2) := by decide +kernel
theorem dX3_findTails_99 : decode cX3_findTails 99 = .ok (.iastore, 1) := by decide +kernel
theorem dX3_findTails_100 : decode cX3_findTails 100 = .ok (.iconst 1, 1) := by decide +kernel
theorem dX3_findTails_101 : decode cX3_findTails 101 = .ok (.istore_n 2, 1) := by decide +kernel
theorem dX3_findTails_102 : decode cX3_findTails 102 = .ok (.iinc 4 1, 3) := by decide +kernel
theorem dX3_findTails_105 : decode cX3_findTails 105 = .ok (.goto (-61), 3) := by decide +kernel
theorem dX3_findTails_108 : decode cX3_findTails 108 = .ok (.iinc 3 1, 3) := by decide +kernel
theorem dX3_findTails_111 : decode cX3_findTails 111 = .ok (.goto (-78), 3) := by decide +kernel
theorem dX3_findTails_114 : decode cX3_findTails 114 = .ok (.goto (-89), 3) := by decide +kernel
theorem dX3_findTails_117 : decode cX3_findTails 117 = .ok (.return_, 1) := by decide +kernel
theorem dX3_longest_0 : decode cX3_longest 0 = .ok (.iconst 0, 1) := by decide +kernel
theorem dX3_longest_1 : decode cX3_longest 1 = .ok (.istore_n 1, 1) := by decide +kernel
theorem dX3_longest_2 : decode cX3_longest 2 = .ok (.iconst 0, 1) := by decide +kernel
theorem dX3_longest_3 : decode cX3_longest 3 = .ok (.istore_n 2, 1) := by decide +kernel
theorem dX3_longest_4 : decode cX3_longest 4 = .ok (.iload_n 2, 1) := by decide +kernel
theorem dX3_longest_5 : decode cX3_longest 5 = .ok (.aload_n 0, 1) := by decide +kernel
theorem dX3_longest_6 : decode cX3_longest 6 = .ok (.getfield 48, 3) := by decide +kernel
theorem dX3_longest_9 : decode cX3_longest 9 = .ok (.if_icmp .ge 41, 3) := by decide +kernel
theorem dX3_longest_12 : decode cX3_longest 12 = .ok (.aload_n 0, 1) := by decide +kernel
theorem dX3_longest_13 : decode cX3_longest 13 = .ok (.getfield 29, 3) := by decide +kernel
theorem dX3_longest_16 : decode cX3_longest 16 = .ok (.iload_n 2, 1) := by decide +kernel
theorem dX3_longest_17 : decode cX3_longest 17 = .ok (.iaload, 1) := by decide +kernel
theorem dX3_longest_18 : decode cX3_longest 18 = .ok (.aload_n 0, 1) := by decide +kernel
theorem dX3_longest_19 : decode cX3_longest 19 = .ok (.getfield 16, 3) := by decide +kernel
theorem dX3_longest_22 : decode cX3_longest 22 = .ok (.iload_n 2, 1) := by decide +kernel
theorem dX3_longest_23 : decode cX3_longest 23 = .ok (.iaload, 1) := by decide +kernel
theorem dX3_longest_24 : decode cX3_longest 24 = .ok (.iadd, 1) := by decide +kernel
theorem dX3_longest_25 : decode cX3_longest 25 = .ok (.aload_n 0, 1) := by decide +kernel
theorem dX3_longest_26 : decode cX3_longest 26 = .ok (.getfield 32, 3) := by decide +kernel
theorem dX3_longest_29 : decode cX3_longest 29 = .ok (.iload_n 2, 1) := by decide +kernel
theorem dX3_longest_30 : decode cX3_longest 30 = .ok (.iaload, 1) := by decide +kernel
theorem dX3_longest_31 : decode cX3_longest 31 = .ok (.iadd, 1) := by decide +kernel
theorem dX3_longest_32 : decode cX3_longest 32 = .ok (.istore_n 3, 1) := by decide +kernel
theorem dX3_longest_33 : decode cX3_longest 33 = .ok (.iload_n 3, 1) := by decide +kernel
theorem dX3_longest_34 : decode cX3_longest 34 = .ok (.iload_n 1, 1) := by decide +kernel
theorem dX3_longest_35 : decode cX3_longest 35 = .ok (.if_icmp .le 7, 3) := by decide +kernel
theorem dX3_longest_38 : decode cX3_longest 38 = .ok (.iload_n 3, 1) := by decide +kernel
theorem dX3_longest_39 : decode cX3_longest 39 = .ok (.goto 4, 3) := by decide +kernel
theorem dX3_longest_42 : decode cX3_longest 42 = .ok (.iload_n 1, 1) := by decide +kernel
theorem dX3_longest_43 : decode cX3_longest 43 = .ok (.istore_n 1, 1) := by decide +kernel
theorem dX3_longest_44 : decode cX3_longest 44 = .ok (.iinc 2 1, 3) := by decide +kernel
theorem dX3_longest_47 : decode cX3_longest 47 = .ok (.goto (-43), 3) := by decide +kernel
theorem dX3_longest_50 : decode cX3_longest 50 = .ok (.iload_n 1, 1) := by decide +kernel
theorem dX3_longest_51 : decode cX3_longest 51 = .ok (.ireturn, 1) := by decide +kernel
set_option maxRecDepth 20000 in
theorem ggX3_look_X3_findHeads : GoodIn wsX3_look wsX3_findHeads := goodIn_r _ [5, 6, 7, 8, 9, 10, 11, 4, 12, 13, 14, 15, 16, 17, 23, 24, 25, 26, 27, 28, 29, 30, 31, 32, 33, 34, 35, 36, 37, 38] (by decide +kernel) (by decide +kernel)
set_option maxRecDepth 20000 in
theorem gX3_look_X3_findHeads : GoodIn wsX3_look (wsV RX3 77 RX3 yX3_findHeads wsX3_findHeads) := goodIn_app (goodIn_of _ (by decide +kernel)) ggX3_look_X3_findHeads
set_option maxRecDepth 20000 in
theorem ggX3_look_X3_findTails : GoodIn wsX3_look wsX3_findTails := goodIn_r _ [21, 6, 22, 8, 9, 10, 11, 4, 12, 13, 14, 15, 16, 17, 23, 24, 25, 26, 27, 28, 29, 30, 31, 32, 33, 34, 35, 36, 37, 38] (by decide +kernel) (by decide +kernel)
set_option maxRecDepth 20000 in
theorem gX3_look_X3_findTails : GoodIn wsX3_look (wsV RX3 81 RX3 yX3_findTails wsX3_findTails) := goodIn_app (goodIn_of _ (by decide +kernel)) ggX3_look_X3_findTails
theorem dX3_look_0 : decode cX3_look 0 = .ok (.aload_n 0, 1) := by decide +kernel
theorem dX3_look_1 : decode cX3_look 1 = .ok (.aload_n 1, 1) := by decide +kernel
theorem dX3_look_2 : decode cX3_look 2 = .ok (.invokevirtual 77, 3) := by decide +kernel
theorem dX3_look_5 : decode cX3_look 5 = .ok (.istore_n 2, 1) := by decide +kernel
theorem dX3_look_6 : decode cX3_look 6 = .ok (.iload_n 2, 1) := by decide +kernel
theorem dX3_look_7 : decode cX3_look 7 = .ok (.ifCond .eq 8, 3) := by decide +kernel
theorem dX3_look_10 : decode cX3_look 10 = .ok (.aload_n 0, 1) := by decide +kernel
theorem dX3_look_11 : decode cX3_look 11 = .ok (.aload_n 1, 1) := by decide +kernel
theorem dX3_look_12 : decode cX3_look 12 = .ok (.invokevirtual 81, 3) := by decide +kernel
theorem dX3_look_15 : decode cX3_look 15 = .ok (.return_, 1) := by decide +kernel
set_option maxRecDepth 20000 in
theorem ggX3_hasPath_X3_leads : GoodIn wsX3_hasPath wsX3_leads := goodIn_r _ [6, 7, 8, 9, 5, 10, 1, 11, 12, 13, 14, 15, 16, 17, 18, 19, 20, 21, 22, 23, 24, 25, 26, 27] (by decide +kernel) (by decide +kernel)
set_option maxRecDepth 20000 in
theorem gX3_hasPath_X3_leads : GoodIn wsX3_hasPath (wsV RX3 73 RX3 yX3_leads wsX3_leads) := goodIn_app (goodIn_of _ (by decide +kernel)) ggX3_hasPath_X3_leads
theorem dX3_hasPath_0 : decode cX3_hasPath 0 = .ok (.iconst 1, 1) := by decide +kernel
theorem dX3_hasPath_1 : decode cX3_hasPath 1 = .ok (.iload_n 2, 1) := by decide +kernel
theorem dX3_hasPath_2 : decode cX3_hasPath 2 = .ok (.ishl, 1) := by decide +kernel
theorem dX3_hasPath_3 : decode cX3_hasPath 3 = .ok (.istore 4, 2) := by decide +kernel
theorem dX3_hasPath_5 : decode cX3_hasPath 5 = .ok (.iconst 0, 1) := by decide +kernel
theorem dX3_hasPath_6 : decode cX3_hasPath 6 = .ok (.istore 5, 2) := by decide +kernel
theorem dX3_hasPath_8 : decode cX3_hasPath 8 = .ok (.iload 5, 2) := by decide +kernel
theorem dX3_hasPath_10 : decode cX3_hasPath 10 = .ok (.iload 4, 2) := by decide +kernel
theorem dX3_hasPath_12 : decode cX3_hasPath 12 = .ok (.if_icmp .eq 83, 3) := by decide +kernel
theorem dX3_hasPath_15 : decode cX3_hasPath 15 = .ok (.iload 4, 2) := by decide +kernel
theorem dX3_hasPath_17 : decode cX3_hasPath 17 = .ok (.istore 5, 2) := by decide +kernel
theorem dX3_hasPath_19 : decode cX3_hasPath 19 = .ok (.iconst 0, 1) := by decide +kernel
theorem dX3_hasPath_20 : decode cX3_hasPath 20 = .ok (.istore 6, 2) := by decide +kernel
theorem dX3_hasPath_22 : decode cX3_hasPath 22 = .ok (.iload 6, 2) := by decide +kernel
theorem dX3_hasPath_24 : decode cX3_hasPath 24 = .ok (.aload_n 0, 1) := by decide +kernel
theorem dX3_hasPath_25 : decode cX3_hasPath 25 = .ok (.getfield 48, 3) := by decide +kernel
theorem dX3_hasPath_28 : decode cX3_hasPath 28 = .ok (.if_icmp .ge 64, 3) := by decide +kernel
theorem dX3_hasPath_31 : decode cX3_hasPath 31 = .ok (.iconst 0, 1) := by decide +kernel
theorem dX3_hasPath_32 : decode cX3_hasPath 32 = .ok (.istore 7, 2) := by decide +kernel
theorem dX3_hasPath_34 : decode cX3_hasPath 34 = .ok (.iload 7, 2) := by decide +kernel
theorem dX3_hasPath_36 : decode cX3_hasPath 36 = .ok (.aload_n 0, 1) := by decide +kernel
theorem dX3_hasPath_37 : decode cX3_hasPath 37 = .ok (.getfield 48, 3) := by decide +kernel
theorem dX3_hasPath_40 : decode cX3_hasPath 40 = .ok (.if_icmp .ge 46, 3) := by decide +kernel
theorem dX3_hasPath_43 : decode cX3_hasPath 43 = .ok (.iload 4, 2) := by decide +kernel
theorem dX3_hasPath_45 : decode cX3_hasPath 45 = .ok (.iload 6, 2) := by decide +kernel
theorem dX3_hasPath_47 : decode cX3_hasPath 47 = .ok (.ishr, 1) := by decide +kernel
theorem dX3_hasPath_48 : decode cX3_hasPath 48 = .ok (.iconst 1, 1) := by decide +kernel
theorem dX3_hasPath_49 : decode cX3_hasPath 49 = .ok (.iand, 1) := by decide +kernel
theorem dX3_hasPath_50 : decode cX3_hasPath 50 = .ok (.iconst 1, 1) := by decide +kernel
theorem dX3_hasPath_51 : decode cX3_hasPath 51 = .ok (.if_icmp .ne 25, 3) := by decide +kernel
theorem dX3_hasPath_54 : decode cX3_hasPath 54 = .ok (.aload_n 0, 1) := by decide +kernel
theorem dX3_hasPath_55 : decode cX3_hasPath 55 = .ok (.aload_n 1, 1) := by decide +kernel
theorem dX3_hasPath_56 : decode cX3_hasPath 56 = .ok (.iload 6, 2) := by decide +kernel
theorem dX3_hasPath_58 : decode cX3_hasPath 58 = .ok (.iload 7, 2) := by decide +kernel
theorem dX3_hasPath_60 : decode cX3_hasPath 60 = .ok (.invokevirtual 73, 3) := by decide +kernel
theorem dX3_hasPath_63 : decode cX3_hasPath 63 = .ok (.ifCond .eq 13, 3) := by decide +kernel
theorem dX3_hasPath_66 : decode cX3_hasPath 66 = .ok (.iload 4, 2) := by decide +kernel
theorem dX3_hasPath_68 : decode cX3_hasPath 68 = .ok (.iconst 1, 1) := by decide +kernel
theorem dX3_hasPath_69 : decode cX3_hasPath 69 = .ok (.iload 7, 2) := by decide +kernel
theorem dX3_hasPath_71 : decode cX3_hasPath 71 = .ok (.ishl, 1) := by decide +kernel
theorem dX3_hasPath_72 : decode cX3_hasPath 72 = .ok (.ior, 1) := by decide +kernel
theorem dX3_hasPath_73 : decode cX3_hasPath 73 = .ok (.goto 5, 3) := by decide +kernel
theorem dX3_hasPath_76 : decode cX3_hasPath 76 = .ok (.iload 4, 2) := by decide +kernel
theorem dX3_hasPath_78 : decode cX3_hasPath 78 = .ok (.istore 4, 2) := by decide +kernel
theorem dX3_hasPath_80 : decode cX3_hasPath 80 = .ok (.iinc 7 1, 3) := by decide +kernel
theorem dX3_hasPath_83 : decode cX3_hasPath 83 = .ok (.goto (-49), 3) := by decide +kernel
theorem dX3_hasPath_86 : decode cX3_hasPath 86 = .ok (.iinc 6 1, 3) := by decide +kernel
theorem dX3_hasPath_89 : decode cX3_hasPath 89 = .ok (.goto (-67), 3) := by decide +kernel
theorem dX3_hasPath_92 : decode cX3_hasPath 92 = .ok (.goto (-84), 3) := by decide +kernel
theorem dX3_hasPath_95 : decode cX3_hasPath 95 = .ok (.iload 4, 2) := by decide +kernel
theorem dX3_hasPath_97 : decode cX3_hasPath 97 = .ok (.iload_n 3, 1) := by decide +kernel
theorem dX3_hasPath_98 : decode cX3_hasPath 98 = .ok (.ishr, 1) := by decide +kernel
theorem dX3_hasPath_99 : decode cX3_hasPath 99 = .ok (.iconst 1, 1) := by decide +kernel
theorem dX3_hasPath_100 : decode cX3_hasPath 100 = .ok (.iand, 1) := by decide +kernel
theorem dX3_hasPath_101 : decode cX3_hasPath 101 = .ok (.iconst 1, 1) := by decide +kernel
theorem dX3_hasPath_102 : decode cX3_hasPath 102 = .ok (.if_icmp .ne 7, 3) := by decide +kernel
theorem dX3_hasPath_105 : decode cX3_hasPath 105 = .ok (.iconst 1, 1) := by decide +kernel
theorem dX3_hasPath_106 : decode cX3_hasPath 106 = .ok (.goto 4, 3) := by decide +kernel
theorem dX3_hasPath_109 : decode cX3_hasPath 109 = .ok (.iconst 0, 1) := by decide +kernel
theorem dX3_hasPath_110 : decode cX3_hasPath 110 = .ok (.ireturn, 1) := by decide +kernel
set_option maxRecDepth 20000 in
theorem ggX3_before_X3_isPair : GoodIn wsX3_before wsX3_isPair := goodIn_r _ [6, 7, 8, 9, 10, 5, 11, 12, 13, 14, 15, 34, 35, 36, 37, 38, 39, 40, 41, 42, 43, 44, 45, 46, 47, 48, 49] (by decide +kernel) (by decide +kernel)
set_option maxRecDepth 20000 in
theorem gX3_before_X3_isPair : GoodIn wsX3_before (wsV RX3 85 RX3 yX3_isPair wsX3_isPair) := goodIn_app (goodIn_of _ (by decide +kernel)) ggX3_before_X3_isPair
set_option maxRecDepth 20000 in
theorem ggX3_before_X3_hasPath : GoodIn wsX3_before wsX3_hasPath := goodIn_r _ [19, 12, 20, 21, 22, 5, 23, 24, 25, 26, 27, 28, 34, 35, 36, 37, 38, 39, 40, 41, 42, 43, 44, 45, 46, 47, 48, 49] (by decide +kernel) (by decide +kernel)
set_option maxRecDepth 20000 in
theorem gX3_before_X3_hasPath : GoodIn wsX3_before (wsV RX3 89 RX3 yX3_hasPath wsX3_hasPath) := goodIn_app (goodIn_of _ (by decide +kernel)) ggX3_before_X3_hasPath
set_option maxRecDepth 20000 in
theorem ggX3_before_X3_forget : GoodIn wsX3_before wsX3_forget := goodIn_r _ [32, 33, 34, 35, 36, 37, 38, 39, 40, 41, 42, 43, 44, 45, 46, 47, 48, 49] (by decide +kernel) (by decide +kernel)
set_option maxRecDepth 20000 in
theorem gX3_before_X3_forget : GoodIn wsX3_before (wsV RX3 66 RX3 yX3_forget wsX3_forget) := goodIn_app (goodIn_of _ (by decide +kernel)) ggX3_before_X3_forget
theorem dX3_before_0 : decode cX3_before 0 = .ok (.aload_n 0, 1) := by decide +kernel
theorem dX3_before_1 : decode cX3_before 1 = .ok (.iload_n 1, 1) := by decide +kernel
theorem dX3_before_2 : decode cX3_before 2 = .ok (.iload_n 2, 1) := by decide +kernel
theorem dX3_before_3 : decode cX3_before 3 = .ok (.invokevirtual 85, 3) := by decide +kernel
theorem dX3_before_6 : decode cX3_before 6 = .ok (.ifCond .ne 6, 3) := by decide +kernel
theorem dX3_before_9 : decode cX3_before 9 = .ok (.bipush (-2), 2) := by decide +kernel
theorem dX3_before_11 : decode cX3_before 11 = .ok (.ireturn, 1) := by decide +kernel
theorem dX3_before_12 : decode cX3_before 12 = .ok (.aload_n 0, 1) := by decide +kernel
theorem dX3_before_13 : decode cX3_before 13 = .ok (.aload_n 0, 1) := by decide +kernel
theorem dX3_before_14 : decode cX3_before 14 = .ok (.getfield 19, 3) := by decide +kernel
theorem dX3_before_17 : decode cX3_before 17 = .ok (.iload_n 2, 1) := by decide +kernel
theorem dX3_before_18 : decode cX3_before 18 = .ok (.iload_n 1, 1) := by decide +kernel
theorem dX3_before_19 : decode cX3_before 19 = .ok (.invokevirtual 89, 3) := by decide +kernel
theorem dX3_before_22 : decode cX3_before 22 = .ok (.ifCond .eq 6, 3) := by decide +kernel
theorem dX3_before_25 : decode cX3_before 25 = .ok (.bipush (-4), 2) := by decide +kernel
theorem dX3_before_27 : decode cX3_before 27 = .ok (.ireturn, 1) := by decide +kernel
theorem dX3_before_28 : decode cX3_before 28 = .ok (.aload_n 0, 1) := by decide +kernel
theorem dX3_before_29 : decode cX3_before 29 = .ok (.getfield 19, 3) := by decide +kernel
theorem dX3_before_32 : decode cX3_before 32 = .ok (.bipush 12, 2) := by decide +kernel
theorem dX3_before_34 : decode cX3_before 34 = .ok (.iload_n 1, 1) := by decide +kernel
theorem dX3_before_35 : decode cX3_before 35 = .ok (.imul, 1) := by decide +kernel
theorem dX3_before_36 : decode cX3_before 36 = .ok (.iload_n 2, 1) := by decide +kernel
theorem dX3_before_37 : decode cX3_before 37 = .ok (.iadd, 1) := by decide +kernel
theorem dX3_before_38 : decode cX3_before 38 = .ok (.baload, 1) := by decide +kernel
theorem dX3_before_39 : decode cX3_before 39 = .ok (.ifCond .eq 5, 3) := by decide +kernel
theorem dX3_before_42 : decode cX3_before 42 = .ok (.iconst 0, 1) := by decide +kernel
theorem dX3_before_43 : decode cX3_before 43 = .ok (.ireturn, 1) := by decide +kernel
theorem dX3_before_44 : decode cX3_before 44 = .ok (.aload_n 0, 1) := by decide +kernel
theorem dX3_before_45 : decode cX3_before 45 = .ok (.getfield 19, 3) := by decide +kernel
theorem dX3_before_48 : decode cX3_before 48 = .ok (.bipush 12, 2) := by decide +kernel
theorem dX3_before_50 : decode cX3_before 50 = .ok (.iload_n 1, 1) := by decide +kernel
theorem dX3_before_51 : decode cX3_before 51 = .ok (.imul, 1) := by decide +kernel
theorem dX3_before_52 : decode cX3_before 52 = .ok (.iload_n 2, 1) := by decide +kernel
theorem dX3_before_53 : decode cX3_before 53 = .ok (.iadd, 1) := by decide +kernel
theorem dX3_before_54 : decode cX3_before 54 = .ok (.iconst 1, 1) := by decide +kernel
theorem dX3_before_55 : decode cX3_before 55 = .ok (.bastore, 1) := by decide +kernel
theorem dX3_before_56 : decode cX3_before 56 = .ok (.aload_n 0, 1) := by decide +kernel
theorem dX3_before_57 : decode cX3_before 57 = .ok (.invokevirtual 66, 3) := by decide +kernel
theorem dX3_before_60 : decode cX3_before 60 = .ok (.iconst 1, 1) := by decide +kernel
theorem dX3_before_61 : decode cX3_before 61 = .ok (.ireturn, 1) := by decide +kernel
set_option maxRecDepth 20000 in
theorem ggX3_free_X3_isPair : GoodIn wsX3_free wsX3_isPair := goodIn_r _ [6, 7, 8, 9, 10, 5, 11, 12, 13, 14, 15, 21, 22, 23, 24, 25, 26, 27, 28, 29, 30, 31, 32, 33, 34, 35, 36] (by decide +kernel) (by decide +kernel)
set_option maxRecDepth 20000 in
theorem gX3_free_X3_isPair : GoodIn wsX3_free (wsV RX3 85 RX3 yX3_isPair wsX3_isPair) := goodIn_app (goodIn_of _ (by decide +kernel)) ggX3_free_X3_isPair
set_option maxRecDepth 20000 in
theorem ggX3_free_X3_forget : GoodIn wsX3_free wsX3_forget := goodIn_r _ [19, 20, 21, 22, 23, 24, 25, 26, 27, 28, 29, 30, 31, 32, 33, 34, 35, 36] (by decide +kernel) (by decide +kernel)
set_option maxRecDepth 20000 in
theorem gX3_free_X3_forget : GoodIn wsX3_free (wsV RX3 66 RX3 yX3_forget wsX3_forget) := goodIn_app (goodIn_of _ (by decide +kernel)) ggX3_free_X3_forget
theorem dX3_free_0 : decode cX3_free 0 = .ok (.aload_n 0, 1) := by decide +kernel
theorem dX3_free_1 : decode cX3_free 1 = .ok (.iload_n 1, 1) := by decide +kernel
theorem dX3_free_2 : decode cX3_free 2 = .ok (.iload_n 2, 1) := by decide +kernel
theorem dX3_free_3 : decode cX3_free 3 = .ok (.invokevirtual 85, 3) := by decide +kernel
theorem dX3_free_6 : decode cX3_free 6 = .ok (.ifCond .ne 6, 3) := by decide +kernel
theorem dX3_free_9 : decode cX3_free 9 = .ok (.bipush (-2), 2) := by decide +kernel
theorem dX3_free_11 : decode cX3_free 11 = .ok (.ireturn, 1) := by decide +kernel
theorem dX3_free_12 : decode cX3_free 12 = .ok (.aload_n 0, 1) := by decide +kernel
theorem dX3_free_13 : decode cX3_free 13 = .ok (.getfield 19, 3) := by decide +kernel
theorem dX3_free_16 : decode cX3_free 16 = .ok (.bipush 12, 2) := by decide +kernel
theorem dX3_free_18 : decode cX3_free 18 = .ok (.iload_n 1, 1) := by decide +kernel
theorem dX3_free_19 : decode cX3_free 19 = .ok (.imul, 1) := by decide +kernel
theorem dX3_free_20 : decode cX3_free 20 = .ok (.iload_n 2, 1) := by decide +kernel
theorem dX3_free_21 : decode cX3_free 21 = .ok (.iadd, 1) := by decide +kernel
theorem dX3_free_22 : decode cX3_free 22 = .ok (.baload, 1) := by decide +kernel
theorem dX3_free_23 : decode cX3_free 23 = .ok (.ifCond .ne 19, 3) := by decide +kernel
theorem dX3_free_26 : decode cX3_free 26 = .ok (.aload_n 0, 1) := by decide +kernel
theorem dX3_free_27 : decode cX3_free 27 = .ok (.getfield 19, 3) := by decide +kernel
theorem dX3_free_30 : decode cX3_free 30 = .ok (.bipush 12, 2) := by decide +kernel
theorem dX3_free_32 : decode cX3_free 32 = .ok (.iload_n 2, 1) := by decide +kernel
theorem dX3_free_33 : decode cX3_free 33 = .ok (.imul, 1) := by decide +kernel
theorem dX3_free_34 : decode cX3_free 34 = .ok (.iload_n 1, 1) := by decide +kernel
theorem dX3_free_35 : decode cX3_free 35 = .ok (.iadd, 1) := by decide +kernel
theorem dX3_free_36 : decode cX3_free 36 = .ok (.baload, 1) := by decide +kernel
theorem dX3_free_37 : decode cX3_free 37 = .ok (.ifCond .ne 5, 3) := by decide +kernel
theorem dX3_free_40 : decode cX3_free 40 = .ok (.iconst 0, 1) := by decide +kernel
theorem dX3_free_41 : decode cX3_free 41 = .ok (.ireturn, 1) := by decide +kernel
theorem dX3_free_42 : decode cX3_free 42 = .ok (.aload_n 0, 1) := by decide +kernel
theorem dX3_free_43 : decode cX3_free 43 = .ok (.getfield 19, 3) := by decide +kernel
theorem dX3_free_46 : decode cX3_free 46 = .ok (.bipush 12, 2) := by decide +kernel
theorem dX3_free_48 : decode cX3_free 48 = .ok (.iload_n 1, 1) := by decide +kernel
theorem dX3_free_49 : decode cX3_free 49 = .ok (.imul, 1) := by decide +kernel
theorem dX3_free_50 : decode cX3_free 50 = .ok (.iload_n 2, 1) := by decide +kernel
theorem dX3_free_51 : decode cX3_free 51 = .ok (.iadd, 1) := by decide +kernel
theorem dX3_free_52 : decode cX3_free 52 = .ok (.iconst 0, 1) := by decide +kernel
theorem dX3_free_53 : decode cX3_free 53 = .ok (.bastore, 1) := by decide +kernel
theorem dX3_free_54 : decode cX3_free 54 = .ok (.aload_n 0, 1) := by decide +kernel
theorem dX3_free_55 : decode cX3_free 55 = .ok (.getfield 19, 3) := by decide +kernel
theorem dX3_free_58 : decode cX3_free 58 = .ok (.bipush 12, 2) := by decide +kernel
theorem dX3_free_60 : decode cX3_free 60 = .ok (.iload_n 2, 1) := by decide +kernel
theorem dX3_free_61 : decode cX3_free 61 = .ok (.imul, 1) := by decide +kernel
theorem dX3_free_62 : decode cX3_free 62 = .ok (.iload_n 1, 1) := by decide +kernel
theorem dX3_free_63 : decode cX3_free 63 = .ok (.iadd, 1) := by decide +kernel
theorem dX3_free_64 : decode cX3_free 64 = .ok (.iconst 0, 1) := by decide +kernel
theorem dX3_free_65 : decode cX3_free 65 = .ok (.bastore, 1) := by decide +kernel
theorem dX3_free_66 : decode cX3_free 66 = .ok (.aload_n 0, 1) := by decide +kernel
theorem dX3_free_67 : decode cX3_free 67 = .ok (.invokevirtual 66, 3) := by decide +kernel
theorem dX3_free_70 : decode cX3_free 70 = .ok (.iconst 1, 1) := by decide +kernel
theorem dX3_free_71 : decode cX3_free 71 = .ok (.ireturn, 1) := by decide +kernel
set_option maxRecDepth 20000 in
theorem ggX3_arc_X3_isPair : GoodIn wsX3_arc wsX3_isPair := goodIn_r _ [6, 7, 8, 9, 10, 5, 11, 12, 13, 14, 15, 16, 17, 18, 19, 20, 21, 22, 23, 24, 25, 26, 27, 28, 29, 30, 31] (by decide +kernel) (by decide +kernel)
set_option maxRecDepth 20000 in
theorem gX3_arc_X3_isPair : GoodIn wsX3_arc (wsV RX3 85 RX3 yX3_isPair wsX3_isPair) := goodIn_app (goodIn_of _ (by decide +kernel)) ggX3_arc_X3_isPair
theorem dX3_arc_0 : decode cX3_arc 0 = .ok (.aload_n 0, 1) := by decide +kernel
theorem dX3_arc_1 : decode cX3_arc 1 = .ok (.iload_n 1, 1) := by decide +kernel
theorem dX3_arc_2 : decode cX3_arc 2 = .ok (.iload_n 2, 1) := by decide +kernel
theorem dX3_arc_3 : decode cX3_arc 3 = .ok (.invokevirtual 85, 3) := by decide +kernel
theorem dX3_arc_6 : decode cX3_arc 6 = .ok (.ifCond .ne 8, 3) := by decide +kernel
theorem dX3_arc_9 : decode cX3_arc 9 = .ok (.bipush (-2), 2) := by decide +kernel
theorem dX3_arc_11 : decode cX3_arc 11 = .ok (.goto 22, 3) := by decide +kernel
theorem dX3_arc_14 : decode cX3_arc 14 = .ok (.aload_n 0, 1) := by decide +kernel
theorem dX3_arc_15 : decode cX3_arc 15 = .ok (.getfield 19, 3) := by decide +kernel
theorem dX3_arc_18 : decode cX3_arc 18 = .ok (.bipush 12, 2) := by decide +kernel
theorem dX3_arc_20 : decode cX3_arc 20 = .ok (.iload_n 1, 1) := by decide +kernel
theorem dX3_arc_21 : decode cX3_arc 21 = .ok (.imul, 1) := by decide +kernel
theorem dX3_arc_22 : decode cX3_arc 22 = .ok (.iload_n 2, 1) := by decide +kernel
theorem dX3_arc_23 : decode cX3_arc 23 = .ok (.iadd, 1) := by decide +kernel
theorem dX3_arc_24 : decode cX3_arc 24 = .ok (.baload, 1) := by decide +kernel
theorem dX3_arc_25 : decode cX3_arc 25 = .ok (.ifCond .eq 7, 3) := by decide +kernel
theorem dX3_arc_28 : decode cX3_arc 28 = .ok (.iconst 1, 1) := by decide +kernel
theorem dX3_arc_29 : decode cX3_arc 29 = .ok (.goto 4, 3) := by decide +kernel
theorem dX3_arc_32 : decode cX3_arc 32 = .ok (.iconst 0, 1) := by decide +kernel
theorem dX3_arc_33 : decode cX3_arc 33 = .ok (.ireturn, 1) := by decide +kernel
set_option maxRecDepth 20000 in
theorem ggX3_told_X3_isOperation : GoodIn wsX3_told wsX3_isOperation := goodIn_r _ [13, 14, 15, 16, 12, 17, 42, 43, 44, 45, 46, 47, 48, 49, 50, 51, 52, 53, 54, 55, 56, 57] (by decide +kernel) (by decide +kernel)
set_option maxRecDepth 20000 in
theorem gX3_told_X3_isOperation : GoodIn wsX3_told (wsV RX3 55 RX3 yX3_isOperation wsX3_isOperation) := goodIn_app (goodIn_of _ (by decide +kernel)) ggX3_told_X3_isOperation
set_option maxRecDepth 20000 in
theorem ggX3_told_X3_look : GoodIn wsX3_told wsX3_look := goodIn_r _ [21, 22, 23, 24, 12, 25, 14, 5, 4, 26, 27, 28, 29, 30, 31, 32, 33, 2, 34, 35, 36, 37, 6, 42, 43, 44, 45, 46, 47, 48, 49, 50, 51, 52, 53, 54, 55, 56, 57] (by decide +kernel) (by decide +kernel)
set_option maxRecDepth 20000 in
theorem gX3_told_X3_look : GoodIn wsX3_told (wsV RX3 92 RX3 yX3_look wsX3_look) := goodIn_app (goodIn_of _ (by decide +kernel)) ggX3_told_X3_look
set_option maxRecDepth 20000 in
theorem ggX3_told_X3_longest : GoodIn wsX3_told wsX3_longest := goodIn_r _ [41, 14, 5, 4, 6, 42, 43, 44, 45, 46, 47, 48, 49, 50, 51, 52, 53, 54, 55, 56, 57] (by decide +kernel) (by decide +kernel)
set_option maxRecDepth 20000 in
theorem gX3_told_X3_longest : GoodIn wsX3_told (wsV RX3 95 RX3 yX3_longest wsX3_longest) := goodIn_app (goodIn_of _ (by decide +kernel)) ggX3_told_X3_longest
theorem dX3_told_0 : decode cX3_told 0 = .ok (.aload_n 0, 1) := by decide +kernel
theorem dX3_told_1 : decode cX3_told 1 = .ok (.iload_n 1, 1) := by decide +kernel
theorem dX3_told_2 : decode cX3_told 2 = .ok (.invokevirtual 55, 3) := by decide +kernel
theorem dX3_told_5 : decode cX3_told 5 = .ok (.ifCond .ne 5, 3) := by decide +kernel
theorem dX3_told_8 : decode cX3_told 8 = .ok (.iconst (-1), 1) := by decide +kernel
theorem dX3_told_9 : decode cX3_told 9 = .ok (.ireturn, 1) := by decide +kernel
theorem dX3_told_10 : decode cX3_told 10 = .ok (.aload_n 0, 1) := by decide +kernel
theorem dX3_told_11 : decode cX3_told 11 = .ok (.aload_n 0, 1) := by decide +kernel
theorem dX3_told_12 : decode cX3_told 12 = .ok (.getfield 19, 3) := by decide +kernel
theorem dX3_told_15 : decode cX3_told 15 = .ok (.invokevirtual 92, 3) := by decide +kernel
theorem dX3_told_18 : decode cX3_told 18 = .ok (.iload_n 2, 1) := by decide +kernel
theorem dX3_told_19 : decode cX3_told 19 = .ok (.tableswitch 127 0 6 #[41, 48, 55, 62, 69, 76, 109], 41) := by decide +kernel
theorem dX3_told_60 : decode cX3_told 60 = .ok (.aload_n 0, 1) := by decide +kernel
theorem dX3_told_61 : decode cX3_told 61 = .ok (.getfield 7, 3) := by decide +kernel
theorem dX3_told_64 : decode cX3_told 64 = .ok (.iload_n 1, 1) := by decide +kernel
theorem dX3_told_65 : decode cX3_told 65 = .ok (.iaload, 1) := by decide +kernel
theorem dX3_told_66 : decode cX3_told 66 = .ok (.ireturn, 1) := by decide +kernel
theorem dX3_told_67 : decode cX3_told 67 = .ok (.aload_n 0, 1) := by decide +kernel
theorem dX3_told_68 : decode cX3_told 68 = .ok (.getfield 13, 3) := by decide +kernel
theorem dX3_told_71 : decode cX3_told 71 = .ok (.iload_n 1, 1) := by decide +kernel
theorem dX3_told_72 : decode cX3_told 72 = .ok (.iaload, 1) := by decide +kernel
theorem dX3_told_73 : decode cX3_told 73 = .ok (.ireturn, 1) := by decide +kernel
theorem dX3_told_74 : decode cX3_told 74 = .ok (.aload_n 0, 1) := by decide +kernel
theorem dX3_told_75 : decode cX3_told 75 = .ok (.getfield 16, 3) := by decide +kernel
theorem dX3_told_78 : decode cX3_told 78 = .ok (.iload_n 1, 1) := by decide +kernel
theorem dX3_told_79 : decode cX3_told 79 = .ok (.iaload, 1) := by decide +kernel
theorem dX3_told_80 : decode cX3_told 80 = .ok (.ireturn, 1) := by decide +kernel
theorem dX3_told_81 : decode cX3_told 81 = .ok (.aload_n 0, 1) := by decide +kernel
theorem dX3_told_82 : decode cX3_told 82 = .ok (.getfield 29, 3) := by decide +kernel
theorem dX3_told_85 : decode cX3_told 85 = .ok (.iload_n 1, 1) := by decide +kernel
theorem dX3_told_86 : decode cX3_told 86 = .ok (.iaload, 1) := by decide +kernel
theorem dX3_told_87 : decode cX3_told 87 = .ok (.ireturn, 1) := by decide +kernel
theorem dX3_told_88 : decode cX3_told 88 = .ok (.aload_n 0, 1) := by decide +kernel
theorem dX3_told_89 : decode cX3_told 89 = .ok (.getfield 32, 3) := by decide +kernel
theorem dX3_told_92 : decode cX3_told 92 = .ok (.iload_n 1, 1) := by decide +kernel
theorem dX3_told_93 : decode cX3_told 93 = .ok (.iaload, 1) := by decide +kernel
theorem dX3_told_94 : decode cX3_told 94 = .ok (.ireturn, 1) := by decide +kernel
theorem dX3_told_95 : decode cX3_told 95 = .ok (.aload_n 0, 1) := by decide +kernel
theorem dX3_told_96 : decode cX3_told 96 = .ok (.getfield 29, 3) := by decide +kernel
theorem dX3_told_99 : decode cX3_told 99 = .ok (.iload_n 1, 1) := by decide +kernel
theorem dX3_told_100 : decode cX3_told 100 = .ok (.iaload, 1) := by decide +kernel
theorem dX3_told_101 : decode cX3_told 101 = .ok (.aload_n 0, 1) := by decide +kernel
theorem dX3_told_102 : decode cX3_told 102 = .ok (.getfield 16, 3) := by decide +kernel
theorem dX3_told_105 : decode cX3_told 105 = .ok (.iload_n 1, 1) := by decide +kernel
theorem dX3_told_106 : decode cX3_told 106 = .ok (.iaload, 1) := by decide +kernel
theorem dX3_told_107 : decode cX3_told 107 = .ok (.iadd, 1) := by decide +kernel
theorem dX3_told_108 : decode cX3_told 108 = .ok (.aload_n 0, 1) := by decide +kernel
theorem dX3_told_109 : decode cX3_told 109 = .ok (.getfield 32, 3) := by decide +kernel
theorem dX3_told_112 : decode cX3_told 112 = .ok (.iload_n 1, 1) := by decide +kernel
theorem dX3_told_113 : decode cX3_told 113 = .ok (.iaload, 1) := by decide +kernel
theorem dX3_told_114 : decode cX3_told 114 = .ok (.iadd, 1) := by decide +kernel
theorem dX3_told_115 : decode cX3_told 115 = .ok (.aload_n 0, 1) := by decide +kernel
theorem dX3_told_116 : decode cX3_told 116 = .ok (.invokevirtual 95, 3) := by decide +kernel
theorem dX3_told_119 : decode cX3_told 119 = .ok (.if_icmp .ne 7, 3) := by decide +kernel
theorem dX3_told_122 : decode cX3_told 122 = .ok (.iconst 1, 1) := by decide +kernel
theorem dX3_told_123 : decode cX3_told 123 = .ok (.goto 4, 3) := by decide +kernel
theorem dX3_told_126 : decode cX3_told 126 = .ok (.iconst 0, 1) := by decide +kernel
theorem dX3_told_127 : decode cX3_told 127 = .ok (.ireturn, 1) := by decide +kernel
theorem dX3_told_128 : decode cX3_told 128 = .ok (.aload_n 0, 1) := by decide +kernel
theorem dX3_told_129 : decode cX3_told 129 = .ok (.getfield 59, 3) := by decide +kernel
theorem dX3_told_132 : decode cX3_told 132 = .ok (.ifCond .eq 12, 3) := by decide +kernel
theorem dX3_told_135 : decode cX3_told 135 = .ok (.aload_n 0, 1) := by decide +kernel
theorem dX3_told_136 : decode cX3_told 136 = .ok (.getfield 26, 3) := by decide +kernel
theorem dX3_told_139 : decode cX3_told 139 = .ok (.iload_n 1, 1) := by decide +kernel
theorem dX3_told_140 : decode cX3_told 140 = .ok (.iaload, 1) := by decide +kernel
theorem dX3_told_141 : decode cX3_told 141 = .ok (.goto 4, 3) := by decide +kernel
theorem dX3_told_144 : decode cX3_told 144 = .ok (.iconst (-1), 1) := by decide +kernel
theorem dX3_told_145 : decode cX3_told 145 = .ok (.ireturn, 1) := by decide +kernel
theorem dX3_told_146 : decode cX3_told 146 = .ok (.bipush (-2), 2) := by decide +kernel
theorem dX3_told_148 : decode cX3_told 148 = .ok (.ireturn, 1) := by decide +kernel
set_option maxRecDepth 20000 in
theorem ggX3_length_X3_look : GoodIn wsX3_length wsX3_look := goodIn_r _ [6, 7, 8, 9, 5, 10, 11, 12, 13, 14, 15, 16, 17, 18, 19, 20, 21, 22, 23, 24, 25, 26, 27, 32, 33, 34, 35, 36, 37, 38, 39, 40, 41, 42, 43, 44, 45, 46, 47] (by decide +kernel) (by decide +kernel)
set_option maxRecDepth 20000 in
theorem gX3_length_X3_look : GoodIn wsX3_length (wsV RX3 92 RX3 yX3_look wsX3_look) := goodIn_app (goodIn_of _ (by decide +kernel)) ggX3_length_X3_look
set_option maxRecDepth 20000 in
theorem ggX3_length_X3_longest : GoodIn wsX3_length wsX3_longest := goodIn_r _ [31, 11, 12, 13, 27, 32, 33, 34, 35, 36, 37, 38, 39, 40, 41, 42, 43, 44, 45, 46, 47] (by decide +kernel) (by decide +kernel)
set_option maxRecDepth 20000 in
theorem gX3_length_X3_longest : GoodIn wsX3_length (wsV RX3 95 RX3 yX3_longest wsX3_longest) := goodIn_app (goodIn_of _ (by decide +kernel)) ggX3_length_X3_longest
theorem dX3_length_0 : decode cX3_length 0 = .ok (.aload_n 0, 1) := by decide +kernel
theorem dX3_length_1 : decode cX3_length 1 = .ok (.aload_n 0, 1) := by decide +kernel
theorem dX3_length_2 : decode cX3_length 2 = .ok (.getfield 19, 3) := by decide +kernel
theorem dX3_length_5 : decode cX3_length 5 = .ok (.invokevirtual 92, 3) := by decide +kernel
theorem dX3_length_8 : decode cX3_length 8 = .ok (.aload_n 0, 1) := by decide +kernel
theorem dX3_length_9 : decode cX3_length 9 = .ok (.invokevirtual 95, 3) := by decide +kernel
theorem dX3_length_12 : decode cX3_length 12 = .ok (.ireturn, 1) := by decide +kernel
set_option maxRecDepth 20000 in
theorem ggX3_load_X3_in : GoodIn wsX3_load wsX3_in := goodIn_r _ [10] (by decide +kernel) (by decide +kernel)
set_option maxRecDepth 20000 in
theorem gX3_load_X3_in : GoodIn wsX3_load (va_wsS RX3 51 yX3_in wsX3_in) := goodIn_app (goodIn_of _ (by decide +kernel)) ggX3_load_X3_in
set_option maxRecDepth 20000 in
theorem ggX3_load_X3_look : GoodIn wsX3_load wsX3_look := goodIn_r _ [14, 15, 16, 17, 9, 18, 2, 4, 6, 19, 20, 21, 22, 23, 24, 25, 26, 27, 28, 29, 30, 31, 5, 32, 33, 34, 35, 36, 37, 38, 39, 40, 41, 42, 43, 44, 45, 46, 47] (by decide +kernel) (by decide +kernel)
set_option maxRecDepth 20000 in
theorem gX3_load_X3_look : GoodIn wsX3_load (wsV RX3 92 RX3 yX3_look wsX3_look) := goodIn_app (goodIn_of _ (by decide +kernel)) ggX3_load_X3_look
theorem dX3_load_0 : decode cX3_load 0 = .ok (.iload_n 1, 1) := by decide +kernel
theorem dX3_load_1 : decode cX3_load 1 = .ok (.iconst 0, 1) := by decide +kernel
theorem dX3_load_2 : decode cX3_load 2 = .ok (.iconst 3, 1) := by decide +kernel
theorem dX3_load_3 : decode cX3_load 3 = .ok (.invokestatic 51, 3) := by decide +kernel
theorem dX3_load_6 : decode cX3_load 6 = .ok (.ifCond .ne 6, 3) := by decide +kernel
theorem dX3_load_9 : decode cX3_load 9 = .ok (.bipush (-2), 2) := by decide +kernel
theorem dX3_load_11 : decode cX3_load 11 = .ok (.ireturn, 1) := by decide +kernel
theorem dX3_load_12 : decode cX3_load 12 = .ok (.aload_n 0, 1) := by decide +kernel
theorem dX3_load_13 : decode cX3_load 13 = .ok (.aload_n 0, 1) := by decide +kernel
theorem dX3_load_14 : decode cX3_load 14 = .ok (.getfield 19, 3) := by decide +kernel
theorem dX3_load_17 : decode cX3_load 17 = .ok (.invokevirtual 92, 3) := by decide +kernel
theorem dX3_load_20 : decode cX3_load 20 = .ok (.iconst 0, 1) := by decide +kernel
theorem dX3_load_21 : decode cX3_load 21 = .ok (.istore_n 2, 1) := by decide +kernel
theorem dX3_load_22 : decode cX3_load 22 = .ok (.iconst 1, 1) := by decide +kernel
theorem dX3_load_23 : decode cX3_load 23 = .ok (.istore_n 3, 1) := by decide +kernel
theorem dX3_load_24 : decode cX3_load 24 = .ok (.iload_n 3, 1) := by decide +kernel
theorem dX3_load_25 : decode cX3_load 25 = .ok (.iconst 1, 1) := by decide +kernel
theorem dX3_load_26 : decode cX3_load 26 = .ok (.aload_n 0, 1) := by decide +kernel
theorem dX3_load_27 : decode cX3_load 27 = .ok (.getfield 48, 3) := by decide +kernel
theorem dX3_load_30 : decode cX3_load 30 = .ok (.ishl, 1) := by decide +kernel
theorem dX3_load_31 : decode cX3_load 31 = .ok (.if_icmp .ge 170, 3) := by decide +kernel
theorem dX3_load_34 : decode cX3_load 34 = .ok (.sipush 1000, 3) := by decide +kernel
theorem dX3_load_37 : decode cX3_load 37 = .ok (.istore 4, 2) := by decide +kernel
theorem dX3_load_39 : decode cX3_load 39 = .ok (.sipush 1000, 3) := by decide +kernel
theorem dX3_load_42 : decode cX3_load 42 = .ok (.istore 5, 2) := by decide +kernel
theorem dX3_load_44 : decode cX3_load 44 = .ok (.iconst 0, 1) := by decide +kernel
theorem dX3_load_45 : decode cX3_load 45 = .ok (.istore 6, 2) := by decide +kernel
theorem dX3_load_47 : decode cX3_load 47 = .ok (.iconst 1, 1) := by decide +kernel
theorem dX3_load_48 : decode cX3_load 48 = .ok (.istore 7, 2) := by decide +kernel
theorem dX3_load_50 : decode cX3_load 50 = .ok (.iconst 0, 1) := by decide +kernel
theorem dX3_load_51 : decode cX3_load 51 = .ok (.istore 8, 2) := by decide +kernel
theorem dX3_load_53 : decode cX3_load 53 = .ok (.iload 8, 2) := by decide +kernel
theorem dX3_load_55 : decode cX3_load 55 = .ok (.aload_n 0, 1) := by decide +kernel
theorem dX3_load_56 : decode cX3_load 56 = .ok (.getfield 48, 3) := by decide +kernel
theorem dX3_load_59 : decode cX3_load 59 = .ok (.if_icmp .ge 106, 3) := by decide +kernel
theorem dX3_load_62 : decode cX3_load 62 = .ok (.iload_n 3, 1) := by decide +kernel
theorem dX3_load_63 : decode cX3_load 63 = .ok (.iload 8, 2) := by decide +kernel
theorem dX3_load_65 : decode cX3_load 65 = .ok (.ishr, 1) := by decide +kernel
theorem dX3_load_66 : decode cX3_load 66 = .ok (.iconst 1, 1) := by decide +kernel
theorem dX3_load_67 : decode cX3_load 67 = .ok (.iand, 1) := by decide +kernel
theorem dX3_load_68 : decode cX3_load 68 = .ok (.iconst 1, 1) := by decide +kernel
theorem dX3_load_69 : decode cX3_load 69 = .ok (.if_icmp .ne 90, 3) := by decide +kernel
theorem dX3_load_72 : decode cX3_load 72 = .ok (.iload 7, 2) := by decide +kernel
theorem dX3_load_74 : decode cX3_load 74 = .ok (.ifCond .eq 18, 3) := by decide +kernel
theorem dX3_load_77 : decode cX3_load 77 = .ok (.aload_n 0, 1) := by decide +kernel
theorem dX3_load_78 : decode cX3_load 78 = .ok (.getfield 13, 3) := by decide +kernel
theorem dX3_load_81 : decode cX3_load 81 = .ok (.iload 8, 2) := by decide +kernel
theorem dX3_load_83 : decode cX3_load 83 = .ok (.iaload, 1) := by decide +kernel
theorem dX3_load_84 : decode cX3_load 84 = .ok (.iload_n 1, 1) := by decide +kernel
theorem dX3_load_85 : decode cX3_load 85 = .ok (.if_icmp .ne 7, 3) := by decide +kernel
theorem dX3_load_88 : decode cX3_load 88 = .ok (.iconst 1, 1) := by decide +kernel
theorem dX3_load_89 : decode cX3_load 89 = .ok (.goto 4, 3) := by decide +kernel
theorem dX3_load_92 : decode cX3_load 92 = .ok (.iconst 0, 1) := by decide +kernel
theorem dX3_load_93 : decode cX3_load 93 = .ok (.istore 7, 2) := by decide +kernel
theorem dX3_load_95 : decode cX3_load 95 = .ok (.aload_n 0, 1) := by decide +kernel
theorem dX3_load_96 : decode cX3_load 96 = .ok (.getfield 29, 3) := by decide +kernel
theorem dX3_load_99 : decode cX3_load 99 = .ok (.iload 8, 2) := by decide +kernel
theorem dX3_load_101 : decode cX3_load 101 = .ok (.iaload, 1) := by decide +kernel
theorem dX3_load_102 : decode cX3_load 102 = .ok (.iload 4, 2) := by decide +kernel
theorem dX3_load_104 : decode cX3_load 104 = .ok (.if_icmp .ge 13, 3) := by decide +kernel
theorem dX3_load_107 : decode cX3_load 107 = .ok (.aload_n 0, 1) := by decide +kernel
theorem dX3_load_108 : decode cX3_load 108 = .ok (.getfield 29, 3) := by decide +kernel
theorem dX3_load_111 : decode cX3_load 111 = .ok (.iload 8, 2) := by decide +kernel
theorem dX3_load_113 : decode cX3_load 113 = .ok (.iaload, 1) := by decide +kernel
theorem dX3_load_114 : decode cX3_load 114 = .ok (.goto 5, 3) := by decide +kernel
theorem dX3_load_117 : decode cX3_load 117 = .ok (.iload 4, 2) := by decide +kernel
theorem dX3_load_119 : decode cX3_load 119 = .ok (.istore 4, 2) := by decide +kernel
theorem dX3_load_121 : decode cX3_load 121 = .ok (.aload_n 0, 1) := by decide +kernel
theorem dX3_load_122 : decode cX3_load 122 = .ok (.getfield 32, 3) := by decide +kernel
theorem dX3_load_125 : decode cX3_load 125 = .ok (.iload 8, 2) := by decide +kernel
theorem dX3_load_127 : decode cX3_load 127 = .ok (.iaload, 1) := by decide +kernel
theorem dX3_load_128 : decode cX3_load 128 = .ok (.iload 5, 2) := by decide +kernel
theorem dX3_load_130 : decode cX3_load 130 = .ok (.if_icmp .ge 13, 3) := by decide +kernel
theorem dX3_load_133 : decode cX3_load 133 = .ok (.aload_n 0, 1) := by decide +kernel
theorem dX3_load_134 : decode cX3_load 134 = .ok (.getfield 32, 3) := by decide +kernel
theorem dX3_load_137 : decode cX3_load 137 = .ok (.iload 8, 2) := by decide +kernel
theorem dX3_load_139 : decode cX3_load 139 = .ok (.iaload, 1) := by decide +kernel
theorem dX3_load_140 : decode cX3_load 140 = .ok (.goto 5, 3) := by decide +kernel
theorem dX3_load_143 : decode cX3_load 143 = .ok (.iload 5, 2) := by decide +kernel
theorem dX3_load_145 : decode cX3_load 145 = .ok (.istore 5, 2) := by decide +kernel
theorem dX3_load_147 : decode cX3_load 147 = .ok (.iload 6, 2) := by decide +kernel
theorem dX3_load_149 : decode cX3_load 149 = .ok (.aload_n 0, 1) := by decide +kernel
theorem dX3_load_150 : decode cX3_load 150 = .ok (.getfield 16, 3) := by decide +kernel
theorem dX3_load_153 : decode cX3_load 153 = .ok (.iload 8, 2) := by decide +kernel
theorem dX3_load_155 : decode cX3_load 155 = .ok (.iaload, 1) := by decide +kernel
theorem dX3_load_156 : decode cX3_load 156 = .ok (.iadd, 1) := by decide +kernel
theorem dX3_load_157 : decode cX3_load 157 = .ok (.istore 6, 2) := by decide +kernel
theorem dX3_load_159 : decode cX3_load 159 = .ok (.iinc 8 1, 3) := by decide +kernel
theorem dX3_load_162 : decode cX3_load 162 = .ok (.goto (-109), 3) := by decide +kernel
theorem dX3_load_165 : decode cX3_load 165 = .ok (.iload 7, 2) := by decide +kernel
theorem dX3_load_167 : decode cX3_load 167 = .ok (.ifCond .eq 26, 3) := by decide +kernel
theorem dX3_load_170 : decode cX3_load 170 = .ok (.iload 4, 2) := by decide +kernel
theorem dX3_load_172 : decode cX3_load 172 = .ok (.iload 6, 2) := by decide +kernel
theorem dX3_load_174 : decode cX3_load 174 = .ok (.iadd, 1) := by decide +kernel
theorem dX3_load_175 : decode cX3_load 175 = .ok (.iload 5, 2) := by decide +kernel
theorem dX3_load_177 : decode cX3_load 177 = .ok (.iadd, 1) := by decide +kernel
theorem dX3_load_178 : decode cX3_load 178 = .ok (.iload_n 2, 1) := by decide +kernel
theorem dX3_load_179 : decode cX3_load 179 = .ok (.if_icmp .le 14, 3) := by decide +kernel
theorem dX3_load_182 : decode cX3_load 182 = .ok (.iload 4, 2) := by decide +kernel
theorem dX3_load_184 : decode cX3_load 184 = .ok (.iload 6, 2) := by decide +kernel
theorem dX3_load_186 : decode cX3_load 186 = .ok (.iadd, 1) := by decide +kernel
theorem dX3_load_187 : decode cX3_load 187 = .ok (.iload 5, 2) := by decide +kernel
theorem dX3_load_189 : decode cX3_load 189 = .ok (.iadd, 1) := by decide +kernel
theorem dX3_load_190 : decode cX3_load 190 = .ok (.goto 4, 3) := by decide +kernel
theorem dX3_load_193 : decode cX3_load 193 = .ok (.iload_n 2, 1) := by decide +kernel
theorem dX3_load_194 : decode cX3_load 194 = .ok (.istore_n 2, 1) := by decide +kernel
theorem dX3_load_195 : decode cX3_load 195 = .ok (.iinc 3 1, 3) := by decide +kernel
theorem dX3_load_198 : decode cX3_load 198 = .ok (.goto (-174), 3) := by decide +kernel
theorem dX3_load_201 : decode cX3_load 201 = .ok (.iload_n 2, 1) := by decide +kernel
theorem dX3_load_202 : decode cX3_load 202 = .ok (.ireturn, 1) := by decide +kernel
theorem dX3_isForced_0 : decode cX3_isForced 0 = .ok (.aload_n 0, 1) := by decide +kernel
theorem dX3_isForced_1 : decode cX3_isForced 1 = .ok (.getfield 29, 3) := by decide +kernel
theorem dX3_isForced_4 : decode cX3_isForced 4 = .ok (.iload_n 2, 1) := by decide +kernel
theorem dX3_isForced_5 : decode cX3_isForced 5 = .ok (.iaload, 1) := by decide +kernel
theorem dX3_isForced_6 : decode cX3_isForced 6 = .ok (.aload_n 0, 1) := by decide +kernel
theorem dX3_isForced_7 : decode cX3_isForced 7 = .ok (.getfield 16, 3) := by decide +kernel
theorem dX3_isForced_10 : decode cX3_isForced 10 = .ok (.iload_n 2, 1) := by decide +kernel
theorem dX3_isForced_11 : decode cX3_isForced 11 = .ok (.iaload, 1) := by decide +kernel
theorem dX3_isForced_12 : decode cX3_isForced 12 = .ok (.iadd, 1) := by decide +kernel
theorem dX3_isForced_13 : decode cX3_isForced 13 = .ok (.aload_n 0, 1) := by decide +kernel
theorem dX3_isForced_14 : decode cX3_isForced 14 = .ok (.getfield 16, 3) := by decide +kernel
theorem dX3_isForced_17 : decode cX3_isForced 17 = .ok (.iload_n 1, 1) := by decide +kernel
theorem dX3_isForced_18 : decode cX3_isForced 18 = .ok (.iaload, 1) := by decide +kernel
theorem dX3_isForced_19 : decode cX3_isForced 19 = .ok (.iadd, 1) := by decide +kernel
theorem dX3_isForced_20 : decode cX3_isForced 20 = .ok (.aload_n 0, 1) := by decide +kernel
theorem dX3_isForced_21 : decode cX3_isForced 21 = .ok (.getfield 32, 3) := by decide +kernel
theorem dX3_isForced_24 : decode cX3_isForced 24 = .ok (.iload_n 1, 1) := by decide +kernel
theorem dX3_isForced_25 : decode cX3_isForced 25 = .ok (.iaload, 1) := by decide +kernel
theorem dX3_isForced_26 : decode cX3_isForced 26 = .ok (.iadd, 1) := by decide +kernel
theorem dX3_isForced_27 : decode cX3_isForced 27 = .ok (.iload_n 3, 1) := by decide +kernel
theorem dX3_isForced_28 : decode cX3_isForced 28 = .ok (.if_icmp .lt 7, 3) := by decide +kernel
theorem dX3_isForced_31 : decode cX3_isForced 31 = .ok (.iconst 1, 1) := by decide +kernel
theorem dX3_isForced_32 : decode cX3_isForced 32 = .ok (.goto 4, 3) := by decide +kernel
theorem dX3_isForced_35 : decode cX3_isForced 35 = .ok (.iconst 0, 1) := by decide +kernel
theorem dX3_isForced_36 : decode cX3_isForced 36 = .ok (.ireturn, 1) := by decide +kernel
set_option maxRecDepth 20000 in
theorem ggX3_select_X3_look : GoodIn wsX3_select wsX3_look := goodIn_r _ [8, 9, 10, 11, 7, 12, 3, 13, 14, 15, 16, 17, 18, 19, 20, 21, 22, 23, 24, 25, 26, 27, 28, 58, 59, 60, 61, 62, 63, 64, 65, 66, 67, 68, 69, 70, 71, 72, 73] (by decide +kernel) (by decide +kernel)
set_option maxRecDepth 20000 in
theorem gX3_select_X3_look : GoodIn wsX3_select (wsV RX3 92 RX3 yX3_look wsX3_look) := goodIn_app (goodIn_of _ (by decide +kernel)) ggX3_select_X3_look
set_option maxRecDepth 20000 in
theorem ggX3_select_X3_isPair : GoodIn wsX3_select wsX3_isPair := goodIn_r _ [32, 33, 34, 35, 36, 7, 37, 3, 38, 39, 40, 58, 59, 60, 61, 62, 63, 64, 65, 66, 67, 68, 69, 70, 71, 72, 73] (by decide +kernel) (by decide +kernel)
set_option maxRecDepth 20000 in
theorem gX3_select_X3_isPair : GoodIn wsX3_select (wsV RX3 85 RX3 yX3_isPair wsX3_isPair) := goodIn_app (goodIn_of _ (by decide +kernel)) ggX3_select_X3_isPair
set_option maxRecDepth 20000 in
theorem ggX3_select_X3_isForced : GoodIn wsX3_select wsX3_isForced := goodIn_r _ [44, 13, 14, 28, 58, 59, 60, 61, 62, 63, 64, 65, 66, 67, 68, 69, 70, 71, 72, 73] (by decide +kernel) (by decide +kernel)
set_option maxRecDepth 20000 in
theorem gX3_select_X3_isForced : GoodIn wsX3_select (wsV RX3 99 RX3 yX3_isForced wsX3_isForced) := goodIn_app (goodIn_of _ (by decide +kernel)) ggX3_select_X3_isForced
set_option maxRecDepth 20000 in
theorem ggX3_select_X3_hasPath : GoodIn wsX3_select wsX3_hasPath := goodIn_r _ [48, 3, 15, 16, 17, 7, 18, 19, 20, 21, 22, 23, 58, 59, 60, 61, 62, 63, 64, 65, 66, 67, 68, 69, 70, 71, 72, 73] (by decide +kernel) (by decide +kernel)
set_option maxRecDepth 20000 in
theorem gX3_select_X3_hasPath : GoodIn wsX3_select (wsV RX3 89 RX3 yX3_hasPath wsX3_hasPath) := goodIn_app (goodIn_of _ (by decide +kernel)) ggX3_select_X3_hasPath
set_option maxRecDepth 20000 in
theorem ggX3_select_X3_longest : GoodIn wsX3_select wsX3_longest := goodIn_r _ [52, 3, 13, 14, 28, 58, 59, 60, 61, 62, 63, 64, 65, 66, 67, 68, 69, 70, 71, 72, 73] (by decide +kernel) (by decide +kernel)
set_option maxRecDepth 20000 in
theorem gX3_select_X3_longest : GoodIn wsX3_select (wsV RX3 95 RX3 yX3_longest wsX3_longest) := goodIn_app (goodIn_of _ (by decide +kernel)) ggX3_select_X3_longest
set_option maxRecDepth 20000 in
theorem ggX3_select_X3_forget : GoodIn wsX3_select wsX3_forget := goodIn_r _ [56, 57, 58, 59, 60, 61, 62, 63, 64, 65, 66, 67, 68, 69, 70, 71, 72, 73] (by decide +kernel) (by decide +kernel)
set_option maxRecDepth 20000 in
theorem gX3_select_X3_forget : GoodIn wsX3_select (wsV RX3 66 RX3 yX3_forget wsX3_forget) := goodIn_app (goodIn_of _ (by decide +kernel)) ggX3_select_X3_forget
theorem dX3_select_0 : decode cX3_select 0 = .ok (.iconst 0, 1) := by decide +kernel
theorem dX3_select_1 : decode cX3_select 1 = .ok (.istore_n 2, 1) := by decide +kernel
theorem dX3_select_2 : decode cX3_select 2 = .ok (.iload_n 2, 1) := by decide +kernel
theorem dX3_select_3 : decode cX3_select 3 = .ok (.sipush 144, 3) := by decide +kernel
theorem dX3_select_6 : decode cX3_select 6 = .ok (.if_icmp .ge 21, 3) := by decide +kernel
theorem dX3_select_9 : decode cX3_select 9 = .ok (.aload_n 0, 1) := by decide +kernel
theorem dX3_select_10 : decode cX3_select 10 = .ok (.getfield 35, 3) := by decide +kernel
theorem dX3_select_13 : decode cX3_select 13 = .ok (.iload_n 2, 1) := by decide +kernel
theorem dX3_select_14 : decode cX3_select 14 = .ok (.aload_n 0, 1) := by decide +kernel
theorem dX3_select_15 : decode cX3_select 15 = .ok (.getfield 19, 3) := by decide +kernel
theorem dX3_select_18 : decode cX3_select 18 = .ok (.iload_n 2, 1) := by decide +kernel
theorem dX3_select_19 : decode cX3_select 19 = .ok (.baload, 1) := by decide +kernel
theorem dX3_select_20 : decode cX3_select 20 = .ok (.bastore, 1) := by decide +kernel
theorem dX3_select_21 : decode cX3_select 21 = .ok (.iinc 2 1, 3) := by decide +kernel
theorem dX3_select_24 : decode cX3_select 24 = .ok (.goto (-22), 3) := by decide +kernel
theorem dX3_select_27 : decode cX3_select 27 = .ok (.iconst 0, 1) := by decide +kernel
theorem dX3_select_28 : decode cX3_select 28 = .ok (.istore_n 2, 1) := by decide +kernel
theorem dX3_select_29 : decode cX3_select 29 = .ok (.iconst 1, 1) := by decide +kernel
theorem dX3_select_30 : decode cX3_select 30 = .ok (.istore_n 3, 1) := by decide +kernel
theorem dX3_select_31 : decode cX3_select 31 = .ok (.iload_n 3, 1) := by decide +kernel
theorem dX3_select_32 : decode cX3_select 32 = .ok (.ifCond .eq 164, 3) := by decide +kernel
theorem dX3_select_35 : decode cX3_select 35 = .ok (.iconst 0, 1) := by decide +kernel
theorem dX3_select_36 : decode cX3_select 36 = .ok (.istore_n 3, 1) := by decide +kernel
theorem dX3_select_37 : decode cX3_select 37 = .ok (.aload_n 0, 1) := by decide +kernel
theorem dX3_select_38 : decode cX3_select 38 = .ok (.aload_n 0, 1) := by decide +kernel
theorem dX3_select_39 : decode cX3_select 39 = .ok (.getfield 35, 3) := by decide +kernel
theorem dX3_select_42 : decode cX3_select 42 = .ok (.invokevirtual 92, 3) := by decide +kernel
theorem dX3_select_45 : decode cX3_select 45 = .ok (.iconst 0, 1) := by decide +kernel
theorem dX3_select_46 : decode cX3_select 46 = .ok (.istore 4, 2) := by decide +kernel
theorem dX3_select_48 : decode cX3_select 48 = .ok (.iload 4, 2) := by decide +kernel
theorem dX3_select_50 : decode cX3_select 50 = .ok (.aload_n 0, 1) := by decide +kernel
theorem dX3_select_51 : decode cX3_select 51 = .ok (.getfield 48, 3) := by decide +kernel
theorem dX3_select_54 : decode cX3_select 54 = .ok (.if_icmp .ge 139, 3) := by decide +kernel
theorem dX3_select_57 : decode cX3_select 57 = .ok (.iload_n 3, 1) := by decide +kernel
theorem dX3_select_58 : decode cX3_select 58 = .ok (.ifCond .ne 135, 3) := by decide +kernel
theorem dX3_select_61 : decode cX3_select 61 = .ok (.iconst 0, 1) := by decide +kernel
theorem dX3_select_62 : decode cX3_select 62 = .ok (.istore 5, 2) := by decide +kernel
theorem dX3_select_64 : decode cX3_select 64 = .ok (.iload 5, 2) := by decide +kernel
theorem dX3_select_66 : decode cX3_select 66 = .ok (.aload_n 0, 1) := by decide +kernel
theorem dX3_select_67 : decode cX3_select 67 = .ok (.getfield 48, 3) := by decide +kernel
theorem dX3_select_70 : decode cX3_select 70 = .ok (.if_icmp .ge 117, 3) := by decide +kernel
theorem dX3_select_73 : decode cX3_select 73 = .ok (.iload_n 3, 1) := by decide +kernel
theorem dX3_select_74 : decode cX3_select 74 = .ok (.ifCond .ne 113, 3) := by decide +kernel
theorem dX3_select_77 : decode cX3_select 77 = .ok (.aload_n 0, 1) := by decide +kernel
theorem dX3_select_78 : decode cX3_select 78 = .ok (.iload 4, 2) := by decide +kernel
theorem dX3_select_80 : decode cX3_select 80 = .ok (.iload 5, 2) := by decide +kernel
theorem dX3_select_82 : decode cX3_select 82 = .ok (.invokevirtual 85, 3) := by decide +kernel
theorem dX3_select_85 : decode cX3_select 85 = .ok (.ifCond .eq 96, 3) := by decide +kernel
theorem dX3_select_88 : decode cX3_select 88 = .ok (.aload_n 0, 1) := by decide +kernel
theorem dX3_select_89 : decode cX3_select 89 = .ok (.getfield 35, 3) := by decide +kernel
theorem dX3_select_92 : decode cX3_select 92 = .ok (.bipush 12, 2) := by decide +kernel
theorem dX3_select_94 : decode cX3_select 94 = .ok (.iload 4, 2) := by decide +kernel
theorem dX3_select_96 : decode cX3_select 96 = .ok (.imul, 1) := by decide +kernel
theorem dX3_select_97 : decode cX3_select 97 = .ok (.iload 5, 2) := by decide +kernel
theorem dX3_select_99 : decode cX3_select 99 = .ok (.iadd, 1) := by decide +kernel
theorem dX3_select_100 : decode cX3_select 100 = .ok (.baload, 1) := by decide +kernel
theorem dX3_select_101 : decode cX3_select 101 = .ok (.ifCond .ne 80, 3) := by decide +kernel
theorem dX3_select_104 : decode cX3_select 104 = .ok (.aload_n 0, 1) := by decide +kernel
theorem dX3_select_105 : decode cX3_select 105 = .ok (.getfield 35, 3) := by decide +kernel
theorem dX3_select_108 : decode cX3_select 108 = .ok (.bipush 12, 2) := by decide +kernel
theorem dX3_select_110 : decode cX3_select 110 = .ok (.iload 5, 2) := by decide +kernel
theorem dX3_select_112 : decode cX3_select 112 = .ok (.imul, 1) := by decide +kernel
theorem dX3_select_113 : decode cX3_select 113 = .ok (.iload 4, 2) := by decide +kernel
theorem dX3_select_115 : decode cX3_select 115 = .ok (.iadd, 1) := by decide +kernel
theorem dX3_select_116 : decode cX3_select 116 = .ok (.baload, 1) := by decide +kernel
theorem dX3_select_117 : decode cX3_select 117 = .ok (.ifCond .ne 64, 3) := by decide +kernel
theorem dX3_select_120 : decode cX3_select 120 = .ok (.aload_n 0, 1) := by decide +kernel
theorem dX3_select_121 : decode cX3_select 121 = .ok (.iload 4, 2) := by decide +kernel
theorem dX3_select_123 : decode cX3_select 123 = .ok (.iload 5, 2) := by decide +kernel
theorem dX3_select_125 : decode cX3_select 125 = .ok (.iload_n 1, 1) := by decide +kernel
theorem dX3_select_126 : decode cX3_select 126 = .ok (.invokevirtual 99, 3) := by decide +kernel
theorem dX3_select_129 : decode cX3_select 129 = .ok (.ifCond .eq 52, 3) := by decide +kernel
theorem dX3_select_132 : decode cX3_select 132 = .ok (.aload_n 0, 1) := by decide +kernel
theorem dX3_select_133 : decode cX3_select 133 = .ok (.iload 5, 2) := by decide +kernel
theorem dX3_select_135 : decode cX3_select 135 = .ok (.iload 4, 2) := by decide +kernel
theorem dX3_select_137 : decode cX3_select 137 = .ok (.iload_n 1, 1) := by decide +kernel
theorem dX3_select_138 : decode cX3_select 138 = .ok (.invokevirtual 99, 3) := by decide +kernel
theorem dX3_select_141 : decode cX3_select 141 = .ok (.ifCond .ne 18, 3) := by decide +kernel
theorem dX3_select_144 : decode cX3_select 144 = .ok (.aload_n 0, 1) := by decide +kernel
theorem dX3_select_145 : decode cX3_select 145 = .ok (.aload_n 0, 1) := by decide +kernel
theorem dX3_select_146 : decode cX3_select 146 = .ok (.getfield 35, 3) := by decide +kernel
theorem dX3_select_149 : decode cX3_select 149 = .ok (.iload 5, 2) := by decide +kernel
theorem dX3_select_151 : decode cX3_select 151 = .ok (.iload 4, 2) := by decide +kernel
theorem dX3_select_153 : decode cX3_select 153 = .ok (.invokevirtual 89, 3) := by decide +kernel
theorem dX3_select_156 : decode cX3_select 156 = .ok (.ifCond .eq 6, 3) := by decide +kernel
theorem dX3_select_159 : decode cX3_select 159 = .ok (.bipush (-5), 2) := by decide +kernel
theorem dX3_select_161 : decode cX3_select 161 = .ok (.ireturn, 1) := by decide +kernel
theorem dX3_select_162 : decode cX3_select 162 = .ok (.aload_n 0, 1) := by decide +kernel
theorem dX3_select_163 : decode cX3_select 163 = .ok (.getfield 35, 3) := by decide +kernel
theorem dX3_select_166 : decode cX3_select 166 = .ok (.bipush 12, 2) := by decide +kernel
theorem dX3_select_168 : decode cX3_select 168 = .ok (.iload 4, 2) := by decide +kernel
theorem dX3_select_170 : decode cX3_select 170 = .ok (.imul, 1) := by decide +kernel
theorem dX3_select_171 : decode cX3_select 171 = .ok (.iload 5, 2) := by decide +kernel
theorem dX3_select_173 : decode cX3_select 173 = .ok (.iadd, 1) := by decide +kernel
theorem dX3_select_174 : decode cX3_select 174 = .ok (.iconst 1, 1) := by decide +kernel
theorem dX3_select_175 : decode cX3_select 175 = .ok (.bastore, 1) := by decide +kernel
theorem dX3_select_176 : decode cX3_select 176 = .ok (.iinc 2 1, 3) := by decide +kernel
theorem dX3_select_179 : decode cX3_select 179 = .ok (.iconst 1, 1) := by decide +kernel
theorem dX3_select_180 : decode cX3_select 180 = .ok (.istore_n 3, 1) := by decide +kernel
theorem dX3_select_181 : decode cX3_select 181 = .ok (.iinc 5 1, 3) := by decide +kernel
theorem dX3_select_184 : decode cX3_select 184 = .ok (.goto (-120), 3) := by decide +kernel
theorem dX3_select_187 : decode cX3_select 187 = .ok (.iinc 4 1, 3) := by decide +kernel
theorem dX3_select_190 : decode cX3_select 190 = .ok (.goto (-142), 3) := by decide +kernel
theorem dX3_select_193 : decode cX3_select 193 = .ok (.goto (-162), 3) := by decide +kernel
theorem dX3_select_196 : decode cX3_select 196 = .ok (.aload_n 0, 1) := by decide +kernel
theorem dX3_select_197 : decode cX3_select 197 = .ok (.invokevirtual 95, 3) := by decide +kernel
theorem dX3_select_200 : decode cX3_select 200 = .ok (.iload_n 1, 1) := by decide +kernel
theorem dX3_select_201 : decode cX3_select 201 = .ok (.if_icmp .lt 6, 3) := by decide +kernel
theorem dX3_select_204 : decode cX3_select 204 = .ok (.bipush (-5), 2) := by decide +kernel
theorem dX3_select_206 : decode cX3_select 206 = .ok (.ireturn, 1) := by decide +kernel
theorem dX3_select_207 : decode cX3_select 207 = .ok (.iconst 0, 1) := by decide +kernel
theorem dX3_select_208 : decode cX3_select 208 = .ok (.istore 4, 2) := by decide +kernel
theorem dX3_select_210 : decode cX3_select 210 = .ok (.iload 4, 2) := by decide +kernel
theorem dX3_select_212 : decode cX3_select 212 = .ok (.sipush 144, 3) := by decide +kernel
theorem dX3_select_215 : decode cX3_select 215 = .ok (.if_icmp .ge 23, 3) := by decide +kernel
theorem dX3_select_218 : decode cX3_select 218 = .ok (.aload_n 0, 1) := by decide +kernel
theorem dX3_select_219 : decode cX3_select 219 = .ok (.getfield 19, 3) := by decide +kernel
theorem dX3_select_222 : decode cX3_select 222 = .ok (.iload 4, 2) := by decide +kernel
theorem dX3_select_224 : decode cX3_select 224 = .ok (.aload_n 0, 1) := by decide +kernel
theorem dX3_select_225 : decode cX3_select 225 = .ok (.getfield 35, 3) := by decide +kernel
theorem dX3_select_228 : decode cX3_select 228 = .ok (.iload 4, 2) := by decide +kernel
theorem dX3_select_230 : decode cX3_select 230 = .ok (.baload, 1) := by decide +kernel
theorem dX3_select_231 : decode cX3_select 231 = .ok (.bastore, 1) := by decide +kernel
theorem dX3_select_232 : decode cX3_select 232 = .ok (.iinc 4 1, 3) := by decide +kernel
theorem dX3_select_235 : decode cX3_select 235 = .ok (.goto (-25), 3) := by decide +kernel
theorem dX3_select_238 : decode cX3_select 238 = .ok (.iload_n 2, 1) := by decide +kernel
theorem dX3_select_239 : decode cX3_select 239 = .ok (.ifCond .le 7, 3) := by decide +kernel
theorem dX3_select_242 : decode cX3_select 242 = .ok (.aload_n 0, 1) := by decide +kernel
theorem dX3_select_243 : decode cX3_select 243 = .ok (.invokevirtual 66, 3) := by decide +kernel
theorem dX3_select_246 : decode cX3_select 246 = .ok (.iload_n 2, 1) := by decide +kernel
theorem dX3_select_247 : decode cX3_select 247 = .ok (.ireturn, 1) := by decide +kernel
theorem dX3_layFirst_0 : decode cX3_layFirst 0 = .ok (.aload_n 0, 1) := by decide +kernel
theorem dX3_layFirst_1 : decode cX3_layFirst 1 = .ok (.getfield 41, 3) := by decide +kernel
theorem dX3_layFirst_4 : decode cX3_layFirst 4 = .ok (.iload_n 1, 1) := by decide +kernel
theorem dX3_layFirst_5 : decode cX3_layFirst 5 = .ok (.iconst 0, 1) := by decide +kernel
theorem dX3_layFirst_6 : decode cX3_layFirst 6 = .ok (.iastore, 1) := by decide +kernel
theorem dX3_layFirst_7 : decode cX3_layFirst 7 = .ok (.iconst 0, 1) := by decide +kernel
theorem dX3_layFirst_8 : decode cX3_layFirst 8 = .ok (.istore_n 2, 1) := by decide +kernel
theorem dX3_layFirst_9 : decode cX3_layFirst 9 = .ok (.iload_n 2, 1) := by decide +kernel
theorem dX3_layFirst_10 : decode cX3_layFirst 10 = .ok (.aload_n 0, 1) := by decide +kernel
theorem dX3_layFirst_11 : decode cX3_layFirst 11 = .ok (.getfield 48, 3) := by decide +kernel
theorem dX3_layFirst_14 : decode cX3_layFirst 14 = .ok (.if_icmp .ge 45, 3) := by decide +kernel
theorem dX3_layFirst_17 : decode cX3_layFirst 17 = .ok (.aload_n 0, 1) := by decide +kernel
theorem dX3_layFirst_18 : decode cX3_layFirst 18 = .ok (.getfield 13, 3) := by decide +kernel
theorem dX3_layFirst_21 : decode cX3_layFirst 21 = .ok (.iload_n 2, 1) := by decide +kernel
theorem dX3_layFirst_22 : decode cX3_layFirst 22 = .ok (.iaload, 1) := by decide +kernel
theorem dX3_layFirst_23 : decode cX3_layFirst 23 = .ok (.iload_n 1, 1) := by decide +kernel
theorem dX3_layFirst_24 : decode cX3_layFirst 24 = .ok (.if_icmp .ne 29, 3) := by decide +kernel
theorem dX3_layFirst_27 : decode cX3_layFirst 27 = .ok (.aload_n 0, 1) := by decide +kernel
theorem dX3_layFirst_28 : decode cX3_layFirst 28 = .ok (.getfield 38, 3) := by decide +kernel
theorem dX3_layFirst_31 : decode cX3_layFirst 31 = .ok (.iconst 4, 1) := by decide +kernel
theorem dX3_layFirst_32 : decode cX3_layFirst 32 = .ok (.iload_n 1, 1) := by decide +kernel
theorem dX3_layFirst_33 : decode cX3_layFirst 33 = .ok (.imul, 1) := by decide +kernel
theorem dX3_layFirst_34 : decode cX3_layFirst 34 = .ok (.aload_n 0, 1) := by decide +kernel
theorem dX3_layFirst_35 : decode cX3_layFirst 35 = .ok (.getfield 41, 3) := by decide +kernel
theorem dX3_layFirst_38 : decode cX3_layFirst 38 = .ok (.iload_n 1, 1) := by decide +kernel
theorem dX3_layFirst_39 : decode cX3_layFirst 39 = .ok (.iaload, 1) := by decide +kernel
theorem dX3_layFirst_40 : decode cX3_layFirst 40 = .ok (.iadd, 1) := by decide +kernel
theorem dX3_layFirst_41 : decode cX3_layFirst 41 = .ok (.iload_n 2, 1) := by decide +kernel
theorem dX3_layFirst_42 : decode cX3_layFirst 42 = .ok (.iastore, 1) := by decide +kernel
theorem dX3_layFirst_43 : decode cX3_layFirst 43 = .ok (.aload_n 0, 1) := by decide +kernel
theorem dX3_layFirst_44 : decode cX3_layFirst 44 = .ok (.getfield 41, 3) := by decide +kernel
theorem dX3_layFirst_47 : decode cX3_layFirst 47 = .ok (.iload_n 1, 1) := by decide +kernel
theorem dX3_layFirst_48 : decode cX3_layFirst 48 = .ok (.dup2, 1) := by decide +kernel
theorem dX3_layFirst_49 : decode cX3_layFirst 49 = .ok (.iaload, 1) := by decide +kernel
theorem dX3_layFirst_50 : decode cX3_layFirst 50 = .ok (.iconst 1, 1) := by decide +kernel
theorem dX3_layFirst_51 : decode cX3_layFirst 51 = .ok (.iadd, 1) := by decide +kernel
theorem dX3_layFirst_52 : decode cX3_layFirst 52 = .ok (.iastore, 1) := by decide +kernel
theorem dX3_layFirst_53 : decode cX3_layFirst 53 = .ok (.iinc 2 1, 3) := by decide +kernel
theorem dX3_layFirst_56 : decode cX3_layFirst 56 = .ok (.goto (-47), 3) := by decide +kernel
theorem dX3_layFirst_59 : decode cX3_layFirst 59 = .ok (.return_, 1) := by decide +kernel
set_option maxRecDepth 20000 in
theorem ggX3_nextOrder_X3_layFirst : GoodIn wsX3_nextOrder wsX3_layFirst := goodIn_r _ [7, 1, 8, 9, 2, 10, 11, 12, 13, 14, 15, 16, 17, 18, 19, 20, 21, 22, 23, 24, 25] (by decide +kernel) (by decide +kernel)
set_option maxRecDepth 20000 in
theorem gX3_nextOrder_X3_layFirst : GoodIn wsX3_nextOrder (wsV RX3 102 RX3 yX3_layFirst wsX3_layFirst) := goodIn_app (goodIn_of _ (by decide +kernel)) ggX3_nextOrder_X3_layFirst
theorem dX3_nextOrder_0 : decode cX3_nextOrder 0 = .ok (.iconst 4, 1) := by decide +kernel
theorem dX3_nextOrder_1 : decode cX3_nextOrder 1 = .ok (.iload_n 1, 1) := by decide +kernel
theorem dX3_nextOrder_2 : decode cX3_nextOrder 2 = .ok (.imul, 1) := by decide +kernel
theorem dX3_nextOrder_3 : decode cX3_nextOrder 3 = .ok (.istore_n 2, 1) := by decide +kernel
theorem dX3_nextOrder_4 : decode cX3_nextOrder 4 = .ok (.aload_n 0, 1) := by decide +kernel
theorem dX3_nextOrder_5 : decode cX3_nextOrder 5 = .ok (.getfield 41, 3) := by decide +kernel
theorem dX3_nextOrder_8 : decode cX3_nextOrder 8 = .ok (.iload_n 1, 1) := by decide +kernel
theorem dX3_nextOrder_9 : decode cX3_nextOrder 9 = .ok (.iaload, 1) := by decide +kernel
theorem dX3_nextOrder_10 : decode cX3_nextOrder 10 = .ok (.iconst 2, 1) := by decide +kernel
theorem dX3_nextOrder_11 : decode cX3_nextOrder 11 = .ok (.isub, 1) := by decide +kernel
theorem dX3_nextOrder_12 : decode cX3_nextOrder 12 = .ok (.istore_n 3, 1) := by decide +kernel
theorem dX3_nextOrder_13 : decode cX3_nextOrder 13 = .ok (.iload_n 3, 1) := by decide +kernel
theorem dX3_nextOrder_14 : decode cX3_nextOrder 14 = .ok (.ifCond .lt 30, 3) := by decide +kernel
theorem dX3_nextOrder_17 : decode cX3_nextOrder 17 = .ok (.aload_n 0, 1) := by decide +kernel
theorem dX3_nextOrder_18 : decode cX3_nextOrder 18 = .ok (.getfield 38, 3) := by decide +kernel
theorem dX3_nextOrder_21 : decode cX3_nextOrder 21 = .ok (.iload_n 2, 1) := by decide +kernel
theorem dX3_nextOrder_22 : decode cX3_nextOrder 22 = .ok (.iload_n 3, 1) := by decide +kernel
theorem dX3_nextOrder_23 : decode cX3_nextOrder 23 = .ok (.iadd, 1) := by decide +kernel
theorem dX3_nextOrder_24 : decode cX3_nextOrder 24 = .ok (.iaload, 1) := by decide +kernel
theorem dX3_nextOrder_25 : decode cX3_nextOrder 25 = .ok (.aload_n 0, 1) := by decide +kernel
theorem dX3_nextOrder_26 : decode cX3_nextOrder 26 = .ok (.getfield 38, 3) := by decide +kernel
theorem dX3_nextOrder_29 : decode cX3_nextOrder 29 = .ok (.iload_n 2, 1) := by decide +kernel
theorem dX3_nextOrder_30 : decode cX3_nextOrder 30 = .ok (.iload_n 3, 1) := by decide +kernel
theorem dX3_nextOrder_31 : decode cX3_nextOrder 31 = .ok (.iadd, 1) := by decide +kernel
theorem dX3_nextOrder_32 : decode cX3_nextOrder 32 = .ok (.iconst 1, 1) := by decide +kernel
theorem dX3_nextOrder_33 : decode cX3_nextOrder 33 = .ok (.iadd, 1) := by decide +kernel
theorem dX3_nextOrder_34 : decode cX3_nextOrder 34 = .ok (.iaload, 1) := by decide +kernel
theorem dX3_nextOrder_35 : decode cX3_nextOrder 35 = .ok (.if_icmp .le 9, 3) := by decide +kernel
theorem dX3_nextOrder_38 : decode cX3_nextOrder 38 = .ok (.iinc 3 (-1), 3) := by decide +kernel
theorem dX3_nextOrder_41 : decode cX3_nextOrder 41 = .ok (.goto (-28), 3) := by decide +kernel
theorem dX3_nextOrder_44 : decode cX3_nextOrder 44 = .ok (.iload_n 3, 1) := by decide +kernel
theorem dX3_nextOrder_45 : decode cX3_nextOrder 45 = .ok (.ifCond .ge 10, 3) := by decide +kernel
theorem dX3_nextOrder_48 : decode cX3_nextOrder 48 = .ok (.aload_n 0, 1) := by decide +kernel
theorem dX3_nextOrder_49 : decode cX3_nextOrder 49 = .ok (.iload_n 1, 1) := by decide +kernel
theorem dX3_nextOrder_50 : decode cX3_nextOrder 50 = .ok (.invokevirtual 102, 3) := by decide +kernel
theorem dX3_nextOrder_53 : decode cX3_nextOrder 53 = .ok (.iconst 0, 1) := by decide +kernel
theorem dX3_nextOrder_54 : decode cX3_nextOrder 54 = .ok (.ireturn, 1) := by decide +kernel
theorem dX3_nextOrder_55 : decode cX3_nextOrder 55 = .ok (.aload_n 0, 1) := by decide +kernel
theorem dX3_nextOrder_56 : decode cX3_nextOrder 56 = .ok (.getfield 41, 3) := by decide +kernel
theorem dX3_nextOrder_59 : decode cX3_nextOrder 59 = .ok (.iload_n 1, 1) := by decide +kernel
theorem dX3_nextOrder_60 : decode cX3_nextOrder 60 = .ok (.iaload, 1) := by decide +kernel
theorem dX3_nextOrder_61 : decode cX3_nextOrder 61 = .ok (.iconst 1, 1) := by decide +kernel
theorem dX3_nextOrder_62 : decode cX3_nextOrder 62 = .ok (.isub, 1) := by decide +kernel
theorem dX3_nextOrder_63 : decode cX3_nextOrder 63 = .ok (.istore 4, 2) := by decide +kernel
theorem dX3_nextOrder_65 : decode cX3_nextOrder 65 = .ok (.aload_n 0, 1) := by decide +kernel
theorem dX3_nextOrder_66 : decode cX3_nextOrder 66 = .ok (.getfield 38, 3) := by decide +kernel
theorem dX3_nextOrder_69 : decode cX3_nextOrder 69 = .ok (.iload_n 2, 1) := by decide +kernel
theorem dX3_nextOrder_70 : decode cX3_nextOrder 70 = .ok (.iload 4, 2) := by decide +kernel
theorem dX3_nextOrder_72 : decode cX3_nextOrder 72 = .ok (.iadd, 1) := by decide +kernel
theorem dX3_nextOrder_73 : decode cX3_nextOrder 73 = .ok (.iaload, 1) := by decide +kernel
theorem dX3_nextOrder_74 : decode cX3_nextOrder 74 = .ok (.aload_n 0, 1) := by decide +kernel
theorem dX3_nextOrder_75 : decode cX3_nextOrder 75 = .ok (.getfield 38, 3) := by decide +kernel
theorem dX3_nextOrder_78 : decode cX3_nextOrder 78 = .ok (.iload_n 2, 1) := by decide +kernel
theorem dX3_nextOrder_79 : decode cX3_nextOrder 79 = .ok (.iload_n 3, 1) := by decide +kernel
theorem dX3_nextOrder_80 : decode cX3_nextOrder 80 = .ok (.iadd, 1) := by decide +kernel
theorem dX3_nextOrder_81 : decode cX3_nextOrder 81 = .ok (.iaload, 1) := by decide +kernel
theorem dX3_nextOrder_82 : decode cX3_nextOrder 82 = .ok (.if_icmp .ge 9, 3) := by decide +kernel
theorem dX3_nextOrder_85 : decode cX3_nextOrder 85 = .ok (.iinc 4 (-1), 3) := by decide +kernel
theorem dX3_nextOrder_88 : decode cX3_nextOrder 88 = .ok (.goto (-23), 3) := by decide +kernel
theorem dX3_nextOrder_91 : decode cX3_nextOrder 91 = .ok (.aload_n 0, 1) := by decide +kernel
theorem dX3_nextOrder_92 : decode cX3_nextOrder 92 = .ok (.getfield 38, 3) := by decide +kernel
theorem dX3_nextOrder_95 : decode cX3_nextOrder 95 = .ok (.iload_n 2, 1) := by decide +kernel
theorem dX3_nextOrder_96 : decode cX3_nextOrder 96 = .ok (.iload_n 3, 1) := by decide +kernel
theorem dX3_nextOrder_97 : decode cX3_nextOrder 97 = .ok (.iadd, 1) := by decide +kernel
theorem dX3_nextOrder_98 : decode cX3_nextOrder 98 = .ok (.iaload, 1) := by decide +kernel
theorem dX3_nextOrder_99 : decode cX3_nextOrder 99 = .ok (.istore 5, 2) := by decide +kernel
theorem dX3_nextOrder_101 : decode cX3_nextOrder 101 = .ok (.aload_n 0, 1) := by decide +kernel
theorem dX3_nextOrder_102 : decode cX3_nextOrder 102 = .ok (.getfield 38, 3) := by decide +kernel
theorem dX3_nextOrder_105 : decode cX3_nextOrder 105 = .ok (.iload_n 2, 1) := by decide +kernel
theorem dX3_nextOrder_106 : decode cX3_nextOrder 106 = .ok (.iload_n 3, 1) := by decide +kernel
theorem dX3_nextOrder_107 : decode cX3_nextOrder 107 = .ok (.iadd, 1) := by decide +kernel
theorem dX3_nextOrder_108 : decode cX3_nextOrder 108 = .ok (.aload_n 0, 1) := by decide +kernel
theorem dX3_nextOrder_109 : decode cX3_nextOrder 109 = .ok (.getfield 38, 3) := by decide +kernel
theorem dX3_nextOrder_112 : decode cX3_nextOrder 112 = .ok (.iload_n 2, 1) := by decide +kernel
theorem dX3_nextOrder_113 : decode cX3_nextOrder 113 = .ok (.iload 4, 2) := by decide +kernel
theorem dX3_nextOrder_115 : decode cX3_nextOrder 115 = .ok (.iadd, 1) := by decide +kernel
theorem dX3_nextOrder_116 : decode cX3_nextOrder 116 = .ok (.iaload, 1) := by decide +kernel
theorem dX3_nextOrder_117 : decode cX3_nextOrder 117 = .ok (.iastore, 1) := by decide +kernel
theorem dX3_nextOrder_118 : decode cX3_nextOrder 118 = .ok (.aload_n 0, 1) := by decide +kernel
theorem dX3_nextOrder_119 : decode cX3_nextOrder 119 = .ok (.getfield 38, 3) := by decide +kernel
theorem dX3_nextOrder_122 : decode cX3_nextOrder 122 = .ok (.iload_n 2, 1) := by decide +kernel
theorem dX3_nextOrder_123 : decode cX3_nextOrder 123 = .ok (.iload 4, 2) := by decide +kernel
theorem dX3_nextOrder_125 : decode cX3_nextOrder 125 = .ok (.iadd, 1) := by decide +kernel
theorem dX3_nextOrder_126 : decode cX3_nextOrder 126 = .ok (.iload 5, 2) := by decide +kernel
theorem dX3_nextOrder_128 : decode cX3_nextOrder 128 = .ok (.iastore, 1) := by decide +kernel
theorem dX3_nextOrder_129 : decode cX3_nextOrder 129 = .ok (.iload_n 3, 1) := by decide +kernel
theorem dX3_nextOrder_130 : decode cX3_nextOrder 130 = .ok (.iconst 1, 1) := by decide +kernel
theorem dX3_nextOrder_131 : decode cX3_nextOrder 131 = .ok (.iadd, 1) := by decide +kernel
theorem dX3_nextOrder_132 : decode cX3_nextOrder 132 = .ok (.istore 6, 2) := by decide +kernel
theorem dX3_nextOrder_134 : decode cX3_nextOrder 134 = .ok (.aload_n 0, 1) := by decide +kernel
theorem dX3_nextOrder_135 : decode cX3_nextOrder 135 = .ok (.getfield 41, 3) := by decide +kernel
theorem dX3_nextOrder_138 : decode cX3_nextOrder 138 = .ok (.iload_n 1, 1) := by decide +kernel
theorem dX3_nextOrder_139 : decode cX3_nextOrder 139 = .ok (.iaload, 1) := by decide +kernel
theorem dX3_nextOrder_140 : decode cX3_nextOrder 140 = .ok (.iconst 1, 1) := by decide +kernel
theorem dX3_nextOrder_141 : decode cX3_nextOrder 141 = .ok (.isub, 1) := by decide +kernel
theorem dX3_nextOrder_142 : decode cX3_nextOrder 142 = .ok (.istore 7, 2) := by decide +kernel
theorem dX3_nextOrder_144 : decode cX3_nextOrder 144 = .ok (.iload 6, 2) := by decide +kernel
theorem dX3_nextOrder_146 : decode cX3_nextOrder 146 = .ok (.iload 7, 2) := by decide +kernel
theorem dX3_nextOrder_148 : decode cX3_nextOrder 148 = .ok (.if_icmp .ge 52, 3) := by decide +kernel
theorem dX3_nextOrder_151 : decode cX3_nextOrder 151 = .ok (.aload_n 0, 1) := by decide +kernel
theorem dX3_nextOrder_152 : decode cX3_nextOrder 152 = .ok (.getfield 38, 3) := by decide +kernel
theorem dX3_nextOrder_155 : decode cX3_nextOrder 155 = .ok (.iload_n 2, 1) := by decide +kernel
theorem dX3_nextOrder_156 : decode cX3_nextOrder 156 = .ok (.iload 6, 2) := by decide +kernel
theorem dX3_nextOrder_158 : decode cX3_nextOrder 158 = .ok (.iadd, 1) := by decide +kernel
theorem dX3_nextOrder_159 : decode cX3_nextOrder 159 = .ok (.iaload, 1) := by decide +kernel
theorem dX3_nextOrder_160 : decode cX3_nextOrder 160 = .ok (.istore 8, 2) := by decide +kernel
theorem dX3_nextOrder_162 : decode cX3_nextOrder 162 = .ok (.aload_n 0, 1) := by decide +kernel
theorem dX3_nextOrder_163 : decode cX3_nextOrder 163 = .ok (.getfield 38, 3) := by decide +kernel
theorem dX3_nextOrder_166 : decode cX3_nextOrder 166 = .ok (.iload_n 2, 1) := by decide +kernel
theorem dX3_nextOrder_167 : decode cX3_nextOrder 167 = .ok (.iload 6, 2) := by decide +kernel
theorem dX3_nextOrder_169 : decode cX3_nextOrder 169 = .ok (.iadd, 1) := by decide +kernel
theorem dX3_nextOrder_170 : decode cX3_nextOrder 170 = .ok (.aload_n 0, 1) := by decide +kernel
theorem dX3_nextOrder_171 : decode cX3_nextOrder 171 = .ok (.getfield 38, 3) := by decide +kernel
theorem dX3_nextOrder_174 : decode cX3_nextOrder 174 = .ok (.iload_n 2, 1) := by decide +kernel
theorem dX3_nextOrder_175 : decode cX3_nextOrder 175 = .ok (.iload 7, 2) := by decide +kernel
theorem dX3_nextOrder_177 : decode cX3_nextOrder 177 = .ok (.iadd, 1) := by decide +kernel
theorem dX3_nextOrder_178 : decode cX3_nextOrder 178 = .ok (.iaload, 1) := by decide +kernel
theorem dX3_nextOrder_179 : decode cX3_nextOrder 179 = .ok (.iastore, 1) := by decide +kernel
theorem dX3_nextOrder_180 : decode cX3_nextOrder 180 = .ok (.aload_n 0, 1) := by decide +kernel
theorem dX3_nextOrder_181 : decode cX3_nextOrder 181 = .ok (.getfield 38, 3) := by decide +kernel
theorem dX3_nextOrder_184 : decode cX3_nextOrder 184 = .ok (.iload_n 2, 1) := by decide +kernel
theorem dX3_nextOrder_185 : decode cX3_nextOrder 185 = .ok (.iload 7, 2) := by decide +kernel
theorem dX3_nextOrder_187 : decode cX3_nextOrder 187 = .ok (.iadd, 1) := by decide +kernel
theorem dX3_nextOrder_188 : decode cX3_nextOrder 188 = .ok (.iload 8, 2) := by decide +kernel
theorem dX3_nextOrder_190 : decode cX3_nextOrder 190 = .ok (.iastore, 1) := by decide +kernel
theorem dX3_nextOrder_191 : decode cX3_nextOrder 191 = .ok (.iinc 6 1, 3) := by decide +kernel
theorem dX3_nextOrder_194 : decode cX3_nextOrder 194 = .ok (.iinc 7 (-1), 3) := by decide +kernel
theorem dX3_nextOrder_197 : decode cX3_nextOrder 197 = .ok (.goto (-53), 3) := by decide +kernel
theorem dX3_nextOrder_200 : decode cX3_nextOrder 200 = .ok (.iconst 1, 1) := by decide +kernel
theorem dX3_nextOrder_201 : decode cX3_nextOrder 201 = .ok (.ireturn, 1) := by decide +kernel
theorem dX3_choose_0 : decode cX3_choose 0 = .ok (.iconst 0, 1) := by decide +kernel
theorem dX3_choose_1 : decode cX3_choose 1 = .ok (.istore_n 1, 1) := by decide +kernel
theorem dX3_choose_2 : decode cX3_choose 2 = .ok (.iload_n 1, 1) := by decide +kernel
theorem dX3_choose_3 : decode cX3_choose 3 = .ok (.sipush 144, 3) := by decide +kernel
theorem dX3_choose_6 : decode cX3_choose 6 = .ok (.if_icmp .ge 16, 3) := by decide +kernel
theorem dX3_choose_9 : decode cX3_choose 9 = .ok (.aload_n 0, 1) := by decide +kernel
theorem dX3_choose_10 : decode cX3_choose 10 = .ok (.getfield 35, 3) := by decide +kernel
theorem dX3_choose_13 : decode cX3_choose 13 = .ok (.iload_n 1, 1) := by decide +kernel
theorem dX3_choose_14 : decode cX3_choose 14 = .ok (.iconst 0, 1) := by decide +kernel
theorem dX3_choose_15 : decode cX3_choose 15 = .ok (.bastore, 1) := by decide +kernel
theorem dX3_choose_16 : decode cX3_choose 16 = .ok (.iinc 1 1, 3) := by decide +kernel
theorem dX3_choose_19 : decode cX3_choose 19 = .ok (.goto (-17), 3) := by decide +kernel
theorem dX3_choose_22 : decode cX3_choose 22 = .ok (.iconst 0, 1) := by decide +kernel
theorem dX3_choose_23 : decode cX3_choose 23 = .ok (.istore_n 1, 1) := by decide +kernel
theorem dX3_choose_24 : decode cX3_choose 24 = .ok (.iload_n 1, 1) := by decide +kernel
theorem dX3_choose_25 : decode cX3_choose 25 = .ok (.iconst 4, 1) := by decide +kernel
theorem dX3_choose_26 : decode cX3_choose 26 = .ok (.if_icmp .ge 77, 3) := by decide +kernel
theorem dX3_choose_29 : decode cX3_choose 29 = .ok (.iconst 0, 1) := by decide +kernel
theorem dX3_choose_30 : decode cX3_choose 30 = .ok (.istore_n 2, 1) := by decide +kernel
theorem dX3_choose_31 : decode cX3_choose 31 = .ok (.iload_n 2, 1) := by decide +kernel
theorem dX3_choose_32 : decode cX3_choose 32 = .ok (.aload_n 0, 1) := by decide +kernel
theorem dX3_choose_33 : decode cX3_choose 33 = .ok (.getfield 41, 3) := by decide +kernel
theorem dX3_choose_36 : decode cX3_choose 36 = .ok (.iload_n 1, 1) := by decide +kernel
theorem dX3_choose_37 : decode cX3_choose 37 = .ok (.iaload, 1) := by decide +kernel
theorem dX3_choose_38 : decode cX3_choose 38 = .ok (.if_icmp .ge 59, 3) := by decide +kernel
theorem dX3_choose_41 : decode cX3_choose 41 = .ok (.iload_n 2, 1) := by decide +kernel
theorem dX3_choose_42 : decode cX3_choose 42 = .ok (.iconst 1, 1) := by decide +kernel
theorem dX3_choose_43 : decode cX3_choose 43 = .ok (.iadd, 1) := by decide +kernel
theorem dX3_choose_44 : decode cX3_choose 44 = .ok (.istore_n 3, 1) := by decide +kernel
theorem dX3_choose_45 : decode cX3_choose 45 = .ok (.iload_n 3, 1) := by decide +kernel
theorem dX3_choose_46 : decode cX3_choose 46 = .ok (.aload_n 0, 1) := by decide +kernel
theorem dX3_choose_47 : decode cX3_choose 47 = .ok (.getfield 41, 3) := by decide +kernel
theorem dX3_choose_50 : decode cX3_choose 50 = .ok (.iload_n 1, 1) := by decide +kernel
theorem dX3_choose_51 : decode cX3_choose 51 = .ok (.iaload, 1) := by decide +kernel
theorem dX3_choose_52 : decode cX3_choose 52 = .ok (.if_icmp .ge 39, 3) := by decide +kernel
theorem dX3_choose_55 : decode cX3_choose 55 = .ok (.aload_n 0, 1) := by decide +kernel
theorem dX3_choose_56 : decode cX3_choose 56 = .ok (.getfield 35, 3) := by decide +kernel
theorem dX3_choose_59 : decode cX3_choose 59 = .ok (.bipush 12, 2) := by decide +kernel
theorem dX3_choose_61 : decode cX3_choose 61 = .ok (.aload_n 0, 1) := by decide +kernel
theorem dX3_choose_62 : decode cX3_choose 62 = .ok (.getfield 38, 3) := by decide +kernel
theorem dX3_choose_65 : decode cX3_choose 65 = .ok (.iconst 4, 1) := by decide +kernel
theorem dX3_choose_66 : decode cX3_choose 66 = .ok (.iload_n 1, 1) := by decide +kernel
theorem dX3_choose_67 : decode cX3_choose 67 = .ok (.imul, 1) := by decide +kernel
theorem dX3_choose_68 : decode cX3_choose 68 = .ok (.iload_n 2, 1) := by decide +kernel
theorem dX3_choose_69 : decode cX3_choose 69 = .ok (.iadd, 1) := by decide +kernel
theorem dX3_choose_70 : decode cX3_choose 70 = .ok (.iaload, 1) := by decide +kernel
theorem dX3_choose_71 : decode cX3_choose 71 = .ok (.imul, 1) := by decide +kernel
theorem dX3_choose_72 : decode cX3_choose 72 = .ok (.aload_n 0, 1) := by decide +kernel
theorem dX3_choose_73 : decode cX3_choose 73 = .ok (.getfield 38, 3) := by decide +kernel
theorem dX3_choose_76 : decode cX3_choose 76 = .ok (.iconst 4, 1) := by decide +kernel
theorem dX3_choose_77 : decode cX3_choose 77 = .ok (.iload_n 1, 1) := by decide +kernel
theorem dX3_choose_78 : decode cX3_choose 78 = .ok (.imul, 1) := by decide +kernel
theorem dX3_choose_79 : decode cX3_choose 79 = .ok (.iload_n 3, 1) := by decide +kernel
theorem dX3_choose_80 : decode cX3_choose 80 = .ok (.iadd, 1) := by decide +kernel
theorem dX3_choose_81 : decode cX3_choose 81 = .ok (.iaload, 1) := by decide +kernel
theorem dX3_choose_82 : decode cX3_choose 82 = .ok (.iadd, 1) := by decide +kernel
theorem dX3_choose_83 : decode cX3_choose 83 = .ok (.iconst 1, 1) := by decide +kernel
theorem dX3_choose_84 : decode cX3_choose 84 = .ok (.bastore, 1) := by decide +kernel
theorem dX3_choose_85 : decode cX3_choose 85 = .ok (.iinc 3 1, 3) := by decide +kernel
theorem dX3_choose_88 : decode cX3_choose 88 = .ok (.goto (-43), 3) := by decide +kernel
theorem dX3_choose_91 : decode cX3_choose 91 = .ok (.iinc 2 1, 3) := by decide +kernel
theorem dX3_choose_94 : decode cX3_choose 94 = .ok (.goto (-63), 3) := by decide +kernel
theorem dX3_choose_97 : decode cX3_choose 97 = .ok (.iinc 1 1, 3) := by decide +kernel
theorem dX3_choose_100 : decode cX3_choose 100 = .ok (.goto (-76), 3) := by decide +kernel
theorem dX3_choose_103 : decode cX3_choose 103 = .ok (.iconst 0, 1) := by decide +kernel
theorem dX3_choose_104 : decode cX3_choose 104 = .ok (.istore_n 1, 1) := by decide +kernel
theorem dX3_choose_105 : decode cX3_choose 105 = .ok (.iload_n 1, 1) := by decide +kernel
theorem dX3_choose_106 : decode cX3_choose 106 = .ok (.sipush 144, 3) := by decide +kernel
theorem dX3_choose_109 : decode cX3_choose 109 = .ok (.if_icmp .ge 29, 3) := by decide +kernel
theorem dX3_choose_112 : decode cX3_choose 112 = .ok (.aload_n 0, 1) := by decide +kernel
theorem dX3_choose_113 : decode cX3_choose 113 = .ok (.getfield 19, 3) := by decide +kernel
theorem dX3_choose_116 : decode cX3_choose 116 = .ok (.iload_n 1, 1) := by decide +kernel
theorem dX3_choose_117 : decode cX3_choose 117 = .ok (.baload, 1) := by decide +kernel
theorem dX3_choose_118 : decode cX3_choose 118 = .ok (.ifCond .eq 14, 3) := by decide +kernel
theorem dX3_choose_121 : decode cX3_choose 121 = .ok (.aload_n 0, 1) := by decide +kernel
theorem dX3_choose_122 : decode cX3_choose 122 = .ok (.getfield 35, 3) := by decide +kernel
theorem dX3_choose_125 : decode cX3_choose 125 = .ok (.iload_n 1, 1) := by decide +kernel
theorem dX3_choose_126 : decode cX3_choose 126 = .ok (.baload, 1) := by decide +kernel
theorem dX3_choose_127 : decode cX3_choose 127 = .ok (.ifCond .ne 5, 3) := by decide +kernel
theorem dX3_choose_130 : decode cX3_choose 130 = .ok (.iconst 0, 1) := by decide +kernel
theorem dX3_choose_131 : decode cX3_choose 131 = .ok (.ireturn, 1) := by decide +kernel
theorem dX3_choose_132 : decode cX3_choose 132 = .ok (.iinc 1 1, 3) := by decide +kernel
theorem dX3_choose_135 : decode cX3_choose 135 = .ok (.goto (-30), 3) := by decide +kernel
theorem dX3_choose_138 : decode cX3_choose 138 = .ok (.iconst 1, 1) := by decide +kernel
theorem dX3_choose_139 : decode cX3_choose 139 = .ok (.ireturn, 1) := by decide +kernel
theorem dX3_isEarlier_0 : decode cX3_isEarlier 0 = .ok (.iconst 0, 1) := by decide +kernel
theorem dX3_isEarlier_1 : decode cX3_isEarlier 1 = .ok (.istore_n 1, 1) := by decide +kernel
theorem dX3_isEarlier_2 : decode cX3_isEarlier 2 = .ok (.iload_n 1, 1) := by decide +kernel
theorem dX3_isEarlier_3 : decode cX3_isEarlier 3 = .ok (.aload_n 0, 1) := by decide +kernel
theorem dX3_isEarlier_4 : decode cX3_isEarlier 4 = .ok (.getfield 48, 3) := by decide +kernel
theorem dX3_isEarlier_7 : decode cX3_isEarlier 7 = .ok (.if_icmp .ge 45, 3) := by decide +kernel
theorem dX3_isEarlier_10 : decode cX3_isEarlier 10 = .ok (.aload_n 0, 1) := by decide +kernel
theorem dX3_isEarlier_11 : decode cX3_isEarlier 11 = .ok (.getfield 29, 3) := by decide +kernel
theorem dX3_isEarlier_14 : decode cX3_isEarlier 14 = .ok (.iload_n 1, 1) := by decide +kernel
theorem dX3_isEarlier_15 : decode cX3_isEarlier 15 = .ok (.iaload, 1) := by decide +kernel
theorem dX3_isEarlier_16 : decode cX3_isEarlier 16 = .ok (.aload_n 0, 1) := by decide +kernel
theorem dX3_isEarlier_17 : decode cX3_isEarlier 17 = .ok (.getfield 26, 3) := by decide +kernel
theorem dX3_isEarlier_20 : decode cX3_isEarlier 20 = .ok (.iload_n 1, 1) := by decide +kernel
theorem dX3_isEarlier_21 : decode cX3_isEarlier 21 = .ok (.iaload, 1) := by decide +kernel
theorem dX3_isEarlier_22 : decode cX3_isEarlier 22 = .ok (.if_icmp .eq 24, 3) := by decide +kernel
theorem dX3_isEarlier_25 : decode cX3_isEarlier 25 = .ok (.aload_n 0, 1) := by decide +kernel
theorem dX3_isEarlier_26 : decode cX3_isEarlier 26 = .ok (.getfield 29, 3) := by decide +kernel
theorem dX3_isEarlier_29 : decode cX3_isEarlier 29 = .ok (.iload_n 1, 1) := by decide +kernel
theorem dX3_isEarlier_30 : decode cX3_isEarlier 30 = .ok (.iaload, 1) := by decide +kernel
theorem dX3_isEarlier_31 : decode cX3_isEarlier 31 = .ok (.aload_n 0, 1) := by decide +kernel
theorem dX3_isEarlier_32 : decode cX3_isEarlier 32 = .ok (.getfield 26, 3) := by decide +kernel
theorem dX3_isEarlier_35 : decode cX3_isEarlier 35 = .ok (.iload_n 1, 1) := by decide +kernel
theorem dX3_isEarlier_36 : decode cX3_isEarlier 36 = .ok (.iaload, 1) := by decide +kernel
theorem dX3_isEarlier_37 : decode cX3_isEarlier 37 = .ok (.if_icmp .ge 7, 3) := by decide +kernel
theorem dX3_isEarlier_40 : decode cX3_isEarlier 40 = .ok (.iconst 1, 1) := by decide +kernel
theorem dX3_isEarlier_41 : decode cX3_isEarlier 41 = .ok (.goto 4, 3) := by decide +kernel
theorem dX3_isEarlier_44 : decode cX3_isEarlier 44 = .ok (.iconst 0, 1) := by decide +kernel
theorem dX3_isEarlier_45 : decode cX3_isEarlier 45 = .ok (.ireturn, 1) := by decide +kernel
theorem dX3_isEarlier_46 : decode cX3_isEarlier 46 = .ok (.iinc 1 1, 3) := by decide +kernel
theorem dX3_isEarlier_49 : decode cX3_isEarlier 49 = .ok (.goto (-47), 3) := by decide +kernel
theorem dX3_isEarlier_52 : decode cX3_isEarlier 52 = .ok (.iconst 0, 1) := by decide +kernel
theorem dX3_isEarlier_53 : decode cX3_isEarlier 53 = .ok (.ireturn, 1) := by decide +kernel
set_option maxRecDepth 20000 in
theorem ggX3_weigh_X3_isEarlier : GoodIn wsX3_weigh wsX3_isEarlier := goodIn_r _ [12, 1, 2, 7, 13, 14, 15, 16, 17, 18, 19, 20, 21, 22, 23, 24, 25, 26, 27, 28] (by decide +kernel) (by decide +kernel)
set_option maxRecDepth 20000 in
theorem gX3_weigh_X3_isEarlier : GoodIn wsX3_weigh (wsV RX3 109 RX3 yX3_isEarlier wsX3_isEarlier) := goodIn_app (goodIn_of _ (by decide +kernel)) ggX3_weigh_X3_isEarlier
theorem dX3_weigh_0 : decode cX3_weigh 0 = .ok (.iconst 0, 1) := by decide +kernel
theorem dX3_weigh_1 : decode cX3_weigh 1 = .ok (.istore_n 1, 1) := by decide +kernel
theorem dX3_weigh_2 : decode cX3_weigh 2 = .ok (.iconst 0, 1) := by decide +kernel
theorem dX3_weigh_3 : decode cX3_weigh 3 = .ok (.istore_n 2, 1) := by decide +kernel
theorem dX3_weigh_4 : decode cX3_weigh 4 = .ok (.iload_n 2, 1) := by decide +kernel
theorem dX3_weigh_5 : decode cX3_weigh 5 = .ok (.aload_n 0, 1) := by decide +kernel
theorem dX3_weigh_6 : decode cX3_weigh 6 = .ok (.getfield 48, 3) := by decide +kernel
theorem dX3_weigh_9 : decode cX3_weigh 9 = .ok (.if_icmp .ge 34, 3) := by decide +kernel
theorem dX3_weigh_12 : decode cX3_weigh 12 = .ok (.aload_n 0, 1) := by decide +kernel
theorem dX3_weigh_13 : decode cX3_weigh 13 = .ok (.getfield 29, 3) := by decide +kernel
theorem dX3_weigh_16 : decode cX3_weigh 16 = .ok (.iload_n 2, 1) := by decide +kernel
theorem dX3_weigh_17 : decode cX3_weigh 17 = .ok (.iaload, 1) := by decide +kernel
theorem dX3_weigh_18 : decode cX3_weigh 18 = .ok (.aload_n 0, 1) := by decide +kernel
theorem dX3_weigh_19 : decode cX3_weigh 19 = .ok (.getfield 16, 3) := by decide +kernel
theorem dX3_weigh_22 : decode cX3_weigh 22 = .ok (.iload_n 2, 1) := by decide +kernel
theorem dX3_weigh_23 : decode cX3_weigh 23 = .ok (.iaload, 1) := by decide +kernel
theorem dX3_weigh_24 : decode cX3_weigh 24 = .ok (.iadd, 1) := by decide +kernel
theorem dX3_weigh_25 : decode cX3_weigh 25 = .ok (.istore_n 3, 1) := by decide +kernel
theorem dX3_weigh_26 : decode cX3_weigh 26 = .ok (.iload_n 3, 1) := by decide +kernel
theorem dX3_weigh_27 : decode cX3_weigh 27 = .ok (.iload_n 1, 1) := by decide +kernel
theorem dX3_weigh_28 : decode cX3_weigh 28 = .ok (.if_icmp .le 7, 3) := by decide +kernel
theorem dX3_weigh_31 : decode cX3_weigh 31 = .ok (.iload_n 3, 1) := by decide +kernel
theorem dX3_weigh_32 : decode cX3_weigh 32 = .ok (.goto 4, 3) := by decide +kernel
theorem dX3_weigh_35 : decode cX3_weigh 35 = .ok (.iload_n 1, 1) := by decide +kernel
theorem dX3_weigh_36 : decode cX3_weigh 36 = .ok (.istore_n 1, 1) := by decide +kernel
theorem dX3_weigh_37 : decode cX3_weigh 37 = .ok (.iinc 2 1, 3) := by decide +kernel
theorem dX3_weigh_40 : decode cX3_weigh 40 = .ok (.goto (-36), 3) := by decide +kernel
theorem dX3_weigh_43 : decode cX3_weigh 43 = .ok (.aload_n 0, 1) := by decide +kernel
theorem dX3_weigh_44 : decode cX3_weigh 44 = .ok (.getfield 59, 3) := by decide +kernel
theorem dX3_weigh_47 : decode cX3_weigh 47 = .ok (.ifCond .eq 11, 3) := by decide +kernel
theorem dX3_weigh_50 : decode cX3_weigh 50 = .ok (.iload_n 1, 1) := by decide +kernel
theorem dX3_weigh_51 : decode cX3_weigh 51 = .ok (.aload_n 0, 1) := by decide +kernel
theorem dX3_weigh_52 : decode cX3_weigh 52 = .ok (.getfield 44, 3) := by decide +kernel
theorem dX3_weigh_55 : decode cX3_weigh 55 = .ok (.if_icmp .ge 7, 3) := by decide +kernel
theorem dX3_weigh_58 : decode cX3_weigh 58 = .ok (.iconst 1, 1) := by decide +kernel
theorem dX3_weigh_59 : decode cX3_weigh 59 = .ok (.goto 4, 3) := by decide +kernel
theorem dX3_weigh_62 : decode cX3_weigh 62 = .ok (.iconst 0, 1) := by decide +kernel
theorem dX3_weigh_63 : decode cX3_weigh 63 = .ok (.istore_n 2, 1) := by decide +kernel
theorem dX3_weigh_64 : decode cX3_weigh 64 = .ok (.aload_n 0, 1) := by decide +kernel
theorem dX3_weigh_65 : decode cX3_weigh 65 = .ok (.getfield 59, 3) := by decide +kernel
theorem dX3_weigh_68 : decode cX3_weigh 68 = .ok (.ifCond .eq 15, 3) := by decide +kernel
theorem dX3_weigh_71 : decode cX3_weigh 71 = .ok (.iload_n 1, 1) := by decide +kernel
theorem dX3_weigh_72 : decode cX3_weigh 72 = .ok (.aload_n 0, 1) := by decide +kernel
theorem dX3_weigh_73 : decode cX3_weigh 73 = .ok (.getfield 44, 3) := by decide +kernel
theorem dX3_weigh_76 : decode cX3_weigh 76 = .ok (.if_icmp .ne 7, 3) := by decide +kernel
theorem dX3_weigh_79 : decode cX3_weigh 79 = .ok (.iconst 1, 1) := by decide +kernel
theorem dX3_weigh_80 : decode cX3_weigh 80 = .ok (.goto 4, 3) := by decide +kernel
theorem dX3_weigh_83 : decode cX3_weigh 83 = .ok (.iconst 0, 1) := by decide +kernel
theorem dX3_weigh_84 : decode cX3_weigh 84 = .ok (.istore_n 3, 1) := by decide +kernel
theorem dX3_weigh_85 : decode cX3_weigh 85 = .ok (.aload_n 0, 1) := by decide +kernel
theorem dX3_weigh_86 : decode cX3_weigh 86 = .ok (.iload_n 2, 1) := by decide +kernel
theorem dX3_weigh_87 : decode cX3_weigh 87 = .ok (.ifCond .eq 7, 3) := by decide +kernel
theorem dX3_weigh_90 : decode cX3_weigh 90 = .ok (.iconst 1, 1) := by decide +kernel
theorem dX3_weigh_91 : decode cX3_weigh 91 = .ok (.goto 20, 3) := by decide +kernel
theorem dX3_weigh_94 : decode cX3_weigh 94 = .ok (.iload_n 3, 1) := by decide +kernel
theorem dX3_weigh_95 : decode cX3_weigh 95 = .ok (.ifCond .eq 12, 3) := by decide +kernel
theorem dX3_weigh_98 : decode cX3_weigh 98 = .ok (.aload_n 0, 1) := by decide +kernel
theorem dX3_weigh_99 : decode cX3_weigh 99 = .ok (.getfield 106, 3) := by decide +kernel
theorem dX3_weigh_102 : decode cX3_weigh 102 = .ok (.iconst 1, 1) := by decide +kernel
theorem dX3_weigh_103 : decode cX3_weigh 103 = .ok (.iadd, 1) := by decide +kernel
theorem dX3_weigh_104 : decode cX3_weigh 104 = .ok (.goto 7, 3) := by decide +kernel
theorem dX3_weigh_107 : decode cX3_weigh 107 = .ok (.aload_n 0, 1) := by decide +kernel
theorem dX3_weigh_108 : decode cX3_weigh 108 = .ok (.getfield 106, 3) := by decide +kernel
theorem dX3_weigh_111 : decode cX3_weigh 111 = .ok (.putfield 106, 3) := by decide +kernel
theorem dX3_weigh_114 : decode cX3_weigh 114 = .ok (.iload_n 2, 1) := by decide +kernel
theorem dX3_weigh_115 : decode cX3_weigh 115 = .ok (.ifCond .ne 14, 3) := by decide +kernel
theorem dX3_weigh_118 : decode cX3_weigh 118 = .ok (.iload_n 3, 1) := by decide +kernel
theorem dX3_weigh_119 : decode cX3_weigh 119 = .ok (.ifCond .eq 42, 3) := by decide +kernel
theorem dX3_weigh_122 : decode cX3_weigh 122 = .ok (.aload_n 0, 1) := by decide +kernel
theorem dX3_weigh_123 : decode cX3_weigh 123 = .ok (.invokevirtual 109, 3) := by decide +kernel
theorem dX3_weigh_126 : decode cX3_weigh 126 = .ok (.ifCond .eq 35, 3) := by decide +kernel
theorem dX3_weigh_129 : decode cX3_weigh 129 = .ok (.iconst 0, 1) := by decide +kernel
theorem dX3_weigh_130 : decode cX3_weigh 130 = .ok (.istore 4, 2) := by decide +kernel
theorem dX3_weigh_132 : decode cX3_weigh 132 = .ok (.iload 4, 2) := by decide +kernel
theorem dX3_weigh_134 : decode cX3_weigh 134 = .ok (.aload_n 0, 1) := by decide +kernel
theorem dX3_weigh_135 : decode cX3_weigh 135 = .ok (.getfield 48, 3) := by decide +kernel
theorem dX3_weigh_138 : decode cX3_weigh 138 = .ok (.if_icmp .ge 23, 3) := by decide +kernel
theorem dX3_weigh_141 : decode cX3_weigh 141 = .ok (.aload_n 0, 1) := by decide +kernel
theorem dX3_weigh_142 : decode cX3_weigh 142 = .ok (.getfield 26, 3) := by decide +kernel
theorem dX3_weigh_145 : decode cX3_weigh 145 = .ok (.iload 4, 2) := by decide +kernel
theorem dX3_weigh_147 : decode cX3_weigh 147 = .ok (.aload_n 0, 1) := by decide +kernel
theorem dX3_weigh_148 : decode cX3_weigh 148 = .ok (.getfield 29, 3) := by decide +kernel
theorem dX3_weigh_151 : decode cX3_weigh 151 = .ok (.iload 4, 2) := by decide +kernel
theorem dX3_weigh_153 : decode cX3_weigh 153 = .ok (.iaload, 1) := by decide +kernel
theorem dX3_weigh_154 : decode cX3_weigh 154 = .ok (.iastore, 1) := by decide +kernel
theorem dX3_weigh_155 : decode cX3_weigh 155 = .ok (.iinc 4 1, 3) := by decide +kernel
theorem dX3_weigh_158 : decode cX3_weigh 158 = .ok (.goto (-26), 3) := by decide +kernel
theorem dX3_weigh_161 : decode cX3_weigh 161 = .ok (.aload_n 0, 1) := by decide +kernel
theorem dX3_weigh_162 : decode cX3_weigh 162 = .ok (.iload_n 2, 1) := by decide +kernel
theorem dX3_weigh_163 : decode cX3_weigh 163 = .ok (.ifCond .eq 7, 3) := by decide +kernel
theorem dX3_weigh_166 : decode cX3_weigh 166 = .ok (.iload_n 1, 1) := by decide +kernel
theorem dX3_weigh_167 : decode cX3_weigh 167 = .ok (.goto 7, 3) := by decide +kernel
theorem dX3_weigh_170 : decode cX3_weigh 170 = .ok (.aload_n 0, 1) := by decide +kernel
theorem dX3_weigh_171 : decode cX3_weigh 171 = .ok (.getfield 44, 3) := by decide +kernel
theorem dX3_weigh_174 : decode cX3_weigh 174 = .ok (.putfield 44, 3) := by decide +kernel
theorem dX3_weigh_177 : decode cX3_weigh 177 = .ok (.aload_n 0, 1) := by decide +kernel
theorem dX3_weigh_178 : decode cX3_weigh 178 = .ok (.iconst 1, 1) := by decide +kernel
theorem dX3_weigh_179 : decode cX3_weigh 179 = .ok (.putfield 59, 3) := by decide +kernel
theorem dX3_weigh_182 : decode cX3_weigh 182 = .ok (.return_, 1) := by decide +kernel
set_option maxRecDepth 20000 in
theorem ggX3_solve_X3_layFirst : GoodIn wsX3_solve wsX3_layFirst := goodIn_r _ [8, 9, 10, 11, 12, 47, 48, 49, 50, 51, 52, 53, 54, 55, 56, 57, 58, 59, 60, 61, 62] (by decide +kernel) (by decide +kernel)
set_option maxRecDepth 20000 in
theorem gX3_solve_X3_layFirst : GoodIn wsX3_solve (wsV RX3 102 RX3 yX3_layFirst wsX3_layFirst) := goodIn_app (goodIn_of _ (by decide +kernel)) ggX3_solve_X3_layFirst
set_option maxRecDepth 20000 in
theorem ggX3_solve_X3_choose : GoodIn wsX3_solve wsX3_choose := goodIn_r _ [16, 2, 9, 12, 17, 47, 48, 49, 50, 51, 52, 53, 54, 55, 56, 57, 58, 59, 60, 61, 62] (by decide +kernel) (by decide +kernel)
set_option maxRecDepth 20000 in
theorem gX3_solve_X3_choose : GoodIn wsX3_solve (wsV RX3 113 RX3 yX3_choose wsX3_choose) := goodIn_app (goodIn_of _ (by decide +kernel)) ggX3_solve_X3_choose
set_option maxRecDepth 20000 in
theorem ggX3_solve_X3_findHeads : GoodIn wsX3_solve wsX3_findHeads := goodIn_r _ [21, 10, 22, 23, 24, 25, 26, 7, 27, 28, 29, 30, 31, 32, 47, 48, 49, 50, 51, 52, 53, 54, 55, 56, 57, 58, 59, 60, 61, 62] (by decide +kernel) (by decide +kernel)
set_option maxRecDepth 20000 in
theorem gX3_solve_X3_findHeads : GoodIn wsX3_solve (wsV RX3 77 RX3 yX3_findHeads wsX3_findHeads) := goodIn_app (goodIn_of _ (by decide +kernel)) ggX3_solve_X3_findHeads
set_option maxRecDepth 20000 in
theorem ggX3_solve_X3_weigh : GoodIn wsX3_solve wsX3_weigh := goodIn_r _ [36, 10, 22, 23, 1, 3, 37, 38, 39, 40, 41, 7, 42, 47, 48, 49, 50, 51, 52, 53, 54, 55, 56, 57, 58, 59, 60, 61, 62] (by decide +kernel) (by decide +kernel)
set_option maxRecDepth 20000 in
theorem gX3_solve_X3_weigh : GoodIn wsX3_solve (wsV RX3 116 RX3 yX3_weigh wsX3_weigh) := goodIn_app (goodIn_of _ (by decide +kernel)) ggX3_solve_X3_weigh
set_option maxRecDepth 20000 in
theorem ggX3_solve_X3_nextOrder : GoodIn wsX3_solve wsX3_nextOrder := goodIn_r _ [46, 9, 12, 4, 5, 6, 7, 8, 10, 11, 47, 48, 49, 50, 51, 52, 53, 54, 55, 56, 57, 58, 59, 60, 61, 62] (by decide +kernel) (by decide +kernel)
set_option maxRecDepth 20000 in
theorem gX3_solve_X3_nextOrder : GoodIn wsX3_solve (wsV RX3 119 RX3 yX3_nextOrder wsX3_nextOrder) := goodIn_app (goodIn_of _ (by decide +kernel)) ggX3_solve_X3_nextOrder
theorem dX3_solve_0 : decode cX3_solve 0 = .ok (.aload_n 0, 1) := by decide +kernel
theorem dX3_solve_1 : decode cX3_solve 1 = .ok (.iconst 0, 1) := by decide +kernel
theorem dX3_solve_2 : decode cX3_solve 2 = .ok (.putfield 59, 3) := by decide +kernel
theorem dX3_solve_5 : decode cX3_solve 5 = .ok (.iconst 0, 1) := by decide +kernel
theorem dX3_solve_6 : decode cX3_solve 6 = .ok (.istore_n 1, 1) := by decide +kernel
theorem dX3_solve_7 : decode cX3_solve 7 = .ok (.iload_n 1, 1) := by decide +kernel
theorem dX3_solve_8 : decode cX3_solve 8 = .ok (.iconst 4, 1) := by decide +kernel
theorem dX3_solve_9 : decode cX3_solve 9 = .ok (.if_icmp .ge 14, 3) := by decide +kernel
theorem dX3_solve_12 : decode cX3_solve 12 = .ok (.aload_n 0, 1) := by decide +kernel
theorem dX3_solve_13 : decode cX3_solve 13 = .ok (.iload_n 1, 1) := by decide +kernel
theorem dX3_solve_14 : decode cX3_solve 14 = .ok (.invokevirtual 102, 3) := by decide +kernel
theorem dX3_solve_17 : decode cX3_solve 17 = .ok (.iinc 1 1, 3) := by decide +kernel
theorem dX3_solve_20 : decode cX3_solve 20 = .ok (.goto (-13), 3) := by decide +kernel
theorem dX3_solve_23 : decode cX3_solve 23 = .ok (.iconst 1, 1) := by decide +kernel
theorem dX3_solve_24 : decode cX3_solve 24 = .ok (.istore_n 1, 1) := by decide +kernel
theorem dX3_solve_25 : decode cX3_solve 25 = .ok (.iload_n 1, 1) := by decide +kernel
theorem dX3_solve_26 : decode cX3_solve 26 = .ok (.ifCond .eq 60, 3) := by decide +kernel
theorem dX3_solve_29 : decode cX3_solve 29 = .ok (.aload_n 0, 1) := by decide +kernel
theorem dX3_solve_30 : decode cX3_solve 30 = .ok (.invokevirtual 113, 3) := by decide +kernel
theorem dX3_solve_33 : decode cX3_solve 33 = .ok (.ifCond .eq 18, 3) := by decide +kernel
theorem dX3_solve_36 : decode cX3_solve 36 = .ok (.aload_n 0, 1) := by decide +kernel
theorem dX3_solve_37 : decode cX3_solve 37 = .ok (.aload_n 0, 1) := by decide +kernel
theorem dX3_solve_38 : decode cX3_solve 38 = .ok (.getfield 35, 3) := by decide +kernel
theorem dX3_solve_41 : decode cX3_solve 41 = .ok (.invokevirtual 77, 3) := by decide +kernel
theorem dX3_solve_44 : decode cX3_solve 44 = .ok (.ifCond .eq 7, 3) := by decide +kernel
theorem dX3_solve_47 : decode cX3_solve 47 = .ok (.aload_n 0, 1) := by decide +kernel
theorem dX3_solve_48 : decode cX3_solve 48 = .ok (.invokevirtual 116, 3) := by decide +kernel
theorem dX3_solve_51 : decode cX3_solve 51 = .ok (.iconst 0, 1) := by decide +kernel
theorem dX3_solve_52 : decode cX3_solve 52 = .ok (.istore_n 2, 1) := by decide +kernel
theorem dX3_solve_53 : decode cX3_solve 53 = .ok (.iload_n 2, 1) := by decide +kernel
theorem dX3_solve_54 : decode cX3_solve 54 = .ok (.iconst 4, 1) := by decide +kernel
theorem dX3_solve_55 : decode cX3_solve 55 = .ok (.if_icmp .ge 17, 3) := by decide +kernel
theorem dX3_solve_58 : decode cX3_solve 58 = .ok (.aload_n 0, 1) := by decide +kernel
theorem dX3_solve_59 : decode cX3_solve 59 = .ok (.iload_n 2, 1) := by decide +kernel
theorem dX3_solve_60 : decode cX3_solve 60 = .ok (.invokevirtual 119, 3) := by decide +kernel
theorem dX3_solve_63 : decode cX3_solve 63 = .ok (.ifCond .ne 9, 3) := by decide +kernel
theorem dX3_solve_66 : decode cX3_solve 66 = .ok (.iinc 2 1, 3) := by decide +kernel
theorem dX3_solve_69 : decode cX3_solve 69 = .ok (.goto (-16), 3) := by decide +kernel
theorem dX3_solve_72 : decode cX3_solve 72 = .ok (.iload_n 2, 1) := by decide +kernel
theorem dX3_solve_73 : decode cX3_solve 73 = .ok (.iconst 4, 1) := by decide +kernel
theorem dX3_solve_74 : decode cX3_solve 74 = .ok (.if_icmp .ge 7, 3) := by decide +kernel
theorem dX3_solve_77 : decode cX3_solve 77 = .ok (.iconst 1, 1) := by decide +kernel
theorem dX3_solve_78 : decode cX3_solve 78 = .ok (.goto 4, 3) := by decide +kernel
theorem dX3_solve_81 : decode cX3_solve 81 = .ok (.iconst 0, 1) := by decide +kernel
theorem dX3_solve_82 : decode cX3_solve 82 = .ok (.istore_n 1, 1) := by decide +kernel
theorem dX3_solve_83 : decode cX3_solve 83 = .ok (.goto (-58), 3) := by decide +kernel
theorem dX3_solve_86 : decode cX3_solve 86 = .ok (.aload_n 0, 1) := by decide +kernel
theorem dX3_solve_87 : decode cX3_solve 87 = .ok (.getfield 44, 3) := by decide +kernel
theorem dX3_solve_90 : decode cX3_solve 90 = .ok (.ireturn, 1) := by decide +kernel
theorem dX3_optima_0 : decode cX3_optima 0 = .ok (.aload_n 0, 1) := by decide +kernel
theorem dX3_optima_1 : decode cX3_optima 1 = .ok (.getfield 59, 3) := by decide +kernel
theorem dX3_optima_4 : decode cX3_optima 4 = .ok (.ifCond .eq 10, 3) := by decide +kernel
theorem dX3_optima_7 : decode cX3_optima 7 = .ok (.aload_n 0, 1) := by decide +kernel
theorem dX3_optima_8 : decode cX3_optima 8 = .ok (.getfield 106, 3) := by decide +kernel
theorem dX3_optima_11 : decode cX3_optima 11 = .ok (.goto 4, 3) := by decide +kernel
theorem dX3_optima_14 : decode cX3_optima 14 = .ok (.iconst (-1), 1) := by decide +kernel
theorem dX3_optima_15 : decode cX3_optima 15 = .ok (.ireturn, 1) := by decide +kernel
set_option maxRecDepth 20000 in
theorem ggX3_at_X3_in : GoodIn wsX3_at wsX3_in := goodIn_r _ [9] (by decide +kernel) (by decide +kernel)
set_option maxRecDepth 20000 in
theorem gX3_at_X3_in : GoodIn wsX3_at (va_wsS RX3 51 yX3_in wsX3_in) := goodIn_app (goodIn_of _ (by decide +kernel)) ggX3_at_X3_in
theorem dX3_at_0 : decode cX3_at 0 = .ok (.iload_n 1, 1) := by decide +kernel
theorem dX3_at_1 : decode cX3_at 1 = .ok (.iconst 0, 1) := by decide +kernel
theorem dX3_at_2 : decode cX3_at 2 = .ok (.iconst 3, 1) := by decide +kernel
theorem dX3_at_3 : decode cX3_at 3 = .ok (.invokestatic 51, 3) := by decide +kernel
theorem dX3_at_6 : decode cX3_at 6 = .ok (.ifCond .ne 6, 3) := by decide +kernel
theorem dX3_at_9 : decode cX3_at 9 = .ok (.bipush (-2), 2) := by decide +kernel
theorem dX3_at_11 : decode cX3_at 11 = .ok (.ireturn, 1) := by decide +kernel
theorem dX3_at_12 : decode cX3_at 12 = .ok (.iconst 0, 1) := by decide +kernel
theorem dX3_at_13 : decode cX3_at 13 = .ok (.istore_n 3, 1) := by decide +kernel
theorem dX3_at_14 : decode cX3_at 14 = .ok (.iload_n 3, 1) := by decide +kernel
theorem dX3_at_15 : decode cX3_at 15 = .ok (.aload_n 0, 1) := by decide +kernel
theorem dX3_at_16 : decode cX3_at 16 = .ok (.getfield 48, 3) := by decide +kernel
theorem dX3_at_19 : decode cX3_at 19 = .ok (.if_icmp .ge 56, 3) := by decide +kernel
theorem dX3_at_22 : decode cX3_at 22 = .ok (.aload_n 0, 1) := by decide +kernel
theorem dX3_at_23 : decode cX3_at 23 = .ok (.getfield 59, 3) := by decide +kernel
theorem dX3_at_26 : decode cX3_at 26 = .ok (.ifCond .eq 49, 3) := by decide +kernel
theorem dX3_at_29 : decode cX3_at 29 = .ok (.aload_n 0, 1) := by decide +kernel
theorem dX3_at_30 : decode cX3_at 30 = .ok (.getfield 13, 3) := by decide +kernel
theorem dX3_at_33 : decode cX3_at 33 = .ok (.iload_n 3, 1) := by decide +kernel
theorem dX3_at_34 : decode cX3_at 34 = .ok (.iaload, 1) := by decide +kernel
theorem dX3_at_35 : decode cX3_at 35 = .ok (.iload_n 1, 1) := by decide +kernel
theorem dX3_at_36 : decode cX3_at 36 = .ok (.if_icmp .ne 33, 3) := by decide +kernel
theorem dX3_at_39 : decode cX3_at 39 = .ok (.iload_n 2, 1) := by decide +kernel
theorem dX3_at_40 : decode cX3_at 40 = .ok (.aload_n 0, 1) := by decide +kernel
theorem dX3_at_41 : decode cX3_at 41 = .ok (.getfield 26, 3) := by decide +kernel
theorem dX3_at_44 : decode cX3_at 44 = .ok (.iload_n 3, 1) := by decide +kernel
theorem dX3_at_45 : decode cX3_at 45 = .ok (.iaload, 1) := by decide +kernel
theorem dX3_at_46 : decode cX3_at 46 = .ok (.aload_n 0, 1) := by decide +kernel
theorem dX3_at_47 : decode cX3_at 47 = .ok (.getfield 26, 3) := by decide +kernel
theorem dX3_at_50 : decode cX3_at 50 = .ok (.iload_n 3, 1) := by decide +kernel
theorem dX3_at_51 : decode cX3_at 51 = .ok (.iaload, 1) := by decide +kernel
theorem dX3_at_52 : decode cX3_at 52 = .ok (.aload_n 0, 1) := by decide +kernel
theorem dX3_at_53 : decode cX3_at 53 = .ok (.getfield 16, 3) := by decide +kernel
theorem dX3_at_56 : decode cX3_at 56 = .ok (.iload_n 3, 1) := by decide +kernel
theorem dX3_at_57 : decode cX3_at 57 = .ok (.iaload, 1) := by decide +kernel
theorem dX3_at_58 : decode cX3_at 58 = .ok (.iadd, 1) := by decide +kernel
theorem dX3_at_59 : decode cX3_at 59 = .ok (.iconst 1, 1) := by decide +kernel
theorem dX3_at_60 : decode cX3_at 60 = .ok (.isub, 1) := by decide +kernel
theorem dX3_at_61 : decode cX3_at 61 = .ok (.invokestatic 51, 3) := by decide +kernel
theorem dX3_at_64 : decode cX3_at 64 = .ok (.ifCond .eq 5, 3) := by decide +kernel
theorem dX3_at_67 : decode cX3_at 67 = .ok (.iload_n 3, 1) := by decide +kernel
theorem dX3_at_68 : decode cX3_at 68 = .ok (.ireturn, 1) := by decide +kernel
theorem dX3_at_69 : decode cX3_at 69 = .ok (.iinc 3 1, 3) := by decide +kernel
theorem dX3_at_72 : decode cX3_at 72 = .ok (.goto (-58), 3) := by decide +kernel
theorem dX3_at_75 : decode cX3_at 75 = .ok (.iconst (-1), 1) := by decide +kernel
theorem dX3_at_76 : decode cX3_at 76 = .ok (.ireturn, 1) := by decide +kernel
set_option maxRecDepth 20000 in
theorem ggX3_draft_X3_isOperation : GoodIn wsX3_draft wsX3_isOperation := goodIn_r _ [6, 7, 8, 9, 5, 10, 11, 12, 13, 14, 15, 16, 17, 18, 19, 20, 21, 22, 23, 24, 25, 26] (by decide +kernel) (by decide +kernel)
set_option maxRecDepth 20000 in
theorem gX3_draft_X3_isOperation : GoodIn wsX3_draft (wsV RX3 55 RX3 yX3_isOperation wsX3_isOperation) := goodIn_app (goodIn_of _ (by decide +kernel)) ggX3_draft_X3_isOperation
set_option maxRecDepth 20000 in
theorem ggX3_draft_X3_in : GoodIn wsX3_draft wsX3_in := goodIn_r _ [10] (by decide +kernel) (by decide +kernel)
set_option maxRecDepth 20000 in
theorem gX3_draft_X3_in : GoodIn wsX3_draft (va_wsS RX3 51 yX3_in wsX3_in) := goodIn_app (goodIn_of _ (by decide +kernel)) ggX3_draft_X3_in
theorem dX3_draft_0 : decode cX3_draft 0 = .ok (.aload_n 0, 1) := by decide +kernel
theorem dX3_draft_1 : decode cX3_draft 1 = .ok (.iload_n 1, 1) := by decide +kernel
theorem dX3_draft_2 : decode cX3_draft 2 = .ok (.invokevirtual 55, 3) := by decide +kernel
theorem dX3_draft_5 : decode cX3_draft 5 = .ok (.ifCond .eq 14, 3) := by decide +kernel
theorem dX3_draft_8 : decode cX3_draft 8 = .ok (.iload_n 2, 1) := by decide +kernel
theorem dX3_draft_9 : decode cX3_draft 9 = .ok (.iconst 0, 1) := by decide +kernel
theorem dX3_draft_10 : decode cX3_draft 10 = .ok (.sipush 1000, 3) := by decide +kernel
theorem dX3_draft_13 : decode cX3_draft 13 = .ok (.invokestatic 51, 3) := by decide +kernel
theorem dX3_draft_16 : decode cX3_draft 16 = .ok (.ifCond .ne 6, 3) := by decide +kernel
theorem dX3_draft_19 : decode cX3_draft 19 = .ok (.bipush (-2), 2) := by decide +kernel
theorem dX3_draft_21 : decode cX3_draft 21 = .ok (.ireturn, 1) := by decide +kernel
theorem dX3_draft_22 : decode cX3_draft 22 = .ok (.aload_n 0, 1) := by decide +kernel
theorem dX3_draft_23 : decode cX3_draft 23 = .ok (.getfield 23, 3) := by decide +kernel
theorem dX3_draft_26 : decode cX3_draft 26 = .ok (.iload_n 1, 1) := by decide +kernel
theorem dX3_draft_27 : decode cX3_draft 27 = .ok (.iaload, 1) := by decide +kernel
theorem dX3_draft_28 : decode cX3_draft 28 = .ok (.istore_n 3, 1) := by decide +kernel
theorem dX3_draft_29 : decode cX3_draft 29 = .ok (.aload_n 0, 1) := by decide +kernel
theorem dX3_draft_30 : decode cX3_draft 30 = .ok (.getfield 23, 3) := by decide +kernel
theorem dX3_draft_33 : decode cX3_draft 33 = .ok (.iload_n 1, 1) := by decide +kernel
theorem dX3_draft_34 : decode cX3_draft 34 = .ok (.iload_n 2, 1) := by decide +kernel
theorem dX3_draft_35 : decode cX3_draft 35 = .ok (.iastore, 1) := by decide +kernel
theorem dX3_draft_36 : decode cX3_draft 36 = .ok (.iload_n 3, 1) := by decide +kernel
theorem dX3_draft_37 : decode cX3_draft 37 = .ok (.ireturn, 1) := by decide +kernel
set_option maxRecDepth 20000 in
theorem ggX3_isOverBehind_X3_leads : GoodIn wsX3_isOverBehind wsX3_leads := goodIn_r _ [9, 10, 11, 12, 8, 13, 1, 14, 15, 16, 17, 18, 19, 20, 21, 22, 23, 24, 25, 26, 27, 28, 29, 30] (by decide +kernel) (by decide +kernel)
set_option maxRecDepth 20000 in
theorem gX3_isOverBehind_X3_leads : GoodIn wsX3_isOverBehind (wsV RX3 73 RX3 yX3_leads wsX3_leads) := goodIn_app (goodIn_of _ (by decide +kernel)) ggX3_isOverBehind_X3_leads
theorem dX3_isOverBehind_0 : decode cX3_isOverBehind 0 = .ok (.iconst 0, 1) := by decide +kernel
theorem dX3_isOverBehind_1 : decode cX3_isOverBehind 1 = .ok (.istore_n 2, 1) := by decide +kernel
theorem dX3_isOverBehind_2 : decode cX3_isOverBehind 2 = .ok (.iload_n 2, 1) := by decide +kernel
theorem dX3_isOverBehind_3 : decode cX3_isOverBehind 3 = .ok (.aload_n 0, 1) := by decide +kernel
theorem dX3_isOverBehind_4 : decode cX3_isOverBehind 4 = .ok (.getfield 48, 3) := by decide +kernel
theorem dX3_isOverBehind_7 : decode cX3_isOverBehind 7 = .ok (.if_icmp .ge 46, 3) := by decide +kernel
theorem dX3_isOverBehind_10 : decode cX3_isOverBehind 10 = .ok (.aload_n 0, 1) := by decide +kernel
theorem dX3_isOverBehind_11 : decode cX3_isOverBehind 11 = .ok (.aload_n 0, 1) := by decide +kernel
theorem dX3_isOverBehind_12 : decode cX3_isOverBehind 12 = .ok (.getfield 19, 3) := by decide +kernel
theorem dX3_isOverBehind_15 : decode cX3_isOverBehind 15 = .ok (.iload_n 1, 1) := by decide +kernel
theorem dX3_isOverBehind_16 : decode cX3_isOverBehind 16 = .ok (.iload_n 2, 1) := by decide +kernel
theorem dX3_isOverBehind_17 : decode cX3_isOverBehind 17 = .ok (.invokevirtual 73, 3) := by decide +kernel
theorem dX3_isOverBehind_20 : decode cX3_isOverBehind 20 = .ok (.ifCond .eq 27, 3) := by decide +kernel
theorem dX3_isOverBehind_23 : decode cX3_isOverBehind 23 = .ok (.aload_n 0, 1) := by decide +kernel
theorem dX3_isOverBehind_24 : decode cX3_isOverBehind 24 = .ok (.getfield 23, 3) := by decide +kernel
theorem dX3_isOverBehind_27 : decode cX3_isOverBehind 27 = .ok (.iload_n 1, 1) := by decide +kernel
theorem dX3_isOverBehind_28 : decode cX3_isOverBehind 28 = .ok (.iaload, 1) := by decide +kernel
theorem dX3_isOverBehind_29 : decode cX3_isOverBehind 29 = .ok (.aload_n 0, 1) := by decide +kernel
theorem dX3_isOverBehind_30 : decode cX3_isOverBehind 30 = .ok (.getfield 16, 3) := by decide +kernel
theorem dX3_isOverBehind_33 : decode cX3_isOverBehind 33 = .ok (.iload_n 1, 1) := by decide +kernel
theorem dX3_isOverBehind_34 : decode cX3_isOverBehind 34 = .ok (.iaload, 1) := by decide +kernel
theorem dX3_isOverBehind_35 : decode cX3_isOverBehind 35 = .ok (.iadd, 1) := by decide +kernel
theorem dX3_isOverBehind_36 : decode cX3_isOverBehind 36 = .ok (.aload_n 0, 1) := by decide +kernel
theorem dX3_isOverBehind_37 : decode cX3_isOverBehind 37 = .ok (.getfield 23, 3) := by decide +kernel
theorem dX3_isOverBehind_40 : decode cX3_isOverBehind 40 = .ok (.iload_n 2, 1) := by decide +kernel
theorem dX3_isOverBehind_41 : decode cX3_isOverBehind 41 = .ok (.iaload, 1) := by decide +kernel
theorem dX3_isOverBehind_42 : decode cX3_isOverBehind 42 = .ok (.if_icmp .le 5, 3) := by decide +kernel
theorem dX3_isOverBehind_45 : decode cX3_isOverBehind 45 = .ok (.iconst 1, 1) := by decide +kernel
theorem dX3_isOverBehind_46 : decode cX3_isOverBehind 46 = .ok (.ireturn, 1) := by decide +kernel
theorem dX3_isOverBehind_47 : decode cX3_isOverBehind 47 = .ok (.iinc 2 1, 3) := by decide +kernel
theorem dX3_isOverBehind_50 : decode cX3_isOverBehind 50 = .ok (.goto (-48), 3) := by decide +kernel
theorem dX3_isOverBehind_53 : decode cX3_isOverBehind 53 = .ok (.iconst 0, 1) := by decide +kernel
theorem dX3_isOverBehind_54 : decode cX3_isOverBehind 54 = .ok (.ireturn, 1) := by decide +kernel
theorem dX3_meets_0 : decode cX3_meets 0 = .ok (.iload_n 1, 1) := by decide +kernel
theorem dX3_meets_1 : decode cX3_meets 1 = .ok (.iconst 1, 1) := by decide +kernel
theorem dX3_meets_2 : decode cX3_meets 2 = .ok (.iadd, 1) := by decide +kernel
theorem dX3_meets_3 : decode cX3_meets 3 = .ok (.istore_n 2, 1) := by decide +kernel
theorem dX3_meets_4 : decode cX3_meets 4 = .ok (.iload_n 2, 1) := by decide +kernel
theorem dX3_meets_5 : decode cX3_meets 5 = .ok (.aload_n 0, 1) := by decide +kernel
theorem dX3_meets_6 : decode cX3_meets 6 = .ok (.getfield 48, 3) := by decide +kernel
theorem dX3_meets_9 : decode cX3_meets 9 = .ok (.if_icmp .ge 70, 3) := by decide +kernel
theorem dX3_meets_12 : decode cX3_meets 12 = .ok (.aload_n 0, 1) := by decide +kernel
theorem dX3_meets_13 : decode cX3_meets 13 = .ok (.getfield 13, 3) := by decide +kernel
theorem dX3_meets_16 : decode cX3_meets 16 = .ok (.iload_n 2, 1) := by decide +kernel
theorem dX3_meets_17 : decode cX3_meets 17 = .ok (.iaload, 1) := by decide +kernel
theorem dX3_meets_18 : decode cX3_meets 18 = .ok (.aload_n 0, 1) := by decide +kernel
theorem dX3_meets_19 : decode cX3_meets 19 = .ok (.getfield 13, 3) := by decide +kernel
theorem dX3_meets_22 : decode cX3_meets 22 = .ok (.iload_n 1, 1) := by decide +kernel
theorem dX3_meets_23 : decode cX3_meets 23 = .ok (.iaload, 1) := by decide +kernel
theorem dX3_meets_24 : decode cX3_meets 24 = .ok (.if_icmp .ne 49, 3) := by decide +kernel
theorem dX3_meets_27 : decode cX3_meets 27 = .ok (.aload_n 0, 1) := by decide +kernel
theorem dX3_meets_28 : decode cX3_meets 28 = .ok (.getfield 23, 3) := by decide +kernel
theorem dX3_meets_31 : decode cX3_meets 31 = .ok (.iload_n 1, 1) := by decide +kernel
theorem dX3_meets_32 : decode cX3_meets 32 = .ok (.iaload, 1) := by decide +kernel
theorem dX3_meets_33 : decode cX3_meets 33 = .ok (.aload_n 0, 1) := by decide +kernel
theorem dX3_meets_34 : decode cX3_meets 34 = .ok (.getfield 23, 3) := by decide +kernel
theorem dX3_meets_37 : decode cX3_meets 37 = .ok (.iload_n 2, 1) := by decide +kernel
theorem dX3_meets_38 : decode cX3_meets 38 = .ok (.iaload, 1) := by decide +kernel
theorem dX3_meets_39 : decode cX3_meets 39 = .ok (.aload_n 0, 1) := by decide +kernel
theorem dX3_meets_40 : decode cX3_meets 40 = .ok (.getfield 16, 3) := by decide +kernel
theorem dX3_meets_43 : decode cX3_meets 43 = .ok (.iload_n 2, 1) := by decide +kernel
theorem dX3_meets_44 : decode cX3_meets 44 = .ok (.iaload, 1) := by decide +kernel
theorem dX3_meets_45 : decode cX3_meets 45 = .ok (.iadd, 1) := by decide +kernel
theorem dX3_meets_46 : decode cX3_meets 46 = .ok (.if_icmp .ge 27, 3) := by decide +kernel
theorem dX3_meets_49 : decode cX3_meets 49 = .ok (.aload_n 0, 1) := by decide +kernel
theorem dX3_meets_50 : decode cX3_meets 50 = .ok (.getfield 23, 3) := by decide +kernel
theorem dX3_meets_53 : decode cX3_meets 53 = .ok (.iload_n 2, 1) := by decide +kernel
theorem dX3_meets_54 : decode cX3_meets 54 = .ok (.iaload, 1) := by decide +kernel
theorem dX3_meets_55 : decode cX3_meets 55 = .ok (.aload_n 0, 1) := by decide +kernel
theorem dX3_meets_56 : decode cX3_meets 56 = .ok (.getfield 23, 3) := by decide +kernel
theorem dX3_meets_59 : decode cX3_meets 59 = .ok (.iload_n 1, 1) := by decide +kernel
theorem dX3_meets_60 : decode cX3_meets 60 = .ok (.iaload, 1) := by decide +kernel
theorem dX3_meets_61 : decode cX3_meets 61 = .ok (.aload_n 0, 1) := by decide +kernel
theorem dX3_meets_62 : decode cX3_meets 62 = .ok (.getfield 16, 3) := by decide +kernel
theorem dX3_meets_65 : decode cX3_meets 65 = .ok (.iload_n 1, 1) := by decide +kernel
theorem dX3_meets_66 : decode cX3_meets 66 = .ok (.iaload, 1) := by decide +kernel
theorem dX3_meets_67 : decode cX3_meets 67 = .ok (.iadd, 1) := by decide +kernel
theorem dX3_meets_68 : decode cX3_meets 68 = .ok (.if_icmp .ge 5, 3) := by decide +kernel
theorem dX3_meets_71 : decode cX3_meets 71 = .ok (.iconst 1, 1) := by decide +kernel
theorem dX3_meets_72 : decode cX3_meets 72 = .ok (.ireturn, 1) := by decide +kernel
theorem dX3_meets_73 : decode cX3_meets 73 = .ok (.iinc 2 1, 3) := by decide +kernel
theorem dX3_meets_76 : decode cX3_meets 76 = .ok (.goto (-72), 3) := by decide +kernel
theorem dX3_meets_79 : decode cX3_meets 79 = .ok (.iconst 0, 1) := by decide +kernel
theorem dX3_meets_80 : decode cX3_meets 80 = .ok (.ireturn, 1) := by decide +kernel
set_option maxRecDepth 20000 in
theorem ggX3_check_X3_isOverBehind : GoodIn wsX3_check wsX3_isOverBehind := goodIn_r _ [8, 1, 9, 2, 3, 10, 11, 12, 7, 13, 14, 15, 16, 17, 18, 24, 25, 26, 27, 28, 29, 30, 31, 32, 33, 34, 35, 36, 37, 38, 39] (by decide +kernel) (by decide +kernel)
set_option maxRecDepth 20000 in
theorem gX3_check_X3_isOverBehind : GoodIn wsX3_check (wsV RX3 122 RX3 yX3_isOverBehind wsX3_isOverBehind) := goodIn_app (goodIn_of _ (by decide +kernel)) ggX3_check_X3_isOverBehind
set_option maxRecDepth 20000 in
theorem ggX3_check_X3_meets : GoodIn wsX3_check wsX3_meets := goodIn_r _ [22, 1, 23, 2, 3, 24, 25, 26, 27, 28, 29, 30, 31, 32, 33, 34, 35, 36, 37, 38, 39] (by decide +kernel) (by decide +kernel)
set_option maxRecDepth 20000 in
theorem gX3_check_X3_meets : GoodIn wsX3_check (wsV RX3 125 RX3 yX3_meets wsX3_meets) := goodIn_app (goodIn_of _ (by decide +kernel)) ggX3_check_X3_meets
theorem dX3_check_0 : decode cX3_check 0 = .ok (.iconst 0, 1) := by decide +kernel
theorem dX3_check_1 : decode cX3_check 1 = .ok (.istore_n 1, 1) := by decide +kernel
theorem dX3_check_2 : decode cX3_check 2 = .ok (.iload_n 1, 1) := by decide +kernel
theorem dX3_check_3 : decode cX3_check 3 = .ok (.aload_n 0, 1) := by decide +kernel
theorem dX3_check_4 : decode cX3_check 4 = .ok (.getfield 48, 3) := by decide +kernel
theorem dX3_check_7 : decode cX3_check 7 = .ok (.if_icmp .ge 22, 3) := by decide +kernel
theorem dX3_check_10 : decode cX3_check 10 = .ok (.aload_n 0, 1) := by decide +kernel
theorem dX3_check_11 : decode cX3_check 11 = .ok (.iload_n 1, 1) := by decide +kernel
theorem dX3_check_12 : decode cX3_check 12 = .ok (.invokevirtual 122, 3) := by decide +kernel
theorem dX3_check_15 : decode cX3_check 15 = .ok (.ifCond .eq 8, 3) := by decide +kernel
theorem dX3_check_18 : decode cX3_check 18 = .ok (.bipush (-10), 2) := by decide +kernel
theorem dX3_check_20 : decode cX3_check 20 = .ok (.iload_n 1, 1) := by decide +kernel
theorem dX3_check_21 : decode cX3_check 21 = .ok (.isub, 1) := by decide +kernel
theorem dX3_check_22 : decode cX3_check 22 = .ok (.ireturn, 1) := by decide +kernel
theorem dX3_check_23 : decode cX3_check 23 = .ok (.iinc 1 1, 3) := by decide +kernel
theorem dX3_check_26 : decode cX3_check 26 = .ok (.goto (-24), 3) := by decide +kernel
theorem dX3_check_29 : decode cX3_check 29 = .ok (.iconst 0, 1) := by decide +kernel
theorem dX3_check_30 : decode cX3_check 30 = .ok (.istore_n 1, 1) := by decide +kernel
theorem dX3_check_31 : decode cX3_check 31 = .ok (.iconst 0, 1) := by decide +kernel
theorem dX3_check_32 : decode cX3_check 32 = .ok (.istore_n 2, 1) := by decide +kernel
theorem dX3_check_33 : decode cX3_check 33 = .ok (.iload_n 2, 1) := by decide +kernel
theorem dX3_check_34 : decode cX3_check 34 = .ok (.aload_n 0, 1) := by decide +kernel
theorem dX3_check_35 : decode cX3_check 35 = .ok (.getfield 48, 3) := by decide +kernel
theorem dX3_check_38 : decode cX3_check 38 = .ok (.if_icmp .ge 47, 3) := by decide +kernel
theorem dX3_check_41 : decode cX3_check 41 = .ok (.aload_n 0, 1) := by decide +kernel
theorem dX3_check_42 : decode cX3_check 42 = .ok (.iload_n 2, 1) := by decide +kernel
theorem dX3_check_43 : decode cX3_check 43 = .ok (.invokevirtual 125, 3) := by decide +kernel
theorem dX3_check_46 : decode cX3_check 46 = .ok (.ifCond .eq 8, 3) := by decide +kernel
theorem dX3_check_49 : decode cX3_check 49 = .ok (.bipush (-30), 2) := by decide +kernel
theorem dX3_check_51 : decode cX3_check 51 = .ok (.iload_n 2, 1) := by decide +kernel
theorem dX3_check_52 : decode cX3_check 52 = .ok (.isub, 1) := by decide +kernel
theorem dX3_check_53 : decode cX3_check 53 = .ok (.ireturn, 1) := by decide +kernel
theorem dX3_check_54 : decode cX3_check 54 = .ok (.aload_n 0, 1) := by decide +kernel
theorem dX3_check_55 : decode cX3_check 55 = .ok (.getfield 23, 3) := by decide +kernel
theorem dX3_check_58 : decode cX3_check 58 = .ok (.iload_n 2, 1) := by decide +kernel
theorem dX3_check_59 : decode cX3_check 59 = .ok (.iaload, 1) := by decide +kernel
theorem dX3_check_60 : decode cX3_check 60 = .ok (.aload_n 0, 1) := by decide +kernel
theorem dX3_check_61 : decode cX3_check 61 = .ok (.getfield 16, 3) := by decide +kernel
theorem dX3_check_64 : decode cX3_check 64 = .ok (.iload_n 2, 1) := by decide +kernel
theorem dX3_check_65 : decode cX3_check 65 = .ok (.iaload, 1) := by decide +kernel
theorem dX3_check_66 : decode cX3_check 66 = .ok (.iadd, 1) := by decide +kernel
theorem dX3_check_67 : decode cX3_check 67 = .ok (.istore_n 3, 1) := by decide +kernel
theorem dX3_check_68 : decode cX3_check 68 = .ok (.iload_n 3, 1) := by decide +kernel
theorem dX3_check_69 : decode cX3_check 69 = .ok (.iload_n 1, 1) := by decide +kernel
theorem dX3_check_70 : decode cX3_check 70 = .ok (.if_icmp .le 7, 3) := by decide +kernel
theorem dX3_check_73 : decode cX3_check 73 = .ok (.iload_n 3, 1) := by decide +kernel
theorem dX3_check_74 : decode cX3_check 74 = .ok (.goto 4, 3) := by decide +kernel
theorem dX3_check_77 : decode cX3_check 77 = .ok (.iload_n 1, 1) := by decide +kernel
theorem dX3_check_78 : decode cX3_check 78 = .ok (.istore_n 1, 1) := by decide +kernel
theorem dX3_check_79 : decode cX3_check 79 = .ok (.iinc 2 1, 3) := by decide +kernel
theorem dX3_check_82 : decode cX3_check 82 = .ok (.goto (-49), 3) := by decide +kernel
theorem dX3_check_85 : decode cX3_check 85 = .ok (.iload_n 1, 1) := by decide +kernel
theorem dX3_check_86 : decode cX3_check 86 = .ok (.ireturn, 1) := by decide +kernel
theorem dX3_adopt_0 : decode cX3_adopt 0 = .ok (.aload_n 0, 1) := by decide +kernel
theorem dX3_adopt_1 : decode cX3_adopt 1 = .ok (.getfield 59, 3) := by decide +kernel
theorem dX3_adopt_4 : decode cX3_adopt 4 = .ok (.ifCond .ne 5, 3) := by decide +kernel
theorem dX3_adopt_7 : decode cX3_adopt 7 = .ok (.iconst (-1), 1) := by decide +kernel
theorem dX3_adopt_8 : decode cX3_adopt 8 = .ok (.ireturn, 1) := by decide +kernel
theorem dX3_adopt_9 : decode cX3_adopt 9 = .ok (.iconst 0, 1) := by decide +kernel
theorem dX3_adopt_10 : decode cX3_adopt 10 = .ok (.istore_n 1, 1) := by decide +kernel
theorem dX3_adopt_11 : decode cX3_adopt 11 = .ok (.iload_n 1, 1) := by decide +kernel
theorem dX3_adopt_12 : decode cX3_adopt 12 = .ok (.aload_n 0, 1) := by decide +kernel
theorem dX3_adopt_13 : decode cX3_adopt 13 = .ok (.getfield 48, 3) := by decide +kernel
theorem dX3_adopt_16 : decode cX3_adopt 16 = .ok (.if_icmp .ge 21, 3) := by decide +kernel
theorem dX3_adopt_19 : decode cX3_adopt 19 = .ok (.aload_n 0, 1) := by decide +kernel
theorem dX3_adopt_20 : decode cX3_adopt 20 = .ok (.getfield 23, 3) := by decide +kernel
theorem dX3_adopt_23 : decode cX3_adopt 23 = .ok (.iload_n 1, 1) := by decide +kernel
theorem dX3_adopt_24 : decode cX3_adopt 24 = .ok (.aload_n 0, 1) := by decide +kernel
theorem dX3_adopt_25 : decode cX3_adopt 25 = .ok (.getfield 26, 3) := by decide +kernel
theorem dX3_adopt_28 : decode cX3_adopt 28 = .ok (.iload_n 1, 1) := by decide +kernel
theorem dX3_adopt_29 : decode cX3_adopt 29 = .ok (.iaload, 1) := by decide +kernel
theorem dX3_adopt_30 : decode cX3_adopt 30 = .ok (.iastore, 1) := by decide +kernel
theorem dX3_adopt_31 : decode cX3_adopt 31 = .ok (.iinc 1 1, 3) := by decide +kernel
theorem dX3_adopt_34 : decode cX3_adopt 34 = .ok (.goto (-23), 3) := by decide +kernel
theorem dX3_adopt_37 : decode cX3_adopt 37 = .ok (.aload_n 0, 1) := by decide +kernel
theorem dX3_adopt_38 : decode cX3_adopt 38 = .ok (.getfield 44, 3) := by decide +kernel
theorem dX3_adopt_41 : decode cX3_adopt 41 = .ok (.ireturn, 1) := by decide +kernel
set_option maxRecDepth 20000 in
theorem ggX3_count_X3_isPair : GoodIn wsX3_count wsX3_isPair := goodIn_r _ [10, 11, 12, 13, 14, 9, 15, 1, 16, 17, 18, 55, 56, 57, 58, 59, 60, 61, 62, 63, 64, 65, 66, 67, 68, 69, 70] (by decide +kernel) (by decide +kernel)
set_option maxRecDepth 20000 in
theorem gX3_count_X3_isPair : GoodIn wsX3_count (wsV RX3 85 RX3 yX3_isPair wsX3_isPair) := goodIn_app (goodIn_of _ (by decide +kernel)) ggX3_count_X3_isPair
set_option maxRecDepth 20000 in
theorem ggX3_count_X3_length : GoodIn wsX3_count wsX3_length := goodIn_r _ [22, 2, 23, 24, 25, 9, 26, 27, 28, 29, 30, 1, 31, 32, 33, 34, 35, 36, 37, 38, 39, 40, 41, 42, 43, 44, 45, 46, 47, 48, 49, 50, 55, 56, 57, 58, 59, 60, 61, 62, 63, 64, 65, 66, 67, 68, 69, 70] (by decide +kernel) (by decide +kernel)
set_option maxRecDepth 20000 in
theorem gX3_count_X3_length : GoodIn wsX3_count (wsV RX3 128 RX3 yX3_length wsX3_length) := goodIn_app (goodIn_of _ (by decide +kernel)) ggX3_count_X3_length
set_option maxRecDepth 20000 in
theorem ggX3_count_X3_load : GoodIn wsX3_count wsX3_load := goodIn_r _ [54, 2, 1, 11, 31, 46, 32, 16, 17, 9, 18, 23, 24, 25, 26, 27, 28, 29, 30, 33, 34, 35, 36, 37, 38, 39, 40, 41, 42, 43, 44, 45, 55, 56, 57, 58, 59, 60, 61, 62, 63, 64, 65, 66, 67, 68, 69, 70] (by decide +kernel) (by decide +kernel)
set_option maxRecDepth 20000 in
theorem gX3_count_X3_load : GoodIn wsX3_count (wsV RX3 131 RX3 yX3_load wsX3_load) := goodIn_app (goodIn_of _ (by decide +kernel)) ggX3_count_X3_load
theorem dX3_count_0 : decode cX3_count 0 = .ok (.iconst 0, 1) := by decide +kernel
theorem dX3_count_1 : decode cX3_count 1 = .ok (.istore_n 2, 1) := by decide +kernel
theorem dX3_count_2 : decode cX3_count 2 = .ok (.iconst 0, 1) := by decide +kernel
theorem dX3_count_3 : decode cX3_count 3 = .ok (.istore_n 3, 1) := by decide +kernel
theorem dX3_count_4 : decode cX3_count 4 = .ok (.iconst 0, 1) := by decide +kernel
theorem dX3_count_5 : decode cX3_count 5 = .ok (.istore 4, 2) := by decide +kernel
theorem dX3_count_7 : decode cX3_count 7 = .ok (.iload 4, 2) := by decide +kernel
theorem dX3_count_9 : decode cX3_count 9 = .ok (.aload_n 0, 1) := by decide +kernel
theorem dX3_count_10 : decode cX3_count 10 = .ok (.getfield 48, 3) := by decide +kernel
theorem dX3_count_13 : decode cX3_count 13 = .ok (.if_icmp .ge 109, 3) := by decide +kernel
theorem dX3_count_16 : decode cX3_count 16 = .ok (.iconst 0, 1) := by decide +kernel
theorem dX3_count_17 : decode cX3_count 17 = .ok (.istore 5, 2) := by decide +kernel
theorem dX3_count_19 : decode cX3_count 19 = .ok (.iload 5, 2) := by decide +kernel
theorem dX3_count_21 : decode cX3_count 21 = .ok (.aload_n 0, 1) := by decide +kernel
theorem dX3_count_22 : decode cX3_count 22 = .ok (.getfield 48, 3) := by decide +kernel
theorem dX3_count_25 : decode cX3_count 25 = .ok (.if_icmp .ge 91, 3) := by decide +kernel
theorem dX3_count_28 : decode cX3_count 28 = .ok (.aload_n 0, 1) := by decide +kernel
theorem dX3_count_29 : decode cX3_count 29 = .ok (.getfield 19, 3) := by decide +kernel
theorem dX3_count_32 : decode cX3_count 32 = .ok (.bipush 12, 2) := by decide +kernel
theorem dX3_count_34 : decode cX3_count 34 = .ok (.iload 4, 2) := by decide +kernel
theorem dX3_count_36 : decode cX3_count 36 = .ok (.imul, 1) := by decide +kernel
theorem dX3_count_37 : decode cX3_count 37 = .ok (.iload 5, 2) := by decide +kernel
theorem dX3_count_39 : decode cX3_count 39 = .ok (.iadd, 1) := by decide +kernel
theorem dX3_count_40 : decode cX3_count 40 = .ok (.baload, 1) := by decide +kernel
theorem dX3_count_41 : decode cX3_count 41 = .ok (.ifCond .eq 9, 3) := by decide +kernel
theorem dX3_count_44 : decode cX3_count 44 = .ok (.iload_n 2, 1) := by decide +kernel
theorem dX3_count_45 : decode cX3_count 45 = .ok (.iconst 1, 1) := by decide +kernel
theorem dX3_count_46 : decode cX3_count 46 = .ok (.iadd, 1) := by decide +kernel
theorem dX3_count_47 : decode cX3_count 47 = .ok (.goto 4, 3) := by decide +kernel
theorem dX3_count_50 : decode cX3_count 50 = .ok (.iload_n 2, 1) := by decide +kernel
theorem dX3_count_51 : decode cX3_count 51 = .ok (.istore_n 2, 1) := by decide +kernel
theorem dX3_count_52 : decode cX3_count 52 = .ok (.iload 4, 2) := by decide +kernel
theorem dX3_count_54 : decode cX3_count 54 = .ok (.iload 5, 2) := by decide +kernel
theorem dX3_count_56 : decode cX3_count 56 = .ok (.if_icmp .ge 52, 3) := by decide +kernel
theorem dX3_count_59 : decode cX3_count 59 = .ok (.aload_n 0, 1) := by decide +kernel
theorem dX3_count_60 : decode cX3_count 60 = .ok (.iload 4, 2) := by decide +kernel
theorem dX3_count_62 : decode cX3_count 62 = .ok (.iload 5, 2) := by decide +kernel
theorem dX3_count_64 : decode cX3_count 64 = .ok (.invokevirtual 85, 3) := by decide +kernel
theorem dX3_count_67 : decode cX3_count 67 = .ok (.ifCond .eq 41, 3) := by decide +kernel
theorem dX3_count_70 : decode cX3_count 70 = .ok (.aload_n 0, 1) := by decide +kernel
theorem dX3_count_71 : decode cX3_count 71 = .ok (.getfield 19, 3) := by decide +kernel
theorem dX3_count_74 : decode cX3_count 74 = .ok (.bipush 12, 2) := by decide +kernel
theorem dX3_count_76 : decode cX3_count 76 = .ok (.iload 4, 2) := by decide +kernel
theorem dX3_count_78 : decode cX3_count 78 = .ok (.imul, 1) := by decide +kernel
theorem dX3_count_79 : decode cX3_count 79 = .ok (.iload 5, 2) := by decide +kernel
theorem dX3_count_81 : decode cX3_count 81 = .ok (.iadd, 1) := by decide +kernel
theorem dX3_count_82 : decode cX3_count 82 = .ok (.baload, 1) := by decide +kernel
theorem dX3_count_83 : decode cX3_count 83 = .ok (.ifCond .ne 25, 3) := by decide +kernel
theorem dX3_count_86 : decode cX3_count 86 = .ok (.aload_n 0, 1) := by decide +kernel
theorem dX3_count_87 : decode cX3_count 87 = .ok (.getfield 19, 3) := by decide +kernel
theorem dX3_count_90 : decode cX3_count 90 = .ok (.bipush 12, 2) := by decide +kernel
theorem dX3_count_92 : decode cX3_count 92 = .ok (.iload 5, 2) := by decide +kernel
theorem dX3_count_94 : decode cX3_count 94 = .ok (.imul, 1) := by decide +kernel
theorem dX3_count_95 : decode cX3_count 95 = .ok (.iload 4, 2) := by decide +kernel
theorem dX3_count_97 : decode cX3_count 97 = .ok (.iadd, 1) := by decide +kernel
theorem dX3_count_98 : decode cX3_count 98 = .ok (.baload, 1) := by decide +kernel
theorem dX3_count_99 : decode cX3_count 99 = .ok (.ifCond .ne 9, 3) := by decide +kernel
theorem dX3_count_102 : decode cX3_count 102 = .ok (.iload_n 3, 1) := by decide +kernel
theorem dX3_count_103 : decode cX3_count 103 = .ok (.iconst 1, 1) := by decide +kernel
theorem dX3_count_104 : decode cX3_count 104 = .ok (.iadd, 1) := by decide +kernel
theorem dX3_count_105 : decode cX3_count 105 = .ok (.goto 4, 3) := by decide +kernel
theorem dX3_count_108 : decode cX3_count 108 = .ok (.iload_n 3, 1) := by decide +kernel
theorem dX3_count_109 : decode cX3_count 109 = .ok (.istore_n 3, 1) := by decide +kernel
theorem dX3_count_110 : decode cX3_count 110 = .ok (.iinc 5 1, 3) := by decide +kernel
theorem dX3_count_113 : decode cX3_count 113 = .ok (.goto (-94), 3) := by decide +kernel
theorem dX3_count_116 : decode cX3_count 116 = .ok (.iinc 4 1, 3) := by decide +kernel
theorem dX3_count_119 : decode cX3_count 119 = .ok (.goto (-112), 3) := by decide +kernel
theorem dX3_count_122 : decode cX3_count 122 = .ok (.iload_n 1, 1) := by decide +kernel
theorem dX3_count_123 : decode cX3_count 123 = .ok (.tableswitch 115 0 5 #[37, 42, 47, 49, 51, 99], 37) := by decide +kernel
theorem dX3_count_160 : decode cX3_count 160 = .ok (.aload_n 0, 1) := by decide +kernel
theorem dX3_count_161 : decode cX3_count 161 = .ok (.getfield 63, 3) := by decide +kernel
theorem dX3_count_164 : decode cX3_count 164 = .ok (.ireturn, 1) := by decide +kernel
theorem dX3_count_165 : decode cX3_count 165 = .ok (.aload_n 0, 1) := by decide +kernel
theorem dX3_count_166 : decode cX3_count 166 = .ok (.getfield 48, 3) := by decide +kernel
theorem dX3_count_169 : decode cX3_count 169 = .ok (.ireturn, 1) := by decide +kernel
theorem dX3_count_170 : decode cX3_count 170 = .ok (.iload_n 2, 1) := by decide +kernel
theorem dX3_count_171 : decode cX3_count 171 = .ok (.ireturn, 1) := by decide +kernel
theorem dX3_count_172 : decode cX3_count 172 = .ok (.iload_n 3, 1) := by decide +kernel
theorem dX3_count_173 : decode cX3_count 173 = .ok (.ireturn, 1) := by decide +kernel
theorem dX3_count_174 : decode cX3_count 174 = .ok (.aload_n 0, 1) := by decide +kernel
theorem dX3_count_175 : decode cX3_count 175 = .ok (.invokevirtual 128, 3) := by decide +kernel
theorem dX3_count_178 : decode cX3_count 178 = .ok (.istore 4, 2) := by decide +kernel
theorem dX3_count_180 : decode cX3_count 180 = .ok (.iconst 0, 1) := by decide +kernel
theorem dX3_count_181 : decode cX3_count 181 = .ok (.istore 5, 2) := by decide +kernel
theorem dX3_count_183 : decode cX3_count 183 = .ok (.iload 5, 2) := by decide +kernel
theorem dX3_count_185 : decode cX3_count 185 = .ok (.iconst 4, 1) := by decide +kernel
theorem dX3_count_186 : decode cX3_count 186 = .ok (.if_icmp .ge 33, 3) := by decide +kernel
theorem dX3_count_189 : decode cX3_count 189 = .ok (.aload_n 0, 1) := by decide +kernel
theorem dX3_count_190 : decode cX3_count 190 = .ok (.iload 5, 2) := by decide +kernel
theorem dX3_count_192 : decode cX3_count 192 = .ok (.invokevirtual 131, 3) := by decide +kernel
theorem dX3_count_195 : decode cX3_count 195 = .ok (.istore 6, 2) := by decide +kernel
theorem dX3_count_197 : decode cX3_count 197 = .ok (.iload 6, 2) := by decide +kernel
theorem dX3_count_199 : decode cX3_count 199 = .ok (.iload 4, 2) := by decide +kernel
theorem dX3_count_201 : decode cX3_count 201 = .ok (.if_icmp .le 8, 3) := by decide +kernel
theorem dX3_count_204 : decode cX3_count 204 = .ok (.iload 6, 2) := by decide +kernel
theorem dX3_count_206 : decode cX3_count 206 = .ok (.goto 5, 3) := by decide +kernel
theorem dX3_count_209 : decode cX3_count 209 = .ok (.iload 4, 2) := by decide +kernel
theorem dX3_count_211 : decode cX3_count 211 = .ok (.istore 4, 2) := by decide +kernel
theorem dX3_count_213 : decode cX3_count 213 = .ok (.iinc 5 1, 3) := by decide +kernel
theorem dX3_count_216 : decode cX3_count 216 = .ok (.goto (-33), 3) := by decide +kernel
theorem dX3_count_219 : decode cX3_count 219 = .ok (.iload 4, 2) := by decide +kernel
theorem dX3_count_221 : decode cX3_count 221 = .ok (.ireturn, 1) := by decide +kernel
theorem dX3_count_222 : decode cX3_count 222 = .ok (.aload_n 0, 1) := by decide +kernel
theorem dX3_count_223 : decode cX3_count 223 = .ok (.getfield 59, 3) := by decide +kernel
theorem dX3_count_226 : decode cX3_count 226 = .ok (.ifCond .eq 10, 3) := by decide +kernel
theorem dX3_count_229 : decode cX3_count 229 = .ok (.aload_n 0, 1) := by decide +kernel
theorem dX3_count_230 : decode cX3_count 230 = .ok (.getfield 44, 3) := by decide +kernel
theorem dX3_count_233 : decode cX3_count 233 = .ok (.goto 4, 3) := by decide +kernel
theorem dX3_count_236 : decode cX3_count 236 = .ok (.iconst (-1), 1) := by decide +kernel
theorem dX3_count_237 : decode cX3_count 237 = .ok (.ireturn, 1) := by decide +kernel
theorem dX3_count_238 : decode cX3_count 238 = .ok (.bipush (-2), 2) := by decide +kernel
theorem dX3_count_240 : decode cX3_count 240 = .ok (.ireturn, 1) := by decide +kernel
theorem dJ6_bitCount_0f7a4_0 : decode cJ6_bitCount_0f7a4 0 = .ok (.iload_n 0, 1) := by decide +kernel
theorem dJ6_bitCount_0f7a4_1 : decode cJ6_bitCount_0f7a4 1 = .ok (.iload_n 0, 1) := by decide +kernel
theorem dJ6_bitCount_0f7a4_2 : decode cJ6_bitCount_0f7a4 2 = .ok (.iconst 1, 1) := by decide +kernel
theorem dJ6_bitCount_0f7a4_3 : decode cJ6_bitCount_0f7a4 3 = .ok (.iushr, 1) := by decide +kernel
theorem dJ6_bitCount_0f7a4_4 : decode cJ6_bitCount_0f7a4 4 = .ok (.ldc_w 265, 3) := by decide +kernel
theorem dJ6_bitCount_0f7a4_7 : decode cJ6_bitCount_0f7a4 7 = .ok (.iand, 1) := by decide +kernel
theorem dJ6_bitCount_0f7a4_8 : decode cJ6_bitCount_0f7a4 8 = .ok (.isub, 1) := by decide +kernel
theorem dJ6_bitCount_0f7a4_9 : decode cJ6_bitCount_0f7a4 9 = .ok (.istore_n 0, 1) := by decide +kernel
theorem dJ6_bitCount_0f7a4_10 : decode cJ6_bitCount_0f7a4 10 = .ok (.iload_n 0, 1) := by decide +kernel
theorem dJ6_bitCount_0f7a4_11 : decode cJ6_bitCount_0f7a4 11 = .ok (.ldc_w 266, 3) := by decide +kernel
theorem dJ6_bitCount_0f7a4_14 : decode cJ6_bitCount_0f7a4 14 = .ok (.iand, 1) := by decide +kernel
theorem dJ6_bitCount_0f7a4_15 : decode cJ6_bitCount_0f7a4 15 = .ok (.iload_n 0, 1) := by decide +kernel
theorem dJ6_bitCount_0f7a4_16 : decode cJ6_bitCount_0f7a4 16 = .ok (.iconst 2, 1) := by decide +kernel
theorem dJ6_bitCount_0f7a4_17 : decode cJ6_bitCount_0f7a4 17 = .ok (.iushr, 1) := by decide +kernel
theorem dJ6_bitCount_0f7a4_18 : decode cJ6_bitCount_0f7a4 18 = .ok (.ldc_w 266, 3) := by decide +kernel
theorem dJ6_bitCount_0f7a4_21 : decode cJ6_bitCount_0f7a4 21 = .ok (.iand, 1) := by decide +kernel
theorem dJ6_bitCount_0f7a4_22 : decode cJ6_bitCount_0f7a4 22 = .ok (.iadd, 1) := by decide +kernel
theorem dJ6_bitCount_0f7a4_23 : decode cJ6_bitCount_0f7a4 23 = .ok (.istore_n 0, 1) := by decide +kernel
theorem dJ6_bitCount_0f7a4_24 : decode cJ6_bitCount_0f7a4 24 = .ok (.iload_n 0, 1) := by decide +kernel
theorem dJ6_bitCount_0f7a4_25 : decode cJ6_bitCount_0f7a4 25 = .ok (.iload_n 0, 1) := by decide +kernel
theorem dJ6_bitCount_0f7a4_26 : decode cJ6_bitCount_0f7a4 26 = .ok (.iconst 4, 1) := by decide +kernel
theorem dJ6_bitCount_0f7a4_27 : decode cJ6_bitCount_0f7a4 27 = .ok (.iushr, 1) := by decide +kernel
theorem dJ6_bitCount_0f7a4_28 : decode cJ6_bitCount_0f7a4 28 = .ok (.iadd, 1) := by decide +kernel
theorem dJ6_bitCount_0f7a4_29 : decode cJ6_bitCount_0f7a4 29 = .ok (.ldc_w 267, 3) := by decide +kernel
theorem dJ6_bitCount_0f7a4_32 : decode cJ6_bitCount_0f7a4 32 = .ok (.iand, 1) := by decide +kernel
theorem dJ6_bitCount_0f7a4_33 : decode cJ6_bitCount_0f7a4 33 = .ok (.istore_n 0, 1) := by decide +kernel
theorem dJ6_bitCount_0f7a4_34 : decode cJ6_bitCount_0f7a4 34 = .ok (.iload_n 0, 1) := by decide +kernel
theorem dJ6_bitCount_0f7a4_35 : decode cJ6_bitCount_0f7a4 35 = .ok (.iload_n 0, 1) := by decide +kernel
theorem dJ6_bitCount_0f7a4_36 : decode cJ6_bitCount_0f7a4 36 = .ok (.bipush 8, 2) := by decide +kernel
theorem dJ6_bitCount_0f7a4_38 : decode cJ6_bitCount_0f7a4 38 = .ok (.iushr, 1) := by decide +kernel
theorem dJ6_bitCount_0f7a4_39 : decode cJ6_bitCount_0f7a4 39 = .ok (.iadd, 1) := by decide +kernel
theorem dJ6_bitCount_0f7a4_40 : decode cJ6_bitCount_0f7a4 40 = .ok (.istore_n 0, 1) := by decide +kernel
theorem dJ6_bitCount_0f7a4_41 : decode cJ6_bitCount_0f7a4 41 = .ok (.iload_n 0, 1) := by decide +kernel
theorem dJ6_bitCount_0f7a4_42 : decode cJ6_bitCount_0f7a4 42 = .ok (.iload_n 0, 1) := by decide +kernel
theorem dJ6_bitCount_0f7a4_43 : decode cJ6_bitCount_0f7a4 43 = .ok (.bipush 16, 2) := by decide +kernel
theorem dJ6_bitCount_0f7a4_45 : decode cJ6_bitCount_0f7a4 45 = .ok (.iushr, 1) := by decide +kernel
theorem dJ6_bitCount_0f7a4_46 : decode cJ6_bitCount_0f7a4 46 = .ok (.iadd, 1) := by decide +kernel
theorem dJ6_bitCount_0f7a4_47 : decode cJ6_bitCount_0f7a4 47 = .ok (.istore_n 0, 1) := by decide +kernel
theorem dJ6_bitCount_0f7a4_48 : decode cJ6_bitCount_0f7a4 48 = .ok (.iload_n 0, 1) := by decide +kernel
theorem dJ6_bitCount_0f7a4_49 : decode cJ6_bitCount_0f7a4 49 = .ok (.bipush 63, 2) := by decide +kernel
theorem dJ6_bitCount_0f7a4_51 : decode cJ6_bitCount_0f7a4 51 = .ok (.iand, 1) := by decide +kernel
theorem dJ6_bitCount_0f7a4_52 : decode cJ6_bitCount_0f7a4 52 = .ok (.ireturn, 1) := by decide +kernel
theorem dJ9_max_7cf53_0 : decode cJ9_max_7cf53 0 = .ok (.iload_n 0, 1) := by decide +kernel
theorem dJ9_max_7cf53_1 : decode cJ9_max_7cf53 1 = .ok (.iload_n 1, 1) := by decide +kernel
theorem dJ9_max_7cf53_2 : decode cJ9_max_7cf53 2 = .ok (.if_icmp .lt 7, 3) := by decide +kernel
theorem dJ9_max_7cf53_5 : decode cJ9_max_7cf53 5 = .ok (.iload_n 0, 1) := by decide +kernel
theorem dJ9_max_7cf53_6 : decode cJ9_max_7cf53 6 = .ok (.goto 4, 3) := by decide +kernel
theorem dJ9_max_7cf53_9 : decode cJ9_max_7cf53 9 = .ok (.iload_n 1, 1) := by decide +kernel
theorem dJ9_max_7cf53_10 : decode cJ9_max_7cf53 10 = .ok (.ireturn, 1) := by decide +kernel
set_option maxRecDepth 20000 in
theorem ggL_law_X2_init : GoodIn wsL_law wsX2_init := goodIn_r _ [8, 9, 10, 11, 12, 13, 14, 15, 16, 17, 18, 19, 20, 21, 22, 23, 24, 25, 26, 27, 28, 29, 30, 31, 32, 33, 34, 35, 36, 37, 38, 39, 40, 41, 42, 43, 44, 45, 46, 47, 48, 525, 526, 527, 528, 529, 530, 531, 532, 533, 534, 535, 536, 505, 506, 507, 508, 537, 538, 539, 540, 541, 542, 543, 544, 545, 546, 547, 548] (by decide +kernel) (by decide +kernel)
set_option maxRecDepth 20000 in
theorem gL_law_X2_init : GoodIn wsL_law (wsX2_init) := ggL_law_X2_init
set_option maxRecDepth 20000 in
theorem ggL_law_X3_init : GoodIn wsL_law wsX3_init := goodIn_r _ [51, 52, 10, 11, 20, 53, 54, 55, 56, 57, 58, 59, 60, 61, 62, 63, 64, 65, 509, 510, 511, 512, 513, 514, 515, 516, 517, 518, 519, 520, 521, 522, 523, 524] (by decide +kernel) (by decide +kernel)
set_option maxRecDepth 20000 in
theorem gL_law_X3_init : GoodIn wsL_law (wsX3_init) := ggL_law_X3_init
set_option maxRecDepth 20000 in
theorem ggL_law_X2_clear : GoodIn wsL_law wsX2_clear := goodIn_r _ [69, 15, 70, 22, 71, 72, 73, 14, 74, 75, 76, 505, 506, 507, 508, 525, 526, 527, 528, 529, 530, 531, 532, 533, 534, 535, 536] (by decide +kernel) (by decide +kernel)
set_option maxRecDepth 20000 in
theorem gL_law_X2_clear : GoodIn wsL_law (wsV RL 13 RX2 yX2_clear wsX2_clear) := goodIn_app (goodIn_of _ (by decide +kernel)) ggL_law_X2_clear
set_option maxRecDepth 20000 in
theorem ggL_law_X3_clear : GoodIn wsL_law wsX3_clear := goodIn_r _ [80, 81, 82, 57, 58, 83, 84, 85, 5, 86, 87, 509, 510, 511, 512, 513, 514, 515, 516, 517, 518, 519, 520, 521, 522, 523, 524] (by decide +kernel) (by decide +kernel)
set_option maxRecDepth 20000 in
theorem gL_law_X3_clear : GoodIn wsL_law (wsV RL 17 RX3 yX3_clear wsX3_clear) := goodIn_app (goodIn_of _ (by decide +kernel)) ggL_law_X3_clear
set_option maxRecDepth 20000 in
theorem ggL_law_X2_job : GoodIn wsL_law wsX2_job := goodIn_r _ [91, 15, 92, 93, 94, 95, 14, 96, 75, 26, 27, 505, 506, 507, 508, 525, 526, 527, 528, 529, 530, 531, 532, 533, 534, 535, 536] (by decide +kernel) (by decide +kernel)
set_option maxRecDepth 20000 in
theorem gL_law_X2_job : GoodIn wsL_law (wsV RL 18 RX2 yX2_job wsX2_job) := goodIn_app (goodIn_of _ (by decide +kernel)) ggL_law_X2_job
set_option maxRecDepth 20000 in
theorem ggL_law_X3_job : GoodIn wsL_law wsX3_job := goodIn_r _ [100, 82, 509, 510, 511, 512, 513, 514, 515, 516, 517, 518, 519, 520, 521, 522, 523, 524] (by decide +kernel) (by decide +kernel)
set_option maxRecDepth 20000 in
theorem gL_law_X3_job : GoodIn wsL_law (wsV RL 21 RX3 yX3_job wsX3_job) := goodIn_app (goodIn_of _ (by decide +kernel)) ggL_law_X3_job
set_option maxRecDepth 20000 in
theorem ggL_law_X2_operation : GoodIn wsL_law wsX2_operation := goodIn_r _ [104, 15, 70, 22, 21, 105, 106, 107, 14, 108, 75, 109, 110, 2, 111, 112, 113, 114, 115, 76, 28, 29, 116, 117, 118, 119, 30, 31, 32, 27, 26, 120, 121, 122, 123, 124, 125, 126, 127, 33, 34, 128, 129, 130, 131, 132, 133, 134, 135, 136, 137, 505, 506, 507, 508, 525, 526, 527, 528, 529, 530, 531, 532, 533, 534, 535, 536] (by decide +kernel) (by decide +kernel)
set_option maxRecDepth 20000 in
theorem gL_law_X2_operation : GoodIn wsL_law (wsV RL 22 RX2 yX2_operation wsX2_operation) := goodIn_app (goodIn_of _ (by decide +kernel)) ggL_law_X2_operation
set_option maxRecDepth 20000 in
theorem ggL_law_X3_operation : GoodIn wsL_law wsX3_operation := goodIn_r _ [141, 82, 81, 53, 54, 55, 58, 142, 143, 5, 144, 83, 84, 85, 86, 87, 509, 510, 511, 512, 513, 514, 515, 516, 517, 518, 519, 520, 521, 522, 523, 524] (by decide +kernel) (by decide +kernel)
set_option maxRecDepth 20000 in
theorem gL_law_X3_operation : GoodIn wsL_law (wsV RL 26 RX3 yX3_operation wsX3_operation) := goodIn_app (goodIn_of _ (by decide +kernel)) ggL_law_X3_operation
set_option maxRecDepth 20000 in
theorem ggL_law_X2_before : GoodIn wsL_law wsX2_before := goodIn_r _ [148, 15, 22, 149, 150, 151, 14, 152, 29, 120, 121, 122, 123, 76, 153, 154, 155, 156, 132, 133, 134, 135, 31, 32, 136, 2, 137, 157, 158, 159, 160, 161, 162, 163, 164, 124, 125, 126, 127, 33, 34, 128, 129, 130, 131, 30, 505, 506, 507, 508, 525, 526, 527, 528, 529, 530, 531, 532, 533, 534, 535, 536] (by decide +kernel) (by decide +kernel)
set_option maxRecDepth 20000 in
theorem gL_law_X2_before : GoodIn wsL_law (wsV RL 27 RX2 yX2_before wsX2_before) := goodIn_app (goodIn_of _ (by decide +kernel)) ggL_law_X2_before
set_option maxRecDepth 20000 in
theorem ggL_law_X3_before : GoodIn wsL_law wsX3_before := goodIn_r _ [168, 57, 169, 170, 171, 5, 172, 54, 173, 174, 175, 176, 81, 142, 143, 144, 177, 178, 179, 180, 181, 182, 183, 184, 185, 186, 187, 188, 53, 83, 84, 85, 86, 87, 509, 510, 511, 512, 513, 514, 515, 516, 517, 518, 519, 520, 521, 522, 523, 524] (by decide +kernel) (by decide +kernel)
set_option maxRecDepth 20000 in
theorem gL_law_X3_before : GoodIn wsL_law (wsV RL 31 RX3 yX3_before wsX3_before) := goodIn_app (goodIn_of _ (by decide +kernel)) ggL_law_X3_before
set_option maxRecDepth 20000 in
theorem ggL_law_X2_free : GoodIn wsL_law wsX2_free := goodIn_r _ [192, 15, 22, 149, 150, 151, 14, 152, 29, 120, 121, 122, 123, 76, 193, 194, 195, 196, 197, 158, 159, 160, 32, 136, 2, 137, 198, 199, 200, 201, 124, 125, 126, 127, 33, 34, 128, 129, 130, 131, 30, 132, 133, 134, 135, 31, 505, 506, 507, 508, 525, 526, 527, 528, 529, 530, 531, 532, 533, 534, 535, 536] (by decide +kernel) (by decide +kernel)
set_option maxRecDepth 20000 in
theorem gL_law_X2_free : GoodIn wsL_law (wsV RL 32 RX2 yX2_free wsX2_free) := goodIn_app (goodIn_of _ (by decide +kernel)) ggL_law_X2_free
set_option maxRecDepth 20000 in
theorem ggL_law_X3_free : GoodIn wsL_law wsX3_free := goodIn_r _ [205, 57, 169, 170, 171, 5, 172, 54, 173, 174, 175, 176, 81, 142, 143, 144, 83, 84, 85, 86, 87, 509, 510, 511, 512, 513, 514, 515, 516, 517, 518, 519, 520, 521, 522, 523, 524] (by decide +kernel) (by decide +kernel)
set_option maxRecDepth 20000 in
theorem gL_law_X3_free : GoodIn wsL_law (wsV RL 35 RX3 yX3_free wsX3_free) := goodIn_app (goodIn_of _ (by decide +kernel)) ggL_law_X3_free
set_option maxRecDepth 20000 in
theorem ggL_law_X2_arc : GoodIn wsL_law wsX2_arc := goodIn_r _ [209, 15, 149, 150, 151, 14, 152, 29, 120, 121, 122, 123, 76, 157, 158, 159, 160, 32, 136, 2, 137, 505, 506, 507, 508, 525, 526, 527, 528, 529, 530, 531, 532, 533, 534, 535, 536] (by decide +kernel) (by decide +kernel)
set_option maxRecDepth 20000 in
theorem gL_law_X2_arc : GoodIn wsL_law (wsV RL 36 RX2 yX2_arc wsX2_arc) := goodIn_app (goodIn_of _ (by decide +kernel)) ggL_law_X2_arc
set_option maxRecDepth 20000 in
theorem ggL_law_X3_arc : GoodIn wsL_law wsX3_arc := goodIn_r _ [213, 57, 169, 170, 171, 5, 172, 54, 173, 174, 175, 176, 81, 142, 143, 144, 509, 510, 511, 512, 513, 514, 515, 516, 517, 518, 519, 520, 521, 522, 523, 524] (by decide +kernel) (by decide +kernel)
set_option maxRecDepth 20000 in
theorem gL_law_X3_arc : GoodIn wsL_law (wsV RL 39 RX3 yX3_arc wsX3_arc) := goodIn_app (goodIn_of _ (by decide +kernel)) ggL_law_X3_arc
set_option maxRecDepth 20000 in
theorem ggL_law_X2_told : GoodIn wsL_law wsX2_told := goodIn_r _ [217, 15, 218, 219, 220, 221, 222, 22, 19, 223, 224, 121, 122, 14, 123, 76, 225, 226, 227, 228, 33, 30, 34, 229, 230, 231, 232, 233, 234, 235, 236, 237, 505, 506, 507, 508, 525, 526, 527, 528, 529, 530, 531, 532, 533, 534, 535, 536, 537, 538, 539, 540, 541, 542, 543, 544, 545, 546, 547, 548] (by decide +kernel) (by decide +kernel)
set_option maxRecDepth 20000 in
theorem gL_law_X2_told : GoodIn wsL_law (wsV RL 40 RX2 yX2_told wsX2_told) := goodIn_app (goodIn_of _ (by decide +kernel)) ggL_law_X2_told
set_option maxRecDepth 20000 in
theorem ggL_law_X3_told : GoodIn wsL_law wsX3_told := goodIn_r _ [241, 57, 53, 54, 55, 60, 61, 87, 59, 173, 174, 175, 5, 176, 81, 142, 143, 144, 242, 243, 244, 245, 246, 247, 248, 249, 181, 182, 183, 184, 185, 186, 187, 188, 250, 251, 252, 253, 254, 255, 256, 257, 509, 510, 511, 512, 513, 514, 515, 516, 517, 518, 519, 520, 521, 522, 523, 524] (by decide +kernel) (by decide +kernel)
set_option maxRecDepth 20000 in
theorem gL_law_X3_told : GoodIn wsL_law (wsV RL 43 RX3 yX3_told wsX3_told) := goodIn_app (goodIn_of _ (by decide +kernel)) ggL_law_X3_told
set_option maxRecDepth 20000 in
theorem ggL_law_X2_length : GoodIn wsL_law wsX2_length := goodIn_r _ [261, 15, 229, 230, 231, 14, 232, 76, 233, 234, 235, 236, 237, 226, 227, 228, 33, 30, 34, 505, 506, 507, 508, 525, 526, 527, 528, 529, 530, 531, 532, 533, 534, 535, 536] (by decide +kernel) (by decide +kernel)
set_option maxRecDepth 20000 in
theorem gL_law_X2_length : GoodIn wsL_law (wsV RL 44 RX2 yX2_length wsX2_length) := goodIn_app (goodIn_of _ (by decide +kernel)) ggL_law_X2_length
set_option maxRecDepth 20000 in
theorem ggL_law_X3_length : GoodIn wsL_law wsX3_length := goodIn_r _ [265, 57, 242, 243, 244, 5, 245, 246, 247, 248, 249, 81, 60, 55, 181, 182, 183, 184, 185, 186, 187, 188, 53, 250, 251, 252, 253, 61, 254, 255, 256, 257, 509, 510, 511, 512, 513, 514, 515, 516, 517, 518, 519, 520, 521, 522, 523, 524] (by decide +kernel) (by decide +kernel)
set_option maxRecDepth 20000 in
theorem gL_law_X3_length : GoodIn wsL_law (wsV RL 47 RX3 yX3_length wsX3_length) := goodIn_app (goodIn_of _ (by decide +kernel)) ggL_law_X3_length
set_option maxRecDepth 20000 in
theorem ggL_law_X2_load : GoodIn wsL_law wsX2_load := goodIn_r _ [269, 15, 109, 110, 2, 111, 270, 271, 272, 14, 273, 76, 29, 33, 34, 233, 234, 235, 236, 274, 275, 276, 277, 30, 505, 506, 507, 508, 525, 526, 527, 528, 529, 530, 531, 532, 533, 534, 535, 536] (by decide +kernel) (by decide +kernel)
set_option maxRecDepth 20000 in
theorem gL_law_X2_load : GoodIn wsL_law (wsV RL 48 RX2 yX2_load wsX2_load) := goodIn_app (goodIn_of _ (by decide +kernel)) ggL_law_X2_load
set_option maxRecDepth 20000 in
theorem ggL_law_X3_load : GoodIn wsL_law wsX3_load := goodIn_r _ [281, 57, 81, 54, 60, 61, 55, 142, 143, 5, 144, 242, 243, 244, 245, 246, 247, 248, 249, 181, 182, 183, 184, 185, 186, 187, 188, 53, 250, 251, 252, 253, 509, 510, 511, 512, 513, 514, 515, 516, 517, 518, 519, 520, 521, 522, 523, 524] (by decide +kernel) (by decide +kernel)
set_option maxRecDepth 20000 in
theorem gL_law_X3_load : GoodIn wsL_law (wsV RL 52 RX3 yX3_load wsX3_load) := goodIn_app (goodIn_of _ (by decide +kernel)) ggL_law_X3_load
set_option maxRecDepth 20000 in
theorem ggL_law_X2_select : GoodIn wsL_law wsX2_select := goodIn_r _ [285, 15, 22, 286, 287, 288, 14, 289, 32, 35, 76, 290, 291, 292, 293, 294, 295, 296, 297, 298, 299, 300, 301, 302, 303, 304, 305, 306, 307, 308, 309, 150, 151, 152, 29, 120, 121, 122, 123, 310, 194, 195, 196, 197, 158, 159, 160, 136, 2, 137, 311, 312, 313, 314, 33, 30, 34, 315, 154, 155, 156, 132, 133, 134, 135, 31, 316, 162, 163, 164, 124, 125, 126, 127, 128, 129, 130, 131, 317, 230, 231, 232, 233, 234, 235, 236, 237, 226, 227, 228, 505, 506, 507, 508, 525, 526, 527, 528, 529, 530, 531, 532, 533, 534, 535, 536] (by decide +kernel) (by decide +kernel)
set_option maxRecDepth 20000 in
theorem gL_law_X2_select : GoodIn wsL_law (wsV RL 53 RX2 yX2_select wsX2_select) := goodIn_app (goodIn_of _ (by decide +kernel)) ggL_law_X2_select
set_option maxRecDepth 20000 in
theorem ggL_law_X3_select : GoodIn wsL_law wsX3_select := goodIn_r _ [321, 62, 57, 81, 242, 243, 244, 5, 245, 246, 247, 248, 249, 60, 55, 181, 182, 183, 184, 185, 186, 187, 188, 53, 250, 251, 252, 253, 61, 169, 170, 171, 172, 54, 173, 174, 175, 176, 142, 143, 144, 322, 323, 324, 325, 177, 178, 179, 180, 254, 255, 256, 257, 83, 84, 85, 86, 87, 509, 510, 511, 512, 513, 514, 515, 516, 517, 518, 519, 520, 521, 522, 523, 524] (by decide +kernel) (by decide +kernel)
set_option maxRecDepth 20000 in
theorem gL_law_X3_select : GoodIn wsL_law (wsV RL 56 RX3 yX3_select wsX3_select) := goodIn_app (goodIn_of _ (by decide +kernel)) ggL_law_X3_select
set_option maxRecDepth 20000 in
theorem ggL_law_X2_solve : GoodIn wsL_law wsX2_solve := goodIn_r _ [329, 22, 19, 330, 331, 332, 333, 18, 334, 335, 336, 337, 338, 339, 48, 340, 43, 341, 44, 45, 46, 47, 342, 343, 344, 345, 346, 42, 347, 348, 349, 350, 351, 158, 159, 14, 160, 32, 136, 2, 137, 352, 353, 354, 355, 356, 357, 358, 359, 41, 360, 234, 235, 236, 40, 361, 291, 292, 293, 362, 363, 364, 365, 366, 367, 368, 369, 370, 121, 122, 123, 76, 371, 372, 373, 374, 375, 376, 377, 378, 379, 380, 381, 382, 383, 384, 385, 386, 387, 388, 389, 390, 391, 392, 393, 394, 395, 505, 506, 507, 508, 537, 538, 539, 540, 541, 542, 543, 544, 545, 546, 547, 548, 525, 526, 527, 528, 529, 530, 531, 532, 533, 534, 535, 536] (by decide +kernel) (by decide +kernel)
set_option maxRecDepth 20000 in
theorem gL_law_X2_solve : GoodIn wsL_law (wsV RL 57 RX2 yX2_solve wsX2_solve) := goodIn_app (goodIn_of _ (by decide +kernel)) ggL_law_X2_solve
set_option maxRecDepth 20000 in
theorem ggL_law_X3_solve : GoodIn wsL_law wsX3_solve := goodIn_r _ [399, 87, 62, 65, 400, 401, 402, 5, 403, 64, 81, 54, 63, 404, 405, 406, 407, 57, 246, 247, 248, 249, 60, 55, 181, 182, 183, 184, 185, 186, 187, 188, 53, 408, 409, 410, 411, 412, 59, 413, 414, 415, 416, 417, 418, 419, 420, 509, 510, 511, 512, 513, 514, 515, 516, 517, 518, 519, 520, 521, 522, 523, 524] (by decide +kernel) (by decide +kernel)
set_option maxRecDepth 20000 in
theorem gL_law_X3_solve : GoodIn wsL_law (wsV RL 60 RX3 yX3_solve wsX3_solve) := goodIn_app (goodIn_of _ (by decide +kernel)) ggL_law_X3_solve
set_option maxRecDepth 20000 in
theorem ggL_law_X2_optima : GoodIn wsL_law wsX2_optima := goodIn_r _ [424, 22, 19, 425, 505, 506, 507, 508, 537, 538, 539, 540, 541, 542, 543, 544, 545, 546, 547, 548] (by decide +kernel) (by decide +kernel)
set_option maxRecDepth 20000 in
theorem gL_law_X2_optima : GoodIn wsL_law (wsV RL 61 RX2 yX2_optima wsX2_optima) := goodIn_app (goodIn_of _ (by decide +kernel)) ggL_law_X2_optima
set_option maxRecDepth 20000 in
theorem ggL_law_X3_optima : GoodIn wsL_law wsX3_optima := goodIn_r _ [429, 87, 412, 509, 510, 511, 512, 513, 514, 515, 516, 517, 518, 519, 520, 521, 522, 523, 524] (by decide +kernel) (by decide +kernel)
set_option maxRecDepth 20000 in
theorem gL_law_X3_optima : GoodIn wsL_law (wsV RL 64 RX3 yX3_optima wsX3_optima) := goodIn_app (goodIn_of _ (by decide +kernel)) ggL_law_X3_optima
set_option maxRecDepth 20000 in
theorem ggL_law_X2_at : GoodIn wsL_law wsX2_at := goodIn_r _ [433, 22, 15, 70, 19, 223, 219, 220, 109, 110, 2, 111, 505, 506, 507, 508, 525, 526, 527, 528, 529, 530, 531, 532, 533, 534, 535, 536, 537, 538, 539, 540, 541, 542, 543, 544, 545, 546, 547, 548] (by decide +kernel) (by decide +kernel)
set_option maxRecDepth 20000 in
theorem gL_law_X2_at : GoodIn wsL_law (wsV RL 65 RX2 yX2_at wsX2_at) := goodIn_app (goodIn_of _ (by decide +kernel)) ggL_law_X2_at
set_option maxRecDepth 20000 in
theorem ggL_law_X3_at : GoodIn wsL_law wsX3_at := goodIn_r _ [437, 81, 87, 54, 59, 55, 142, 143, 5, 144, 509, 510, 511, 512, 513, 514, 515, 516, 517, 518, 519, 520, 521, 522, 523, 524] (by decide +kernel) (by decide +kernel)
set_option maxRecDepth 20000 in
theorem gL_law_X3_at : GoodIn wsL_law (wsV RL 68 RX3 yX3_at wsX3_at) := goodIn_app (goodIn_of _ (by decide +kernel)) ggL_law_X3_at
set_option maxRecDepth 20000 in
theorem ggL_law_X2_draft : GoodIn wsL_law wsX2_draft := goodIn_r _ [441, 15, 21, 224, 121, 122, 14, 123, 76, 505, 506, 507, 508, 525, 526, 527, 528, 529, 530, 531, 532, 533, 534, 535, 536] (by decide +kernel) (by decide +kernel)
set_option maxRecDepth 20000 in
theorem gL_law_X2_draft : GoodIn wsL_law (wsV RL 69 RX2 yX2_draft wsX2_draft) := goodIn_app (goodIn_of _ (by decide +kernel)) ggL_law_X2_draft
set_option maxRecDepth 20000 in
theorem ggL_law_X3_draft : GoodIn wsL_law wsX3_draft := goodIn_r _ [445, 58, 173, 174, 175, 5, 176, 81, 142, 143, 144, 509, 510, 511, 512, 513, 514, 515, 516, 517, 518, 519, 520, 521, 522, 523, 524] (by decide +kernel) (by decide +kernel)
set_option maxRecDepth 20000 in
theorem gL_law_X3_draft : GoodIn wsL_law (wsV RL 72 RX3 yX3_draft wsX3_draft) := goodIn_app (goodIn_of _ (by decide +kernel)) ggL_law_X3_draft
set_option maxRecDepth 20000 in
theorem ggL_law_X2_check : GoodIn wsL_law wsX2_check := goodIn_r _ [449, 15, 70, 450, 234, 235, 236, 451, 452, 453, 2, 454, 21, 455, 133, 134, 14, 135, 31, 32, 456, 136, 137, 457, 458, 459, 460, 220, 461, 462, 463, 464, 219, 505, 506, 507, 508, 525, 526, 527, 528, 529, 530, 531, 532, 533, 534, 535, 536] (by decide +kernel) (by decide +kernel)
set_option maxRecDepth 20000 in
theorem gL_law_X2_check : GoodIn wsL_law (wsV RL 73 RX2 yX2_check wsX2_check) := goodIn_app (goodIn_of _ (by decide +kernel)) ggL_law_X2_check
set_option maxRecDepth 20000 in
theorem ggL_law_X3_check : GoodIn wsL_law wsX3_check := goodIn_r _ [468, 81, 58, 55, 469, 470, 471, 5, 472, 57, 181, 182, 183, 184, 185, 186, 187, 188, 53, 473, 474, 475, 476, 54, 509, 510, 511, 512, 513, 514, 515, 516, 517, 518, 519, 520, 521, 522, 523, 524] (by decide +kernel) (by decide +kernel)
set_option maxRecDepth 20000 in
theorem gL_law_X3_check : GoodIn wsL_law (wsV RL 76 RX3 yX3_check wsX3_check) := goodIn_app (goodIn_of _ (by decide +kernel)) ggL_law_X3_check
set_option maxRecDepth 20000 in
theorem ggL_law_X2_adopt : GoodIn wsL_law wsX2_adopt := goodIn_r _ [480, 22, 15, 70, 21, 19, 223, 330, 505, 506, 507, 508, 525, 526, 527, 528, 529, 530, 531, 532, 533, 534, 535, 536, 537, 538, 539, 540, 541, 542, 543, 544, 545, 546, 547, 548] (by decide +kernel) (by decide +kernel)
set_option maxRecDepth 20000 in
theorem gL_law_X2_adopt : GoodIn wsL_law (wsV RL 77 RX2 yX2_adopt wsX2_adopt) := goodIn_app (goodIn_of _ (by decide +kernel)) ggL_law_X2_adopt
set_option maxRecDepth 20000 in
theorem ggL_law_X3_adopt : GoodIn wsL_law wsX3_adopt := goodIn_r _ [484, 87, 81, 58, 59, 65, 509, 510, 511, 512, 513, 514, 515, 516, 517, 518, 519, 520, 521, 522, 523, 524] (by decide +kernel) (by decide +kernel)
set_option maxRecDepth 20000 in
theorem gL_law_X3_adopt : GoodIn wsL_law (wsV RL 80 RX3 yX3_adopt wsX3_adopt) := goodIn_app (goodIn_of _ (by decide +kernel)) ggL_law_X3_adopt
set_option maxRecDepth 20000 in
theorem ggL_law_X2_count : GoodIn wsL_law wsX2_count := goodIn_r _ [488, 15, 92, 70, 22, 19, 330, 489, 295, 296, 14, 297, 76, 32, 298, 299, 300, 301, 302, 303, 304, 490, 491, 492, 493, 29, 494, 495, 496, 497, 233, 234, 235, 236, 317, 230, 231, 232, 237, 226, 227, 228, 33, 30, 34, 498, 271, 272, 273, 274, 275, 276, 277, 505, 506, 507, 508, 525, 526, 527, 528, 529, 530, 531, 532, 533, 534, 535, 536, 537, 538, 539, 540, 541, 542, 543, 544, 545, 546, 547, 548] (by decide +kernel) (by decide +kernel)
set_option maxRecDepth 20000 in
theorem gL_law_X2_count : GoodIn wsL_law (wsV RL 81 RX2 yX2_count wsX2_count) := goodIn_app (goodIn_of _ (by decide +kernel)) ggL_law_X2_count
set_option maxRecDepth 20000 in
theorem ggL_law_X3_count : GoodIn wsL_law wsX3_count := goodIn_r _ [502, 81, 57, 82, 87, 65, 169, 170, 171, 5, 172, 54, 173, 174, 175, 176, 142, 143, 144, 503, 263, 264, 265, 242, 243, 244, 245, 246, 247, 248, 249, 60, 55, 181, 182, 183, 184, 185, 186, 187, 188, 53, 250, 251, 252, 253, 61, 254, 255, 256, 257, 504, 279, 280, 281, 509, 510, 511, 512, 513, 514, 515, 516, 517, 518, 519, 520, 521, 522, 523, 524] (by decide +kernel) (by decide +kernel)
set_option maxRecDepth 20000 in
theorem gL_law_X3_count : GoodIn wsL_law (wsV RL 84 RX3 yX3_count wsX3_count) := goodIn_app (goodIn_of _ (by decide +kernel)) ggL_law_X3_count
theorem dL_law_0 : decode cL_law 0 = .ok (.new 7, 3) := by decide +kernel
theorem dL_law_3 : decode cL_law 3 = .ok (.dup, 1) := by decide +kernel
theorem dL_law_4 : decode cL_law 4 = .ok (.invokespecial 9, 3) := by decide +kernel
theorem dL_law_7 : decode cL_law 7 = .ok (.astore_n 1, 1) := by decide +kernel
theorem dL_law_8 : decode cL_law 8 = .ok (.new 10, 3) := by decide +kernel
theorem dL_law_11 : decode cL_law 11 = .ok (.dup, 1) := by decide +kernel
theorem dL_law_12 : decode cL_law 12 = .ok (.invokespecial 12, 3) := by decide +kernel
theorem dL_law_15 : decode cL_law 15 = .ok (.astore_n 2, 1) := by decide +kernel
theorem dL_law_16 : decode cL_law 16 = .ok (.iconst 0, 1) := by decide +kernel
theorem dL_law_17 : decode cL_law 17 = .ok (.istore_n 3, 1) := by decide +kernel
theorem dL_law_18 : decode cL_law 18 = .ok (.iload_n 3, 1) := by decide +kernel
theorem dL_law_19 : decode cL_law 19 = .ok (.aload_n 0, 1) := by decide +kernel
theorem dL_law_20 : decode cL_law 20 = .ok (.arraylength, 1) := by decide +kernel
theorem dL_law_21 : decode cL_law 21 = .ok (.iconst 4, 1) := by decide +kernel
theorem dL_law_22 : decode cL_law 22 = .ok (.isub, 1) := by decide +kernel
theorem dL_law_23 : decode cL_law 23 = .ok (.if_icmp .gt 500, 3) := by decide +kernel
theorem dL_law_26 : decode cL_law 26 = .ok (.aload_n 0, 1) := by decide +kernel
theorem dL_law_27 : decode cL_law 27 = .ok (.iload_n 3, 1) := by decide +kernel
theorem dL_law_28 : decode cL_law 28 = .ok (.iaload, 1) := by decide +kernel
theorem dL_law_29 : decode cL_law 29 = .ok (.bipush 31, 2) := by decide +kernel
theorem dL_law_31 : decode cL_law 31 = .ok (.iand, 1) := by decide +kernel
theorem dL_law_32 : decode cL_law 32 = .ok (.tableswitch 485 0 16 #[84, 97, 110, 153, 186, 219, 252, 285, 298, 321, 344, 357, 370, 403, 436, 449, 462], 84) := by decide +kernel
theorem dL_law_116 : decode cL_law 116 = .ok (.aload_n 1, 1) := by decide +kernel
theorem dL_law_117 : decode cL_law 117 = .ok (.invokevirtual 13, 3) := by decide +kernel
theorem dL_law_120 : decode cL_law 120 = .ok (.aload_n 2, 1) := by decide +kernel
theorem dL_law_121 : decode cL_law 121 = .ok (.invokevirtual 17, 3) := by decide +kernel
theorem dL_law_124 : decode cL_law 124 = .ok (.if_icmp .eq 393, 3) := by decide +kernel
theorem dL_law_127 : decode cL_law 127 = .ok (.iconst 0, 1) := by decide +kernel
theorem dL_law_128 : decode cL_law 128 = .ok (.ireturn, 1) := by decide +kernel
theorem dL_law_129 : decode cL_law 129 = .ok (.aload_n 1, 1) := by decide +kernel
theorem dL_law_130 : decode cL_law 130 = .ok (.invokevirtual 18, 3) := by decide +kernel
theorem dL_law_133 : decode cL_law 133 = .ok (.aload_n 2, 1) := by decide +kernel
theorem dL_law_134 : decode cL_law 134 = .ok (.invokevirtual 21, 3) := by decide +kernel
theorem dL_law_137 : decode cL_law 137 = .ok (.if_icmp .eq 380, 3) := by decide +kernel
theorem dL_law_140 : decode cL_law 140 = .ok (.iconst 0, 1) := by decide +kernel
theorem dL_law_141 : decode cL_law 141 = .ok (.ireturn, 1) := by decide +kernel
theorem dL_law_142 : decode cL_law 142 = .ok (.aload_n 1, 1) := by decide +kernel
theorem dL_law_143 : decode cL_law 143 = .ok (.aload_n 0, 1) := by decide +kernel
theorem dL_law_144 : decode cL_law 144 = .ok (.iload_n 3, 1) := by decide +kernel
theorem dL_law_145 : decode cL_law 145 = .ok (.iconst 1, 1) := by decide +kernel
theorem dL_law_146 : decode cL_law 146 = .ok (.iadd, 1) := by decide +kernel
theorem dL_law_147 : decode cL_law 147 = .ok (.iaload, 1) := by decide +kernel
theorem dL_law_148 : decode cL_law 148 = .ok (.aload_n 0, 1) := by decide +kernel
theorem dL_law_149 : decode cL_law 149 = .ok (.iload_n 3, 1) := by decide +kernel
theorem dL_law_150 : decode cL_law 150 = .ok (.iconst 2, 1) := by decide +kernel
theorem dL_law_151 : decode cL_law 151 = .ok (.iadd, 1) := by decide +kernel
theorem dL_law_152 : decode cL_law 152 = .ok (.iaload, 1) := by decide +kernel
theorem dL_law_153 : decode cL_law 153 = .ok (.aload_n 0, 1) := by decide +kernel
theorem dL_law_154 : decode cL_law 154 = .ok (.iload_n 3, 1) := by decide +kernel
theorem dL_law_155 : decode cL_law 155 = .ok (.iconst 3, 1) := by decide +kernel
theorem dL_law_156 : decode cL_law 156 = .ok (.iadd, 1) := by decide +kernel
theorem dL_law_157 : decode cL_law 157 = .ok (.iaload, 1) := by decide +kernel
theorem dL_law_158 : decode cL_law 158 = .ok (.invokevirtual 22, 3) := by decide +kernel
theorem dL_law_161 : decode cL_law 161 = .ok (.aload_n 2, 1) := by decide +kernel
theorem dL_law_162 : decode cL_law 162 = .ok (.aload_n 0, 1) := by decide +kernel
theorem dL_law_163 : decode cL_law 163 = .ok (.iload_n 3, 1) := by decide +kernel
theorem dL_law_164 : decode cL_law 164 = .ok (.iconst 1, 1) := by decide +kernel
theorem dL_law_165 : decode cL_law 165 = .ok (.iadd, 1) := by decide +kernel
theorem dL_law_166 : decode cL_law 166 = .ok (.iaload, 1) := by decide +kernel
theorem dL_law_167 : decode cL_law 167 = .ok (.aload_n 0, 1) := by decide +kernel
theorem dL_law_168 : decode cL_law 168 = .ok (.iload_n 3, 1) := by decide +kernel
theorem dL_law_169 : decode cL_law 169 = .ok (.iconst 2, 1) := by decide +kernel
theorem dL_law_170 : decode cL_law 170 = .ok (.iadd, 1) := by decide +kernel
theorem dL_law_171 : decode cL_law 171 = .ok (.iaload, 1) := by decide +kernel
theorem dL_law_172 : decode cL_law 172 = .ok (.aload_n 0, 1) := by decide +kernel
theorem dL_law_173 : decode cL_law 173 = .ok (.iload_n 3, 1) := by decide +kernel
theorem dL_law_174 : decode cL_law 174 = .ok (.iconst 3, 1) := by decide +kernel
theorem dL_law_175 : decode cL_law 175 = .ok (.iadd, 1) := by decide +kernel
theorem dL_law_176 : decode cL_law 176 = .ok (.iaload, 1) := by decide +kernel
theorem dL_law_177 : decode cL_law 177 = .ok (.invokevirtual 26, 3) := by decide +kernel
theorem dL_law_180 : decode cL_law 180 = .ok (.if_icmp .eq 337, 3) := by decide +kernel
theorem dL_law_183 : decode cL_law 183 = .ok (.iconst 0, 1) := by decide +kernel
theorem dL_law_184 : decode cL_law 184 = .ok (.ireturn, 1) := by decide +kernel
theorem dL_law_185 : decode cL_law 185 = .ok (.aload_n 1, 1) := by decide +kernel
theorem dL_law_186 : decode cL_law 186 = .ok (.aload_n 0, 1) := by decide +kernel
theorem dL_law_187 : decode cL_law 187 = .ok (.iload_n 3, 1) := by decide +kernel
theorem dL_law_188 : decode cL_law 188 = .ok (.iconst 1, 1) := by decide +kernel
theorem dL_law_189 : decode cL_law 189 = .ok (.iadd, 1) := by decide +kernel
theorem dL_law_190 : decode cL_law 190 = .ok (.iaload, 1) := by decide +kernel
theorem dL_law_191 : decode cL_law 191 = .ok (.aload_n 0, 1) := by decide +kernel
theorem dL_law_192 : decode cL_law 192 = .ok (.iload_n 3, 1) := by decide +kernel
theorem dL_law_193 : decode cL_law 193 = .ok (.iconst 2, 1) := by decide +kernel
theorem dL_law_194 : decode cL_law 194 = .ok (.iadd, 1) := by decide +kernel
theorem dL_law_195 : decode cL_law 195 = .ok (.iaload, 1) := by decide +kernel
theorem dL_law_196 : decode cL_law 196 = .ok (.invokevirtual 27, 3) := by decide +kernel
theorem dL_law_199 : decode cL_law 199 = .ok (.aload_n 2, 1) := by decide +kernel
theorem dL_law_200 : decode cL_law 200 = .ok (.aload_n 0, 1) := by decide +kernel
theorem dL_law_201 : decode cL_law 201 = .ok (.iload_n 3, 1) := by decide +kernel
theorem dL_law_202 : decode cL_law 202 = .ok (.iconst 1, 1) := by decide +kernel
theorem dL_law_203 : decode cL_law 203 = .ok (.iadd, 1) := by decide +kernel
theorem dL_law_204 : decode cL_law 204 = .ok (.iaload, 1) := by decide +kernel
theorem dL_law_205 : decode cL_law 205 = .ok (.aload_n 0, 1) := by decide +kernel
theorem dL_law_206 : decode cL_law 206 = .ok (.iload_n 3, 1) := by decide +kernel
theorem dL_law_207 : decode cL_law 207 = .ok (.iconst 2, 1) := by decide +kernel
theorem dL_law_208 : decode cL_law 208 = .ok (.iadd, 1) := by decide +kernel
theorem dL_law_209 : decode cL_law 209 = .ok (.iaload, 1) := by decide +kernel
theorem dL_law_210 : decode cL_law 210 = .ok (.invokevirtual 31, 3) := by decide +kernel
theorem dL_law_213 : decode cL_law 213 = .ok (.if_icmp .eq 304, 3) := by decide +kernel
theorem dL_law_216 : decode cL_law 216 = .ok (.iconst 0, 1) := by decide +kernel
theorem dL_law_217 : decode cL_law 217 = .ok (.ireturn, 1) := by decide +kernel
theorem dL_law_218 : decode cL_law 218 = .ok (.aload_n 1, 1) := by decide +kernel
theorem dL_law_219 : decode cL_law 219 = .ok (.aload_n 0, 1) := by decide +kernel
theorem dL_law_220 : decode cL_law 220 = .ok (.iload_n 3, 1) := by decide +kernel
theorem dL_law_221 : decode cL_law 221 = .ok (.iconst 1, 1) := by decide +kernel
theorem dL_law_222 : decode cL_law 222 = .ok (.iadd, 1) := by decide +kernel
theorem dL_law_223 : decode cL_law 223 = .ok (.iaload, 1) := by decide +kernel
theorem dL_law_224 : decode cL_law 224 = .ok (.aload_n 0, 1) := by decide +kernel
theorem dL_law_225 : decode cL_law 225 = .ok (.iload_n 3, 1) := by decide +kernel
theorem dL_law_226 : decode cL_law 226 = .ok (.iconst 2, 1) := by decide +kernel
theorem dL_law_227 : decode cL_law 227 = .ok (.iadd, 1) := by decide +kernel
theorem dL_law_228 : decode cL_law 228 = .ok (.iaload, 1) := by decide +kernel
theorem dL_law_229 : decode cL_law 229 = .ok (.invokevirtual 32, 3) := by decide +kernel
theorem dL_law_232 : decode cL_law 232 = .ok (.aload_n 2, 1) := by decide +kernel
theorem dL_law_233 : decode cL_law 233 = .ok (.aload_n 0, 1) := by decide +kernel
theorem dL_law_234 : decode cL_law 234 = .ok (.iload_n 3, 1) := by decide +kernel
theorem dL_law_235 : decode cL_law 235 = .ok (.iconst 1, 1) := by decide +kernel
theorem dL_law_236 : decode cL_law 236 = .ok (.iadd, 1) := by decide +kernel
theorem dL_law_237 : decode cL_law 237 = .ok (.iaload, 1) := by decide +kernel
theorem dL_law_238 : decode cL_law 238 = .ok (.aload_n 0, 1) := by decide +kernel
theorem dL_law_239 : decode cL_law 239 = .ok (.iload_n 3, 1) := by decide +kernel
theorem dL_law_240 : decode cL_law 240 = .ok (.iconst 2, 1) := by decide +kernel
theorem dL_law_241 : decode cL_law 241 = .ok (.iadd, 1) := by decide +kernel
theorem dL_law_242 : decode cL_law 242 = .ok (.iaload, 1) := by decide +kernel
theorem dL_law_243 : decode cL_law 243 = .ok (.invokevirtual 35, 3) := by decide +kernel
theorem dL_law_246 : decode cL_law 246 = .ok (.if_icmp .eq 271, 3) := by decide +kernel
theorem dL_law_249 : decode cL_law 249 = .ok (.iconst 0, 1) := by decide +kernel
theorem dL_law_250 : decode cL_law 250 = .ok (.ireturn, 1) := by decide +kernel
theorem dL_law_251 : decode cL_law 251 = .ok (.aload_n 1, 1) := by decide +kernel
theorem dL_law_252 : decode cL_law 252 = .ok (.aload_n 0, 1) := by decide +kernel
theorem dL_law_253 : decode cL_law 253 = .ok (.iload_n 3, 1) := by decide +kernel
theorem dL_law_254 : decode cL_law 254 = .ok (.iconst 1, 1) := by decide +kernel
theorem dL_law_255 : decode cL_law 255 = .ok (.iadd, 1) := by decide +kernel
theorem dL_law_256 : decode cL_law 256 = .ok (.iaload, 1) := by decide +kernel
theorem dL_law_257 : decode cL_law 257 = .ok (.aload_n 0, 1) := by decide +kernel
theorem dL_law_258 : decode cL_law 258 = .ok (.iload_n 3, 1) := by decide +kernel
theorem dL_law_259 : decode cL_law 259 = .ok (.iconst 2, 1) := by decide +kernel
theorem dL_law_260 : decode cL_law 260 = .ok (.iadd, 1) := by decide +kernel
theorem dL_law_261 : decode cL_law 261 = .ok (.iaload, 1) := by decide +kernel
theorem dL_law_262 : decode cL_law 262 = .ok (.invokevirtual 36, 3) := by decide +kernel
theorem dL_law_265 : decode cL_law 265 = .ok (.aload_n 2, 1) := by decide +kernel
theorem dL_law_266 : decode cL_law 266 = .ok (.aload_n 0, 1) := by decide +kernel
theorem dL_law_267 : decode cL_law 267 = .ok (.iload_n 3, 1) := by decide +kernel
theorem dL_law_268 : decode cL_law 268 = .ok (.iconst 1, 1) := by decide +kernel
theorem dL_law_269 : decode cL_law 269 = .ok (.iadd, 1) := by decide +kernel
theorem dL_law_270 : decode cL_law 270 = .ok (.iaload, 1) := by decide +kernel
theorem dL_law_271 : decode cL_law 271 = .ok (.aload_n 0, 1) := by decide +kernel
theorem dL_law_272 : decode cL_law 272 = .ok (.iload_n 3, 1) := by decide +kernel
theorem dL_law_273 : decode cL_law 273 = .ok (.iconst 2, 1) := by decide +kernel
theorem dL_law_274 : decode cL_law 274 = .ok (.iadd, 1) := by decide +kernel
theorem dL_law_275 : decode cL_law 275 = .ok (.iaload, 1) := by decide +kernel
theorem dL_law_276 : decode cL_law 276 = .ok (.invokevirtual 39, 3) := by decide +kernel
theorem dL_law_279 : decode cL_law 279 = .ok (.if_icmp .eq 238, 3) := by decide +kernel
theorem dL_law_282 : decode cL_law 282 = .ok (.iconst 0, 1) := by decide +kernel
theorem dL_law_283 : decode cL_law 283 = .ok (.ireturn, 1) := by decide +kernel
theorem dL_law_284 : decode cL_law 284 = .ok (.aload_n 1, 1) := by decide +kernel
theorem dL_law_285 : decode cL_law 285 = .ok (.aload_n 0, 1) := by decide +kernel
theorem dL_law_286 : decode cL_law 286 = .ok (.iload_n 3, 1) := by decide +kernel
theorem dL_law_287 : decode cL_law 287 = .ok (.iconst 1, 1) := by decide +kernel
theorem dL_law_288 : decode cL_law 288 = .ok (.iadd, 1) := by decide +kernel
theorem dL_law_289 : decode cL_law 289 = .ok (.iaload, 1) := by decide +kernel
theorem dL_law_290 : decode cL_law 290 = .ok (.aload_n 0, 1) := by decide +kernel
theorem dL_law_291 : decode cL_law 291 = .ok (.iload_n 3, 1) := by decide +kernel
theorem dL_law_292 : decode cL_law 292 = .ok (.iconst 2, 1) := by decide +kernel
theorem dL_law_293 : decode cL_law 293 = .ok (.iadd, 1) := by decide +kernel
theorem dL_law_294 : decode cL_law 294 = .ok (.iaload, 1) := by decide +kernel
theorem dL_law_295 : decode cL_law 295 = .ok (.invokevirtual 40, 3) := by decide +kernel
theorem dL_law_298 : decode cL_law 298 = .ok (.aload_n 2, 1) := by decide +kernel
theorem dL_law_299 : decode cL_law 299 = .ok (.aload_n 0, 1) := by decide +kernel
theorem dL_law_300 : decode cL_law 300 = .ok (.iload_n 3, 1) := by decide +kernel
theorem dL_law_301 : decode cL_law 301 = .ok (.iconst 1, 1) := by decide +kernel
theorem dL_law_302 : decode cL_law 302 = .ok (.iadd, 1) := by decide +kernel
theorem dL_law_303 : decode cL_law 303 = .ok (.iaload, 1) := by decide +kernel
theorem dL_law_304 : decode cL_law 304 = .ok (.aload_n 0, 1) := by decide +kernel
theorem dL_law_305 : decode cL_law 305 = .ok (.iload_n 3, 1) := by decide +kernel
theorem dL_law_306 : decode cL_law 306 = .ok (.iconst 2, 1) := by decide +kernel
theorem dL_law_307 : decode cL_law 307 = .ok (.iadd, 1) := by decide +kernel
theorem dL_law_308 : decode cL_law 308 = .ok (.iaload, 1) := by decide +kernel
theorem dL_law_309 : decode cL_law 309 = .ok (.invokevirtual 43, 3) := by decide +kernel
theorem dL_law_312 : decode cL_law 312 = .ok (.if_icmp .eq 205, 3) := by decide +kernel
theorem dL_law_315 : decode cL_law 315 = .ok (.iconst 0, 1) := by decide +kernel
theorem dL_law_316 : decode cL_law 316 = .ok (.ireturn, 1) := by decide +kernel
theorem dL_law_317 : decode cL_law 317 = .ok (.aload_n 1, 1) := by decide +kernel
theorem dL_law_318 : decode cL_law 318 = .ok (.invokevirtual 44, 3) := by decide +kernel
theorem dL_law_321 : decode cL_law 321 = .ok (.aload_n 2, 1) := by decide +kernel
theorem dL_law_322 : decode cL_law 322 = .ok (.invokevirtual 47, 3) := by decide +kernel
theorem dL_law_325 : decode cL_law 325 = .ok (.if_icmp .eq 192, 3) := by decide +kernel
theorem dL_law_328 : decode cL_law 328 = .ok (.iconst 0, 1) := by decide +kernel
theorem dL_law_329 : decode cL_law 329 = .ok (.ireturn, 1) := by decide +kernel
theorem dL_law_330 : decode cL_law 330 = .ok (.aload_n 1, 1) := by decide +kernel
theorem dL_law_331 : decode cL_law 331 = .ok (.aload_n 0, 1) := by decide +kernel
theorem dL_law_332 : decode cL_law 332 = .ok (.iload_n 3, 1) := by decide +kernel
theorem dL_law_333 : decode cL_law 333 = .ok (.iconst 1, 1) := by decide +kernel
theorem dL_law_334 : decode cL_law 334 = .ok (.iadd, 1) := by decide +kernel
theorem dL_law_335 : decode cL_law 335 = .ok (.iaload, 1) := by decide +kernel
theorem dL_law_336 : decode cL_law 336 = .ok (.invokevirtual 48, 3) := by decide +kernel
theorem dL_law_339 : decode cL_law 339 = .ok (.aload_n 2, 1) := by decide +kernel
theorem dL_law_340 : decode cL_law 340 = .ok (.aload_n 0, 1) := by decide +kernel
theorem dL_law_341 : decode cL_law 341 = .ok (.iload_n 3, 1) := by decide +kernel
theorem dL_law_342 : decode cL_law 342 = .ok (.iconst 1, 1) := by decide +kernel
theorem dL_law_343 : decode cL_law 343 = .ok (.iadd, 1) := by decide +kernel
theorem dL_law_344 : decode cL_law 344 = .ok (.iaload, 1) := by decide +kernel
theorem dL_law_345 : decode cL_law 345 = .ok (.invokevirtual 52, 3) := by decide +kernel
theorem dL_law_348 : decode cL_law 348 = .ok (.if_icmp .eq 169, 3) := by decide +kernel
theorem dL_law_351 : decode cL_law 351 = .ok (.iconst 0, 1) := by decide +kernel
theorem dL_law_352 : decode cL_law 352 = .ok (.ireturn, 1) := by decide +kernel
theorem dL_law_353 : decode cL_law 353 = .ok (.aload_n 1, 1) := by decide +kernel
theorem dL_law_354 : decode cL_law 354 = .ok (.aload_n 0, 1) := by decide +kernel
theorem dL_law_355 : decode cL_law 355 = .ok (.iload_n 3, 1) := by decide +kernel
theorem dL_law_356 : decode cL_law 356 = .ok (.iconst 1, 1) := by decide +kernel
theorem dL_law_357 : decode cL_law 357 = .ok (.iadd, 1) := by decide +kernel
theorem dL_law_358 : decode cL_law 358 = .ok (.iaload, 1) := by decide +kernel
theorem dL_law_359 : decode cL_law 359 = .ok (.invokevirtual 53, 3) := by decide +kernel
theorem dL_law_362 : decode cL_law 362 = .ok (.aload_n 2, 1) := by decide +kernel
theorem dL_law_363 : decode cL_law 363 = .ok (.aload_n 0, 1) := by decide +kernel
theorem dL_law_364 : decode cL_law 364 = .ok (.iload_n 3, 1) := by decide +kernel
theorem dL_law_365 : decode cL_law 365 = .ok (.iconst 1, 1) := by decide +kernel
theorem dL_law_366 : decode cL_law 366 = .ok (.iadd, 1) := by decide +kernel
theorem dL_law_367 : decode cL_law 367 = .ok (.iaload, 1) := by decide +kernel
theorem dL_law_368 : decode cL_law 368 = .ok (.invokevirtual 56, 3) := by decide +kernel
theorem dL_law_371 : decode cL_law 371 = .ok (.if_icmp .eq 146, 3) := by decide +kernel
theorem dL_law_374 : decode cL_law 374 = .ok (.iconst 0, 1) := by decide +kernel
theorem dL_law_375 : decode cL_law 375 = .ok (.ireturn, 1) := by decide +kernel
theorem dL_law_376 : decode cL_law 376 = .ok (.aload_n 1, 1) := by decide +kernel
theorem dL_law_377 : decode cL_law 377 = .ok (.invokevirtual 57, 3) := by decide +kernel
theorem dL_law_380 : decode cL_law 380 = .ok (.aload_n 2, 1) := by decide +kernel
theorem dL_law_381 : decode cL_law 381 = .ok (.invokevirtual 60, 3) := by decide +kernel
theorem dL_law_384 : decode cL_law 384 = .ok (.if_icmp .eq 133, 3) := by decide +kernel
theorem dL_law_387 : decode cL_law 387 = .ok (.iconst 0, 1) := by decide +kernel
theorem dL_law_388 : decode cL_law 388 = .ok (.ireturn, 1) := by decide +kernel
theorem dL_law_389 : decode cL_law 389 = .ok (.aload_n 1, 1) := by decide +kernel
theorem dL_law_390 : decode cL_law 390 = .ok (.invokevirtual 61, 3) := by decide +kernel
theorem dL_law_393 : decode cL_law 393 = .ok (.aload_n 2, 1) := by decide +kernel
theorem dL_law_394 : decode cL_law 394 = .ok (.invokevirtual 64, 3) := by decide +kernel
theorem dL_law_397 : decode cL_law 397 = .ok (.if_icmp .eq 120, 3) := by decide +kernel
theorem dL_law_400 : decode cL_law 400 = .ok (.iconst 0, 1) := by decide +kernel
theorem dL_law_401 : decode cL_law 401 = .ok (.ireturn, 1) := by decide +kernel
theorem dL_law_402 : decode cL_law 402 = .ok (.aload_n 1, 1) := by decide +kernel
theorem dL_law_403 : decode cL_law 403 = .ok (.aload_n 0, 1) := by decide +kernel
theorem dL_law_404 : decode cL_law 404 = .ok (.iload_n 3, 1) := by decide +kernel
theorem dL_law_405 : decode cL_law 405 = .ok (.iconst 1, 1) := by decide +kernel
theorem dL_law_406 : decode cL_law 406 = .ok (.iadd, 1) := by decide +kernel
theorem dL_law_407 : decode cL_law 407 = .ok (.iaload, 1) := by decide +kernel
theorem dL_law_408 : decode cL_law 408 = .ok (.aload_n 0, 1) := by decide +kernel
theorem dL_law_409 : decode cL_law 409 = .ok (.iload_n 3, 1) := by decide +kernel
theorem dL_law_410 : decode cL_law 410 = .ok (.iconst 2, 1) := by decide +kernel
theorem dL_law_411 : decode cL_law 411 = .ok (.iadd, 1) := by decide +kernel
theorem dL_law_412 : decode cL_law 412 = .ok (.iaload, 1) := by decide +kernel
theorem dL_law_413 : decode cL_law 413 = .ok (.invokevirtual 65, 3) := by decide +kernel
theorem dL_law_416 : decode cL_law 416 = .ok (.aload_n 2, 1) := by decide +kernel
theorem dL_law_417 : decode cL_law 417 = .ok (.aload_n 0, 1) := by decide +kernel
theorem dL_law_418 : decode cL_law 418 = .ok (.iload_n 3, 1) := by decide +kernel
theorem dL_law_419 : decode cL_law 419 = .ok (.iconst 1, 1) := by decide +kernel
theorem dL_law_420 : decode cL_law 420 = .ok (.iadd, 1) := by decide +kernel
theorem dL_law_421 : decode cL_law 421 = .ok (.iaload, 1) := by decide +kernel
theorem dL_law_422 : decode cL_law 422 = .ok (.aload_n 0, 1) := by decide +kernel
theorem dL_law_423 : decode cL_law 423 = .ok (.iload_n 3, 1) := by decide +kernel
theorem dL_law_424 : decode cL_law 424 = .ok (.iconst 2, 1) := by decide +kernel
theorem dL_law_425 : decode cL_law 425 = .ok (.iadd, 1) := by decide +kernel
theorem dL_law_426 : decode cL_law 426 = .ok (.iaload, 1) := by decide +kernel
theorem dL_law_427 : decode cL_law 427 = .ok (.invokevirtual 68, 3) := by decide +kernel
theorem dL_law_430 : decode cL_law 430 = .ok (.if_icmp .eq 87, 3) := by decide +kernel
theorem dL_law_433 : decode cL_law 433 = .ok (.iconst 0, 1) := by decide +kernel
theorem dL_law_434 : decode cL_law 434 = .ok (.ireturn, 1) := by decide +kernel
theorem dL_law_435 : decode cL_law 435 = .ok (.aload_n 1, 1) := by decide +kernel
theorem dL_law_436 : decode cL_law 436 = .ok (.aload_n 0, 1) := by decide +kernel
theorem dL_law_437 : decode cL_law 437 = .ok (.iload_n 3, 1) := by decide +kernel
theorem dL_law_438 : decode cL_law 438 = .ok (.iconst 1, 1) := by decide +kernel
theorem dL_law_439 : decode cL_law 439 = .ok (.iadd, 1) := by decide +kernel
theorem dL_law_440 : decode cL_law 440 = .ok (.iaload, 1) := by decide +kernel
theorem dL_law_441 : decode cL_law 441 = .ok (.aload_n 0, 1) := by decide +kernel
theorem dL_law_442 : decode cL_law 442 = .ok (.iload_n 3, 1) := by decide +kernel
theorem dL_law_443 : decode cL_law 443 = .ok (.iconst 2, 1) := by decide +kernel
theorem dL_law_444 : decode cL_law 444 = .ok (.iadd, 1) := by decide +kernel
theorem dL_law_445 : decode cL_law 445 = .ok (.iaload, 1) := by decide +kernel
theorem dL_law_446 : decode cL_law 446 = .ok (.invokevirtual 69, 3) := by decide +kernel
theorem dL_law_449 : decode cL_law 449 = .ok (.aload_n 2, 1) := by decide +kernel
theorem dL_law_450 : decode cL_law 450 = .ok (.aload_n 0, 1) := by decide +kernel
theorem dL_law_451 : decode cL_law 451 = .ok (.iload_n 3, 1) := by decide +kernel
theorem dL_law_452 : decode cL_law 452 = .ok (.iconst 1, 1) := by decide +kernel
theorem dL_law_453 : decode cL_law 453 = .ok (.iadd, 1) := by decide +kernel
theorem dL_law_454 : decode cL_law 454 = .ok (.iaload, 1) := by decide +kernel
theorem dL_law_455 : decode cL_law 455 = .ok (.aload_n 0, 1) := by decide +kernel
theorem dL_law_456 : decode cL_law 456 = .ok (.iload_n 3, 1) := by decide +kernel
theorem dL_law_457 : decode cL_law 457 = .ok (.iconst 2, 1) := by decide +kernel
theorem dL_law_458 : decode cL_law 458 = .ok (.iadd, 1) := by decide +kernel
theorem dL_law_459 : decode cL_law 459 = .ok (.iaload, 1) := by decide +kernel
theorem dL_law_460 : decode cL_law 460 = .ok (.invokevirtual 72, 3) := by decide +kernel
theorem dL_law_463 : decode cL_law 463 = .ok (.if_icmp .eq 54, 3) := by decide +kernel
theorem dL_law_466 : decode cL_law 466 = .ok (.iconst 0, 1) := by decide +kernel
theorem dL_law_467 : decode cL_law 467 = .ok (.ireturn, 1) := by decide +kernel
theorem dL_law_468 : decode cL_law 468 = .ok (.aload_n 1, 1) := by decide +kernel
theorem dL_law_469 : decode cL_law 469 = .ok (.invokevirtual 73, 3) := by decide +kernel
theorem dL_law_472 : decode cL_law 472 = .ok (.aload_n 2, 1) := by decide +kernel
theorem dL_law_473 : decode cL_law 473 = .ok (.invokevirtual 76, 3) := by decide +kernel
theorem dL_law_476 : decode cL_law 476 = .ok (.if_icmp .eq 41, 3) := by decide +kernel
theorem dL_law_479 : decode cL_law 479 = .ok (.iconst 0, 1) := by decide +kernel
theorem dL_law_480 : decode cL_law 480 = .ok (.ireturn, 1) := by decide +kernel
theorem dL_law_481 : decode cL_law 481 = .ok (.aload_n 1, 1) := by decide +kernel
theorem dL_law_482 : decode cL_law 482 = .ok (.invokevirtual 77, 3) := by decide +kernel
theorem dL_law_485 : decode cL_law 485 = .ok (.aload_n 2, 1) := by decide +kernel
theorem dL_law_486 : decode cL_law 486 = .ok (.invokevirtual 80, 3) := by decide +kernel
theorem dL_law_489 : decode cL_law 489 = .ok (.if_icmp .eq 28, 3) := by decide +kernel
theorem dL_law_492 : decode cL_law 492 = .ok (.iconst 0, 1) := by decide +kernel
theorem dL_law_493 : decode cL_law 493 = .ok (.ireturn, 1) := by decide +kernel
theorem dL_law_494 : decode cL_law 494 = .ok (.aload_n 1, 1) := by decide +kernel
theorem dL_law_495 : decode cL_law 495 = .ok (.aload_n 0, 1) := by decide +kernel
theorem dL_law_496 : decode cL_law 496 = .ok (.iload_n 3, 1) := by decide +kernel
theorem dL_law_497 : decode cL_law 497 = .ok (.iconst 1, 1) := by decide +kernel
theorem dL_law_498 : decode cL_law 498 = .ok (.iadd, 1) := by decide +kernel
theorem dL_law_499 : decode cL_law 499 = .ok (.iaload, 1) := by decide +kernel
theorem dL_law_500 : decode cL_law 500 = .ok (.invokevirtual 81, 3) := by decide +kernel
theorem dL_law_503 : decode cL_law 503 = .ok (.aload_n 2, 1) := by decide +kernel
theorem dL_law_504 : decode cL_law 504 = .ok (.aload_n 0, 1) := by decide +kernel
theorem dL_law_505 : decode cL_law 505 = .ok (.iload_n 3, 1) := by decide +kernel
theorem dL_law_506 : decode cL_law 506 = .ok (.iconst 1, 1) := by decide +kernel
theorem dL_law_507 : decode cL_law 507 = .ok (.iadd, 1) := by decide +kernel
theorem dL_law_508 : decode cL_law 508 = .ok (.iaload, 1) := by decide +kernel
theorem dL_law_509 : decode cL_law 509 = .ok (.invokevirtual 84, 3) := by decide +kernel
theorem dL_law_512 : decode cL_law 512 = .ok (.if_icmp .eq 5, 3) := by decide +kernel
theorem dL_law_515 : decode cL_law 515 = .ok (.iconst 0, 1) := by decide +kernel
theorem dL_law_516 : decode cL_law 516 = .ok (.ireturn, 1) := by decide +kernel
theorem dL_law_517 : decode cL_law 517 = .ok (.iinc 3 4, 3) := by decide +kernel
theorem dL_law_520 : decode cL_law 520 = .ok (.goto (-502), 3) := by decide +kernel
theorem dL_law_523 : decode cL_law 523 = .ok (.iconst 1, 1) := by decide +kernel
theorem dL_law_524 : decode cL_law 524 = .ok (.ireturn, 1) := by decide +kernel
abbrev vwCl : List vw_C := [(RX0, TX0, 12), (RX1, TX1, 12), (RX2, TX2, 4), (RX3, TX3, 16)]
end
section
/-- the one word that isn't in the lists: Floor's call of JobShop's private isIn -/
def nw (U : State) : Prop := va_Nw (.methodLinkNest RX0 56 yX2_isIn RX2) U
theorem nw_w {s U : State} (hW : s.WarmedH U.vm) (h : nw s) : nw U := va_Nw.warmM hW h
theorem nw_c {U : State} {g : JFrame} {mk : MethodId} {a : Array Value} (h : nw U) : nw (U.calling g mk a) := va_Nw.same rfl rfl h
section Help
variable {p : Program} {l : Launch} {e : Env} {R : Room} {s : State} {m : MethodId} {args : Array Value} {below : List Frame} {meth : Method} {c : Code} {H : Heap} {locs : List Loc} {cells slots : Nat} {Q : State → Prop}
/-- a loop at one place: an invariant over a tuple, a measure, and what the heap and the locals hold -/
theorem lp_W {σ : Type} {I : σ → Prop} (μ : σ → Nat) (G : σ → Heap → List Loc → Array Slot → Prop) {pc : Nat}
    (hs : ∀ (z : σ) (H : Heap) (locs : List Loc) (ls : Array Slot), I z → G z H locs ls → (∀ (y : σ) (H : Heap) (locs : List Loc) (ls : Array Slot), I y → μ y < μ z → G y H locs ls → W p l e R s m args below meth c H locs cells slots Q (F0 m pc ls [])) → W p l e R s m args below meth c H locs cells slots Q (F0 m pc ls []))
    (z : σ) (H : Heap) (locs : List Loc) (ls : Array Slot) (hI : I z) (hG : G z H locs ls) : W p l e R s m args below meth c H locs cells slots Q (F0 m pc ls []) := by
  suffices h : ∀ (n : Nat) (z : σ) (H : Heap) (locs : List Loc) (ls : Array Slot), μ z < n → I z → G z H locs ls → W p l e R s m args below meth c H locs cells slots Q (F0 m pc ls []) from h (μ z + 1) z H locs ls (Nat.lt_succ_self _) hI hG
  intro n
  induction n with
  | zero => intro z H locs ls hn; exact absurd hn (Nat.not_lt_zero _)
  | succ n ih =>
    intro z H locs ls hn hI hG
    exact hs z H locs ls hI hG (fun y H' locs' ls' hIy hy hGy => ih y H' locs' ls' (by omega) hIy hGy)
theorem W_heap {H' : Heap} {g : JFrame} (h : H = H') (k : W p l e R s m args below meth c H locs cells slots Q g) : W p l e R s m args below meth c H' locs cells slots Q g := h ▸ k
/-- a place where paths meet -/
theorem jn_W {σ : Type} {J : σ → Prop} (pj : Nat) (stk : σ → List Value) (G : σ → Heap → List Loc → Array Slot → Prop) {g : JFrame}
    (h1 : ∀ (z : σ) (H : Heap) (locs : List Loc) (ls : Array Slot), J z → G z H locs ls → W p l e R s m args below meth c H locs cells slots Q (F0 m pj ls (stk z)))
    (h2 : (∀ (z : σ) (H : Heap) (locs : List Loc) (ls : Array Slot), J z → G z H locs ls → W p l e R s m args below meth c H locs cells slots Q (F0 m pj ls (stk z))) → W p l e R s m args below meth c H locs cells slots Q g) : W p l e R s m args below meth c H locs cells slots Q g := h2 h1
theorem kc_free {A0 : Nat → Prop} {wr wc : va_W} {H0 H : Heap} {locs : List Loc} (hD : va_D A0 (wr ++ wc)) (hS : va_S A0 H0 H locs) (hA : ∀ q, H0.size ≤ q → A0 q) : ∀ q, va_A wc H.size q → A0 q := by
  rintro q (⟨k, e, h⟩ | h)
  · exact hD.2 (wr.length + k) (q, e) (by rw [List.getElem?_append_right (Nat.le_add_right _ _), Nat.add_sub_cancel_left]; exact h)
  · exact hA q (Nat.le_trans hS.1 h)
theorem kc_left {A0 : Nat → Prop} {D : va_G} {cl : List vw_C} {wr wc : va_W} {H : Heap} (hP : va_P D cl (wr ++ wc) H) (hD : va_D A0 (wr ++ wc)) : va_P D cl wr H ∧ va_D A0 wr := by
  have key : ∀ (k : Nat) (q : Nat × va_E), wr[k]? = some q → (wr ++ wc)[k]? = some q := fun k q h => by
    rw [List.getElem?_append_left (List.getElem?_eq_some_iff.mp h).1]; exact h
  exact ⟨fun k q h => hP k q (key k q h), fun i j x y hi hj => hD.1 i j x y (key i x hi) (key j y hj), fun k q h => hD.2 k q (key k q h)⟩
theorem kc_right {A0 : Nat → Prop} {D : va_G} {cl : List vw_C} {wr wc : va_W} {H : Heap} (hP : va_P D cl (wr ++ wc) H) (hD : va_D A0 (wr ++ wc)) : va_P D cl wc H ∧ va_D (fun _ => True) wc := by
  have key : ∀ (k : Nat) (q : Nat × va_E), wc[k]? = some q → (wr ++ wc)[wr.length + k]? = some q := fun k q h => by
    rw [List.getElem?_append_right (Nat.le_add_right _ _), Nat.add_sub_cancel_left]; exact h
  refine ⟨fun k q h => hP _ q (key k q h), fun i j x y hi hj hxy => ?_, fun _ _ _ => trivial⟩
  have := hD.1 _ _ x y (key i x hi) (key j y hj) hxy
  omega
theorem kc_join {A0 : Nat → Prop} {D : va_G} {cl : List vw_C} {wr wc w1 : va_W} {H H1 : Heap} (hP : va_P D cl (wr ++ wc) H) (hD : va_D A0 (wr ++ wc)) (hk : ∀ q : Nat, q < H.size → ¬ va_A wc H.size q → H1[q]? = H[q]?) (hF : ∀ q, va_A wc H.size q → A0 q) (hP1 : va_P D cl w1 H1) (hD1 : va_D (va_A wc H.size) w1) : va_P D cl (wr ++ w1) H1 ∧ va_D A0 (wr ++ w1) := by
  obtain ⟨hPr, hDr⟩ := kc_left hP hD
  have apart : ∀ (k : Nat) (q : Nat × va_E), wr[k]? = some q → q.1 < H.size ∧ ¬ va_A wc H.size q.1 := by
    intro k q hq
    have hl := (hPr k q hq).lt
    refine ⟨hl, fun h => ?_⟩
    rcases h with ⟨k2, e, h⟩ | h
    · have hlt := (List.getElem?_eq_some_iff.mp hq).1
      have h1 : (wr ++ wc)[k]? = some q := by rw [List.getElem?_append_left hlt]; exact hq
      have h2 : (wr ++ wc)[wr.length + k2]? = some (q.1, e) := by rw [List.getElem?_append_right (Nat.le_add_right _ _), Nat.add_sub_cancel_left]; exact h
      have := hD.1 k (wr.length + k2) q (q.1, e) h1 h2 rfl
      omega
    · omega
  refine ⟨va_P.app (fun k q hq => ?_) hP1, va_D.app hDr (hD1.weaken (fun k q _ h => hF q.1 h)) (fun i j x y hx hy hxy => ?_)⟩
  · obtain ⟨g1, g2⟩ := apart k q hq
    exact (hPr k q hq).kept (hk q.1 g1 g2)
  · exact (apart i x hx).2 (by rw [hxy]; exact hD1.2 j y hy)
/-- a call that answers an int: the callee's cells stand at the end of the caller's -/
theorem kc_i {S : Type} {post : Int32 → S → Prop} {D : va_G} {cl : List vw_C} {tyc : List (ClassId × FieldType)} {wr wc : va_W} {w1 : S → va_W} {A : Nat → Prop} {H0 : Heap} {pc : Nat} {ls : Array Slot} {st0 rest : List Value} {a : Array Value}
    (hr : va_Run p l e R s m args below meth c H locs cells slots 0 0 (F0 m pc ls st0) rest (va_Qi post (fun u t => va_P D cl (w1 u) t.heap ∧ va_K D cl tyc t ∧ va_D (va_A wc H.size) (w1 u)) (va_A wc H.size) a) (va_A wc H.size))
    (hP : va_P D cl (wr ++ wc) H) (hD : va_D A (wr ++ wc)) (hS : va_S A H0 H locs) (hA : ∀ q, H0.size ≤ q → A q)
    (kk : ∀ (r : Int32) (u : S) (H1 : Heap) (locs1 : List Loc), post r u → va_P D cl (wr ++ w1 u) H1 → va_D A (wr ++ w1 u) → va_S A H0 H1 locs1 → W p l e R s m args below meth c H1 locs1 cells slots Q (F0 m (pc + 3) ls (.int r :: rest))) :
    W p l e R s m args below meth c H locs cells slots Q (F0 m pc ls st0) := by
  have hF := kc_free hD hS hA
  refine va_calli hr hS (fun q _ h => hF q h) hF (fun r u t H1 locs1 ht hvm hw hB hz hk hS1 => ?_)
  obtain ⟨hP1, -, hD1⟩ := hB
  rw [ht] at hP1
  obtain ⟨hP2, hD2⟩ := kc_join hP hD hk hF hP1 hD1
  exact kk r u H1 locs1 hw hP2 hD2 hS1
theorem kc_v {S : Type} {post : S → Prop} {D : va_G} {cl : List vw_C} {tyc : List (ClassId × FieldType)} {wr wc : va_W} {w1 : S → va_W} {A : Nat → Prop} {H0 : Heap} {pc : Nat} {ls : Array Slot} {st0 rest : List Value} {a : Array Value}
    (hr : va_Run p l e R s m args below meth c H locs cells slots 0 0 (F0 m pc ls st0) rest (va_Qv post (fun u t => va_P D cl (w1 u) t.heap ∧ va_K D cl tyc t ∧ va_D (va_A wc H.size) (w1 u)) (va_A wc H.size) a) (va_A wc H.size))
    (hP : va_P D cl (wr ++ wc) H) (hD : va_D A (wr ++ wc)) (hS : va_S A H0 H locs) (hA : ∀ q, H0.size ≤ q → A q)
    (kk : ∀ (u : S) (H1 : Heap) (locs1 : List Loc), post u → va_P D cl (wr ++ w1 u) H1 → va_D A (wr ++ w1 u) → va_S A H0 H1 locs1 → W p l e R s m args below meth c H1 locs1 cells slots Q (F0 m (pc + 3) ls rest)) :
    W p l e R s m args below meth c H locs cells slots Q (F0 m pc ls st0) := by
  have hF := kc_free hD hS hA
  refine va_callv hr hS (fun q _ h => hF q h) hF (fun u t H1 locs1 ht hvm hw hB hz hk hS1 => ?_)
  obtain ⟨hP1, -, hD1⟩ := hB
  rw [ht] at hP1
  obtain ⟨hP2, hD2⟩ := kc_join hP hD hk hF hP1 hD1
  exact kk u H1 locs1 hw hP2 hD2 hS1
theorem kc_blind {av : List Value} {sz : Nat} {D : va_G} {cl : List vw_C} {tyc : List (ClassId × FieldType)} {wc : va_W} : FrameBlind (va_Pc av (fun U => U.heap.size = sz ∧ va_P D cl wc U.heap ∧ va_K D cl tyc U ∧ va_D (fun _ => True) wc)) :=
  fun a U g mk q => ⟨q.1, q.2.1, q.2.2.1, va_K.moved (u := U) (U := U.calling g mk a) (Vm.Alike.refl U.vm) q.2.2.2.1, q.2.2.2.2⟩
theorem kc_blindN {av : List Value} {sz : Nat} {D : va_G} {cl : List vw_C} {tyc : List (ClassId × FieldType)} {wc : va_W} : FrameBlind (va_Pc av (fun U => U.heap.size = sz ∧ va_P D cl wc U.heap ∧ va_K D cl tyc U ∧ va_D (fun _ => True) wc ∧ nw U)) :=
  fun a U g mk q => ⟨q.1, q.2.1, q.2.2.1, va_K.moved (u := U) (U := U.calling g mk a) (Vm.Alike.refl U.vm) q.2.2.2.1, q.2.2.2.2.1, nw_c q.2.2.2.2.2⟩
theorem kc_preV {D : va_G} {cl : List vw_C} {tys tyc : List (ClassId × FieldType)} {wr wc : va_W} {A : Nat → Prop} {ci q0 b : Nat} {q : vw_C} {fs : List Value} {As : List Value} (hK : va_K D cl tys s) (hP : va_P D cl (wr ++ wc) H) (hD : va_D A (wr ++ wc)) (is : List Nat) (ht : is.filterMap (fun i => tys[i]?) = tyc) (hc : cl[ci]? = some q) (he : (wr ++ wc)[q0]? = some (b, .inr (ci, fs))) (hN : nw s) :
    PreV s H q.1 b (va_Pc (.ref b :: As) (fun U => U.heap.size = H.size ∧ va_P D cl wc U.heap ∧ va_K D cl tyc U ∧ va_D (fun _ => True) wc ∧ nw U)) As := by
  obtain ⟨hPc, hDc⟩ := kc_right hP hD
  have hKc : va_K D cl tyc s := hK.sub is ht
  exact ⟨kc_blindN, va_recv hK hP hc he, fun U hU hW => ⟨rfl, by rw [hU], by rw [hU]; exact hPc, va_K.moved hW.alike hKc, hDc, nw_w hW hN⟩⟩
theorem kc_preVM {D : va_G} {cl : List vw_C} {tys tyc : List (ClassId × FieldType)} {wr wc : va_W} {A : Nat → Prop} {ci q0 b : Nat} {q : vw_C} {fs : List Value} {As : List Value} (hK : va_K D cl tys s) (hP : va_P D cl (wr ++ wc) H) (hD : va_D A (wr ++ wc)) (is : List Nat) (ht : is.filterMap (fun i => tys[i]?) = tyc) (hc : cl[ci]? = some q) (he : (wr ++ wc)[q0]? = some (b, .inr (ci, fs))) :
    PreV s H q.1 b (va_Pc (.ref b :: As) (fun U => U.heap.size = H.size ∧ va_P D cl wc U.heap ∧ va_K D cl tyc U ∧ va_D (fun _ => True) wc)) As := by
  obtain ⟨hPc, hDc⟩ := kc_right hP hD
  have hKc : va_K D cl tyc s := hK.sub is ht
  exact ⟨kc_blind, va_recv hK hP hc he, fun U hU hW => ⟨rfl, by rw [hU], by rw [hU]; exact hPc, va_K.moved hW.alike hKc, hDc⟩⟩
theorem kc_preS {D : va_G} {cl : List vw_C} {tys tyc : List (ClassId × FieldType)} {wr wc : va_W} {A : Nat → Prop} {As : List Value} (hK : va_K D cl tys s) (hP : va_P D cl (wr ++ wc) H) (hD : va_D A (wr ++ wc)) (is : List Nat) (ht : is.filterMap (fun i => tys[i]?) = tyc) :
    PreS s H (va_Pc As (fun U => U.heap.size = H.size ∧ va_P D cl wc U.heap ∧ va_K D cl tyc U ∧ va_D (fun _ => True) wc)) As := by
  obtain ⟨hPc, hDc⟩ := kc_right hP hD
  have hKc : va_K D cl tyc s := hK.sub is ht
  exact ⟨kc_blind, fun U hU hW => ⟨rfl, by rw [hU], by rw [hU]; exact hPc, va_K.moved hW.alike hKc, hDc⟩⟩
end Help
theorem nar_b {v : Int32} (h : v = 0 ∨ v = 1) : narrow .boolean (.int v) = .int v := by
  rcases h with rfl | rfl <;> rfl
theorem cp_le {n : Int32} {N : Nat} (h : n.toNatClampNeg ≤ N) : (0 : Int32).toNatClampNeg + n.toNatClampNeg ≤ N := by
  rw [sb_cl0, Nat.zero_add]; exact h
end
section
abbrev wF (h_F h_F_firstOf h_F_lastOf h_F_jobOf h_F_machineOf h_F_duration h_F_nextOf h_F_arcs h_F_head h_F_tail h_F_kept : Nat) (cI : ClassId) (F_jobs : Int32) (F_size : Int32) (F_firstOf : Nat → Int32) (F_lastOf : Nat → Int32) (F_jobOf : Nat → Int32) (F_machineOf : Nat → Int32) (F_duration : Nat → Int32) (F_nextOf : Nat → Int32) (F_arcs : Nat → Int32) (F_head : Nat → Int32) (F_tail : Nat → Int32) (F_kept : Nat → Int32) : va_W := [(h_F, .inr (0, [.int F_jobs, .int F_size, .ref h_F_firstOf, .ref h_F_lastOf, .ref h_F_jobOf, .ref h_F_machineOf, .ref h_F_duration, .ref h_F_nextOf, .ref h_F_arcs, .ref h_F_head, .ref h_F_tail, .ref h_F_kept])), (h_F_firstOf, .inl (cI, 4, .inl F_firstOf)), (h_F_lastOf, .inl (cI, 4, .inl F_lastOf)), (h_F_jobOf, .inl (cI, 12, .inl F_jobOf)), (h_F_machineOf, .inl (cI, 12, .inl F_machineOf)), (h_F_duration, .inl (cI, 12, .inl F_duration)), (h_F_nextOf, .inl (cI, 12, .inl F_nextOf)), (h_F_arcs, .inl (cI, 12, .inl F_arcs)), (h_F_head, .inl (cI, 12, .inl F_head)), (h_F_tail, .inl (cI, 12, .inl F_tail)), (h_F_kept, .inl (cI, 12, .inl F_kept))]
abbrev wS (h_S h_S_plan h_S_start h_S_needs h_S_turn h_S_jobFree h_S_machineFree h_S_workLeft h_S_waiting h_F h_F_firstOf h_F_lastOf h_F_jobOf h_F_machineOf h_F_duration h_F_nextOf h_F_arcs h_F_head h_F_tail h_F_kept : Nat) (cI : ClassId) (S_least : Int32) (S_found : Int32) (S_placed : Int32) (S_plan : Nat → Int32) (S_start : Nat → Int32) (S_needs : Nat → Int32) (S_turn : Nat → Int32) (S_jobFree : Nat → Int32) (S_machineFree : Nat → Int32) (S_workLeft : Nat → Int32) (S_waiting : Nat → Int32) (F_jobs : Int32) (F_size : Int32) (F_firstOf : Nat → Int32) (F_lastOf : Nat → Int32) (F_jobOf : Nat → Int32) (F_machineOf : Nat → Int32) (F_duration : Nat → Int32) (F_nextOf : Nat → Int32) (F_arcs : Nat → Int32) (F_head : Nat → Int32) (F_tail : Nat → Int32) (F_kept : Nat → Int32) : va_W := [(h_S, .inr (1, [.int S_least, .int S_found, .ref h_S_plan, .ref h_F, .ref h_S_start, .ref h_S_needs, .ref h_S_turn, .ref h_S_jobFree, .ref h_S_machineFree, .ref h_S_workLeft, .ref h_S_waiting, .int S_placed])), (h_S_plan, .inl (cI, 12, .inl S_plan)), (h_S_start, .inl (cI, 12, .inl S_start)), (h_S_needs, .inl (cI, 12, .inl S_needs)), (h_S_turn, .inl (cI, 4, .inl S_turn)), (h_S_jobFree, .inl (cI, 4, .inl S_jobFree)), (h_S_machineFree, .inl (cI, 4, .inl S_machineFree)), (h_S_workLeft, .inl (cI, 4, .inl S_workLeft)), (h_S_waiting, .inl (cI, 4, .inl S_waiting)), (h_F, .inr (0, [.int F_jobs, .int F_size, .ref h_F_firstOf, .ref h_F_lastOf, .ref h_F_jobOf, .ref h_F_machineOf, .ref h_F_duration, .ref h_F_nextOf, .ref h_F_arcs, .ref h_F_head, .ref h_F_tail, .ref h_F_kept])), (h_F_firstOf, .inl (cI, 4, .inl F_firstOf)), (h_F_lastOf, .inl (cI, 4, .inl F_lastOf)), (h_F_jobOf, .inl (cI, 12, .inl F_jobOf)), (h_F_machineOf, .inl (cI, 12, .inl F_machineOf)), (h_F_duration, .inl (cI, 12, .inl F_duration)), (h_F_nextOf, .inl (cI, 12, .inl F_nextOf)), (h_F_arcs, .inl (cI, 12, .inl F_arcs)), (h_F_head, .inl (cI, 12, .inl F_head)), (h_F_tail, .inl (cI, 12, .inl F_tail)), (h_F_kept, .inl (cI, 12, .inl F_kept))]
abbrev wJ (h_J h_J_drafted h_S h_S_plan h_S_start h_S_needs h_S_turn h_S_jobFree h_S_machineFree h_S_workLeft h_S_waiting h_F h_F_firstOf h_F_lastOf h_F_jobOf h_F_machineOf h_F_duration h_F_nextOf h_F_arcs h_F_head h_F_tail h_F_kept : Nat) (cI : ClassId) (J_planned : Int32) (J_drafted : Nat → Int32) (S_least : Int32) (S_found : Int32) (S_placed : Int32) (S_plan : Nat → Int32) (S_start : Nat → Int32) (S_needs : Nat → Int32) (S_turn : Nat → Int32) (S_jobFree : Nat → Int32) (S_machineFree : Nat → Int32) (S_workLeft : Nat → Int32) (S_waiting : Nat → Int32) (F_jobs : Int32) (F_size : Int32) (F_firstOf : Nat → Int32) (F_lastOf : Nat → Int32) (F_jobOf : Nat → Int32) (F_machineOf : Nat → Int32) (F_duration : Nat → Int32) (F_nextOf : Nat → Int32) (F_arcs : Nat → Int32) (F_head : Nat → Int32) (F_tail : Nat → Int32) (F_kept : Nat → Int32) : va_W := [(h_J, .inr (2, [.ref h_F, .ref h_S, .ref h_J_drafted, .int J_planned])), (h_J_drafted, .inl (cI, 12, .inl J_drafted)), (h_S, .inr (1, [.int S_least, .int S_found, .ref h_S_plan, .ref h_F, .ref h_S_start, .ref h_S_needs, .ref h_S_turn, .ref h_S_jobFree, .ref h_S_machineFree, .ref h_S_workLeft, .ref h_S_waiting, .int S_placed])), (h_S_plan, .inl (cI, 12, .inl S_plan)), (h_S_start, .inl (cI, 12, .inl S_start)), (h_S_needs, .inl (cI, 12, .inl S_needs)), (h_S_turn, .inl (cI, 4, .inl S_turn)), (h_S_jobFree, .inl (cI, 4, .inl S_jobFree)), (h_S_machineFree, .inl (cI, 4, .inl S_machineFree)), (h_S_workLeft, .inl (cI, 4, .inl S_workLeft)), (h_S_waiting, .inl (cI, 4, .inl S_waiting)), (h_F, .inr (0, [.int F_jobs, .int F_size, .ref h_F_firstOf, .ref h_F_lastOf, .ref h_F_jobOf, .ref h_F_machineOf, .ref h_F_duration, .ref h_F_nextOf, .ref h_F_arcs, .ref h_F_head, .ref h_F_tail, .ref h_F_kept])), (h_F_firstOf, .inl (cI, 4, .inl F_firstOf)), (h_F_lastOf, .inl (cI, 4, .inl F_lastOf)), (h_F_jobOf, .inl (cI, 12, .inl F_jobOf)), (h_F_machineOf, .inl (cI, 12, .inl F_machineOf)), (h_F_duration, .inl (cI, 12, .inl F_duration)), (h_F_nextOf, .inl (cI, 12, .inl F_nextOf)), (h_F_arcs, .inl (cI, 12, .inl F_arcs)), (h_F_head, .inl (cI, 12, .inl F_head)), (h_F_tail, .inl (cI, 12, .inl F_tail)), (h_F_kept, .inl (cI, 12, .inl F_kept))]
abbrev wM (h_M h_M_jobOf h_M_machineOf h_M_durations h_M_arcs h_M_drafts h_M_starts h_M_heads h_M_tails h_M_chosen h_M_orders h_M_sizes : Nat) (cI cZ : ClassId) (M_jobs : Int32) (M_many : Int32) (M_isPlanned : Int32) (M_least : Int32) (M_optima : Int32) (M_jobOf : Nat → Int32) (M_machineOf : Nat → Int32) (M_durations : Nat → Int32) (M_arcs : Nat → Int32) (M_drafts : Nat → Int32) (M_starts : Nat → Int32) (M_heads : Nat → Int32) (M_tails : Nat → Int32) (M_chosen : Nat → Int32) (M_orders : Nat → Int32) (M_sizes : Nat → Int32) : va_W := [(h_M, .inr (3, [.int M_jobs, .int M_many, .ref h_M_jobOf, .ref h_M_machineOf, .ref h_M_durations, .ref h_M_arcs, .ref h_M_drafts, .int M_isPlanned, .ref h_M_starts, .int M_least, .int M_optima, .ref h_M_heads, .ref h_M_tails, .ref h_M_chosen, .ref h_M_orders, .ref h_M_sizes])), (h_M_jobOf, .inl (cI, 12, .inl M_jobOf)), (h_M_machineOf, .inl (cI, 12, .inl M_machineOf)), (h_M_durations, .inl (cI, 12, .inl M_durations)), (h_M_arcs, .inl (cZ, 144, .inl M_arcs)), (h_M_drafts, .inl (cI, 12, .inl M_drafts)), (h_M_starts, .inl (cI, 12, .inl M_starts)), (h_M_heads, .inl (cI, 12, .inl M_heads)), (h_M_tails, .inl (cI, 12, .inl M_tails)), (h_M_chosen, .inl (cZ, 144, .inl M_chosen)), (h_M_orders, .inl (cI, 16, .inl M_orders)), (h_M_sizes, .inl (cI, 4, .inl M_sizes))]
def wp_X0_empty (F_jobs : Int32) (F_size : Int32)  (post : Int32 → Int32 → Prop) : Prop :=
  post 0 0
def wp_X0_isJob (F_jobs : Int32) (a0 : Int32) (post : Int32 → Prop) : Prop :=
  (a0 < 0 → post 0) ∧ (¬ a0 < 0 → (F_jobs ≤ a0 → post 0) ∧ (¬ F_jobs ≤ a0 → post 1))
def wp_X0_isOperation (F_size : Int32) (a0 : Int32) (post : Int32 → Prop) : Prop :=
  (a0 < 0 → post 0) ∧ (¬ a0 < 0 → (F_size ≤ a0 → post 0) ∧ (¬ F_size ≤ a0 → post 1))
def wp_X0_isPair (F_size : Int32) (F_machineOf : Nat → Int32) (a0 : Int32) (a1 : Int32) (post : Int32 → Prop) : Prop :=
  wp_X0_isOperation F_size a0 (fun (r_2 : Int32) => (r_2 = 0 → post 0) ∧ (¬ r_2 = 0 → wp_X0_isOperation F_size a1 (fun (r_10 : Int32) => (r_10 = 0 → post 0) ∧ (¬ r_10 = 0 → (a0 = a1 → post 0) ∧ (¬ a0 = a1 → vp_in a0 12 ∧ (vp_in a1 12 ∧ ((¬ (F_machineOf a0.toNatClampNeg) = (F_machineOf a1.toNatClampNeg) → post 0) ∧ ((F_machineOf a0.toNatClampNeg) = (F_machineOf a1.toNatClampNeg) → post 1))))))))
def wp_X0_addJob (F_jobs : Int32) (F_firstOf : Nat → Int32) (F_lastOf : Nat → Int32)  (post : Int32 → Int32 → (Nat → Int32) → (Nat → Int32) → Prop) : Prop :=
  vp_in F_jobs 4 ∧ (vp_in F_jobs 4 ∧ (post F_jobs (F_jobs + 1) (upd F_firstOf F_jobs.toNatClampNeg (-1)) (upd F_lastOf F_jobs.toNatClampNeg (-1))))
def wp_X0_visits (F_size : Int32) (F_jobOf : Nat → Int32) (F_machineOf : Nat → Int32) (a0 : Int32) (a1 : Int32) (post : Int32 → Prop) : Prop :=
  ∃ (I_2 : Int32 → Prop) (μ_2 : Int32 → Nat), I_2 0 ∧ ∀ (x3_2 : Int32), I_2 x3_2 → ((F_size ≤ x3_2 → post 0) ∧ (¬ F_size ≤ x3_2 → vp_in x3_2 12 ∧ ((¬ (F_jobOf x3_2.toNatClampNeg) = a0 → I_2 (x3_2 + 1) ∧ μ_2 (x3_2 + 1) < μ_2 x3_2) ∧ ((F_jobOf x3_2.toNatClampNeg) = a0 → vp_in x3_2 12 ∧ ((¬ (F_machineOf x3_2.toNatClampNeg) = a1 → I_2 (x3_2 + 1) ∧ μ_2 (x3_2 + 1) < μ_2 x3_2) ∧ ((F_machineOf x3_2.toNatClampNeg) = a1 → post 1))))))
def wp_X0_followers (F_nextOf : Nat → Int32) (F_arcs : Nat → Int32) (a0 : Int32) (post : Int32 → Prop) : Prop :=
  vp_in a0 12 ∧ ((¬ (F_nextOf a0.toNatClampNeg) = (-1) → vp_in a0 12 ∧ (vp_in a0 12 ∧ (post ((F_arcs a0.toNatClampNeg) ||| ((1 : Int32) <<< ((F_nextOf a0.toNatClampNeg) &&& 31)))))) ∧ ((F_nextOf a0.toNatClampNeg) = (-1) → vp_in a0 12 ∧ (post (F_arcs a0.toNatClampNeg))))
def wp_X2_isIn  (a0 : Int32) (a1 : Int32) (post : Int32 → Prop) : Prop :=
  (((a0 >>> (a1 &&& 31)) &&& 1) = 0 → post 0) ∧ (¬ ((a0 >>> (a1 &&& 31)) &&& 1) = 0 → post 1)
def wp_X0_stretch (F_size : Int32) (F_duration : Nat → Int32) (F_nextOf : Nat → Int32) (F_arcs : Nat → Int32) (F_head : Nat → Int32) (F_tail : Nat → Int32) (a0 : Int32) (post : Int32 → (Nat → Int32) → (Nat → Int32) → Prop) : Prop :=
  wp_X0_followers F_nextOf F_arcs a0 (fun (r_4 : Int32) => ∃ (I_11 : Int32 → Int32 → (Nat → Int32) → (Nat → Int32) → Prop) (μ_11 : Int32 → Int32 → (Nat → Int32) → (Nat → Int32) → Nat), I_11 0 0 F_head F_tail ∧ ∀ (x2_11 : Int32) (x4_11 : Int32) (F_head_11 : Nat → Int32) (F_tail_11 : Nat → Int32), I_11 x2_11 x4_11 F_head_11 F_tail_11 → ((F_size ≤ x4_11 → (x2_11 = 0 ∨ x2_11 = 1) ∧ post x2_11 F_head_11 F_tail_11) ∧ (¬ F_size ≤ x4_11 → wp_X2_isIn r_4 x4_11 (fun (r_23 : Int32) => (r_23 = 0 → I_11 x2_11 (x4_11 + 1) F_head_11 F_tail_11 ∧ μ_11 x2_11 (x4_11 + 1) F_head_11 F_tail_11 < μ_11 x2_11 x4_11 F_head_11 F_tail_11) ∧ (¬ r_23 = 0 → vp_in x4_11 12 ∧ (vp_in a0 12 ∧ (vp_in a0 12 ∧ (∃ (J_74 : Int32 → (Nat → Int32) → Prop), (∀ (x2_74 : Int32) (F_head_74 : Nat → Int32), J_74 x2_74 F_head_74 → (vp_in a0 12 ∧ (vp_in x4_11 12 ∧ (vp_in x4_11 12 ∧ ((((F_duration x4_11.toNatClampNeg) + (F_tail_11 x4_11.toNatClampNeg)) ≤ (F_tail_11 a0.toNatClampNeg) → I_11 x2_74 (x4_11 + 1) F_head_74 F_tail_11 ∧ μ_11 x2_74 (x4_11 + 1) F_head_74 F_tail_11 < μ_11 x2_11 x4_11 F_head_11 F_tail_11) ∧ (¬ ((F_duration x4_11.toNatClampNeg) + (F_tail_11 x4_11.toNatClampNeg)) ≤ (F_tail_11 a0.toNatClampNeg) → vp_in x4_11 12 ∧ (vp_in x4_11 12 ∧ (vp_in a0 12 ∧ (I_11 1 (x4_11 + 1) F_head_74 (upd F_tail_11 a0.toNatClampNeg ((F_duration x4_11.toNatClampNeg) + (F_tail_11 x4_11.toNatClampNeg))) ∧ μ_11 1 (x4_11 + 1) F_head_74 (upd F_tail_11 a0.toNatClampNeg ((F_duration x4_11.toNatClampNeg) + (F_tail_11 x4_11.toNatClampNeg))) < μ_11 x2_11 x4_11 F_head_11 F_tail_11))))))))) ∧ ((((F_head_11 a0.toNatClampNeg) + (F_duration a0.toNatClampNeg)) ≤ (F_head_11 x4_11.toNatClampNeg) → J_74 x2_11 F_head_11) ∧ (¬ ((F_head_11 a0.toNatClampNeg) + (F_duration a0.toNatClampNeg)) ≤ (F_head_11 x4_11.toNatClampNeg) → vp_in a0 12 ∧ (vp_in a0 12 ∧ (vp_in x4_11 12 ∧ (J_74 1 (upd F_head_11 x4_11.toNatClampNeg ((F_head_11 a0.toNatClampNeg) + (F_duration a0.toNatClampNeg))))))))))))))))
def wp_X0_measure (F_size : Int32) (F_duration : Nat → Int32) (F_nextOf : Nat → Int32) (F_arcs : Nat → Int32) (F_head : Nat → Int32) (F_tail : Nat → Int32)  (post : (Nat → Int32) → (Nat → Int32) → Prop) : Prop :=
  ∃ (I_2 : Int32 → (Nat → Int32) → (Nat → Int32) → Prop) (μ_2 : Int32 → (Nat → Int32) → (Nat → Int32) → Nat), I_2 0 F_head F_tail ∧ ∀ (x1_2 : Int32) (F_head_2 : Nat → Int32) (F_tail_2 : Nat → Int32), I_2 x1_2 F_head_2 F_tail_2 → ((F_size ≤ x1_2 → ∃ (I_34 : Int32 → Int32 → (Nat → Int32) → (Nat → Int32) → Prop) (μ_34 : Int32 → Int32 → (Nat → Int32) → (Nat → Int32) → Nat), I_34 1 0 F_head_2 F_tail_2 ∧ ∀ (x1_34 : Int32) (x2_34 : Int32) (F_head_34 : Nat → Int32) (F_tail_34 : Nat → Int32), I_34 x1_34 x2_34 F_head_34 F_tail_34 → ((F_size ≤ x2_34 → post F_head_34 F_tail_34) ∧ (¬ F_size ≤ x2_34 → (x1_34 = 0 → post F_head_34 F_tail_34) ∧ (¬ x1_34 = 0 → ∃ (I_50 : Int32 → Int32 → (Nat → Int32) → (Nat → Int32) → Prop) (μ_50 : Int32 → Int32 → (Nat → Int32) → (Nat → Int32) → Nat), I_50 0 0 F_head_34 F_tail_34 ∧ ∀ (x1_50 : Int32) (x3_50 : Int32) (F_head_50 : Nat → Int32) (F_tail_50 : Nat → Int32), I_50 x1_50 x3_50 F_head_50 F_tail_50 → ((F_size ≤ x3_50 → I_34 x1_50 (x2_34 + 1) F_head_50 F_tail_50 ∧ μ_34 x1_50 (x2_34 + 1) F_head_50 F_tail_50 < μ_34 x1_34 x2_34 F_head_34 F_tail_34) ∧ (¬ F_size ≤ x3_50 → wp_X0_stretch F_size F_duration F_nextOf F_arcs F_head_50 F_tail_50 x3_50 (fun (r_60 : Int32) (F_head_60 : Nat → Int32) (F_tail_60 : Nat → Int32) => (r_60 = 0 → I_50 x1_50 (x3_50 + 1) F_head_60 F_tail_60 ∧ μ_50 x1_50 (x3_50 + 1) F_head_60 F_tail_60 < μ_50 x1_50 x3_50 F_head_50 F_tail_50) ∧ (¬ r_60 = 0 → I_50 1 (x3_50 + 1) F_head_60 F_tail_60 ∧ μ_50 1 (x3_50 + 1) F_head_60 F_tail_60 < μ_50 x1_50 x3_50 F_head_50 F_tail_50)))))))) ∧ (¬ F_size ≤ x1_2 → vp_in x1_2 12 ∧ (vp_in x1_2 12 ∧ (I_2 (x1_2 + 1) (upd F_head_2 x1_2.toNatClampNeg 0) (upd F_tail_2 x1_2.toNatClampNeg 0) ∧ μ_2 (x1_2 + 1) (upd F_head_2 x1_2.toNatClampNeg 0) (upd F_tail_2 x1_2.toNatClampNeg 0) < μ_2 x1_2 F_head_2 F_tail_2))))
def wp_X0_addOperation (F_size : Int32) (F_firstOf : Nat → Int32) (F_lastOf : Nat → Int32) (F_jobOf : Nat → Int32) (F_machineOf : Nat → Int32) (F_duration : Nat → Int32) (F_nextOf : Nat → Int32) (F_arcs : Nat → Int32) (F_head : Nat → Int32) (F_tail : Nat → Int32) (a0 : Int32) (a1 : Int32) (a2 : Int32) (post : Int32 → Int32 → (Nat → Int32) → (Nat → Int32) → (Nat → Int32) → (Nat → Int32) → (Nat → Int32) → (Nat → Int32) → (Nat → Int32) → (Nat → Int32) → (Nat → Int32) → Prop) : Prop :=
  vp_in F_size 12 ∧ (vp_in F_size 12 ∧ (vp_in F_size 12 ∧ (vp_in F_size 12 ∧ (vp_in F_size 12 ∧ (vp_in a0 4 ∧ (wp_X0_isOperation F_size (F_lastOf a0.toNatClampNeg) (fun (r_57 : Int32) => ∃ (J_83 : (Nat → Int32) → (Nat → Int32) → Prop), (∀ (F_firstOf_83 : Nat → Int32) (F_nextOf_83 : Nat → Int32), J_83 F_firstOf_83 F_nextOf_83 → (vp_in a0 4 ∧ (wp_X0_measure (F_size + 1) (upd F_duration F_size.toNatClampNeg a2) F_nextOf_83 (upd F_arcs F_size.toNatClampNeg 0) F_head F_tail (fun (F_head_102 : Nat → Int32) (F_tail_102 : Nat → Int32) => post F_size (F_size + 1) F_firstOf_83 (upd F_lastOf a0.toNatClampNeg F_size) (upd F_jobOf F_size.toNatClampNeg a0) (upd F_machineOf F_size.toNatClampNeg a1) (upd F_duration F_size.toNatClampNeg a2) F_nextOf_83 (upd F_arcs F_size.toNatClampNeg 0) F_head_102 F_tail_102)))) ∧ ((r_57 = 0 → vp_in a0 4 ∧ (J_83 (upd F_firstOf a0.toNatClampNeg F_size) (upd F_nextOf F_size.toNatClampNeg (-1)))) ∧ (¬ r_57 = 0 → vp_in (F_lastOf a0.toNatClampNeg) 12 ∧ (J_83 F_firstOf (upd (upd F_nextOf F_size.toNatClampNeg (-1)) (F_lastOf a0.toNatClampNeg).toNatClampNeg F_size)))))))))))
def wp_X0_hasArc (F_arcs : Nat → Int32) (a0 : Int32) (a1 : Int32) (post : Int32 → Prop) : Prop :=
  vp_in a0 12 ∧ (wp_X2_isIn (F_arcs a0.toNatClampNeg) a1 (fun (r_7 : Int32) => (r_7 = 0 ∨ r_7 = 1) ∧ post r_7))
def wp_X0_isTied (F_arcs : Nat → Int32) (a0 : Int32) (a1 : Int32) (post : Int32 → Prop) : Prop :=
  wp_X0_hasArc F_arcs a0 a1 (fun (r_3 : Int32) => (¬ r_3 = 0 → post 1) ∧ (r_3 = 0 → wp_X0_hasArc F_arcs a1 a0 (fun (r_12 : Int32) => (r_12 = 0 → post 0) ∧ (¬ r_12 = 0 → post 1))))
def wp_X0_putArc (F_size : Int32) (F_duration : Nat → Int32) (F_nextOf : Nat → Int32) (F_arcs : Nat → Int32) (F_head : Nat → Int32) (F_tail : Nat → Int32) (a0 : Int32) (a1 : Int32) (post : (Nat → Int32) → (Nat → Int32) → (Nat → Int32) → Prop) : Prop :=
  vp_in a0 12 ∧ (vp_in a0 12 ∧ (wp_X0_measure F_size F_duration F_nextOf (upd F_arcs a0.toNatClampNeg ((F_arcs a0.toNatClampNeg) ||| ((1 : Int32) <<< (a1 &&& 31)))) F_head F_tail (fun (F_head_13 : Nat → Int32) (F_tail_13 : Nat → Int32) => post (upd F_arcs a0.toNatClampNeg ((F_arcs a0.toNatClampNeg) ||| ((1 : Int32) <<< (a1 &&& 31)))) F_head_13 F_tail_13)))
def wp_X0_dropArcs (F_size : Int32) (F_duration : Nat → Int32) (F_nextOf : Nat → Int32) (F_arcs : Nat → Int32) (F_head : Nat → Int32) (F_tail : Nat → Int32) (a0 : Int32) (a1 : Int32) (post : (Nat → Int32) → (Nat → Int32) → (Nat → Int32) → Prop) : Prop :=
  vp_in a0 12 ∧ (vp_in a0 12 ∧ (vp_in a1 12 ∧ (vp_in a1 12 ∧ (wp_X0_measure F_size F_duration F_nextOf (upd (upd F_arcs a0.toNatClampNeg ((F_arcs a0.toNatClampNeg) &&& (((1 : Int32) <<< (a1 &&& 31)) ^^^ (-1)))) a1.toNatClampNeg (((upd F_arcs a0.toNatClampNeg ((F_arcs a0.toNatClampNeg) &&& (((1 : Int32) <<< (a1 &&& 31)) ^^^ (-1)))) a1.toNatClampNeg) &&& (((1 : Int32) <<< (a0 &&& 31)) ^^^ (-1)))) F_head F_tail (fun (F_head_29 : Nat → Int32) (F_tail_29 : Nat → Int32) => post (upd (upd F_arcs a0.toNatClampNeg ((F_arcs a0.toNatClampNeg) &&& (((1 : Int32) <<< (a1 &&& 31)) ^^^ (-1)))) a1.toNatClampNeg (((upd F_arcs a0.toNatClampNeg ((F_arcs a0.toNatClampNeg) &&& (((1 : Int32) <<< (a1 &&& 31)) ^^^ (-1)))) a1.toNatClampNeg) &&& (((1 : Int32) <<< (a0 &&& 31)) ^^^ (-1)))) F_head_29 F_tail_29)))))
def wp_X0_leads (F_size : Int32) (F_nextOf : Nat → Int32) (F_arcs : Nat → Int32) (a0 : Int32) (a1 : Int32) (post : Int32 → Prop) : Prop :=
  wp_X0_followers F_nextOf F_arcs a0 (fun (r_2 : Int32) => ∃ (I_12 : Int32 → Int32 → Int32 → Prop) (μ_12 : Int32 → Int32 → Int32 → Nat), I_12 r_2 0 0 ∧ ∀ (x3_12 : Int32) (x4_12 : Int32) (x5_12 : Int32), I_12 x3_12 x4_12 x5_12 → ((F_size ≤ x5_12 → wp_X2_isIn x3_12 a1 (fun (r_75 : Int32) => (r_75 = 0 ∨ r_75 = 1) ∧ post r_75)) ∧ (¬ F_size ≤ x5_12 → (x4_12 = x3_12 → wp_X2_isIn x3_12 a1 (fun (r_75 : Int32) => (r_75 = 0 ∨ r_75 = 1) ∧ post r_75)) ∧ (¬ x4_12 = x3_12 → ∃ (I_33 : Int32 → Int32 → Prop) (μ_33 : Int32 → Int32 → Nat), I_33 x3_12 0 ∧ ∀ (x3_33 : Int32) (x6_33 : Int32), I_33 x3_33 x6_33 → ((F_size ≤ x6_33 → I_12 x3_33 x3_12 (x5_12 + 1) ∧ μ_12 x3_33 x3_12 (x5_12 + 1) < μ_12 x3_12 x4_12 x5_12) ∧ (¬ F_size ≤ x6_33 → wp_X2_isIn x3_12 x6_33 (fun (r_46 : Int32) => (r_46 = 0 → I_33 x3_33 (x6_33 + 1) ∧ μ_33 x3_33 (x6_33 + 1) < μ_33 x3_33 x6_33) ∧ (¬ r_46 = 0 → wp_X0_followers F_nextOf F_arcs x6_33 (fun (r_56 : Int32) => I_33 (x3_33 ||| r_56) (x6_33 + 1) ∧ μ_33 (x3_33 ||| r_56) (x6_33 + 1) < μ_33 x3_33 x6_33)))))))))
def wp_X0_through (F_duration : Nat → Int32) (F_head : Nat → Int32) (F_tail : Nat → Int32) (a0 : Int32) (post : Int32 → Prop) : Prop :=
  vp_in a0 12 ∧ (vp_in a0 12 ∧ (vp_in a0 12 ∧ (post (((F_head a0.toNatClampNeg) + (F_duration a0.toNatClampNeg)) + (F_tail a0.toNatClampNeg)))))
def wp_X0_longest (F_size : Int32) (F_duration : Nat → Int32) (F_head : Nat → Int32) (F_tail : Nat → Int32)  (post : Int32 → Prop) : Prop :=
  ∃ (I_4 : Int32 → Int32 → Prop) (μ_4 : Int32 → Int32 → Nat), I_4 0 0 ∧ ∀ (x1_4 : Int32) (x2_4 : Int32), I_4 x1_4 x2_4 → ((F_size ≤ x2_4 → post x1_4) ∧ (¬ F_size ≤ x2_4 → wp_X0_through F_duration F_head F_tail x2_4 (fun (r_15 : Int32) => I_4 (if x1_4 < r_15 then r_15 else x1_4) (x2_4 + 1) ∧ μ_4 (if x1_4 < r_15 then r_15 else x1_4) (x2_4 + 1) < μ_4 x1_4 x2_4)))
def wp_X0_workFrom (F_size : Int32) (F_machineOf : Nat → Int32) (F_duration : Nat → Int32) (F_head : Nat → Int32) (F_tail : Nat → Int32) (a0 : Int32) (a1 : Int32) (a2 : Int32) (post : Int32 → Prop) : Prop :=
  ∃ (I_6 : Int32 → Int32 → Prop) (μ_6 : Int32 → Int32 → Nat), I_6 0 0 ∧ ∀ (x4_6 : Int32) (x5_6 : Int32), I_6 x4_6 x5_6 → ((F_size ≤ x5_6 → post x4_6) ∧ (¬ F_size ≤ x5_6 → vp_in x5_6 12 ∧ ((¬ (F_machineOf x5_6.toNatClampNeg) = a0 → I_6 x4_6 (x5_6 + 1) ∧ μ_6 x4_6 (x5_6 + 1) < μ_6 x4_6 x5_6) ∧ ((F_machineOf x5_6.toNatClampNeg) = a0 → vp_in x5_6 12 ∧ (((F_head x5_6.toNatClampNeg) < a1 → I_6 x4_6 (x5_6 + 1) ∧ μ_6 x4_6 (x5_6 + 1) < μ_6 x4_6 x5_6) ∧ (¬ (F_head x5_6.toNatClampNeg) < a1 → vp_in x5_6 12 ∧ (((F_tail x5_6.toNatClampNeg) < a2 → I_6 x4_6 (x5_6 + 1) ∧ μ_6 x4_6 (x5_6 + 1) < μ_6 x4_6 x5_6) ∧ (¬ (F_tail x5_6.toNatClampNeg) < a2 → vp_in x5_6 12 ∧ (I_6 (x4_6 + (F_duration x5_6.toNatClampNeg)) (x5_6 + 1) ∧ μ_6 (x4_6 + (F_duration x5_6.toNatClampNeg)) (x5_6 + 1) < μ_6 x4_6 x5_6)))))))))
def wp_X0_burden (F_size : Int32) (F_machineOf : Nat → Int32) (F_duration : Nat → Int32) (F_head : Nat → Int32) (F_tail : Nat → Int32) (a0 : Int32) (post : Int32 → Prop) : Prop :=
  ∃ (I_4 : Int32 → Int32 → Prop) (μ_4 : Int32 → Int32 → Nat), I_4 0 0 ∧ ∀ (x2_4 : Int32) (x3_4 : Int32), I_4 x2_4 x3_4 → ((F_size ≤ x3_4 → post x2_4) ∧ (¬ F_size ≤ x3_4 → ∃ (I_15 : Int32 → Int32 → Prop) (μ_15 : Int32 → Int32 → Nat), I_15 x2_4 0 ∧ ∀ (x2_15 : Int32) (x4_15 : Int32), I_15 x2_15 x4_15 → ((F_size ≤ x4_15 → I_4 x2_15 (x3_4 + 1) ∧ μ_4 x2_15 (x3_4 + 1) < μ_4 x2_4 x3_4) ∧ (¬ F_size ≤ x4_15 → vp_in x3_4 12 ∧ ((¬ (F_machineOf x3_4.toNatClampNeg) = a0 → I_15 x2_15 (x4_15 + 1) ∧ μ_15 x2_15 (x4_15 + 1) < μ_15 x2_15 x4_15) ∧ ((F_machineOf x3_4.toNatClampNeg) = a0 → vp_in x4_15 12 ∧ ((¬ (F_machineOf x4_15.toNatClampNeg) = a0 → I_15 x2_15 (x4_15 + 1) ∧ μ_15 x2_15 (x4_15 + 1) < μ_15 x2_15 x4_15) ∧ ((F_machineOf x4_15.toNatClampNeg) = a0 → vp_in x3_4 12 ∧ (vp_in x4_15 12 ∧ (wp_X0_workFrom F_size F_machineOf F_duration F_head F_tail a0 (F_head x3_4.toNatClampNeg) (F_tail x4_15.toNatClampNeg) (fun (r_60 : Int32) => (r_60 ≤ 0 → I_15 x2_15 (x4_15 + 1) ∧ μ_15 x2_15 (x4_15 + 1) < μ_15 x2_15 x4_15) ∧ (¬ r_60 ≤ 0 → vp_in x3_4 12 ∧ (vp_in x4_15 12 ∧ (I_15 (if x2_15 < (((F_head x3_4.toNatClampNeg) + r_60) + (F_tail x4_15.toNatClampNeg)) then (((F_head x3_4.toNatClampNeg) + r_60) + (F_tail x4_15.toNatClampNeg)) else x2_15) (x4_15 + 1) ∧ μ_15 (if x2_15 < (((F_head x3_4.toNatClampNeg) + r_60) + (F_tail x4_15.toNatClampNeg)) then (((F_head x3_4.toNatClampNeg) + r_60) + (F_tail x4_15.toNatClampNeg)) else x2_15) (x4_15 + 1) < μ_15 x2_15 x4_15))))))))))))))
def wp_X0_bound (F_size : Int32) (F_machineOf : Nat → Int32) (F_duration : Nat → Int32) (F_head : Nat → Int32) (F_tail : Nat → Int32)  (post : Int32 → Prop) : Prop :=
  wp_X0_longest F_size F_duration F_head F_tail (fun (r_1 : Int32) => ∃ (I_7 : Int32 → Int32 → Prop) (μ_7 : Int32 → Int32 → Nat), I_7 r_1 0 ∧ ∀ (x1_7 : Int32) (x2_7 : Int32), I_7 x1_7 x2_7 → ((4 ≤ x2_7 → post x1_7) ∧ (¬ 4 ≤ x2_7 → wp_X0_burden F_size F_machineOf F_duration F_head F_tail x2_7 (fun (r_15 : Int32) => I_7 (if x1_7 < r_15 then r_15 else x1_7) (x2_7 + 1) ∧ μ_7 (if x1_7 < r_15 then r_15 else x1_7) (x2_7 + 1) < μ_7 x1_7 x2_7))))
def wp_X0_pairs (F_size : Int32) (F_machineOf : Nat → Int32)  (post : Int32 → Prop) : Prop :=
  ∃ (I_4 : Int32 → Int32 → Prop) (μ_4 : Int32 → Int32 → Nat), I_4 0 0 ∧ ∀ (x1_4 : Int32) (x2_4 : Int32), I_4 x1_4 x2_4 → ((F_size ≤ x2_4 → post x1_4) ∧ (¬ F_size ≤ x2_4 → ∃ (I_16 : Int32 → Int32 → Prop) (μ_16 : Int32 → Int32 → Nat), I_16 x1_4 (x2_4 + 1) ∧ ∀ (x1_16 : Int32) (x3_16 : Int32), I_16 x1_16 x3_16 → ((F_size ≤ x3_16 → I_4 x1_16 (x2_4 + 1) ∧ μ_4 x1_16 (x2_4 + 1) < μ_4 x1_4 x2_4) ∧ (¬ F_size ≤ x3_16 → vp_in x2_4 12 ∧ (vp_in x3_16 12 ∧ ((¬ (F_machineOf x2_4.toNatClampNeg) = (F_machineOf x3_16.toNatClampNeg) → I_16 x1_16 (x3_16 + 1) ∧ μ_16 x1_16 (x3_16 + 1) < μ_16 x1_16 x3_16) ∧ ((F_machineOf x2_4.toNatClampNeg) = (F_machineOf x3_16.toNatClampNeg) → I_16 (x1_16 + 1) (x3_16 + 1) ∧ μ_16 (x1_16 + 1) (x3_16 + 1) < μ_16 x1_16 x3_16)))))))
def wp_J6_bitCount_0f7a4  (a0 : Int32) (post : Int32 → Prop) : Prop :=
  post ((((((((a0 - (((a0.toUInt32 >>> ((1 : Int32).toUInt32 &&& Int32.toUInt32 31)).toInt32) &&& 1431655765)) &&& 858993459) + ((((a0 - (((a0.toUInt32 >>> ((1 : Int32).toUInt32 &&& Int32.toUInt32 31)).toInt32) &&& 1431655765)).toUInt32 >>> ((2 : Int32).toUInt32 &&& Int32.toUInt32 31)).toInt32) &&& 858993459)) + (((((a0 - (((a0.toUInt32 >>> ((1 : Int32).toUInt32 &&& Int32.toUInt32 31)).toInt32) &&& 1431655765)) &&& 858993459) + ((((a0 - (((a0.toUInt32 >>> ((1 : Int32).toUInt32 &&& Int32.toUInt32 31)).toInt32) &&& 1431655765)).toUInt32 >>> ((2 : Int32).toUInt32 &&& Int32.toUInt32 31)).toInt32) &&& 858993459)).toUInt32 >>> ((4 : Int32).toUInt32 &&& Int32.toUInt32 31)).toInt32)) &&& 252645135) + (((((((a0 - (((a0.toUInt32 >>> ((1 : Int32).toUInt32 &&& Int32.toUInt32 31)).toInt32) &&& 1431655765)) &&& 858993459) + ((((a0 - (((a0.toUInt32 >>> ((1 : Int32).toUInt32 &&& Int32.toUInt32 31)).toInt32) &&& 1431655765)).toUInt32 >>> ((2 : Int32).toUInt32 &&& Int32.toUInt32 31)).toInt32) &&& 858993459)) + (((((a0 - (((a0.toUInt32 >>> ((1 : Int32).toUInt32 &&& Int32.toUInt32 31)).toInt32) &&& 1431655765)) &&& 858993459) + ((((a0 - (((a0.toUInt32 >>> ((1 : Int32).toUInt32 &&& Int32.toUInt32 31)).toInt32) &&& 1431655765)).toUInt32 >>> ((2 : Int32).toUInt32 &&& Int32.toUInt32 31)).toInt32) &&& 858993459)).toUInt32 >>> ((4 : Int32).toUInt32 &&& Int32.toUInt32 31)).toInt32)) &&& 252645135).toUInt32 >>> ((8 : Int32).toUInt32 &&& Int32.toUInt32 31)).toInt32)) + ((((((((a0 - (((a0.toUInt32 >>> ((1 : Int32).toUInt32 &&& Int32.toUInt32 31)).toInt32) &&& 1431655765)) &&& 858993459) + ((((a0 - (((a0.toUInt32 >>> ((1 : Int32).toUInt32 &&& Int32.toUInt32 31)).toInt32) &&& 1431655765)).toUInt32 >>> ((2 : Int32).toUInt32 &&& Int32.toUInt32 31)).toInt32) &&& 858993459)) + (((((a0 - (((a0.toUInt32 >>> ((1 : Int32).toUInt32 &&& Int32.toUInt32 31)).toInt32) &&& 1431655765)) &&& 858993459) + ((((a0 - (((a0.toUInt32 >>> ((1 : Int32).toUInt32 &&& Int32.toUInt32 31)).toInt32) &&& 1431655765)).toUInt32 >>> ((2 : Int32).toUInt32 &&& Int32.toUInt32 31)).toInt32) &&& 858993459)).toUInt32 >>> ((4 : Int32).toUInt32 &&& Int32.toUInt32 31)).toInt32)) &&& 252645135) + (((((((a0 - (((a0.toUInt32 >>> ((1 : Int32).toUInt32 &&& Int32.toUInt32 31)).toInt32) &&& 1431655765)) &&& 858993459) + ((((a0 - (((a0.toUInt32 >>> ((1 : Int32).toUInt32 &&& Int32.toUInt32 31)).toInt32) &&& 1431655765)).toUInt32 >>> ((2 : Int32).toUInt32 &&& Int32.toUInt32 31)).toInt32) &&& 858993459)) + (((((a0 - (((a0.toUInt32 >>> ((1 : Int32).toUInt32 &&& Int32.toUInt32 31)).toInt32) &&& 1431655765)) &&& 858993459) + ((((a0 - (((a0.toUInt32 >>> ((1 : Int32).toUInt32 &&& Int32.toUInt32 31)).toInt32) &&& 1431655765)).toUInt32 >>> ((2 : Int32).toUInt32 &&& Int32.toUInt32 31)).toInt32) &&& 858993459)).toUInt32 >>> ((4 : Int32).toUInt32 &&& Int32.toUInt32 31)).toInt32)) &&& 252645135).toUInt32 >>> ((8 : Int32).toUInt32 &&& Int32.toUInt32 31)).toInt32)).toUInt32 >>> ((16 : Int32).toUInt32 &&& Int32.toUInt32 31)).toInt32)) &&& 63)
def wp_X0_tiedPairs (F_size : Int32) (F_arcs : Nat → Int32)  (post : Int32 → Prop) : Prop :=
  ∃ (I_4 : Int32 → Int32 → Prop) (μ_4 : Int32 → Int32 → Nat), I_4 0 0 ∧ ∀ (x1_4 : Int32) (x2_4 : Int32), I_4 x1_4 x2_4 → ((F_size ≤ x2_4 → post x1_4) ∧ (¬ F_size ≤ x2_4 → vp_in x2_4 12 ∧ (wp_J6_bitCount_0f7a4 (F_arcs x2_4.toNatClampNeg) (fun (r_19 : Int32) => I_4 (x1_4 + r_19) (x2_4 + 1) ∧ μ_4 (x1_4 + r_19) (x2_4 + 1) < μ_4 x1_4 x2_4))))
def wp_X0_mustPrecede (F_duration : Nat → Int32) (F_head : Nat → Int32) (F_tail : Nat → Int32) (a0 : Int32) (a1 : Int32) (a2 : Int32) (post : Int32 → Prop) : Prop :=
  vp_in a1 12 ∧ (vp_in a1 12 ∧ (vp_in a0 12 ∧ (vp_in a0 12 ∧ ((((((F_head a1.toNatClampNeg) + (F_duration a1.toNatClampNeg)) + (F_duration a0.toNatClampNeg)) + (F_tail a0.toNatClampNeg)) < a2 → post 0) ∧ (¬ ((((F_head a1.toNatClampNeg) + (F_duration a1.toNatClampNeg)) + (F_duration a0.toNatClampNeg)) + (F_tail a0.toNatClampNeg)) < a2 → post 1)))))
def wp_X0_forceFrom (F_size : Int32) (F_machineOf : Nat → Int32) (F_duration : Nat → Int32) (F_nextOf : Nat → Int32) (F_arcs : Nat → Int32) (F_head : Nat → Int32) (F_tail : Nat → Int32) (a0 : Int32) (a1 : Int32) (post : Int32 → (Nat → Int32) → (Nat → Int32) → (Nat → Int32) → Prop) : Prop :=
  ∃ (I_2 : Int32 → (Nat → Int32) → (Nat → Int32) → (Nat → Int32) → Prop) (μ_2 : Int32 → (Nat → Int32) → (Nat → Int32) → (Nat → Int32) → Nat), I_2 0 F_arcs F_head F_tail ∧ ∀ (x3_2 : Int32) (F_arcs_2 : Nat → Int32) (F_head_2 : Nat → Int32) (F_tail_2 : Nat → Int32), I_2 x3_2 F_arcs_2 F_head_2 F_tail_2 → ((F_size ≤ x3_2 → post 1 F_arcs_2 F_head_2 F_tail_2) ∧ (¬ F_size ≤ x3_2 → wp_X0_isPair F_size F_machineOf a0 x3_2 (fun (r_13 : Int32) => (r_13 = 0 → I_2 (x3_2 + 1) F_arcs_2 F_head_2 F_tail_2 ∧ μ_2 (x3_2 + 1) F_arcs_2 F_head_2 F_tail_2 < μ_2 x3_2 F_arcs_2 F_head_2 F_tail_2) ∧ (¬ r_13 = 0 → wp_X0_isTied F_arcs_2 a0 x3_2 (fun (r_22 : Int32) => (¬ r_22 = 0 → I_2 (x3_2 + 1) F_arcs_2 F_head_2 F_tail_2 ∧ μ_2 (x3_2 + 1) F_arcs_2 F_head_2 F_tail_2 < μ_2 x3_2 F_arcs_2 F_head_2 F_tail_2) ∧ (r_22 = 0 → wp_X0_mustPrecede F_duration F_head_2 F_tail_2 a0 x3_2 a1 (fun (r_32 : Int32) => (r_32 = 0 → I_2 (x3_2 + 1) F_arcs_2 F_head_2 F_tail_2 ∧ μ_2 (x3_2 + 1) F_arcs_2 F_head_2 F_tail_2 < μ_2 x3_2 F_arcs_2 F_head_2 F_tail_2) ∧ (¬ r_32 = 0 → wp_X0_mustPrecede F_duration F_head_2 F_tail_2 x3_2 a0 a1 (fun (r_42 : Int32) => (¬ r_42 = 0 → post 0 F_arcs_2 F_head_2 F_tail_2) ∧ (r_42 = 0 → wp_X0_leads F_size F_nextOf F_arcs_2 x3_2 a0 (fun (r_51 : Int32) => (r_51 = 0 → wp_X0_putArc F_size F_duration F_nextOf F_arcs_2 F_head_2 F_tail_2 a0 x3_2 (fun (F_arcs_62 : Nat → Int32) (F_head_62 : Nat → Int32) (F_tail_62 : Nat → Int32) => I_2 (x3_2 + 1) F_arcs_62 F_head_62 F_tail_62 ∧ μ_2 (x3_2 + 1) F_arcs_62 F_head_62 F_tail_62 < μ_2 x3_2 F_arcs_2 F_head_2 F_tail_2)) ∧ (¬ r_51 = 0 → post 0 F_arcs_2 F_head_2 F_tail_2))))))))))))
def wp_X0_force (F_size : Int32) (F_machineOf : Nat → Int32) (F_duration : Nat → Int32) (F_nextOf : Nat → Int32) (F_arcs : Nat → Int32) (F_head : Nat → Int32) (F_tail : Nat → Int32) (F_kept : Nat → Int32) (a0 : Int32) (post : Int32 → (Nat → Int32) → (Nat → Int32) → (Nat → Int32) → (Nat → Int32) → Prop) : Prop :=
  ¬ F_size < 0 ∧ F_size.toNatClampNeg ≤ 12 ∧ F_size.toNatClampNeg ≤ 12 ∧ (wp_X0_tiedPairs F_size F_arcs (fun (r_18 : Int32) => ∃ (I_30 : Int32 → Int32 → Int32 → (Nat → Int32) → (Nat → Int32) → (Nat → Int32) → Prop) (μ_30 : Int32 → Int32 → Int32 → (Nat → Int32) → (Nat → Int32) → (Nat → Int32) → Nat), I_30 (-1) 1 0 F_arcs F_head F_tail ∧ ∀ (x3_30 : Int32) (x4_30 : Int32) (x5_30 : Int32) (F_arcs_30 : Nat → Int32) (F_head_30 : Nat → Int32) (F_tail_30 : Nat → Int32), I_30 x3_30 x4_30 x5_30 F_arcs_30 F_head_30 F_tail_30 → (∃ (J_94 : Prop), (J_94 → ((x4_30 = 0 → ¬ F_size < 0 ∧ F_size.toNatClampNeg ≤ 12 ∧ F_size.toNatClampNeg ≤ 12 ∧ (wp_X0_measure F_size F_duration F_nextOf (va_cpy (va_cpy F_arcs F_kept (0 : Int32).toNatClampNeg (0 : Int32).toNatClampNeg F_size.toNatClampNeg) F_arcs_30 (0 : Int32).toNatClampNeg (0 : Int32).toNatClampNeg F_size.toNatClampNeg) F_head_30 F_tail_30 (fun (F_head_129 : Nat → Int32) (F_tail_129 : Nat → Int32) => post (-5) (va_cpy (va_cpy F_arcs F_kept (0 : Int32).toNatClampNeg (0 : Int32).toNatClampNeg F_size.toNatClampNeg) F_arcs_30 (0 : Int32).toNatClampNeg (0 : Int32).toNatClampNeg F_size.toNatClampNeg) F_head_129 F_tail_129 (va_cpy F_arcs F_kept (0 : Int32).toNatClampNeg (0 : Int32).toNatClampNeg F_size.toNatClampNeg)))) ∧ (¬ x4_30 = 0 → wp_X0_longest F_size F_duration F_head_30 F_tail_30 (fun (r_100 : Int32) => (a0 ≤ r_100 → ¬ F_size < 0 ∧ F_size.toNatClampNeg ≤ 12 ∧ F_size.toNatClampNeg ≤ 12 ∧ (wp_X0_measure F_size F_duration F_nextOf (va_cpy (va_cpy F_arcs F_kept (0 : Int32).toNatClampNeg (0 : Int32).toNatClampNeg F_size.toNatClampNeg) F_arcs_30 (0 : Int32).toNatClampNeg (0 : Int32).toNatClampNeg F_size.toNatClampNeg) F_head_30 F_tail_30 (fun (F_head_129 : Nat → Int32) (F_tail_129 : Nat → Int32) => post (-5) (va_cpy (va_cpy F_arcs F_kept (0 : Int32).toNatClampNeg (0 : Int32).toNatClampNeg F_size.toNatClampNeg) F_arcs_30 (0 : Int32).toNatClampNeg (0 : Int32).toNatClampNeg F_size.toNatClampNeg) F_head_129 F_tail_129 (va_cpy F_arcs F_kept (0 : Int32).toNatClampNeg (0 : Int32).toNatClampNeg F_size.toNatClampNeg)))) ∧ (¬ a0 ≤ r_100 → post (x3_30 - r_18) F_arcs_30 F_head_30 F_tail_30 (va_cpy F_arcs F_kept (0 : Int32).toNatClampNeg (0 : Int32).toNatClampNeg F_size.toNatClampNeg)))))) ∧ ((144 ≤ x5_30 → J_94 ) ∧ (¬ 144 ≤ x5_30 → (x4_30 = 0 → J_94 ) ∧ (¬ x4_30 = 0 → wp_X0_tiedPairs F_size F_arcs_30 (fun (r_45 : Int32) => (x3_30 = r_45 → J_94 ) ∧ (¬ x3_30 = r_45 → wp_X0_tiedPairs F_size F_arcs_30 (fun (r_52 : Int32) => ∃ (I_59 : Int32 → Int32 → (Nat → Int32) → (Nat → Int32) → (Nat → Int32) → Prop) (μ_59 : Int32 → Int32 → (Nat → Int32) → (Nat → Int32) → (Nat → Int32) → Nat), I_59 x4_30 0 F_arcs_30 F_head_30 F_tail_30 ∧ ∀ (x4_59 : Int32) (x6_59 : Int32) (F_arcs_59 : Nat → Int32) (F_head_59 : Nat → Int32) (F_tail_59 : Nat → Int32), I_59 x4_59 x6_59 F_arcs_59 F_head_59 F_tail_59 → ((F_size ≤ x6_59 → I_30 r_52 x4_59 (x5_30 + 1) F_arcs_59 F_head_59 F_tail_59 ∧ μ_30 r_52 x4_59 (x5_30 + 1) F_arcs_59 F_head_59 F_tail_59 < μ_30 x3_30 x4_30 x5_30 F_arcs_30 F_head_30 F_tail_30) ∧ (¬ F_size ≤ x6_59 → (x4_59 = 0 → I_30 r_52 x4_59 (x5_30 + 1) F_arcs_59 F_head_59 F_tail_59 ∧ μ_30 r_52 x4_59 (x5_30 + 1) F_arcs_59 F_head_59 F_tail_59 < μ_30 x3_30 x4_30 x5_30 F_arcs_30 F_head_30 F_tail_30) ∧ (¬ x4_59 = 0 → wp_X0_forceFrom F_size F_machineOf F_duration F_nextOf F_arcs_59 F_head_59 F_tail_59 x6_59 a0 (fun (r_77 : Int32) (F_arcs_77 : Nat → Int32) (F_head_77 : Nat → Int32) (F_tail_77 : Nat → Int32) => I_59 r_77 (x6_59 + 1) F_arcs_77 F_head_77 F_tail_77 ∧ μ_59 r_77 (x6_59 + 1) F_arcs_77 F_head_77 F_tail_77 < μ_59 x4_59 x6_59 F_arcs_59 F_head_59 F_tail_59)))))))))))))
def wp_X1_forerunners (F_size : Int32) (F_arcs : Nat → Int32) (a0 : Int32) (post : Int32 → Prop) : Prop :=
  ∃ (I_4 : Int32 → Int32 → Prop) (μ_4 : Int32 → Int32 → Nat), I_4 0 0 ∧ ∀ (x2_4 : Int32) (x3_4 : Int32), I_4 x2_4 x3_4 → ((F_size ≤ x3_4 → post x2_4) ∧ (¬ F_size ≤ x3_4 → wp_X0_hasArc F_arcs x3_4 a0 (fun (r_21 : Int32) => (r_21 = 0 → I_4 x2_4 (x3_4 + 1) ∧ μ_4 x2_4 (x3_4 + 1) < μ_4 x2_4 x3_4) ∧ (¬ r_21 = 0 → I_4 (x2_4 ||| ((1 : Int32) <<< (x3_4 &&& 31))) (x3_4 + 1) ∧ μ_4 (x2_4 ||| ((1 : Int32) <<< (x3_4 &&& 31))) (x3_4 + 1) < μ_4 x2_4 x3_4))))
def wp_X1_prepare (S_least : Int32) (S_placed : Int32) (S_needs : Nat → Int32) (S_turn : Nat → Int32) (S_jobFree : Nat → Int32) (S_machineFree : Nat → Int32) (S_workLeft : Nat → Int32) (S_waiting : Nat → Int32) (F_jobs : Int32) (F_size : Int32) (F_firstOf : Nat → Int32) (F_machineOf : Nat → Int32) (F_duration : Nat → Int32) (F_arcs : Nat → Int32)  (post : Int32 → Int32 → (Nat → Int32) → (Nat → Int32) → (Nat → Int32) → (Nat → Int32) → (Nat → Int32) → (Nat → Int32) → Prop) : Prop :=
  ∃ (I_2 : Int32 → (Nat → Int32) → (Nat → Int32) → Prop) (μ_2 : Int32 → (Nat → Int32) → (Nat → Int32) → Nat), I_2 0 S_turn S_jobFree ∧ ∀ (x1_2 : Int32) (S_turn_2 : Nat → Int32) (S_jobFree_2 : Nat → Int32), I_2 x1_2 S_turn_2 S_jobFree_2 → ((F_jobs ≤ x1_2 → ∃ (I_43 : Int32 → (Nat → Int32) → (Nat → Int32) → (Nat → Int32) → Prop) (μ_43 : Int32 → (Nat → Int32) → (Nat → Int32) → (Nat → Int32) → Nat), I_43 0 S_machineFree S_workLeft S_waiting ∧ ∀ (x1_43 : Int32) (S_machineFree_43 : Nat → Int32) (S_workLeft_43 : Nat → Int32) (S_waiting_43 : Nat → Int32), I_43 x1_43 S_machineFree_43 S_workLeft_43 S_waiting_43 → ((4 ≤ x1_43 → ∃ (I_87 : Int32 → Int32 → (Nat → Int32) → (Nat → Int32) → (Nat → Int32) → Prop) (μ_87 : Int32 → Int32 → (Nat → Int32) → (Nat → Int32) → (Nat → Int32) → Nat), I_87 0 0 S_needs S_workLeft_43 S_waiting_43 ∧ ∀ (x1_87 : Int32) (S_least_87 : Int32) (S_needs_87 : Nat → Int32) (S_workLeft_87 : Nat → Int32) (S_waiting_87 : Nat → Int32), I_87 x1_87 S_least_87 S_needs_87 S_workLeft_87 S_waiting_87 → ((F_size ≤ x1_87 → post S_least_87 0 S_needs_87 S_turn_2 S_jobFree_2 S_machineFree_43 S_workLeft_87 S_waiting_87) ∧ (¬ F_size ≤ x1_87 → vp_in x1_87 12 ∧ (vp_in x1_87 12 ∧ (vp_in (F_machineOf x1_87.toNatClampNeg) 4 ∧ (vp_in x1_87 12 ∧ (vp_in (F_machineOf x1_87.toNatClampNeg) 4 ∧ (vp_in x1_87 12 ∧ (vp_in (F_machineOf x1_87.toNatClampNeg) 4 ∧ (vp_in (F_machineOf x1_87.toNatClampNeg) 4 ∧ (wp_X1_forerunners F_size F_arcs x1_87 (fun (r_169 : Int32) => vp_in x1_87 12 ∧ (I_87 (x1_87 + 1) (S_least_87 + (F_duration x1_87.toNatClampNeg)) (upd S_needs_87 x1_87.toNatClampNeg r_169) (upd S_workLeft_87 (F_machineOf x1_87.toNatClampNeg).toNatClampNeg ((S_workLeft_87 (F_machineOf x1_87.toNatClampNeg).toNatClampNeg) + (F_duration x1_87.toNatClampNeg))) (upd S_waiting_87 (F_machineOf x1_87.toNatClampNeg).toNatClampNeg ((S_waiting_87 (F_machineOf x1_87.toNatClampNeg).toNatClampNeg) ||| ((1 : Int32) <<< (x1_87 &&& 31)))) ∧ μ_87 (x1_87 + 1) (S_least_87 + (F_duration x1_87.toNatClampNeg)) (upd S_needs_87 x1_87.toNatClampNeg r_169) (upd S_workLeft_87 (F_machineOf x1_87.toNatClampNeg).toNatClampNeg ((S_workLeft_87 (F_machineOf x1_87.toNatClampNeg).toNatClampNeg) + (F_duration x1_87.toNatClampNeg))) (upd S_waiting_87 (F_machineOf x1_87.toNatClampNeg).toNatClampNeg ((S_waiting_87 (F_machineOf x1_87.toNatClampNeg).toNatClampNeg) ||| ((1 : Int32) <<< (x1_87 &&& 31)))) < μ_87 x1_87 S_least_87 S_needs_87 S_workLeft_87 S_waiting_87))))))))))))) ∧ (¬ 4 ≤ x1_43 → vp_in x1_43 4 ∧ (vp_in x1_43 4 ∧ (vp_in x1_43 4 ∧ (I_43 (x1_43 + 1) (upd S_machineFree_43 x1_43.toNatClampNeg 0) (upd S_workLeft_43 x1_43.toNatClampNeg 0) (upd S_waiting_43 x1_43.toNatClampNeg 0) ∧ μ_43 (x1_43 + 1) (upd S_machineFree_43 x1_43.toNatClampNeg 0) (upd S_workLeft_43 x1_43.toNatClampNeg 0) (upd S_waiting_43 x1_43.toNatClampNeg 0) < μ_43 x1_43 S_machineFree_43 S_workLeft_43 S_waiting_43)))))) ∧ (¬ F_jobs ≤ x1_2 → vp_in x1_2 4 ∧ (vp_in x1_2 4 ∧ (vp_in x1_2 4 ∧ (I_2 (x1_2 + 1) (upd S_turn_2 x1_2.toNatClampNeg (F_firstOf x1_2.toNatClampNeg)) (upd S_jobFree_2 x1_2.toNatClampNeg 0) ∧ μ_2 (x1_2 + 1) (upd S_turn_2 x1_2.toNatClampNeg (F_firstOf x1_2.toNatClampNeg)) (upd S_jobFree_2 x1_2.toNatClampNeg 0) < μ_2 x1_2 S_turn_2 S_jobFree_2)))))
def wp_X1_isEarlier (S_plan : Nat → Int32) (S_start : Nat → Int32) (F_size : Int32)  (post : Int32 → Prop) : Prop :=
  ∃ (I_2 : Int32 → Prop) (μ_2 : Int32 → Nat), I_2 0 ∧ ∀ (x1_2 : Int32), I_2 x1_2 → ((F_size ≤ x1_2 → post 0) ∧ (¬ F_size ≤ x1_2 → vp_in x1_2 12 ∧ (vp_in x1_2 12 ∧ (((S_start x1_2.toNatClampNeg) = (S_plan x1_2.toNatClampNeg) → I_2 (x1_2 + 1) ∧ μ_2 (x1_2 + 1) < μ_2 x1_2) ∧ (¬ (S_start x1_2.toNatClampNeg) = (S_plan x1_2.toNatClampNeg) → vp_in x1_2 12 ∧ (vp_in x1_2 12 ∧ (((S_plan x1_2.toNatClampNeg) ≤ (S_start x1_2.toNatClampNeg) → post 0) ∧ (¬ (S_plan x1_2.toNatClampNeg) ≤ (S_start x1_2.toNatClampNeg) → post 1))))))))
def wp_X1_keep (S_least : Int32) (S_found : Int32) (S_plan : Nat → Int32) (S_start : Nat → Int32) (F_size : Int32) (F_duration : Nat → Int32)  (post : Int32 → Int32 → (Nat → Int32) → Prop) : Prop :=
  ∃ (I_4 : Int32 → Int32 → Prop) (μ_4 : Int32 → Int32 → Nat), I_4 0 0 ∧ ∀ (x1_4 : Int32) (x2_4 : Int32), I_4 x1_4 x2_4 → ((F_size ≤ x2_4 → (x1_4 ≤ S_least → (S_least ≤ x1_4 → ∃ (J_83 : Prop), (J_83 → (¬ F_size < 0 ∧ F_size.toNatClampNeg ≤ 12 ∧ F_size.toNatClampNeg ≤ 12 ∧ (post S_least (S_found + 1) (va_cpy S_start S_plan (0 : Int32).toNatClampNeg (0 : Int32).toNatClampNeg F_size.toNatClampNeg)))) ∧ ((S_found = 0 → J_83 ) ∧ (¬ S_found = 0 → wp_X1_isEarlier S_plan S_start F_size (fun (r_77 : Int32) => (r_77 = 0 → post S_least (S_found + 1) S_plan) ∧ (¬ r_77 = 0 → J_83 ))))) ∧ (¬ S_least ≤ x1_4 → ∃ (J_83 : Prop), (J_83 → (¬ F_size < 0 ∧ F_size.toNatClampNeg ≤ 12 ∧ F_size.toNatClampNeg ≤ 12 ∧ (post x1_4 (0 + 1) (va_cpy S_start S_plan (0 : Int32).toNatClampNeg (0 : Int32).toNatClampNeg F_size.toNatClampNeg)))) ∧ ((0 = 0 → J_83 ) ∧ (¬ 0 = 0 → wp_X1_isEarlier S_plan S_start F_size (fun (r_77 : Int32) => (r_77 = 0 → post x1_4 (0 + 1) S_plan) ∧ (¬ r_77 = 0 → J_83 )))))) ∧ (¬ x1_4 ≤ S_least → post S_least S_found S_plan)) ∧ (¬ F_size ≤ x2_4 → vp_in x2_4 12 ∧ (vp_in x2_4 12 ∧ (I_4 (if x1_4 < ((S_start x2_4.toNatClampNeg) + (F_duration x2_4.toNatClampNeg)) then ((S_start x2_4.toNatClampNeg) + (F_duration x2_4.toNatClampNeg)) else x1_4) (x2_4 + 1) ∧ μ_4 (if x1_4 < ((S_start x2_4.toNatClampNeg) + (F_duration x2_4.toNatClampNeg)) then ((S_start x2_4.toNatClampNeg) + (F_duration x2_4.toNatClampNeg)) else x1_4) (x2_4 + 1) < μ_4 x1_4 x2_4))))
def wp_X1_earliest (S_jobFree : Nat → Int32) (S_machineFree : Nat → Int32) (F_jobOf : Nat → Int32) (F_machineOf : Nat → Int32) (a0 : Int32) (post : Int32 → Prop) : Prop :=
  vp_in a0 12 ∧ (vp_in (F_jobOf a0.toNatClampNeg) 4 ∧ (vp_in a0 12 ∧ (vp_in (F_machineOf a0.toNatClampNeg) 4 ∧ (((S_jobFree (F_jobOf a0.toNatClampNeg).toNatClampNeg) < (S_machineFree (F_machineOf a0.toNatClampNeg).toNatClampNeg) → post (S_machineFree (F_machineOf a0.toNatClampNeg).toNatClampNeg)) ∧ (¬ (S_jobFree (F_jobOf a0.toNatClampNeg).toNatClampNeg) < (S_machineFree (F_machineOf a0.toNatClampNeg).toNatClampNeg) → post (S_jobFree (F_jobOf a0.toNatClampNeg).toNatClampNeg))))))
def wp_X1_endsAbove (S_least : Int32) (S_jobFree : Nat → Int32) (S_machineFree : Nat → Int32) (F_jobOf : Nat → Int32) (F_machineOf : Nat → Int32) (F_duration : Nat → Int32) (F_head : Nat → Int32) (F_tail : Nat → Int32) (a0 : Int32) (post : Int32 → Prop) : Prop :=
  wp_X1_earliest S_jobFree S_machineFree F_jobOf F_machineOf a0 (fun (r_2 : Int32) => vp_in a0 12 ∧ (vp_in a0 12 ∧ (vp_in a0 12 ∧ (((((if r_2 < (F_head a0.toNatClampNeg) then (F_head a0.toNatClampNeg) else r_2) + (F_duration a0.toNatClampNeg)) + (F_tail a0.toNatClampNeg)) ≤ S_least → post 0) ∧ (¬ (((if r_2 < (F_head a0.toNatClampNeg) then (F_head a0.toNatClampNeg) else r_2) + (F_duration a0.toNatClampNeg)) + (F_tail a0.toNatClampNeg)) ≤ S_least → post 1)))))
def wp_X1_isPassed (S_jobFree : Nat → Int32) (S_machineFree : Nat → Int32) (F_jobOf : Nat → Int32) (F_machineOf : Nat → Int32) (a0 : Int32) (a1 : Int32) (a2 : Int32) (post : Int32 → Prop) : Prop :=
  wp_X1_earliest S_jobFree S_machineFree F_jobOf F_machineOf a0 (fun (r_2 : Int32) => (r_2 < a1 → post 1) ∧ (¬ r_2 < a1 → (¬ r_2 = a1 → post 0) ∧ (r_2 = a1 → (a2 ≤ a0 → post 0) ∧ (¬ a2 ≤ a0 → post 1))))
def wp_X1_isStranded (S_jobFree : Nat → Int32) (S_machineFree : Nat → Int32) (S_waiting : Nat → Int32) (F_jobOf : Nat → Int32) (F_machineOf : Nat → Int32) (F_arcs : Nat → Int32) (a0 : Int32) (a1 : Int32) (a2 : Int32) (post : Int32 → Prop) : Prop :=
  vp_in a0 12 ∧ (vp_in (F_machineOf a0.toNatClampNeg) 4 ∧ (vp_in a0 12 ∧ ((¬ (((S_waiting (F_machineOf a0.toNatClampNeg).toNatClampNeg) &&& (((1 : Int32) <<< (a0 &&& 31)) ^^^ (-1))) &&& ((F_arcs a0.toNatClampNeg) ^^^ (-1))) = 0 → post 0) ∧ ((((S_waiting (F_machineOf a0.toNatClampNeg).toNatClampNeg) &&& (((1 : Int32) <<< (a0 &&& 31)) ^^^ (-1))) &&& ((F_arcs a0.toNatClampNeg) ^^^ (-1))) = 0 → wp_X1_isPassed S_jobFree S_machineFree F_jobOf F_machineOf a0 a1 a2 (fun (r_43 : Int32) => (r_43 = 0 → post 0) ∧ (¬ r_43 = 0 → post 1))))))
def wp_X1_isHopeless (S_least : Int32) (S_turn : Nat → Int32) (S_jobFree : Nat → Int32) (S_machineFree : Nat → Int32) (S_workLeft : Nat → Int32) (S_waiting : Nat → Int32) (F_jobs : Int32) (F_size : Int32) (F_jobOf : Nat → Int32) (F_machineOf : Nat → Int32) (F_duration : Nat → Int32) (F_arcs : Nat → Int32) (F_head : Nat → Int32) (F_tail : Nat → Int32) (a0 : Int32) (a1 : Int32) (post : Int32 → Prop) : Prop :=
  ∃ (I_2 : Int32 → Prop) (μ_2 : Int32 → Nat), I_2 0 ∧ ∀ (x3_2 : Int32), I_2 x3_2 → ((4 ≤ x3_2 → ∃ (I_37 : Int32 → Prop) (μ_37 : Int32 → Nat), I_37 0 ∧ ∀ (x3_37 : Int32), I_37 x3_37 → ((F_jobs ≤ x3_37 → post 0) ∧ (¬ F_jobs ≤ x3_37 → vp_in x3_37 4 ∧ (wp_X0_isOperation F_size (S_turn x3_37.toNatClampNeg) (fun (r_62 : Int32) => (r_62 = 0 → I_37 (x3_37 + 1) ∧ μ_37 (x3_37 + 1) < μ_37 x3_37) ∧ (¬ r_62 = 0 → wp_X1_endsAbove S_least S_jobFree S_machineFree F_jobOf F_machineOf F_duration F_head F_tail (S_turn x3_37.toNatClampNeg) (fun (r_71 : Int32) => (¬ r_71 = 0 → post 1) ∧ (r_71 = 0 → wp_X1_isStranded S_jobFree S_machineFree S_waiting F_jobOf F_machineOf F_arcs (S_turn x3_37.toNatClampNeg) a0 a1 (fun (r_82 : Int32) => (r_82 = 0 → I_37 (x3_37 + 1) ∧ μ_37 (x3_37 + 1) < μ_37 x3_37) ∧ (¬ r_82 = 0 → post 1)))))))))) ∧ (¬ 4 ≤ x3_2 → vp_in x3_2 4 ∧ (vp_in x3_2 4 ∧ ((((S_machineFree x3_2.toNatClampNeg) + (S_workLeft x3_2.toNatClampNeg)) ≤ S_least → I_2 (x3_2 + 1) ∧ μ_2 (x3_2 + 1) < μ_2 x3_2) ∧ (¬ ((S_machineFree x3_2.toNatClampNeg) + (S_workLeft x3_2.toNatClampNeg)) ≤ S_least → post 1)))))
def wp_X1_place (E : Int32 → Int32 → Int32 → (Nat → Int32) → (Nat → Int32) → (Nat → Int32) → (Nat → Int32) → (Nat → Int32) → (Nat → Int32) → (Nat → Int32) → (Nat → Int32) → Int32 → Int32 → (Nat → Int32) → (Nat → Int32) → (Nat → Int32) → (Nat → Int32) → (Nat → Int32) → (Nat → Int32) → (Nat → Int32) → Int32 → Int32 → Int32 → (Int32 → Int32 → Int32 → (Nat → Int32) → (Nat → Int32) → (Nat → Int32) → (Nat → Int32) → (Nat → Int32) → (Nat → Int32) → (Nat → Int32) → Prop) → Prop) (S_least : Int32) (S_found : Int32) (S_placed : Int32) (S_plan : Nat → Int32) (S_start : Nat → Int32) (S_needs : Nat → Int32) (S_turn : Nat → Int32) (S_jobFree : Nat → Int32) (S_machineFree : Nat → Int32) (S_workLeft : Nat → Int32) (S_waiting : Nat → Int32) (F_jobs : Int32) (F_size : Int32) (F_jobOf : Nat → Int32) (F_machineOf : Nat → Int32) (F_duration : Nat → Int32) (F_nextOf : Nat → Int32) (F_arcs : Nat → Int32) (F_head : Nat → Int32) (F_tail : Nat → Int32) (a0 : Int32) (a1 : Int32) (post : Int32 → Int32 → Int32 → (Nat → Int32) → (Nat → Int32) → (Nat → Int32) → (Nat → Int32) → (Nat → Int32) → (Nat → Int32) → (Nat → Int32) → Prop) : Prop :=
  vp_in a0 12 ∧ (vp_in a0 12 ∧ (vp_in (F_jobOf a0.toNatClampNeg) 4 ∧ (vp_in (F_machineOf a0.toNatClampNeg) 4 ∧ (wp_X1_earliest S_jobFree S_machineFree F_jobOf F_machineOf a0 (fun (r_40 : Int32) => vp_in a0 12 ∧ (vp_in a0 12 ∧ (vp_in (F_jobOf a0.toNatClampNeg) 4 ∧ (vp_in a0 12 ∧ (vp_in (F_jobOf a0.toNatClampNeg) 4 ∧ (vp_in a0 12 ∧ (vp_in (F_machineOf a0.toNatClampNeg) 4 ∧ (vp_in (F_machineOf a0.toNatClampNeg) 4 ∧ (vp_in a0 12 ∧ (vp_in (F_machineOf a0.toNatClampNeg) 4 ∧ (vp_in (F_machineOf a0.toNatClampNeg) 4 ∧ (vp_in (F_machineOf a0.toNatClampNeg) 4 ∧ (wp_X1_extend E S_least S_found (S_placed ^^^ ((1 : Int32) <<< (a0 &&& 31))) S_plan (upd S_start a0.toNatClampNeg r_40) S_needs (upd S_turn (F_jobOf a0.toNatClampNeg).toNatClampNeg (F_nextOf a0.toNatClampNeg)) (upd S_jobFree (F_jobOf a0.toNatClampNeg).toNatClampNeg (r_40 + (F_duration a0.toNatClampNeg))) (upd S_machineFree (F_machineOf a0.toNatClampNeg).toNatClampNeg (r_40 + (F_duration a0.toNatClampNeg))) (upd S_workLeft (F_machineOf a0.toNatClampNeg).toNatClampNeg ((S_workLeft (F_machineOf a0.toNatClampNeg).toNatClampNeg) - (F_duration a0.toNatClampNeg))) (upd S_waiting (F_machineOf a0.toNatClampNeg).toNatClampNeg ((S_waiting (F_machineOf a0.toNatClampNeg).toNatClampNeg) ^^^ ((1 : Int32) <<< (a0 &&& 31)))) F_jobs F_size F_jobOf F_machineOf F_duration F_nextOf F_arcs F_head F_tail (a1 + 1) r_40 a0 (fun (S_least_156 : Int32) (S_found_156 : Int32) (S_placed_156 : Int32) (S_plan_156 : Nat → Int32) (S_start_156 : Nat → Int32) (S_turn_156 : Nat → Int32) (S_jobFree_156 : Nat → Int32) (S_machineFree_156 : Nat → Int32) (S_workLeft_156 : Nat → Int32) (S_waiting_156 : Nat → Int32) => vp_in (F_machineOf a0.toNatClampNeg) 4 ∧ (vp_in (F_machineOf a0.toNatClampNeg) 4 ∧ (vp_in (F_machineOf a0.toNatClampNeg) 4 ∧ (vp_in a0 12 ∧ (vp_in (F_machineOf a0.toNatClampNeg) 4 ∧ (vp_in (F_machineOf a0.toNatClampNeg) 4 ∧ (vp_in (F_jobOf a0.toNatClampNeg) 4 ∧ (vp_in (F_jobOf a0.toNatClampNeg) 4 ∧ (post S_least_156 S_found_156 (S_placed_156 ^^^ ((1 : Int32) <<< (a0 &&& 31))) S_plan_156 S_start_156 (upd S_turn_156 (F_jobOf a0.toNatClampNeg).toNatClampNeg a0) (upd S_jobFree_156 (F_jobOf a0.toNatClampNeg).toNatClampNeg (S_jobFree (F_jobOf a0.toNatClampNeg).toNatClampNeg)) (upd S_machineFree_156 (F_machineOf a0.toNatClampNeg).toNatClampNeg (S_machineFree (F_machineOf a0.toNatClampNeg).toNatClampNeg)) (upd S_workLeft_156 (F_machineOf a0.toNatClampNeg).toNatClampNeg ((S_workLeft_156 (F_machineOf a0.toNatClampNeg).toNatClampNeg) + (F_duration a0.toNatClampNeg))) (upd S_waiting_156 (F_machineOf a0.toNatClampNeg).toNatClampNeg ((S_waiting_156 (F_machineOf a0.toNatClampNeg).toNatClampNeg) ^^^ ((1 : Int32) <<< (a0 &&& 31))))))))))))))))))))))))))))))
def wp_X1_extend : Nat → Int32 → Int32 → Int32 → (Nat → Int32) → (Nat → Int32) → (Nat → Int32) → (Nat → Int32) → (Nat → Int32) → (Nat → Int32) → (Nat → Int32) → (Nat → Int32) → Int32 → Int32 → (Nat → Int32) → (Nat → Int32) → (Nat → Int32) → (Nat → Int32) → (Nat → Int32) → (Nat → Int32) → (Nat → Int32) → Int32 → Int32 → Int32 → (Int32 → Int32 → Int32 → (Nat → Int32) → (Nat → Int32) → (Nat → Int32) → (Nat → Int32) → (Nat → Int32) → (Nat → Int32) → (Nat → Int32) → Prop) → Prop
  | 0 => fun _ _ _ _ _ _ _ _ _ _ _ _ _ _ _ _ _ _ _ _ _ _ _ _ => False
  | d + 1 => fun S_least S_found S_placed S_plan S_start S_needs S_turn S_jobFree S_machineFree S_workLeft S_waiting F_jobs F_size F_jobOf F_machineOf F_duration F_nextOf F_arcs F_head F_tail a0 a1 a2 post =>
  (a0 < F_size → wp_X1_isHopeless S_least S_turn S_jobFree S_machineFree S_workLeft S_waiting F_jobs F_size F_jobOf F_machineOf F_duration F_arcs F_head F_tail a1 a2 (fun (r_19 : Int32) => (r_19 = 0 → ∃ (I_29 : Int32 → Int32 → Int32 → Int32 → (Nat → Int32) → (Nat → Int32) → (Nat → Int32) → (Nat → Int32) → (Nat → Int32) → (Nat → Int32) → (Nat → Int32) → Prop) (μ_29 : Int32 → Int32 → Int32 → Int32 → (Nat → Int32) → (Nat → Int32) → (Nat → Int32) → (Nat → Int32) → (Nat → Int32) → (Nat → Int32) → (Nat → Int32) → Nat), I_29 0 S_least S_found S_placed S_plan S_start S_turn S_jobFree S_machineFree S_workLeft S_waiting ∧ ∀ (x4_29 : Int32) (S_least_29 : Int32) (S_found_29 : Int32) (S_placed_29 : Int32) (S_plan_29 : Nat → Int32) (S_start_29 : Nat → Int32) (S_turn_29 : Nat → Int32) (S_jobFree_29 : Nat → Int32) (S_machineFree_29 : Nat → Int32) (S_workLeft_29 : Nat → Int32) (S_waiting_29 : Nat → Int32), I_29 x4_29 S_least_29 S_found_29 S_placed_29 S_plan_29 S_start_29 S_turn_29 S_jobFree_29 S_machineFree_29 S_workLeft_29 S_waiting_29 → ((F_jobs ≤ x4_29 → post S_least_29 S_found_29 S_placed_29 S_plan_29 S_start_29 S_turn_29 S_jobFree_29 S_machineFree_29 S_workLeft_29 S_waiting_29) ∧ (¬ F_jobs ≤ x4_29 → vp_in x4_29 4 ∧ (wp_X0_isOperation F_size (S_turn_29 x4_29.toNatClampNeg) (fun (r_56 : Int32) => (r_56 = 0 → I_29 (x4_29 + 1) S_least_29 S_found_29 S_placed_29 S_plan_29 S_start_29 S_turn_29 S_jobFree_29 S_machineFree_29 S_workLeft_29 S_waiting_29 ∧ μ_29 (x4_29 + 1) S_least_29 S_found_29 S_placed_29 S_plan_29 S_start_29 S_turn_29 S_jobFree_29 S_machineFree_29 S_workLeft_29 S_waiting_29 < μ_29 x4_29 S_least_29 S_found_29 S_placed_29 S_plan_29 S_start_29 S_turn_29 S_jobFree_29 S_machineFree_29 S_workLeft_29 S_waiting_29) ∧ (¬ r_56 = 0 → vp_in (S_turn_29 x4_29.toNatClampNeg) 12 ∧ ((¬ ((S_needs (S_turn_29 x4_29.toNatClampNeg).toNatClampNeg) &&& (S_placed_29 ^^^ (-1))) = 0 → I_29 (x4_29 + 1) S_least_29 S_found_29 S_placed_29 S_plan_29 S_start_29 S_turn_29 S_jobFree_29 S_machineFree_29 S_workLeft_29 S_waiting_29 ∧ μ_29 (x4_29 + 1) S_least_29 S_found_29 S_placed_29 S_plan_29 S_start_29 S_turn_29 S_jobFree_29 S_machineFree_29 S_workLeft_29 S_waiting_29 < μ_29 x4_29 S_least_29 S_found_29 S_placed_29 S_plan_29 S_start_29 S_turn_29 S_jobFree_29 S_machineFree_29 S_workLeft_29 S_waiting_29) ∧ (((S_needs (S_turn_29 x4_29.toNatClampNeg).toNatClampNeg) &&& (S_placed_29 ^^^ (-1))) = 0 → wp_X1_isPassed S_jobFree_29 S_machineFree_29 F_jobOf F_machineOf (S_turn_29 x4_29.toNatClampNeg) a1 a2 (fun (r_84 : Int32) => (¬ r_84 = 0 → I_29 (x4_29 + 1) S_least_29 S_found_29 S_placed_29 S_plan_29 S_start_29 S_turn_29 S_jobFree_29 S_machineFree_29 S_workLeft_29 S_waiting_29 ∧ μ_29 (x4_29 + 1) S_least_29 S_found_29 S_placed_29 S_plan_29 S_start_29 S_turn_29 S_jobFree_29 S_machineFree_29 S_workLeft_29 S_waiting_29 < μ_29 x4_29 S_least_29 S_found_29 S_placed_29 S_plan_29 S_start_29 S_turn_29 S_jobFree_29 S_machineFree_29 S_workLeft_29 S_waiting_29) ∧ (r_84 = 0 → wp_X1_place (wp_X1_extend d) S_least_29 S_found_29 S_placed_29 S_plan_29 S_start_29 S_needs S_turn_29 S_jobFree_29 S_machineFree_29 S_workLeft_29 S_waiting_29 F_jobs F_size F_jobOf F_machineOf F_duration F_nextOf F_arcs F_head F_tail (S_turn_29 x4_29.toNatClampNeg) a0 (fun (S_least_94 : Int32) (S_found_94 : Int32) (S_placed_94 : Int32) (S_plan_94 : Nat → Int32) (S_start_94 : Nat → Int32) (S_turn_94 : Nat → Int32) (S_jobFree_94 : Nat → Int32) (S_machineFree_94 : Nat → Int32) (S_workLeft_94 : Nat → Int32) (S_waiting_94 : Nat → Int32) => I_29 (x4_29 + 1) S_least_94 S_found_94 S_placed_94 S_plan_94 S_start_94 S_turn_94 S_jobFree_94 S_machineFree_94 S_workLeft_94 S_waiting_94 ∧ μ_29 (x4_29 + 1) S_least_94 S_found_94 S_placed_94 S_plan_94 S_start_94 S_turn_94 S_jobFree_94 S_machineFree_94 S_workLeft_94 S_waiting_94 < μ_29 x4_29 S_least_29 S_found_29 S_placed_29 S_plan_29 S_start_29 S_turn_29 S_jobFree_29 S_machineFree_29 S_workLeft_29 S_waiting_29))))))))))) ∧ (¬ r_19 = 0 → post S_least S_found S_placed S_plan S_start S_turn S_jobFree S_machineFree S_workLeft S_waiting))) ∧ (¬ a0 < F_size → wp_X1_keep S_least S_found S_plan S_start F_size F_duration (fun (S_least_12 : Int32) (S_found_12 : Int32) (S_plan_12 : Nat → Int32) => post S_least_12 S_found_12 S_placed S_plan_12 S_start S_turn S_jobFree S_machineFree S_workLeft S_waiting))
def wp_X1_run (S_least : Int32) (S_found : Int32) (S_placed : Int32) (S_plan : Nat → Int32) (S_start : Nat → Int32) (S_needs : Nat → Int32) (S_turn : Nat → Int32) (S_jobFree : Nat → Int32) (S_machineFree : Nat → Int32) (S_workLeft : Nat → Int32) (S_waiting : Nat → Int32) (F_jobs : Int32) (F_size : Int32) (F_firstOf : Nat → Int32) (F_jobOf : Nat → Int32) (F_machineOf : Nat → Int32) (F_duration : Nat → Int32) (F_nextOf : Nat → Int32) (F_arcs : Nat → Int32) (F_head : Nat → Int32) (F_tail : Nat → Int32)  (post : Int32 → Int32 → Int32 → (Nat → Int32) → (Nat → Int32) → (Nat → Int32) → (Nat → Int32) → (Nat → Int32) → (Nat → Int32) → (Nat → Int32) → (Nat → Int32) → Prop) : Prop :=
  wp_X1_prepare S_least S_placed S_needs S_turn S_jobFree S_machineFree S_workLeft S_waiting F_jobs F_size F_firstOf F_machineOf F_duration F_arcs (fun (S_least_1 : Int32) (S_placed_1 : Int32) (S_needs_1 : Nat → Int32) (S_turn_1 : Nat → Int32) (S_jobFree_1 : Nat → Int32) (S_machineFree_1 : Nat → Int32) (S_workLeft_1 : Nat → Int32) (S_waiting_1 : Nat → Int32) => wp_X1_extend 13 S_least_1 0 S_placed_1 S_plan S_start S_needs_1 S_turn_1 S_jobFree_1 S_machineFree_1 S_workLeft_1 S_waiting_1 F_jobs F_size F_jobOf F_machineOf F_duration F_nextOf F_arcs F_head F_tail 0 0 (-1) (fun (S_least_13 : Int32) (S_found_13 : Int32) (S_placed_13 : Int32) (S_plan_13 : Nat → Int32) (S_start_13 : Nat → Int32) (S_turn_13 : Nat → Int32) (S_jobFree_13 : Nat → Int32) (S_machineFree_13 : Nat → Int32) (S_workLeft_13 : Nat → Int32) (S_waiting_13 : Nat → Int32) => post S_least_13 S_found_13 S_placed_13 S_plan_13 S_start_13 S_needs_1 S_turn_13 S_jobFree_13 S_machineFree_13 S_workLeft_13 S_waiting_13))
def wp_X2_clear (J_planned : Int32) (F_jobs : Int32) (F_size : Int32)  (post : Int32 → Int32 → Int32 → Int32 → Prop) : Prop :=
  wp_X0_empty F_jobs F_size (fun (F_jobs_12 : Int32) (F_size_12 : Int32) => post F_size 0 F_jobs_12 F_size_12)
def wp_X2_job (F_jobs : Int32) (F_firstOf : Nat → Int32) (F_lastOf : Nat → Int32)  (post : Int32 → Int32 → (Nat → Int32) → (Nat → Int32) → Prop) : Prop :=
  (4 ≤ F_jobs → post (-3) F_jobs F_firstOf F_lastOf) ∧ (¬ 4 ≤ F_jobs → wp_X0_addJob F_jobs F_firstOf F_lastOf (fun (r_15 : Int32) (F_jobs_15 : Int32) (F_firstOf_15 : Nat → Int32) (F_lastOf_15 : Nat → Int32) => post r_15 F_jobs_15 F_firstOf_15 F_lastOf_15))
def wp_X2_isMachine  (a0 : Int32) (post : Int32 → Prop) : Prop :=
  (a0 < 0 → post 0) ∧ (¬ a0 < 0 → (4 ≤ a0 → post 0) ∧ (¬ 4 ≤ a0 → post 1))
def wp_X2_operation (J_planned : Int32) (J_drafted : Nat → Int32) (F_jobs : Int32) (F_size : Int32) (F_firstOf : Nat → Int32) (F_lastOf : Nat → Int32) (F_jobOf : Nat → Int32) (F_machineOf : Nat → Int32) (F_duration : Nat → Int32) (F_nextOf : Nat → Int32) (F_arcs : Nat → Int32) (F_head : Nat → Int32) (F_tail : Nat → Int32) (a0 : Int32) (a1 : Int32) (a2 : Int32) (post : Int32 → Int32 → (Nat → Int32) → Int32 → (Nat → Int32) → (Nat → Int32) → (Nat → Int32) → (Nat → Int32) → (Nat → Int32) → (Nat → Int32) → (Nat → Int32) → (Nat → Int32) → (Nat → Int32) → Prop) : Prop :=
  wp_X0_isJob F_jobs a0 (fun (r_5 : Int32) => (r_5 = 0 → post (-2) J_planned J_drafted F_size F_firstOf F_lastOf F_jobOf F_machineOf F_duration F_nextOf F_arcs F_head F_tail) ∧ (¬ r_5 = 0 → wp_X2_isMachine a1 (fun (r_12 : Int32) => (r_12 = 0 → post (-2) J_planned J_drafted F_size F_firstOf F_lastOf F_jobOf F_machineOf F_duration F_nextOf F_arcs F_head F_tail) ∧ (¬ r_12 = 0 → (a2 < 1 → post (-2) J_planned J_drafted F_size F_firstOf F_lastOf F_jobOf F_machineOf F_duration F_nextOf F_arcs F_head F_tail) ∧ (¬ a2 < 1 → (a2 ≤ 50 → wp_X0_visits F_size F_jobOf F_machineOf a0 a1 (fun (r_38 : Int32) => (r_38 = 0 → (F_size < 12 → wp_X0_addOperation F_size F_firstOf F_lastOf F_jobOf F_machineOf F_duration F_nextOf F_arcs F_head F_tail a0 a1 a2 (fun (r_74 : Int32) (F_size_74 : Int32) (F_firstOf_74 : Nat → Int32) (F_lastOf_74 : Nat → Int32) (F_jobOf_74 : Nat → Int32) (F_machineOf_74 : Nat → Int32) (F_duration_74 : Nat → Int32) (F_nextOf_74 : Nat → Int32) (F_arcs_74 : Nat → Int32) (F_head_74 : Nat → Int32) (F_tail_74 : Nat → Int32) => ∃ (I_82 : Int32 → (Nat → Int32) → Prop) (μ_82 : Int32 → (Nat → Int32) → Nat), I_82 0 J_drafted ∧ ∀ (x5_82 : Int32) (J_drafted_82 : Nat → Int32), I_82 x5_82 J_drafted_82 → ((F_size_74 ≤ x5_82 → post r_74 0 J_drafted_82 F_size_74 F_firstOf_74 F_lastOf_74 F_jobOf_74 F_machineOf_74 F_duration_74 F_nextOf_74 F_arcs_74 F_head_74 F_tail_74) ∧ (¬ F_size_74 ≤ x5_82 → vp_in x5_82 12 ∧ (I_82 (x5_82 + 1) (upd J_drafted_82 x5_82.toNatClampNeg 0) ∧ μ_82 (x5_82 + 1) (upd J_drafted_82 x5_82.toNatClampNeg 0) < μ_82 x5_82 J_drafted_82))))) ∧ (¬ F_size < 12 → post (-3) J_planned J_drafted F_size F_firstOf F_lastOf F_jobOf F_machineOf F_duration F_nextOf F_arcs F_head F_tail)) ∧ (¬ r_38 = 0 → post (-2) J_planned J_drafted F_size F_firstOf F_lastOf F_jobOf F_machineOf F_duration F_nextOf F_arcs F_head F_tail))) ∧ (¬ a2 ≤ 50 → post (-2) J_planned J_drafted F_size F_firstOf F_lastOf F_jobOf F_machineOf F_duration F_nextOf F_arcs F_head F_tail))))))
def wp_X2_before (J_planned : Int32) (F_size : Int32) (F_machineOf : Nat → Int32) (F_duration : Nat → Int32) (F_nextOf : Nat → Int32) (F_arcs : Nat → Int32) (F_head : Nat → Int32) (F_tail : Nat → Int32) (a0 : Int32) (a1 : Int32) (post : Int32 → Int32 → (Nat → Int32) → (Nat → Int32) → (Nat → Int32) → Prop) : Prop :=
  wp_X0_isPair F_size F_machineOf a0 a1 (fun (r_6 : Int32) => (¬ r_6 = 0 → wp_X0_leads F_size F_nextOf F_arcs a1 a0 (fun (r_21 : Int32) => (r_21 = 0 → wp_X0_hasArc F_arcs a0 a1 (fun (r_36 : Int32) => (r_36 = 0 → wp_X0_putArc F_size F_duration F_nextOf F_arcs F_head F_tail a0 a1 (fun (F_arcs_50 : Nat → Int32) (F_head_50 : Nat → Int32) (F_tail_50 : Nat → Int32) => post 1 0 F_arcs_50 F_head_50 F_tail_50)) ∧ (¬ r_36 = 0 → post 0 J_planned F_arcs F_head F_tail))) ∧ (¬ r_21 = 0 → post (-4) J_planned F_arcs F_head F_tail))) ∧ (r_6 = 0 → post (-2) J_planned F_arcs F_head F_tail))
def wp_X2_free (J_planned : Int32) (F_size : Int32) (F_machineOf : Nat → Int32) (F_duration : Nat → Int32) (F_nextOf : Nat → Int32) (F_arcs : Nat → Int32) (F_head : Nat → Int32) (F_tail : Nat → Int32) (a0 : Int32) (a1 : Int32) (post : Int32 → Int32 → (Nat → Int32) → (Nat → Int32) → (Nat → Int32) → Prop) : Prop :=
  wp_X0_isPair F_size F_machineOf a0 a1 (fun (r_6 : Int32) => (¬ r_6 = 0 → wp_X0_isTied F_arcs a0 a1 (fun (r_21 : Int32) => (¬ r_21 = 0 → wp_X0_dropArcs F_size F_duration F_nextOf F_arcs F_head F_tail a0 a1 (fun (F_arcs_35 : Nat → Int32) (F_head_35 : Nat → Int32) (F_tail_35 : Nat → Int32) => post 1 0 F_arcs_35 F_head_35 F_tail_35)) ∧ (r_21 = 0 → post 0 J_planned F_arcs F_head F_tail))) ∧ (r_6 = 0 → post (-2) J_planned F_arcs F_head F_tail))
def wp_X2_arc (F_size : Int32) (F_machineOf : Nat → Int32) (F_arcs : Nat → Int32) (a0 : Int32) (a1 : Int32) (post : Int32 → Prop) : Prop :=
  wp_X0_isPair F_size F_machineOf a0 a1 (fun (r_6 : Int32) => (¬ r_6 = 0 → wp_X0_hasArc F_arcs a0 a1 (fun (r_21 : Int32) => (r_21 = 0 → post 0) ∧ (¬ r_21 = 0 → post 1))) ∧ (r_6 = 0 → post (-2)))
def wp_X2_told (J_planned : Int32) (S_plan : Nat → Int32) (F_size : Int32) (F_jobOf : Nat → Int32) (F_machineOf : Nat → Int32) (F_duration : Nat → Int32) (F_head : Nat → Int32) (F_tail : Nat → Int32) (a0 : Int32) (a1 : Int32) (post : Int32 → Prop) : Prop :=
  wp_X0_isOperation F_size a0 (fun (r_5 : Int32) => (¬ r_5 = 0 → (a1 = 0 → vp_in a0 12 ∧ (post (F_jobOf a0.toNatClampNeg))) ∧ (a1 = 1 → vp_in a0 12 ∧ (post (F_machineOf a0.toNatClampNeg))) ∧ (a1 = 2 → vp_in a0 12 ∧ (post (F_duration a0.toNatClampNeg))) ∧ (a1 = 3 → vp_in a0 12 ∧ (post (F_head a0.toNatClampNeg))) ∧ (a1 = 4 → vp_in a0 12 ∧ (post (F_tail a0.toNatClampNeg))) ∧ (a1 = 5 → wp_X0_through F_duration F_head F_tail a0 (fun (r_111 : Int32) => wp_X0_longest F_size F_duration F_head F_tail (fun (r_118 : Int32) => (¬ r_111 = r_118 → post 0) ∧ (r_111 = r_118 → post 1)))) ∧ (a1 = 6 → (J_planned = 0 → post (-1)) ∧ (¬ J_planned = 0 → vp_in a0 12 ∧ (post (S_plan a0.toNatClampNeg)))) ∧ (a1.toInt < 0 ∨ 6 < a1.toInt → post (-2))) ∧ (r_5 = 0 → post (-1)))
def wp_X2_length (F_size : Int32) (F_duration : Nat → Int32) (F_head : Nat → Int32) (F_tail : Nat → Int32)  (post : Int32 → Prop) : Prop :=
  wp_X0_longest F_size F_duration F_head F_tail (fun (r_4 : Int32) => post r_4)
def wp_X2_load (F_size : Int32) (F_machineOf : Nat → Int32) (F_duration : Nat → Int32) (F_head : Nat → Int32) (F_tail : Nat → Int32) (a0 : Int32) (post : Int32 → Prop) : Prop :=
  wp_X2_isMachine a0 (fun (r_1 : Int32) => (r_1 = 0 → post (-2)) ∧ (¬ r_1 = 0 → wp_X0_burden F_size F_machineOf F_duration F_head F_tail a0 (fun (r_12 : Int32) => post r_12)))
def wp_X2_select (J_planned : Int32) (F_size : Int32) (F_machineOf : Nat → Int32) (F_duration : Nat → Int32) (F_nextOf : Nat → Int32) (F_arcs : Nat → Int32) (F_head : Nat → Int32) (F_tail : Nat → Int32) (F_kept : Nat → Int32) (a0 : Int32) (post : Int32 → Int32 → (Nat → Int32) → (Nat → Int32) → (Nat → Int32) → (Nat → Int32) → Prop) : Prop :=
  wp_X0_force F_size F_machineOf F_duration F_nextOf F_arcs F_head F_tail F_kept a0 (fun (r_5 : Int32) (F_arcs_5 : Nat → Int32) (F_head_5 : Nat → Int32) (F_tail_5 : Nat → Int32) (F_kept_5 : Nat → Int32) => (r_5 ≤ 0 → post r_5 J_planned F_arcs_5 F_head_5 F_tail_5 F_kept_5) ∧ (¬ r_5 ≤ 0 → post r_5 0 F_arcs_5 F_head_5 F_tail_5 F_kept_5))
def wp_X2_solve (J_planned : Int32) (S_least : Int32) (S_found : Int32) (S_placed : Int32) (S_plan : Nat → Int32) (S_start : Nat → Int32) (S_needs : Nat → Int32) (S_turn : Nat → Int32) (S_jobFree : Nat → Int32) (S_machineFree : Nat → Int32) (S_workLeft : Nat → Int32) (S_waiting : Nat → Int32) (F_jobs : Int32) (F_size : Int32) (F_firstOf : Nat → Int32) (F_jobOf : Nat → Int32) (F_machineOf : Nat → Int32) (F_duration : Nat → Int32) (F_nextOf : Nat → Int32) (F_arcs : Nat → Int32) (F_head : Nat → Int32) (F_tail : Nat → Int32)  (post : Int32 → Int32 → Int32 → Int32 → Int32 → (Nat → Int32) → (Nat → Int32) → (Nat → Int32) → (Nat → Int32) → (Nat → Int32) → (Nat → Int32) → (Nat → Int32) → (Nat → Int32) → Prop) : Prop :=
  (¬ J_planned = 0 → post S_least J_planned S_least S_found S_placed S_plan S_start S_needs S_turn S_jobFree S_machineFree S_workLeft S_waiting) ∧ (J_planned = 0 → wp_X1_run S_least S_found S_placed S_plan S_start S_needs S_turn S_jobFree S_machineFree S_workLeft S_waiting F_jobs F_size F_firstOf F_jobOf F_machineOf F_duration F_nextOf F_arcs F_head F_tail (fun (S_least_11 : Int32) (S_found_11 : Int32) (S_placed_11 : Int32) (S_plan_11 : Nat → Int32) (S_start_11 : Nat → Int32) (S_needs_11 : Nat → Int32) (S_turn_11 : Nat → Int32) (S_jobFree_11 : Nat → Int32) (S_machineFree_11 : Nat → Int32) (S_workLeft_11 : Nat → Int32) (S_waiting_11 : Nat → Int32) => post S_least_11 1 S_least_11 S_found_11 S_placed_11 S_plan_11 S_start_11 S_needs_11 S_turn_11 S_jobFree_11 S_machineFree_11 S_workLeft_11 S_waiting_11))
def wp_X2_optima (J_planned : Int32) (S_found : Int32)  (post : Int32 → Prop) : Prop :=
  (J_planned = 0 → post (-1)) ∧ (¬ J_planned = 0 → post S_found)
def wp_X2_at (J_planned : Int32) (S_plan : Nat → Int32) (F_size : Int32) (F_machineOf : Nat → Int32) (F_duration : Nat → Int32) (a0 : Int32) (a1 : Int32) (post : Int32 → Prop) : Prop :=
  wp_X2_isMachine a0 (fun (r_1 : Int32) => (¬ r_1 = 0 → (¬ J_planned = 0 → ∃ (I_21 : Int32 → Prop) (μ_21 : Int32 → Nat), I_21 0 ∧ ∀ (x3_21 : Int32), I_21 x3_21 → ((F_size ≤ x3_21 → post (-1)) ∧ (¬ F_size ≤ x3_21 → vp_in x3_21 12 ∧ (vp_in x3_21 12 ∧ ((¬ (F_machineOf x3_21.toNatClampNeg) = a0 → I_21 (x3_21 + 1) ∧ μ_21 (x3_21 + 1) < μ_21 x3_21) ∧ ((F_machineOf x3_21.toNatClampNeg) = a0 → (a1 < (S_plan x3_21.toNatClampNeg) → I_21 (x3_21 + 1) ∧ μ_21 (x3_21 + 1) < μ_21 x3_21) ∧ (¬ a1 < (S_plan x3_21.toNatClampNeg) → vp_in x3_21 12 ∧ ((((S_plan x3_21.toNatClampNeg) + (F_duration x3_21.toNatClampNeg)) ≤ a1 → I_21 (x3_21 + 1) ∧ μ_21 (x3_21 + 1) < μ_21 x3_21) ∧ (¬ ((S_plan x3_21.toNatClampNeg) + (F_duration x3_21.toNatClampNeg)) ≤ a1 → post x3_21))))))))) ∧ (J_planned = 0 → post (-1))) ∧ (r_1 = 0 → post (-2)))
def wp_X2_draft (J_drafted : Nat → Int32) (F_size : Int32) (a0 : Int32) (a1 : Int32) (post : Int32 → (Nat → Int32) → Prop) : Prop :=
  wp_X0_isOperation F_size a0 (fun (r_5 : Int32) => (r_5 = 0 → post (-2) J_drafted) ∧ (¬ r_5 = 0 → (a1 < 0 → post (-2) J_drafted) ∧ (¬ a1 < 0 → (a1 ≤ 1000 → vp_in a0 12 ∧ (vp_in a0 12 ∧ (post (J_drafted a0.toNatClampNeg) (upd J_drafted a0.toNatClampNeg a1)))) ∧ (¬ a1 ≤ 1000 → post (-2) J_drafted))))
def wp_X2_draftEnd (J_drafted : Nat → Int32) (F_duration : Nat → Int32) (a0 : Int32) (post : Int32 → Prop) : Prop :=
  vp_in a0 12 ∧ (vp_in a0 12 ∧ (post ((J_drafted a0.toNatClampNeg) + (F_duration a0.toNatClampNeg))))
def wp_X2_endsTooLate (J_drafted : Nat → Int32) (F_size : Int32) (F_duration : Nat → Int32) (F_nextOf : Nat → Int32) (F_arcs : Nat → Int32) (a0 : Int32) (post : Int32 → Prop) : Prop :=
  wp_X0_followers F_nextOf F_arcs a0 (fun (r_5 : Int32) => ∃ (I_11 : Int32 → Prop) (μ_11 : Int32 → Nat), I_11 0 ∧ ∀ (x3_11 : Int32), I_11 x3_11 → ((F_size ≤ x3_11 → post 0) ∧ (¬ F_size ≤ x3_11 → wp_X2_isIn r_5 x3_11 (fun (r_24 : Int32) => (r_24 = 0 → I_11 (x3_11 + 1) ∧ μ_11 (x3_11 + 1) < μ_11 x3_11) ∧ (¬ r_24 = 0 → wp_X2_draftEnd J_drafted F_duration a0 (fun (r_32 : Int32) => vp_in x3_11 12 ∧ ((r_32 ≤ (J_drafted x3_11.toNatClampNeg) → I_11 (x3_11 + 1) ∧ μ_11 (x3_11 + 1) < μ_11 x3_11) ∧ (¬ r_32 ≤ (J_drafted x3_11.toNatClampNeg) → post 1))))))))
def wp_X2_meetsGreater (J_drafted : Nat → Int32) (F_size : Int32) (F_machineOf : Nat → Int32) (F_duration : Nat → Int32) (a0 : Int32) (post : Int32 → Prop) : Prop :=
  ∃ (I_4 : Int32 → Prop) (μ_4 : Int32 → Nat), I_4 (a0 + 1) ∧ ∀ (x2_4 : Int32), I_4 x2_4 → ((F_size ≤ x2_4 → post 0) ∧ (¬ F_size ≤ x2_4 → vp_in x2_4 12 ∧ (vp_in a0 12 ∧ ((¬ (F_machineOf x2_4.toNatClampNeg) = (F_machineOf a0.toNatClampNeg) → I_4 (x2_4 + 1) ∧ μ_4 (x2_4 + 1) < μ_4 x2_4) ∧ ((F_machineOf x2_4.toNatClampNeg) = (F_machineOf a0.toNatClampNeg) → vp_in a0 12 ∧ (wp_X2_draftEnd J_drafted F_duration x2_4 (fun (r_44 : Int32) => (r_44 ≤ (J_drafted a0.toNatClampNeg) → I_4 (x2_4 + 1) ∧ μ_4 (x2_4 + 1) < μ_4 x2_4) ∧ (¬ r_44 ≤ (J_drafted a0.toNatClampNeg) → vp_in x2_4 12 ∧ (wp_X2_draftEnd J_drafted F_duration a0 (fun (r_58 : Int32) => (r_58 ≤ (J_drafted x2_4.toNatClampNeg) → I_4 (x2_4 + 1) ∧ μ_4 (x2_4 + 1) < μ_4 x2_4) ∧ (¬ r_58 ≤ (J_drafted x2_4.toNatClampNeg) → post 1)))))))))))
def wp_X2_check (J_drafted : Nat → Int32) (F_size : Int32) (F_machineOf : Nat → Int32) (F_duration : Nat → Int32) (F_nextOf : Nat → Int32) (F_arcs : Nat → Int32)  (post : Int32 → Prop) : Prop :=
  ∃ (I_2 : Int32 → Prop) (μ_2 : Int32 → Nat), I_2 0 ∧ ∀ (x1_2 : Int32), I_2 x1_2 → ((F_size ≤ x1_2 → ∃ (I_34 : Int32 → Prop) (μ_34 : Int32 → Nat), I_34 0 ∧ ∀ (x1_34 : Int32), I_34 x1_34 → ((F_size ≤ x1_34 → ∃ (I_68 : Int32 → Int32 → Prop) (μ_68 : Int32 → Int32 → Nat), I_68 0 0 ∧ ∀ (x1_68 : Int32) (x2_68 : Int32), I_68 x1_68 x2_68 → ((F_size ≤ x2_68 → post x1_68) ∧ (¬ F_size ≤ x2_68 → wp_X2_draftEnd J_drafted F_duration x2_68 (fun (r_82 : Int32) => I_68 (if x1_68 < r_82 then r_82 else x1_68) (x2_68 + 1) ∧ μ_68 (if x1_68 < r_82 then r_82 else x1_68) (x2_68 + 1) < μ_68 x1_68 x2_68)))) ∧ (¬ F_size ≤ x1_34 → wp_X2_meetsGreater J_drafted F_size F_machineOf F_duration x1_34 (fun (r_47 : Int32) => (r_47 = 0 → I_34 (x1_34 + 1) ∧ μ_34 (x1_34 + 1) < μ_34 x1_34) ∧ (¬ r_47 = 0 → post ((-30) - x1_34)))))) ∧ (¬ F_size ≤ x1_2 → wp_X2_endsTooLate J_drafted F_size F_duration F_nextOf F_arcs x1_2 (fun (r_15 : Int32) => (r_15 = 0 → I_2 (x1_2 + 1) ∧ μ_2 (x1_2 + 1) < μ_2 x1_2) ∧ (¬ r_15 = 0 → post ((-10) - x1_2)))))
def wp_X2_adopt (J_planned : Int32) (J_drafted : Nat → Int32) (S_least : Int32) (S_plan : Nat → Int32) (F_size : Int32)  (post : Int32 → (Nat → Int32) → Prop) : Prop :=
  (¬ J_planned = 0 → ∃ (I_11 : Int32 → (Nat → Int32) → Prop) (μ_11 : Int32 → (Nat → Int32) → Nat), I_11 0 J_drafted ∧ ∀ (x1_11 : Int32) (J_drafted_11 : Nat → Int32), I_11 x1_11 J_drafted_11 → ((F_size ≤ x1_11 → post S_least J_drafted_11) ∧ (¬ F_size ≤ x1_11 → vp_in x1_11 12 ∧ (vp_in x1_11 12 ∧ (I_11 (x1_11 + 1) (upd J_drafted_11 x1_11.toNatClampNeg (S_plan x1_11.toNatClampNeg)) ∧ μ_11 (x1_11 + 1) (upd J_drafted_11 x1_11.toNatClampNeg (S_plan x1_11.toNatClampNeg)) < μ_11 x1_11 J_drafted_11))))) ∧ (J_planned = 0 → post (-1) J_drafted)
def wp_X2_count (J_planned : Int32) (S_least : Int32) (F_jobs : Int32) (F_size : Int32) (F_machineOf : Nat → Int32) (F_duration : Nat → Int32) (F_arcs : Nat → Int32) (F_head : Nat → Int32) (F_tail : Nat → Int32) (a0 : Int32) (post : Int32 → Prop) : Prop :=
  (a0 = 0 → post F_jobs) ∧ (a0 = 1 → post F_size) ∧ (a0 = 2 → wp_X0_tiedPairs F_size F_arcs (fun (r_60 : Int32) => post r_60)) ∧ (a0 = 3 → wp_X0_pairs F_size F_machineOf (fun (r_68 : Int32) => wp_X0_tiedPairs F_size F_arcs (fun (r_75 : Int32) => post (r_68 - r_75)))) ∧ (a0 = 4 → wp_X0_bound F_size F_machineOf F_duration F_head F_tail (fun (r_84 : Int32) => post r_84)) ∧ (a0 = 5 → (J_planned = 0 → post (-1)) ∧ (¬ J_planned = 0 → post S_least)) ∧ (a0.toInt < 0 ∨ 5 < a0.toInt → post (-2))
def wp_X3_in  (a0 : Int32) (a1 : Int32) (a2 : Int32) (post : Int32 → Prop) : Prop :=
  (a0 < a1 → post 0) ∧ (¬ a0 < a1 → (a2 < a0 → post 0) ∧ (¬ a2 < a0 → post 1))
def wp_X3_isOperation (M_many : Int32) (a0 : Int32) (post : Int32 → Prop) : Prop :=
  wp_X3_in a0 0 (M_many - 1) (fun (r_8 : Int32) => (r_8 = 0 ∨ r_8 = 1) ∧ post r_8)
def wp_X3_isPair (M_many : Int32) (M_machineOf : Nat → Int32) (a0 : Int32) (a1 : Int32) (post : Int32 → Prop) : Prop :=
  wp_X3_isOperation M_many a0 (fun (r_2 : Int32) => (r_2 = 0 → post 0) ∧ (¬ r_2 = 0 → wp_X3_isOperation M_many a1 (fun (r_10 : Int32) => (r_10 = 0 → post 0) ∧ (¬ r_10 = 0 → (a0 = a1 → post 0) ∧ (¬ a0 = a1 → vp_in a0 12 ∧ (vp_in a1 12 ∧ ((¬ (M_machineOf a0.toNatClampNeg) = (M_machineOf a1.toNatClampNeg) → post 0) ∧ ((M_machineOf a0.toNatClampNeg) = (M_machineOf a1.toNatClampNeg) → post 1))))))))
def wp_X3_forget (M_isPlanned : Int32)  (post : Int32 → Prop) : Prop :=
  post 0
def wp_X3_clear (M_jobs : Int32) (M_many : Int32) (M_isPlanned : Int32) (M_arcs : Nat → Int32) (M_drafts : Nat → Int32)  (post : Int32 → Int32 → Int32 → Int32 → (Nat → Int32) → (Nat → Int32) → Prop) : Prop :=
  ∃ (I_17 : Int32 → (Nat → Int32) → Prop) (μ_17 : Int32 → (Nat → Int32) → Nat), I_17 0 M_arcs ∧ ∀ (x2_17 : Int32) (M_arcs_17 : Nat → Int32), I_17 x2_17 M_arcs_17 → ((144 ≤ x2_17 → ∃ (I_39 : Int32 → (Nat → Int32) → Prop) (μ_39 : Int32 → (Nat → Int32) → Nat), I_39 0 M_drafts ∧ ∀ (x2_39 : Int32) (M_drafts_39 : Nat → Int32), I_39 x2_39 M_drafts_39 → ((12 ≤ x2_39 → wp_X3_forget M_isPlanned (fun (M_isPlanned_59 : Int32) => post M_many 0 0 M_isPlanned_59 M_arcs_17 M_drafts_39)) ∧ (¬ 12 ≤ x2_39 → vp_in x2_39 12 ∧ (I_39 (x2_39 + 1) (upd M_drafts_39 x2_39.toNatClampNeg 0) ∧ μ_39 (x2_39 + 1) (upd M_drafts_39 x2_39.toNatClampNeg 0) < μ_39 x2_39 M_drafts_39)))) ∧ (¬ 144 ≤ x2_17 → vp_in x2_17 144 ∧ (I_17 (x2_17 + 1) (upd M_arcs_17 x2_17.toNatClampNeg (vp_nar .boolean 0)) ∧ μ_17 (x2_17 + 1) (upd M_arcs_17 x2_17.toNatClampNeg (vp_nar .boolean 0)) < μ_17 x2_17 M_arcs_17)))
def wp_X3_job (M_jobs : Int32)  (post : Int32 → Int32 → Prop) : Prop :=
  (¬ M_jobs = 4 → post ((M_jobs + 1) - 1) (M_jobs + 1)) ∧ (M_jobs = 4 → post (-3) M_jobs)
def wp_X3_operation (M_jobs : Int32) (M_many : Int32) (M_isPlanned : Int32) (M_jobOf : Nat → Int32) (M_machineOf : Nat → Int32) (M_durations : Nat → Int32) (M_drafts : Nat → Int32) (a0 : Int32) (a1 : Int32) (a2 : Int32) (post : Int32 → Int32 → Int32 → (Nat → Int32) → (Nat → Int32) → (Nat → Int32) → (Nat → Int32) → Prop) : Prop :=
  wp_X3_in a0 0 (M_jobs - 1) (fun (r_8 : Int32) => (r_8 = 0 → post (-2) M_many M_isPlanned M_jobOf M_machineOf M_durations M_drafts) ∧ (¬ r_8 = 0 → wp_X3_in a1 0 3 (fun (r_17 : Int32) => (r_17 = 0 → post (-2) M_many M_isPlanned M_jobOf M_machineOf M_durations M_drafts) ∧ (¬ r_17 = 0 → wp_X3_in a2 1 50 (fun (r_27 : Int32) => (¬ r_27 = 0 → ∃ (I_39 : Int32 → Prop) (μ_39 : Int32 → Nat), I_39 0 ∧ ∀ (x4_39 : Int32), I_39 x4_39 → ((M_many ≤ x4_39 → (¬ M_many = 12 → vp_in M_many 12 ∧ (vp_in M_many 12 ∧ (vp_in M_many 12 ∧ (∃ (I_134 : Int32 → (Nat → Int32) → Prop) (μ_134 : Int32 → (Nat → Int32) → Nat), I_134 0 M_drafts ∧ ∀ (x4_134 : Int32) (M_drafts_134 : Nat → Int32), I_134 x4_134 M_drafts_134 → ((12 ≤ x4_134 → wp_X3_forget M_isPlanned (fun (M_isPlanned_156 : Int32) => post ((M_many + 1) - 1) (M_many + 1) M_isPlanned_156 (upd M_jobOf M_many.toNatClampNeg a0) (upd M_machineOf M_many.toNatClampNeg a1) (upd M_durations M_many.toNatClampNeg a2) M_drafts_134)) ∧ (¬ 12 ≤ x4_134 → vp_in x4_134 12 ∧ (I_134 (x4_134 + 1) (upd M_drafts_134 x4_134.toNatClampNeg 0) ∧ μ_134 (x4_134 + 1) (upd M_drafts_134 x4_134.toNatClampNeg 0) < μ_134 x4_134 M_drafts_134))))))) ∧ (M_many = 12 → post (-3) M_many M_isPlanned M_jobOf M_machineOf M_durations M_drafts)) ∧ (¬ M_many ≤ x4_39 → vp_in x4_39 12 ∧ ((¬ (M_jobOf x4_39.toNatClampNeg) = a0 → I_39 (x4_39 + 1) ∧ μ_39 (x4_39 + 1) < μ_39 x4_39) ∧ ((M_jobOf x4_39.toNatClampNeg) = a0 → vp_in x4_39 12 ∧ ((¬ (M_machineOf x4_39.toNatClampNeg) = a1 → I_39 (x4_39 + 1) ∧ μ_39 (x4_39 + 1) < μ_39 x4_39) ∧ ((M_machineOf x4_39.toNatClampNeg) = a1 → post (-2) M_many M_isPlanned M_jobOf M_machineOf M_durations M_drafts))))))) ∧ (r_27 = 0 → post (-2) M_many M_isPlanned M_jobOf M_machineOf M_durations M_drafts))))))
def wp_X3_nextOf (M_many : Int32) (M_jobOf : Nat → Int32) (a0 : Int32) (post : Int32 → Prop) : Prop :=
  ∃ (I_4 : Int32 → Prop) (μ_4 : Int32 → Nat), I_4 (a0 + 1) ∧ ∀ (x2_4 : Int32), I_4 x2_4 → ((M_many ≤ x2_4 → (M_many ≤ x2_4 → post (-1)) ∧ (¬ M_many ≤ x2_4 → post x2_4)) ∧ (¬ M_many ≤ x2_4 → vp_in x2_4 12 ∧ (vp_in a0 12 ∧ (((M_jobOf x2_4.toNatClampNeg) = (M_jobOf a0.toNatClampNeg) → (M_many ≤ x2_4 → post (-1)) ∧ (¬ M_many ≤ x2_4 → post x2_4)) ∧ (¬ (M_jobOf x2_4.toNatClampNeg) = (M_jobOf a0.toNatClampNeg) → I_4 (x2_4 + 1) ∧ μ_4 (x2_4 + 1) < μ_4 x2_4)))))
def wp_X3_leads (M_many : Int32) (M_jobOf : Nat → Int32) (by_ : Nat → Int32) (a1 : Int32) (a2 : Int32) (post : Int32 → Prop) : Prop :=
  vp_in ((12 * a1) + a2) 144 ∧ ((¬ (by_ ((12 * a1) + a2).toNatClampNeg) = 0 → post 1) ∧ ((by_ ((12 * a1) + a2).toNatClampNeg) = 0 → wp_X3_nextOf M_many M_jobOf a1 (fun (r_13 : Int32) => (¬ r_13 = a2 → post 0) ∧ (r_13 = a2 → post 1))))
def wp_X3_findHeads (M_many : Int32) (M_jobOf : Nat → Int32) (M_durations : Nat → Int32) (M_heads : Nat → Int32) (by_ : Nat → Int32)  (post : Int32 → (Nat → Int32) → Prop) : Prop :=
  ∃ (I_2 : Int32 → (Nat → Int32) → Prop) (μ_2 : Int32 → (Nat → Int32) → Nat), I_2 0 M_heads ∧ ∀ (x2_2 : Int32) (M_heads_2 : Nat → Int32), I_2 x2_2 M_heads_2 → ((M_many ≤ x2_2 → ∃ (I_27 : Int32 → Int32 → (Nat → Int32) → Prop) (μ_27 : Int32 → Int32 → (Nat → Int32) → Nat), I_27 1 0 M_heads_2 ∧ ∀ (x2_27 : Int32) (x3_27 : Int32) (M_heads_27 : Nat → Int32), I_27 x2_27 x3_27 M_heads_27 → ((x2_27 = 0 → post 1 M_heads_27) ∧ (¬ x2_27 = 0 → ∃ (I_36 : Int32 → Int32 → (Nat → Int32) → Prop) (μ_36 : Int32 → Int32 → (Nat → Int32) → Nat), I_36 0 0 M_heads_27 ∧ ∀ (x2_36 : Int32) (x4_36 : Int32) (M_heads_36 : Nat → Int32), I_36 x2_36 x4_36 M_heads_36 → ((M_many ≤ x4_36 → ((x3_27 + 1) ≤ (M_many + 1) → I_27 x2_36 (x3_27 + 1) M_heads_36 ∧ μ_27 x2_36 (x3_27 + 1) M_heads_36 < μ_27 x2_27 x3_27 M_heads_27) ∧ (¬ (x3_27 + 1) ≤ (M_many + 1) → post 0 M_heads_36)) ∧ (¬ M_many ≤ x4_36 → ∃ (I_48 : Int32 → Int32 → (Nat → Int32) → Prop) (μ_48 : Int32 → Int32 → (Nat → Int32) → Nat), I_48 x2_36 0 M_heads_36 ∧ ∀ (x2_48 : Int32) (x5_48 : Int32) (M_heads_48 : Nat → Int32), I_48 x2_48 x5_48 M_heads_48 → ((M_many ≤ x5_48 → I_36 x2_48 (x4_36 + 1) M_heads_48 ∧ μ_36 x2_48 (x4_36 + 1) M_heads_48 < μ_36 x2_36 x4_36 M_heads_36) ∧ (¬ M_many ≤ x5_48 → vp_in x4_36 12 ∧ (vp_in x4_36 12 ∧ (wp_X3_leads M_many M_jobOf by_ x4_36 x5_48 (fun (r_80 : Int32) => (r_80 = 0 → I_48 x2_48 (x5_48 + 1) M_heads_48 ∧ μ_48 x2_48 (x5_48 + 1) M_heads_48 < μ_48 x2_48 x5_48 M_heads_48) ∧ (¬ r_80 = 0 → vp_in x5_48 12 ∧ ((((M_heads_48 x4_36.toNatClampNeg) + (M_durations x4_36.toNatClampNeg)) ≤ (M_heads_48 x5_48.toNatClampNeg) → I_48 x2_48 (x5_48 + 1) M_heads_48 ∧ μ_48 x2_48 (x5_48 + 1) M_heads_48 < μ_48 x2_48 x5_48 M_heads_48) ∧ (¬ ((M_heads_48 x4_36.toNatClampNeg) + (M_durations x4_36.toNatClampNeg)) ≤ (M_heads_48 x5_48.toNatClampNeg) → vp_in x5_48 12 ∧ (I_48 1 (x5_48 + 1) (upd M_heads_48 x5_48.toNatClampNeg ((M_heads_48 x4_36.toNatClampNeg) + (M_durations x4_36.toNatClampNeg))) ∧ μ_48 1 (x5_48 + 1) (upd M_heads_48 x5_48.toNatClampNeg ((M_heads_48 x4_36.toNatClampNeg) + (M_durations x4_36.toNatClampNeg))) < μ_48 x2_48 x5_48 M_heads_48)))))))))))))) ∧ (¬ M_many ≤ x2_2 → vp_in x2_2 12 ∧ (I_2 (x2_2 + 1) (upd M_heads_2 x2_2.toNatClampNeg 0) ∧ μ_2 (x2_2 + 1) (upd M_heads_2 x2_2.toNatClampNeg 0) < μ_2 x2_2 M_heads_2)))
def wp_X3_findTails (M_many : Int32) (M_jobOf : Nat → Int32) (M_durations : Nat → Int32) (M_tails : Nat → Int32) (by_ : Nat → Int32)  (post : (Nat → Int32) → Prop) : Prop :=
  ∃ (I_2 : Int32 → (Nat → Int32) → Prop) (μ_2 : Int32 → (Nat → Int32) → Nat), I_2 0 M_tails ∧ ∀ (x2_2 : Int32) (M_tails_2 : Nat → Int32), I_2 x2_2 M_tails_2 → ((M_many ≤ x2_2 → ∃ (I_25 : Int32 → (Nat → Int32) → Prop) (μ_25 : Int32 → (Nat → Int32) → Nat), I_25 1 M_tails_2 ∧ ∀ (x2_25 : Int32) (M_tails_25 : Nat → Int32), I_25 x2_25 M_tails_25 → ((x2_25 = 0 → post M_tails_25) ∧ (¬ x2_25 = 0 → ∃ (I_33 : Int32 → Int32 → (Nat → Int32) → Prop) (μ_33 : Int32 → Int32 → (Nat → Int32) → Nat), I_33 0 0 M_tails_25 ∧ ∀ (x2_33 : Int32) (x3_33 : Int32) (M_tails_33 : Nat → Int32), I_33 x2_33 x3_33 M_tails_33 → ((M_many ≤ x3_33 → I_25 x2_33 M_tails_33 ∧ μ_25 x2_33 M_tails_33 < μ_25 x2_25 M_tails_25) ∧ (¬ M_many ≤ x3_33 → ∃ (I_44 : Int32 → Int32 → (Nat → Int32) → Prop) (μ_44 : Int32 → Int32 → (Nat → Int32) → Nat), I_44 x2_33 0 M_tails_33 ∧ ∀ (x2_44 : Int32) (x4_44 : Int32) (M_tails_44 : Nat → Int32), I_44 x2_44 x4_44 M_tails_44 → ((M_many ≤ x4_44 → I_33 x2_44 (x3_33 + 1) M_tails_44 ∧ μ_33 x2_44 (x3_33 + 1) M_tails_44 < μ_33 x2_33 x3_33 M_tails_33) ∧ (¬ M_many ≤ x4_44 → vp_in x4_44 12 ∧ (vp_in x4_44 12 ∧ (wp_X3_leads M_many M_jobOf by_ x3_33 x4_44 (fun (r_75 : Int32) => (r_75 = 0 → I_44 x2_44 (x4_44 + 1) M_tails_44 ∧ μ_44 x2_44 (x4_44 + 1) M_tails_44 < μ_44 x2_44 x4_44 M_tails_44) ∧ (¬ r_75 = 0 → vp_in x3_33 12 ∧ ((((M_tails_44 x4_44.toNatClampNeg) + (M_durations x4_44.toNatClampNeg)) ≤ (M_tails_44 x3_33.toNatClampNeg) → I_44 x2_44 (x4_44 + 1) M_tails_44 ∧ μ_44 x2_44 (x4_44 + 1) M_tails_44 < μ_44 x2_44 x4_44 M_tails_44) ∧ (¬ ((M_tails_44 x4_44.toNatClampNeg) + (M_durations x4_44.toNatClampNeg)) ≤ (M_tails_44 x3_33.toNatClampNeg) → vp_in x3_33 12 ∧ (I_44 1 (x4_44 + 1) (upd M_tails_44 x3_33.toNatClampNeg ((M_tails_44 x4_44.toNatClampNeg) + (M_durations x4_44.toNatClampNeg))) ∧ μ_44 1 (x4_44 + 1) (upd M_tails_44 x3_33.toNatClampNeg ((M_tails_44 x4_44.toNatClampNeg) + (M_durations x4_44.toNatClampNeg))) < μ_44 x2_44 x4_44 M_tails_44)))))))))))))) ∧ (¬ M_many ≤ x2_2 → vp_in x2_2 12 ∧ (I_2 (x2_2 + 1) (upd M_tails_2 x2_2.toNatClampNeg 0) ∧ μ_2 (x2_2 + 1) (upd M_tails_2 x2_2.toNatClampNeg 0) < μ_2 x2_2 M_tails_2)))
def wp_X3_longest (M_many : Int32) (M_durations : Nat → Int32) (M_heads : Nat → Int32) (M_tails : Nat → Int32)  (post : Int32 → Prop) : Prop :=
  ∃ (I_4 : Int32 → Int32 → Prop) (μ_4 : Int32 → Int32 → Nat), I_4 0 0 ∧ ∀ (x1_4 : Int32) (x2_4 : Int32), I_4 x1_4 x2_4 → ((M_many ≤ x2_4 → post x1_4) ∧ (¬ M_many ≤ x2_4 → vp_in x2_4 12 ∧ (vp_in x2_4 12 ∧ (vp_in x2_4 12 ∧ (((((M_heads x2_4.toNatClampNeg) + (M_durations x2_4.toNatClampNeg)) + (M_tails x2_4.toNatClampNeg)) ≤ x1_4 → I_4 x1_4 (x2_4 + 1) ∧ μ_4 x1_4 (x2_4 + 1) < μ_4 x1_4 x2_4) ∧ (¬ (((M_heads x2_4.toNatClampNeg) + (M_durations x2_4.toNatClampNeg)) + (M_tails x2_4.toNatClampNeg)) ≤ x1_4 → I_4 (((M_heads x2_4.toNatClampNeg) + (M_durations x2_4.toNatClampNeg)) + (M_tails x2_4.toNatClampNeg)) (x2_4 + 1) ∧ μ_4 (((M_heads x2_4.toNatClampNeg) + (M_durations x2_4.toNatClampNeg)) + (M_tails x2_4.toNatClampNeg)) (x2_4 + 1) < μ_4 x1_4 x2_4))))))
def wp_X3_look (M_many : Int32) (M_jobOf : Nat → Int32) (M_durations : Nat → Int32) (M_heads : Nat → Int32) (M_tails : Nat → Int32) (by_ : Nat → Int32)  (post : (Nat → Int32) → (Nat → Int32) → Prop) : Prop :=
  wp_X3_findHeads M_many M_jobOf M_durations M_heads by_ (fun (r_2 : Int32) (M_heads_2 : Nat → Int32) => (r_2 = 0 → post M_heads_2 M_tails) ∧ (¬ r_2 = 0 → wp_X3_findTails M_many M_jobOf M_durations M_tails by_ (fun (M_tails_12 : Nat → Int32) => post M_heads_2 M_tails_12)))
def wp_X3_hasPath (M_many : Int32) (M_jobOf : Nat → Int32) (by_ : Nat → Int32) (a1 : Int32) (a2 : Int32) (post : Int32 → Prop) : Prop :=
  ∃ (I_8 : Int32 → Int32 → Prop) (μ_8 : Int32 → Int32 → Nat), I_8 ((1 : Int32) <<< (a1 &&& 31)) 0 ∧ ∀ (x4_8 : Int32) (x5_8 : Int32), I_8 x4_8 x5_8 → ((x5_8 = x4_8 → (¬ ((x4_8 >>> (a2 &&& 31)) &&& 1) = 1 → post 0) ∧ (((x4_8 >>> (a2 &&& 31)) &&& 1) = 1 → post 1)) ∧ (¬ x5_8 = x4_8 → ∃ (I_22 : Int32 → Int32 → Prop) (μ_22 : Int32 → Int32 → Nat), I_22 x4_8 0 ∧ ∀ (x4_22 : Int32) (x6_22 : Int32), I_22 x4_22 x6_22 → ((M_many ≤ x6_22 → I_8 x4_22 x4_8 ∧ μ_8 x4_22 x4_8 < μ_8 x4_8 x5_8) ∧ (¬ M_many ≤ x6_22 → ∃ (I_34 : Int32 → Int32 → Prop) (μ_34 : Int32 → Int32 → Nat), I_34 x4_22 0 ∧ ∀ (x4_34 : Int32) (x7_34 : Int32), I_34 x4_34 x7_34 → ((M_many ≤ x7_34 → I_22 x4_34 (x6_22 + 1) ∧ μ_22 x4_34 (x6_22 + 1) < μ_22 x4_22 x6_22) ∧ (¬ M_many ≤ x7_34 → (¬ ((x4_34 >>> (x6_22 &&& 31)) &&& 1) = 1 → I_34 x4_34 (x7_34 + 1) ∧ μ_34 x4_34 (x7_34 + 1) < μ_34 x4_34 x7_34) ∧ (((x4_34 >>> (x6_22 &&& 31)) &&& 1) = 1 → wp_X3_leads M_many M_jobOf by_ x6_22 x7_34 (fun (r_60 : Int32) => (r_60 = 0 → I_34 x4_34 (x7_34 + 1) ∧ μ_34 x4_34 (x7_34 + 1) < μ_34 x4_34 x7_34) ∧ (¬ r_60 = 0 → I_34 (x4_34 ||| ((1 : Int32) <<< (x7_34 &&& 31))) (x7_34 + 1) ∧ μ_34 (x4_34 ||| ((1 : Int32) <<< (x7_34 &&& 31))) (x7_34 + 1) < μ_34 x4_34 x7_34)))))))))
def wp_X3_before (M_many : Int32) (M_isPlanned : Int32) (M_jobOf : Nat → Int32) (M_machineOf : Nat → Int32) (M_arcs : Nat → Int32) (a0 : Int32) (a1 : Int32) (post : Int32 → Int32 → (Nat → Int32) → Prop) : Prop :=
  wp_X3_isPair M_many M_machineOf a0 a1 (fun (r_3 : Int32) => (¬ r_3 = 0 → wp_X3_hasPath M_many M_jobOf M_arcs a1 a0 (fun (r_19 : Int32) => (r_19 = 0 → vp_in ((12 * a0) + a1) 144 ∧ (((M_arcs ((12 * a0) + a1).toNatClampNeg) = 0 → vp_in ((12 * a0) + a1) 144 ∧ (wp_X3_forget M_isPlanned (fun (M_isPlanned_57 : Int32) => post 1 M_isPlanned_57 (upd M_arcs ((12 * a0) + a1).toNatClampNeg (vp_nar .boolean 1))))) ∧ (¬ (M_arcs ((12 * a0) + a1).toNatClampNeg) = 0 → post 0 M_isPlanned M_arcs))) ∧ (¬ r_19 = 0 → post (-4) M_isPlanned M_arcs))) ∧ (r_3 = 0 → post (-2) M_isPlanned M_arcs))
def wp_X3_free (M_many : Int32) (M_isPlanned : Int32) (M_machineOf : Nat → Int32) (M_arcs : Nat → Int32) (a0 : Int32) (a1 : Int32) (post : Int32 → Int32 → (Nat → Int32) → Prop) : Prop :=
  wp_X3_isPair M_many M_machineOf a0 a1 (fun (r_3 : Int32) => (¬ r_3 = 0 → vp_in ((12 * a0) + a1) 144 ∧ (∃ (J_42 : Prop), (J_42 → (vp_in ((12 * a0) + a1) 144 ∧ (vp_in ((12 * a1) + a0) 144 ∧ (wp_X3_forget M_isPlanned (fun (M_isPlanned_67 : Int32) => post 1 M_isPlanned_67 (upd (upd M_arcs ((12 * a0) + a1).toNatClampNeg (vp_nar .boolean 0)) ((12 * a1) + a0).toNatClampNeg (vp_nar .boolean 0))))))) ∧ ((¬ (M_arcs ((12 * a0) + a1).toNatClampNeg) = 0 → J_42 ) ∧ ((M_arcs ((12 * a0) + a1).toNatClampNeg) = 0 → vp_in ((12 * a1) + a0) 144 ∧ ((¬ (M_arcs ((12 * a1) + a0).toNatClampNeg) = 0 → J_42 ) ∧ ((M_arcs ((12 * a1) + a0).toNatClampNeg) = 0 → post 0 M_isPlanned M_arcs)))))) ∧ (r_3 = 0 → post (-2) M_isPlanned M_arcs))
def wp_X3_arc (M_many : Int32) (M_machineOf : Nat → Int32) (M_arcs : Nat → Int32) (a0 : Int32) (a1 : Int32) (post : Int32 → Prop) : Prop :=
  wp_X3_isPair M_many M_machineOf a0 a1 (fun (r_3 : Int32) => (¬ r_3 = 0 → vp_in ((12 * a0) + a1) 144 ∧ (((M_arcs ((12 * a0) + a1).toNatClampNeg) = 0 → post 0) ∧ (¬ (M_arcs ((12 * a0) + a1).toNatClampNeg) = 0 → post 1))) ∧ (r_3 = 0 → post (-2)))
def wp_X3_told (M_many : Int32) (M_isPlanned : Int32) (M_jobOf : Nat → Int32) (M_machineOf : Nat → Int32) (M_durations : Nat → Int32) (M_arcs : Nat → Int32) (M_starts : Nat → Int32) (M_heads : Nat → Int32) (M_tails : Nat → Int32) (a0 : Int32) (a1 : Int32) (post : Int32 → (Nat → Int32) → (Nat → Int32) → Prop) : Prop :=
  wp_X3_isOperation M_many a0 (fun (r_2 : Int32) => (¬ r_2 = 0 → wp_X3_look M_many M_jobOf M_durations M_heads M_tails M_arcs (fun (M_heads_15 : Nat → Int32) (M_tails_15 : Nat → Int32) => (a1 = 0 → vp_in a0 12 ∧ (post (M_jobOf a0.toNatClampNeg) M_heads_15 M_tails_15)) ∧ (a1 = 1 → vp_in a0 12 ∧ (post (M_machineOf a0.toNatClampNeg) M_heads_15 M_tails_15)) ∧ (a1 = 2 → vp_in a0 12 ∧ (post (M_durations a0.toNatClampNeg) M_heads_15 M_tails_15)) ∧ (a1 = 3 → vp_in a0 12 ∧ (post (M_heads_15 a0.toNatClampNeg) M_heads_15 M_tails_15)) ∧ (a1 = 4 → vp_in a0 12 ∧ (post (M_tails_15 a0.toNatClampNeg) M_heads_15 M_tails_15)) ∧ (a1 = 5 → vp_in a0 12 ∧ (vp_in a0 12 ∧ (vp_in a0 12 ∧ (wp_X3_longest M_many M_durations M_heads_15 M_tails_15 (fun (r_116 : Int32) => (¬ (((M_heads_15 a0.toNatClampNeg) + (M_durations a0.toNatClampNeg)) + (M_tails_15 a0.toNatClampNeg)) = r_116 → post 0 M_heads_15 M_tails_15) ∧ ((((M_heads_15 a0.toNatClampNeg) + (M_durations a0.toNatClampNeg)) + (M_tails_15 a0.toNatClampNeg)) = r_116 → post 1 M_heads_15 M_tails_15)))))) ∧ (a1 = 6 → (M_isPlanned = 0 → post (-1) M_heads_15 M_tails_15) ∧ (¬ M_isPlanned = 0 → vp_in a0 12 ∧ (post (M_starts a0.toNatClampNeg) M_heads_15 M_tails_15))) ∧ (a1.toInt < 0 ∨ 6 < a1.toInt → post (-2) M_heads_15 M_tails_15))) ∧ (r_2 = 0 → post (-1) M_heads M_tails))
def wp_X3_length (M_many : Int32) (M_jobOf : Nat → Int32) (M_durations : Nat → Int32) (M_arcs : Nat → Int32) (M_heads : Nat → Int32) (M_tails : Nat → Int32)  (post : Int32 → (Nat → Int32) → (Nat → Int32) → Prop) : Prop :=
  wp_X3_look M_many M_jobOf M_durations M_heads M_tails M_arcs (fun (M_heads_5 : Nat → Int32) (M_tails_5 : Nat → Int32) => wp_X3_longest M_many M_durations M_heads_5 M_tails_5 (fun (r_9 : Int32) => post r_9 M_heads_5 M_tails_5))
def wp_X3_load (M_many : Int32) (M_jobOf : Nat → Int32) (M_machineOf : Nat → Int32) (M_durations : Nat → Int32) (M_arcs : Nat → Int32) (M_heads : Nat → Int32) (M_tails : Nat → Int32) (a0 : Int32) (post : Int32 → (Nat → Int32) → (Nat → Int32) → Prop) : Prop :=
  wp_X3_in a0 0 3 (fun (r_3 : Int32) => (¬ r_3 = 0 → wp_X3_look M_many M_jobOf M_durations M_heads M_tails M_arcs (fun (M_heads_17 : Nat → Int32) (M_tails_17 : Nat → Int32) => ∃ (I_24 : Int32 → Int32 → Prop) (μ_24 : Int32 → Int32 → Nat), I_24 0 1 ∧ ∀ (x2_24 : Int32) (x3_24 : Int32), I_24 x2_24 x3_24 → ((((1 : Int32) <<< (M_many &&& 31)) ≤ x3_24 → post x2_24 M_heads_17 M_tails_17) ∧ (¬ ((1 : Int32) <<< (M_many &&& 31)) ≤ x3_24 → ∃ (I_53 : Int32 → Int32 → Int32 → Int32 → Int32 → Prop) (μ_53 : Int32 → Int32 → Int32 → Int32 → Int32 → Nat), I_53 1000 1000 0 1 0 ∧ ∀ (x4_53 : Int32) (x5_53 : Int32) (x6_53 : Int32) (x7_53 : Int32) (x8_53 : Int32), I_53 x4_53 x5_53 x6_53 x7_53 x8_53 → ((M_many ≤ x8_53 → (x7_53 = 0 → I_24 x2_24 (x3_24 + 1) ∧ μ_24 x2_24 (x3_24 + 1) < μ_24 x2_24 x3_24) ∧ (¬ x7_53 = 0 → (((x4_53 + x6_53) + x5_53) ≤ x2_24 → I_24 x2_24 (x3_24 + 1) ∧ μ_24 x2_24 (x3_24 + 1) < μ_24 x2_24 x3_24) ∧ (¬ ((x4_53 + x6_53) + x5_53) ≤ x2_24 → I_24 ((x4_53 + x6_53) + x5_53) (x3_24 + 1) ∧ μ_24 ((x4_53 + x6_53) + x5_53) (x3_24 + 1) < μ_24 x2_24 x3_24))) ∧ (¬ M_many ≤ x8_53 → (¬ ((x3_24 >>> (x8_53 &&& 31)) &&& 1) = 1 → I_53 x4_53 x5_53 x6_53 x7_53 (x8_53 + 1) ∧ μ_53 x4_53 x5_53 x6_53 x7_53 (x8_53 + 1) < μ_53 x4_53 x5_53 x6_53 x7_53 x8_53) ∧ (((x3_24 >>> (x8_53 &&& 31)) &&& 1) = 1 → (x7_53 = 0 → vp_in x8_53 12 ∧ (∃ (J_119 : Int32 → Prop), (∀ (y0_119 : Int32), J_119 y0_119 → (vp_in x8_53 12 ∧ ((x5_53 ≤ (M_tails_17 x8_53.toNatClampNeg) → vp_in x8_53 12 ∧ (I_53 y0_119 x5_53 (x6_53 + (M_durations x8_53.toNatClampNeg)) 0 (x8_53 + 1) ∧ μ_53 y0_119 x5_53 (x6_53 + (M_durations x8_53.toNatClampNeg)) 0 (x8_53 + 1) < μ_53 x4_53 x5_53 x6_53 x7_53 x8_53)) ∧ (¬ x5_53 ≤ (M_tails_17 x8_53.toNatClampNeg) → vp_in x8_53 12 ∧ (vp_in x8_53 12 ∧ (I_53 y0_119 (M_tails_17 x8_53.toNatClampNeg) (x6_53 + (M_durations x8_53.toNatClampNeg)) 0 (x8_53 + 1) ∧ μ_53 y0_119 (M_tails_17 x8_53.toNatClampNeg) (x6_53 + (M_durations x8_53.toNatClampNeg)) 0 (x8_53 + 1) < μ_53 x4_53 x5_53 x6_53 x7_53 x8_53)))))) ∧ ((x4_53 ≤ (M_heads_17 x8_53.toNatClampNeg) → J_119 x4_53) ∧ (¬ x4_53 ≤ (M_heads_17 x8_53.toNatClampNeg) → vp_in x8_53 12 ∧ (J_119 (M_heads_17 x8_53.toNatClampNeg)))))) ∧ (¬ x7_53 = 0 → vp_in x8_53 12 ∧ ((¬ (M_machineOf x8_53.toNatClampNeg) = a0 → vp_in x8_53 12 ∧ (∃ (J_119 : Int32 → Prop), (∀ (y0_119 : Int32), J_119 y0_119 → (vp_in x8_53 12 ∧ ((x5_53 ≤ (M_tails_17 x8_53.toNatClampNeg) → vp_in x8_53 12 ∧ (I_53 y0_119 x5_53 (x6_53 + (M_durations x8_53.toNatClampNeg)) 0 (x8_53 + 1) ∧ μ_53 y0_119 x5_53 (x6_53 + (M_durations x8_53.toNatClampNeg)) 0 (x8_53 + 1) < μ_53 x4_53 x5_53 x6_53 x7_53 x8_53)) ∧ (¬ x5_53 ≤ (M_tails_17 x8_53.toNatClampNeg) → vp_in x8_53 12 ∧ (vp_in x8_53 12 ∧ (I_53 y0_119 (M_tails_17 x8_53.toNatClampNeg) (x6_53 + (M_durations x8_53.toNatClampNeg)) 0 (x8_53 + 1) ∧ μ_53 y0_119 (M_tails_17 x8_53.toNatClampNeg) (x6_53 + (M_durations x8_53.toNatClampNeg)) 0 (x8_53 + 1) < μ_53 x4_53 x5_53 x6_53 x7_53 x8_53)))))) ∧ ((x4_53 ≤ (M_heads_17 x8_53.toNatClampNeg) → J_119 x4_53) ∧ (¬ x4_53 ≤ (M_heads_17 x8_53.toNatClampNeg) → vp_in x8_53 12 ∧ (J_119 (M_heads_17 x8_53.toNatClampNeg)))))) ∧ ((M_machineOf x8_53.toNatClampNeg) = a0 → vp_in x8_53 12 ∧ (∃ (J_119 : Int32 → Prop), (∀ (y0_119 : Int32), J_119 y0_119 → (vp_in x8_53 12 ∧ ((x5_53 ≤ (M_tails_17 x8_53.toNatClampNeg) → vp_in x8_53 12 ∧ (I_53 y0_119 x5_53 (x6_53 + (M_durations x8_53.toNatClampNeg)) 1 (x8_53 + 1) ∧ μ_53 y0_119 x5_53 (x6_53 + (M_durations x8_53.toNatClampNeg)) 1 (x8_53 + 1) < μ_53 x4_53 x5_53 x6_53 x7_53 x8_53)) ∧ (¬ x5_53 ≤ (M_tails_17 x8_53.toNatClampNeg) → vp_in x8_53 12 ∧ (vp_in x8_53 12 ∧ (I_53 y0_119 (M_tails_17 x8_53.toNatClampNeg) (x6_53 + (M_durations x8_53.toNatClampNeg)) 1 (x8_53 + 1) ∧ μ_53 y0_119 (M_tails_17 x8_53.toNatClampNeg) (x6_53 + (M_durations x8_53.toNatClampNeg)) 1 (x8_53 + 1) < μ_53 x4_53 x5_53 x6_53 x7_53 x8_53)))))) ∧ ((x4_53 ≤ (M_heads_17 x8_53.toNatClampNeg) → J_119 x4_53) ∧ (¬ x4_53 ≤ (M_heads_17 x8_53.toNatClampNeg) → vp_in x8_53 12 ∧ (J_119 (M_heads_17 x8_53.toNatClampNeg))))))))))))))) ∧ (r_3 = 0 → post (-2) M_heads M_tails))
def wp_X3_isForced (M_durations : Nat → Int32) (M_heads : Nat → Int32) (M_tails : Nat → Int32) (a0 : Int32) (a1 : Int32) (a2 : Int32) (post : Int32 → Prop) : Prop :=
  vp_in a1 12 ∧ (vp_in a1 12 ∧ (vp_in a0 12 ∧ (vp_in a0 12 ∧ ((((((M_heads a1.toNatClampNeg) + (M_durations a1.toNatClampNeg)) + (M_durations a0.toNatClampNeg)) + (M_tails a0.toNatClampNeg)) < a2 → post 0) ∧ (¬ ((((M_heads a1.toNatClampNeg) + (M_durations a1.toNatClampNeg)) + (M_durations a0.toNatClampNeg)) + (M_tails a0.toNatClampNeg)) < a2 → post 1)))))
def wp_X3_select (M_many : Int32) (M_isPlanned : Int32) (M_jobOf : Nat → Int32) (M_machineOf : Nat → Int32) (M_durations : Nat → Int32) (M_arcs : Nat → Int32) (M_heads : Nat → Int32) (M_tails : Nat → Int32) (M_chosen : Nat → Int32) (a0 : Int32) (post : Int32 → Int32 → (Nat → Int32) → (Nat → Int32) → (Nat → Int32) → (Nat → Int32) → Prop) : Prop :=
  ∃ (I_2 : Int32 → (Nat → Int32) → Prop) (μ_2 : Int32 → (Nat → Int32) → Nat), I_2 0 M_chosen ∧ ∀ (x2_2 : Int32) (M_chosen_2 : Nat → Int32), I_2 x2_2 M_chosen_2 → ((144 ≤ x2_2 → ∃ (I_31 : Int32 → Int32 → (Nat → Int32) → (Nat → Int32) → (Nat → Int32) → Prop) (μ_31 : Int32 → Int32 → (Nat → Int32) → (Nat → Int32) → (Nat → Int32) → Nat), I_31 0 1 M_heads M_tails M_chosen_2 ∧ ∀ (x2_31 : Int32) (x3_31 : Int32) (M_heads_31 : Nat → Int32) (M_tails_31 : Nat → Int32) (M_chosen_31 : Nat → Int32), I_31 x2_31 x3_31 M_heads_31 M_tails_31 M_chosen_31 → ((x3_31 = 0 → wp_X3_longest M_many M_durations M_heads_31 M_tails_31 (fun (r_197 : Int32) => (r_197 < a0 → ∃ (I_210 : Int32 → (Nat → Int32) → Prop) (μ_210 : Int32 → (Nat → Int32) → Nat), I_210 0 M_arcs ∧ ∀ (x4_210 : Int32) (M_arcs_210 : Nat → Int32), I_210 x4_210 M_arcs_210 → ((144 ≤ x4_210 → (x2_31 ≤ 0 → post x2_31 M_isPlanned M_arcs_210 M_heads_31 M_tails_31 M_chosen_31) ∧ (¬ x2_31 ≤ 0 → wp_X3_forget M_isPlanned (fun (M_isPlanned_243 : Int32) => post x2_31 M_isPlanned_243 M_arcs_210 M_heads_31 M_tails_31 M_chosen_31))) ∧ (¬ 144 ≤ x4_210 → vp_in x4_210 144 ∧ (vp_in x4_210 144 ∧ (I_210 (x4_210 + 1) (upd M_arcs_210 x4_210.toNatClampNeg (vp_nar .boolean (M_chosen_31 x4_210.toNatClampNeg))) ∧ μ_210 (x4_210 + 1) (upd M_arcs_210 x4_210.toNatClampNeg (vp_nar .boolean (M_chosen_31 x4_210.toNatClampNeg))) < μ_210 x4_210 M_arcs_210))))) ∧ (¬ r_197 < a0 → post (-5) M_isPlanned M_arcs M_heads_31 M_tails_31 M_chosen_31))) ∧ (¬ x3_31 = 0 → wp_X3_look M_many M_jobOf M_durations M_heads_31 M_tails_31 M_chosen_31 (fun (M_heads_42 : Nat → Int32) (M_tails_42 : Nat → Int32) => ∃ (I_48 : Int32 → Int32 → Int32 → (Nat → Int32) → Prop) (μ_48 : Int32 → Int32 → Int32 → (Nat → Int32) → Nat), I_48 x2_31 0 0 M_chosen_31 ∧ ∀ (x2_48 : Int32) (x3_48 : Int32) (x4_48 : Int32) (M_chosen_48 : Nat → Int32), I_48 x2_48 x3_48 x4_48 M_chosen_48 → ((M_many ≤ x4_48 → I_31 x2_48 x3_48 M_heads_42 M_tails_42 M_chosen_48 ∧ μ_31 x2_48 x3_48 M_heads_42 M_tails_42 M_chosen_48 < μ_31 x2_31 x3_31 M_heads_31 M_tails_31 M_chosen_31) ∧ (¬ M_many ≤ x4_48 → (¬ x3_48 = 0 → I_31 x2_48 x3_48 M_heads_42 M_tails_42 M_chosen_48 ∧ μ_31 x2_48 x3_48 M_heads_42 M_tails_42 M_chosen_48 < μ_31 x2_31 x3_31 M_heads_31 M_tails_31 M_chosen_31) ∧ (x3_48 = 0 → ∃ (I_64 : Int32 → Int32 → Int32 → (Nat → Int32) → Prop) (μ_64 : Int32 → Int32 → Int32 → (Nat → Int32) → Nat), I_64 x2_48 x3_48 0 M_chosen_48 ∧ ∀ (x2_64 : Int32) (x3_64 : Int32) (x5_64 : Int32) (M_chosen_64 : Nat → Int32), I_64 x2_64 x3_64 x5_64 M_chosen_64 → ((M_many ≤ x5_64 → I_48 x2_64 x3_64 (x4_48 + 1) M_chosen_64 ∧ μ_48 x2_64 x3_64 (x4_48 + 1) M_chosen_64 < μ_48 x2_48 x3_48 x4_48 M_chosen_48) ∧ (¬ M_many ≤ x5_64 → (¬ x3_64 = 0 → I_48 x2_64 x3_64 (x4_48 + 1) M_chosen_64 ∧ μ_48 x2_64 x3_64 (x4_48 + 1) M_chosen_64 < μ_48 x2_48 x3_48 x4_48 M_chosen_48) ∧ (x3_64 = 0 → wp_X3_isPair M_many M_machineOf x4_48 x5_64 (fun (r_82 : Int32) => (r_82 = 0 → I_64 x2_64 x3_64 (x5_64 + 1) M_chosen_64 ∧ μ_64 x2_64 x3_64 (x5_64 + 1) M_chosen_64 < μ_64 x2_64 x3_64 x5_64 M_chosen_64) ∧ (¬ r_82 = 0 → vp_in ((12 * x4_48) + x5_64) 144 ∧ ((¬ (M_chosen_64 ((12 * x4_48) + x5_64).toNatClampNeg) = 0 → I_64 x2_64 x3_64 (x5_64 + 1) M_chosen_64 ∧ μ_64 x2_64 x3_64 (x5_64 + 1) M_chosen_64 < μ_64 x2_64 x3_64 x5_64 M_chosen_64) ∧ ((M_chosen_64 ((12 * x4_48) + x5_64).toNatClampNeg) = 0 → vp_in ((12 * x5_64) + x4_48) 144 ∧ ((¬ (M_chosen_64 ((12 * x5_64) + x4_48).toNatClampNeg) = 0 → I_64 x2_64 x3_64 (x5_64 + 1) M_chosen_64 ∧ μ_64 x2_64 x3_64 (x5_64 + 1) M_chosen_64 < μ_64 x2_64 x3_64 x5_64 M_chosen_64) ∧ ((M_chosen_64 ((12 * x5_64) + x4_48).toNatClampNeg) = 0 → wp_X3_isForced M_durations M_heads_42 M_tails_42 x4_48 x5_64 a0 (fun (r_126 : Int32) => (r_126 = 0 → I_64 x2_64 x3_64 (x5_64 + 1) M_chosen_64 ∧ μ_64 x2_64 x3_64 (x5_64 + 1) M_chosen_64 < μ_64 x2_64 x3_64 x5_64 M_chosen_64) ∧ (¬ r_126 = 0 → wp_X3_isForced M_durations M_heads_42 M_tails_42 x5_64 x4_48 a0 (fun (r_138 : Int32) => (¬ r_138 = 0 → post (-5) M_isPlanned M_arcs M_heads_42 M_tails_42 M_chosen_64) ∧ (r_138 = 0 → wp_X3_hasPath M_many M_jobOf M_chosen_64 x5_64 x4_48 (fun (r_153 : Int32) => (r_153 = 0 → vp_in ((12 * x4_48) + x5_64) 144 ∧ (I_64 (x2_64 + 1) 1 (x5_64 + 1) (upd M_chosen_64 ((12 * x4_48) + x5_64).toNatClampNeg (vp_nar .boolean 1)) ∧ μ_64 (x2_64 + 1) 1 (x5_64 + 1) (upd M_chosen_64 ((12 * x4_48) + x5_64).toNatClampNeg (vp_nar .boolean 1)) < μ_64 x2_64 x3_64 x5_64 M_chosen_64)) ∧ (¬ r_153 = 0 → post (-5) M_isPlanned M_arcs M_heads_42 M_tails_42 M_chosen_64)))))))))))))))))))))) ∧ (¬ 144 ≤ x2_2 → vp_in x2_2 144 ∧ (vp_in x2_2 144 ∧ (I_2 (x2_2 + 1) (upd M_chosen_2 x2_2.toNatClampNeg (vp_nar .boolean (M_arcs x2_2.toNatClampNeg))) ∧ μ_2 (x2_2 + 1) (upd M_chosen_2 x2_2.toNatClampNeg (vp_nar .boolean (M_arcs x2_2.toNatClampNeg))) < μ_2 x2_2 M_chosen_2))))
def wp_X3_layFirst (M_many : Int32) (M_machineOf : Nat → Int32) (M_orders : Nat → Int32) (M_sizes : Nat → Int32) (a0 : Int32) (post : (Nat → Int32) → (Nat → Int32) → Prop) : Prop :=
  vp_in a0 4 ∧ (∃ (I_9 : Int32 → (Nat → Int32) → (Nat → Int32) → Prop) (μ_9 : Int32 → (Nat → Int32) → (Nat → Int32) → Nat), I_9 0 M_orders (upd M_sizes a0.toNatClampNeg 0) ∧ ∀ (x2_9 : Int32) (M_orders_9 : Nat → Int32) (M_sizes_9 : Nat → Int32), I_9 x2_9 M_orders_9 M_sizes_9 → ((M_many ≤ x2_9 → post M_orders_9 M_sizes_9) ∧ (¬ M_many ≤ x2_9 → vp_in x2_9 12 ∧ ((¬ (M_machineOf x2_9.toNatClampNeg) = a0 → I_9 (x2_9 + 1) M_orders_9 M_sizes_9 ∧ μ_9 (x2_9 + 1) M_orders_9 M_sizes_9 < μ_9 x2_9 M_orders_9 M_sizes_9) ∧ ((M_machineOf x2_9.toNatClampNeg) = a0 → vp_in a0 4 ∧ (vp_in ((4 * a0) + (M_sizes_9 a0.toNatClampNeg)) 16 ∧ (vp_in a0 4 ∧ (vp_in a0 4 ∧ (I_9 (x2_9 + 1) (upd M_orders_9 ((4 * a0) + (M_sizes_9 a0.toNatClampNeg)).toNatClampNeg x2_9) (upd M_sizes_9 a0.toNatClampNeg ((M_sizes_9 a0.toNatClampNeg) + 1)) ∧ μ_9 (x2_9 + 1) (upd M_orders_9 ((4 * a0) + (M_sizes_9 a0.toNatClampNeg)).toNatClampNeg x2_9) (upd M_sizes_9 a0.toNatClampNeg ((M_sizes_9 a0.toNatClampNeg) + 1)) < μ_9 x2_9 M_orders_9 M_sizes_9)))))))))
def wp_X3_nextOrder (M_many : Int32) (M_machineOf : Nat → Int32) (M_orders : Nat → Int32) (M_sizes : Nat → Int32) (a0 : Int32) (post : Int32 → (Nat → Int32) → (Nat → Int32) → Prop) : Prop :=
  vp_in a0 4 ∧ (∃ (I_13 : Int32 → Prop) (μ_13 : Int32 → Nat), I_13 ((M_sizes a0.toNatClampNeg) - 2) ∧ ∀ (x3_13 : Int32), I_13 x3_13 → ((x3_13 < 0 → (0 ≤ x3_13 → vp_in a0 4 ∧ (∃ (I_65 : Int32 → Prop) (μ_65 : Int32 → Nat), I_65 ((M_sizes a0.toNatClampNeg) - 1) ∧ ∀ (x4_65 : Int32), I_65 x4_65 → (vp_in ((4 * a0) + x4_65) 16 ∧ (vp_in ((4 * a0) + x3_13) 16 ∧ (((M_orders ((4 * a0) + x3_13).toNatClampNeg) ≤ (M_orders ((4 * a0) + x4_65).toNatClampNeg) → vp_in ((4 * a0) + x3_13) 16 ∧ (vp_in ((4 * a0) + x4_65) 16 ∧ (vp_in ((4 * a0) + x3_13) 16 ∧ (vp_in ((4 * a0) + x4_65) 16 ∧ (vp_in a0 4 ∧ (∃ (I_144 : Int32 → Int32 → (Nat → Int32) → Prop) (μ_144 : Int32 → Int32 → (Nat → Int32) → Nat), I_144 (x3_13 + 1) ((M_sizes a0.toNatClampNeg) - 1) (upd (upd M_orders ((4 * a0) + x3_13).toNatClampNeg (M_orders ((4 * a0) + x4_65).toNatClampNeg)) ((4 * a0) + x4_65).toNatClampNeg (M_orders ((4 * a0) + x3_13).toNatClampNeg)) ∧ ∀ (x6_144 : Int32) (x7_144 : Int32) (M_orders_144 : Nat → Int32), I_144 x6_144 x7_144 M_orders_144 → ((x7_144 ≤ x6_144 → post 1 M_orders_144 M_sizes) ∧ (¬ x7_144 ≤ x6_144 → vp_in ((4 * a0) + x6_144) 16 ∧ (vp_in ((4 * a0) + x7_144) 16 ∧ (vp_in ((4 * a0) + x6_144) 16 ∧ (vp_in ((4 * a0) + x7_144) 16 ∧ (I_144 (x6_144 + 1) (x7_144 + (-1)) (upd (upd M_orders_144 ((4 * a0) + x6_144).toNatClampNeg (M_orders_144 ((4 * a0) + x7_144).toNatClampNeg)) ((4 * a0) + x7_144).toNatClampNeg (M_orders_144 ((4 * a0) + x6_144).toNatClampNeg)) ∧ μ_144 (x6_144 + 1) (x7_144 + (-1)) (upd (upd M_orders_144 ((4 * a0) + x6_144).toNatClampNeg (M_orders_144 ((4 * a0) + x7_144).toNatClampNeg)) ((4 * a0) + x7_144).toNatClampNeg (M_orders_144 ((4 * a0) + x6_144).toNatClampNeg)) < μ_144 x6_144 x7_144 M_orders_144)))))))))))) ∧ (¬ (M_orders ((4 * a0) + x3_13).toNatClampNeg) ≤ (M_orders ((4 * a0) + x4_65).toNatClampNeg) → I_65 (x4_65 + (-1)) ∧ μ_65 (x4_65 + (-1)) < μ_65 x4_65)))))) ∧ (¬ 0 ≤ x3_13 → wp_X3_layFirst M_many M_machineOf M_orders M_sizes a0 (fun (M_orders_50 : Nat → Int32) (M_sizes_50 : Nat → Int32) => post 0 M_orders_50 M_sizes_50))) ∧ (¬ x3_13 < 0 → vp_in ((4 * a0) + x3_13) 16 ∧ (vp_in (((4 * a0) + x3_13) + 1) 16 ∧ (((M_orders ((4 * a0) + x3_13).toNatClampNeg) ≤ (M_orders (((4 * a0) + x3_13) + 1).toNatClampNeg) → (0 ≤ x3_13 → vp_in a0 4 ∧ (∃ (I_65 : Int32 → Prop) (μ_65 : Int32 → Nat), I_65 ((M_sizes a0.toNatClampNeg) - 1) ∧ ∀ (x4_65 : Int32), I_65 x4_65 → (vp_in ((4 * a0) + x4_65) 16 ∧ (vp_in ((4 * a0) + x3_13) 16 ∧ (((M_orders ((4 * a0) + x3_13).toNatClampNeg) ≤ (M_orders ((4 * a0) + x4_65).toNatClampNeg) → vp_in ((4 * a0) + x3_13) 16 ∧ (vp_in ((4 * a0) + x4_65) 16 ∧ (vp_in ((4 * a0) + x3_13) 16 ∧ (vp_in ((4 * a0) + x4_65) 16 ∧ (vp_in a0 4 ∧ (∃ (I_144 : Int32 → Int32 → (Nat → Int32) → Prop) (μ_144 : Int32 → Int32 → (Nat → Int32) → Nat), I_144 (x3_13 + 1) ((M_sizes a0.toNatClampNeg) - 1) (upd (upd M_orders ((4 * a0) + x3_13).toNatClampNeg (M_orders ((4 * a0) + x4_65).toNatClampNeg)) ((4 * a0) + x4_65).toNatClampNeg (M_orders ((4 * a0) + x3_13).toNatClampNeg)) ∧ ∀ (x6_144 : Int32) (x7_144 : Int32) (M_orders_144 : Nat → Int32), I_144 x6_144 x7_144 M_orders_144 → ((x7_144 ≤ x6_144 → post 1 M_orders_144 M_sizes) ∧ (¬ x7_144 ≤ x6_144 → vp_in ((4 * a0) + x6_144) 16 ∧ (vp_in ((4 * a0) + x7_144) 16 ∧ (vp_in ((4 * a0) + x6_144) 16 ∧ (vp_in ((4 * a0) + x7_144) 16 ∧ (I_144 (x6_144 + 1) (x7_144 + (-1)) (upd (upd M_orders_144 ((4 * a0) + x6_144).toNatClampNeg (M_orders_144 ((4 * a0) + x7_144).toNatClampNeg)) ((4 * a0) + x7_144).toNatClampNeg (M_orders_144 ((4 * a0) + x6_144).toNatClampNeg)) ∧ μ_144 (x6_144 + 1) (x7_144 + (-1)) (upd (upd M_orders_144 ((4 * a0) + x6_144).toNatClampNeg (M_orders_144 ((4 * a0) + x7_144).toNatClampNeg)) ((4 * a0) + x7_144).toNatClampNeg (M_orders_144 ((4 * a0) + x6_144).toNatClampNeg)) < μ_144 x6_144 x7_144 M_orders_144)))))))))))) ∧ (¬ (M_orders ((4 * a0) + x3_13).toNatClampNeg) ≤ (M_orders ((4 * a0) + x4_65).toNatClampNeg) → I_65 (x4_65 + (-1)) ∧ μ_65 (x4_65 + (-1)) < μ_65 x4_65)))))) ∧ (¬ 0 ≤ x3_13 → wp_X3_layFirst M_many M_machineOf M_orders M_sizes a0 (fun (M_orders_50 : Nat → Int32) (M_sizes_50 : Nat → Int32) => post 0 M_orders_50 M_sizes_50))) ∧ (¬ (M_orders ((4 * a0) + x3_13).toNatClampNeg) ≤ (M_orders (((4 * a0) + x3_13) + 1).toNatClampNeg) → I_13 (x3_13 + (-1)) ∧ μ_13 (x3_13 + (-1)) < μ_13 x3_13))))))
def wp_X3_choose (M_arcs : Nat → Int32) (M_chosen : Nat → Int32) (M_orders : Nat → Int32) (M_sizes : Nat → Int32)  (post : Int32 → (Nat → Int32) → Prop) : Prop :=
  ∃ (I_2 : Int32 → (Nat → Int32) → Prop) (μ_2 : Int32 → (Nat → Int32) → Nat), I_2 0 M_chosen ∧ ∀ (x1_2 : Int32) (M_chosen_2 : Nat → Int32), I_2 x1_2 M_chosen_2 → ((144 ≤ x1_2 → ∃ (I_24 : Int32 → (Nat → Int32) → Prop) (μ_24 : Int32 → (Nat → Int32) → Nat), I_24 0 M_chosen_2 ∧ ∀ (x1_24 : Int32) (M_chosen_24 : Nat → Int32), I_24 x1_24 M_chosen_24 → ((4 ≤ x1_24 → ∃ (I_105 : Int32 → Prop) (μ_105 : Int32 → Nat), I_105 0 ∧ ∀ (x1_105 : Int32), I_105 x1_105 → ((144 ≤ x1_105 → post 1 M_chosen_24) ∧ (¬ 144 ≤ x1_105 → vp_in x1_105 144 ∧ (((M_arcs x1_105.toNatClampNeg) = 0 → I_105 (x1_105 + 1) ∧ μ_105 (x1_105 + 1) < μ_105 x1_105) ∧ (¬ (M_arcs x1_105.toNatClampNeg) = 0 → vp_in x1_105 144 ∧ ((¬ (M_chosen_24 x1_105.toNatClampNeg) = 0 → I_105 (x1_105 + 1) ∧ μ_105 (x1_105 + 1) < μ_105 x1_105) ∧ ((M_chosen_24 x1_105.toNatClampNeg) = 0 → post 0 M_chosen_24))))))) ∧ (¬ 4 ≤ x1_24 → ∃ (I_31 : Int32 → (Nat → Int32) → Prop) (μ_31 : Int32 → (Nat → Int32) → Nat), I_31 0 M_chosen_24 ∧ ∀ (x2_31 : Int32) (M_chosen_31 : Nat → Int32), I_31 x2_31 M_chosen_31 → (vp_in x1_24 4 ∧ (((M_sizes x1_24.toNatClampNeg) ≤ x2_31 → I_24 (x1_24 + 1) M_chosen_31 ∧ μ_24 (x1_24 + 1) M_chosen_31 < μ_24 x1_24 M_chosen_24) ∧ (¬ (M_sizes x1_24.toNatClampNeg) ≤ x2_31 → ∃ (I_45 : Int32 → (Nat → Int32) → Prop) (μ_45 : Int32 → (Nat → Int32) → Nat), I_45 (x2_31 + 1) M_chosen_31 ∧ ∀ (x3_45 : Int32) (M_chosen_45 : Nat → Int32), I_45 x3_45 M_chosen_45 → (vp_in x1_24 4 ∧ (((M_sizes x1_24.toNatClampNeg) ≤ x3_45 → I_31 (x2_31 + 1) M_chosen_45 ∧ μ_31 (x2_31 + 1) M_chosen_45 < μ_31 x2_31 M_chosen_31) ∧ (¬ (M_sizes x1_24.toNatClampNeg) ≤ x3_45 → vp_in ((4 * x1_24) + x2_31) 16 ∧ (vp_in ((4 * x1_24) + x3_45) 16 ∧ (vp_in ((12 * (M_orders ((4 * x1_24) + x2_31).toNatClampNeg)) + (M_orders ((4 * x1_24) + x3_45).toNatClampNeg)) 144 ∧ (I_45 (x3_45 + 1) (upd M_chosen_45 ((12 * (M_orders ((4 * x1_24) + x2_31).toNatClampNeg)) + (M_orders ((4 * x1_24) + x3_45).toNatClampNeg)).toNatClampNeg (vp_nar .boolean 1)) ∧ μ_45 (x3_45 + 1) (upd M_chosen_45 ((12 * (M_orders ((4 * x1_24) + x2_31).toNatClampNeg)) + (M_orders ((4 * x1_24) + x3_45).toNatClampNeg)).toNatClampNeg (vp_nar .boolean 1)) < μ_45 x3_45 M_chosen_45)))))))))))) ∧ (¬ 144 ≤ x1_2 → vp_in x1_2 144 ∧ (I_2 (x1_2 + 1) (upd M_chosen_2 x1_2.toNatClampNeg (vp_nar .boolean 0)) ∧ μ_2 (x1_2 + 1) (upd M_chosen_2 x1_2.toNatClampNeg (vp_nar .boolean 0)) < μ_2 x1_2 M_chosen_2)))
def wp_X3_isEarlier (M_many : Int32) (M_starts : Nat → Int32) (M_heads : Nat → Int32)  (post : Int32 → Prop) : Prop :=
  ∃ (I_2 : Int32 → Prop) (μ_2 : Int32 → Nat), I_2 0 ∧ ∀ (x1_2 : Int32), I_2 x1_2 → ((M_many ≤ x1_2 → post 0) ∧ (¬ M_many ≤ x1_2 → vp_in x1_2 12 ∧ (vp_in x1_2 12 ∧ (((M_heads x1_2.toNatClampNeg) = (M_starts x1_2.toNatClampNeg) → I_2 (x1_2 + 1) ∧ μ_2 (x1_2 + 1) < μ_2 x1_2) ∧ (¬ (M_heads x1_2.toNatClampNeg) = (M_starts x1_2.toNatClampNeg) → vp_in x1_2 12 ∧ (vp_in x1_2 12 ∧ (((M_starts x1_2.toNatClampNeg) ≤ (M_heads x1_2.toNatClampNeg) → post 0) ∧ (¬ (M_starts x1_2.toNatClampNeg) ≤ (M_heads x1_2.toNatClampNeg) → post 1))))))))
def wp_X3_weigh (M_many : Int32) (M_isPlanned : Int32) (M_least : Int32) (M_optima : Int32) (M_durations : Nat → Int32) (M_starts : Nat → Int32) (M_heads : Nat → Int32)  (post : Int32 → Int32 → Int32 → (Nat → Int32) → Prop) : Prop :=
  ∃ (I_4 : Int32 → Int32 → Prop) (μ_4 : Int32 → Int32 → Nat), I_4 0 0 ∧ ∀ (x1_4 : Int32) (x2_4 : Int32), I_4 x1_4 x2_4 → ((M_many ≤ x2_4 → (M_isPlanned = 0 → ∃ (J_84 : Int32 → Prop), (∀ (y0_84 : Int32), J_84 y0_84 → (∃ (J_111 : Int32 → Prop), (∀ (y0_111 : Int32), J_111 y0_111 → ((¬ 1 = 0 → ∃ (I_132 : Int32 → (Nat → Int32) → Prop) (μ_132 : Int32 → (Nat → Int32) → Nat), I_132 0 M_starts ∧ ∀ (x4_132 : Int32) (M_starts_132 : Nat → Int32), I_132 x4_132 M_starts_132 → ((M_many ≤ x4_132 → (1 = 0 → post 1 M_least y0_111 M_starts_132) ∧ (¬ 1 = 0 → post 1 x1_4 y0_111 M_starts_132)) ∧ (¬ M_many ≤ x4_132 → vp_in x4_132 12 ∧ (vp_in x4_132 12 ∧ (I_132 (x4_132 + 1) (upd M_starts_132 x4_132.toNatClampNeg (M_heads x4_132.toNatClampNeg)) ∧ μ_132 (x4_132 + 1) (upd M_starts_132 x4_132.toNatClampNeg (M_heads x4_132.toNatClampNeg)) < μ_132 x4_132 M_starts_132))))) ∧ (1 = 0 → (y0_84 = 0 → (1 = 0 → post 1 M_least y0_111 M_starts) ∧ (¬ 1 = 0 → post 1 x1_4 y0_111 M_starts)) ∧ (¬ y0_84 = 0 → wp_X3_isEarlier M_many M_starts M_heads (fun (r_123 : Int32) => (r_123 = 0 → (1 = 0 → post 1 M_least y0_111 M_starts) ∧ (¬ 1 = 0 → post 1 x1_4 y0_111 M_starts)) ∧ (¬ r_123 = 0 → ∃ (I_132 : Int32 → (Nat → Int32) → Prop) (μ_132 : Int32 → (Nat → Int32) → Nat), I_132 0 M_starts ∧ ∀ (x4_132 : Int32) (M_starts_132 : Nat → Int32), I_132 x4_132 M_starts_132 → ((M_many ≤ x4_132 → (1 = 0 → post 1 M_least y0_111 M_starts_132) ∧ (¬ 1 = 0 → post 1 x1_4 y0_111 M_starts_132)) ∧ (¬ M_many ≤ x4_132 → vp_in x4_132 12 ∧ (vp_in x4_132 12 ∧ (I_132 (x4_132 + 1) (upd M_starts_132 x4_132.toNatClampNeg (M_heads x4_132.toNatClampNeg)) ∧ μ_132 (x4_132 + 1) (upd M_starts_132 x4_132.toNatClampNeg (M_heads x4_132.toNatClampNeg)) < μ_132 x4_132 M_starts_132)))))))))) ∧ ((1 = 0 → (y0_84 = 0 → J_111 M_optima) ∧ (¬ y0_84 = 0 → J_111 (M_optima + 1))) ∧ (¬ 1 = 0 → J_111 1)))) ∧ ((M_isPlanned = 0 → J_84 0) ∧ (¬ M_isPlanned = 0 → (¬ x1_4 = M_least → J_84 0) ∧ (x1_4 = M_least → J_84 1)))) ∧ (¬ M_isPlanned = 0 → (M_least ≤ x1_4 → ∃ (J_84 : Int32 → Prop), (∀ (y0_84 : Int32), J_84 y0_84 → (∃ (J_111 : Int32 → Prop), (∀ (y0_111 : Int32), J_111 y0_111 → ((¬ 0 = 0 → ∃ (I_132 : Int32 → (Nat → Int32) → Prop) (μ_132 : Int32 → (Nat → Int32) → Nat), I_132 0 M_starts ∧ ∀ (x4_132 : Int32) (M_starts_132 : Nat → Int32), I_132 x4_132 M_starts_132 → ((M_many ≤ x4_132 → (0 = 0 → post 1 M_least y0_111 M_starts_132) ∧ (¬ 0 = 0 → post 1 x1_4 y0_111 M_starts_132)) ∧ (¬ M_many ≤ x4_132 → vp_in x4_132 12 ∧ (vp_in x4_132 12 ∧ (I_132 (x4_132 + 1) (upd M_starts_132 x4_132.toNatClampNeg (M_heads x4_132.toNatClampNeg)) ∧ μ_132 (x4_132 + 1) (upd M_starts_132 x4_132.toNatClampNeg (M_heads x4_132.toNatClampNeg)) < μ_132 x4_132 M_starts_132))))) ∧ (0 = 0 → (y0_84 = 0 → (0 = 0 → post 1 M_least y0_111 M_starts) ∧ (¬ 0 = 0 → post 1 x1_4 y0_111 M_starts)) ∧ (¬ y0_84 = 0 → wp_X3_isEarlier M_many M_starts M_heads (fun (r_123 : Int32) => (r_123 = 0 → (0 = 0 → post 1 M_least y0_111 M_starts) ∧ (¬ 0 = 0 → post 1 x1_4 y0_111 M_starts)) ∧ (¬ r_123 = 0 → ∃ (I_132 : Int32 → (Nat → Int32) → Prop) (μ_132 : Int32 → (Nat → Int32) → Nat), I_132 0 M_starts ∧ ∀ (x4_132 : Int32) (M_starts_132 : Nat → Int32), I_132 x4_132 M_starts_132 → ((M_many ≤ x4_132 → (0 = 0 → post 1 M_least y0_111 M_starts_132) ∧ (¬ 0 = 0 → post 1 x1_4 y0_111 M_starts_132)) ∧ (¬ M_many ≤ x4_132 → vp_in x4_132 12 ∧ (vp_in x4_132 12 ∧ (I_132 (x4_132 + 1) (upd M_starts_132 x4_132.toNatClampNeg (M_heads x4_132.toNatClampNeg)) ∧ μ_132 (x4_132 + 1) (upd M_starts_132 x4_132.toNatClampNeg (M_heads x4_132.toNatClampNeg)) < μ_132 x4_132 M_starts_132)))))))))) ∧ ((0 = 0 → (y0_84 = 0 → J_111 M_optima) ∧ (¬ y0_84 = 0 → J_111 (M_optima + 1))) ∧ (¬ 0 = 0 → J_111 1)))) ∧ ((M_isPlanned = 0 → J_84 0) ∧ (¬ M_isPlanned = 0 → (¬ x1_4 = M_least → J_84 0) ∧ (x1_4 = M_least → J_84 1)))) ∧ (¬ M_least ≤ x1_4 → ∃ (J_84 : Int32 → Prop), (∀ (y0_84 : Int32), J_84 y0_84 → (∃ (J_111 : Int32 → Prop), (∀ (y0_111 : Int32), J_111 y0_111 → ((¬ 1 = 0 → ∃ (I_132 : Int32 → (Nat → Int32) → Prop) (μ_132 : Int32 → (Nat → Int32) → Nat), I_132 0 M_starts ∧ ∀ (x4_132 : Int32) (M_starts_132 : Nat → Int32), I_132 x4_132 M_starts_132 → ((M_many ≤ x4_132 → (1 = 0 → post 1 M_least y0_111 M_starts_132) ∧ (¬ 1 = 0 → post 1 x1_4 y0_111 M_starts_132)) ∧ (¬ M_many ≤ x4_132 → vp_in x4_132 12 ∧ (vp_in x4_132 12 ∧ (I_132 (x4_132 + 1) (upd M_starts_132 x4_132.toNatClampNeg (M_heads x4_132.toNatClampNeg)) ∧ μ_132 (x4_132 + 1) (upd M_starts_132 x4_132.toNatClampNeg (M_heads x4_132.toNatClampNeg)) < μ_132 x4_132 M_starts_132))))) ∧ (1 = 0 → (y0_84 = 0 → (1 = 0 → post 1 M_least y0_111 M_starts) ∧ (¬ 1 = 0 → post 1 x1_4 y0_111 M_starts)) ∧ (¬ y0_84 = 0 → wp_X3_isEarlier M_many M_starts M_heads (fun (r_123 : Int32) => (r_123 = 0 → (1 = 0 → post 1 M_least y0_111 M_starts) ∧ (¬ 1 = 0 → post 1 x1_4 y0_111 M_starts)) ∧ (¬ r_123 = 0 → ∃ (I_132 : Int32 → (Nat → Int32) → Prop) (μ_132 : Int32 → (Nat → Int32) → Nat), I_132 0 M_starts ∧ ∀ (x4_132 : Int32) (M_starts_132 : Nat → Int32), I_132 x4_132 M_starts_132 → ((M_many ≤ x4_132 → (1 = 0 → post 1 M_least y0_111 M_starts_132) ∧ (¬ 1 = 0 → post 1 x1_4 y0_111 M_starts_132)) ∧ (¬ M_many ≤ x4_132 → vp_in x4_132 12 ∧ (vp_in x4_132 12 ∧ (I_132 (x4_132 + 1) (upd M_starts_132 x4_132.toNatClampNeg (M_heads x4_132.toNatClampNeg)) ∧ μ_132 (x4_132 + 1) (upd M_starts_132 x4_132.toNatClampNeg (M_heads x4_132.toNatClampNeg)) < μ_132 x4_132 M_starts_132)))))))))) ∧ ((1 = 0 → (y0_84 = 0 → J_111 M_optima) ∧ (¬ y0_84 = 0 → J_111 (M_optima + 1))) ∧ (¬ 1 = 0 → J_111 1)))) ∧ ((M_isPlanned = 0 → J_84 0) ∧ (¬ M_isPlanned = 0 → (¬ x1_4 = M_least → J_84 0) ∧ (x1_4 = M_least → J_84 1)))))) ∧ (¬ M_many ≤ x2_4 → vp_in x2_4 12 ∧ (vp_in x2_4 12 ∧ ((((M_heads x2_4.toNatClampNeg) + (M_durations x2_4.toNatClampNeg)) ≤ x1_4 → I_4 x1_4 (x2_4 + 1) ∧ μ_4 x1_4 (x2_4 + 1) < μ_4 x1_4 x2_4) ∧ (¬ ((M_heads x2_4.toNatClampNeg) + (M_durations x2_4.toNatClampNeg)) ≤ x1_4 → I_4 ((M_heads x2_4.toNatClampNeg) + (M_durations x2_4.toNatClampNeg)) (x2_4 + 1) ∧ μ_4 ((M_heads x2_4.toNatClampNeg) + (M_durations x2_4.toNatClampNeg)) (x2_4 + 1) < μ_4 x1_4 x2_4)))))
def wp_X3_solve (M_many : Int32) (M_isPlanned : Int32) (M_least : Int32) (M_optima : Int32) (M_jobOf : Nat → Int32) (M_machineOf : Nat → Int32) (M_durations : Nat → Int32) (M_arcs : Nat → Int32) (M_starts : Nat → Int32) (M_heads : Nat → Int32) (M_chosen : Nat → Int32) (M_orders : Nat → Int32) (M_sizes : Nat → Int32)  (post : Int32 → Int32 → Int32 → Int32 → (Nat → Int32) → (Nat → Int32) → (Nat → Int32) → (Nat → Int32) → (Nat → Int32) → Prop) : Prop :=
  ∃ (I_7 : Int32 → (Nat → Int32) → (Nat → Int32) → Prop) (μ_7 : Int32 → (Nat → Int32) → (Nat → Int32) → Nat), I_7 0 M_orders M_sizes ∧ ∀ (x1_7 : Int32) (M_orders_7 : Nat → Int32) (M_sizes_7 : Nat → Int32), I_7 x1_7 M_orders_7 M_sizes_7 → ((4 ≤ x1_7 → ∃ (I_25 : Int32 → Int32 → Int32 → Int32 → (Nat → Int32) → (Nat → Int32) → (Nat → Int32) → (Nat → Int32) → (Nat → Int32) → Prop) (μ_25 : Int32 → Int32 → Int32 → Int32 → (Nat → Int32) → (Nat → Int32) → (Nat → Int32) → (Nat → Int32) → (Nat → Int32) → Nat), I_25 1 0 M_least M_optima M_starts M_heads M_chosen M_orders_7 M_sizes_7 ∧ ∀ (x1_25 : Int32) (M_isPlanned_25 : Int32) (M_least_25 : Int32) (M_optima_25 : Int32) (M_starts_25 : Nat → Int32) (M_heads_25 : Nat → Int32) (M_chosen_25 : Nat → Int32) (M_orders_25 : Nat → Int32) (M_sizes_25 : Nat → Int32), I_25 x1_25 M_isPlanned_25 M_least_25 M_optima_25 M_starts_25 M_heads_25 M_chosen_25 M_orders_25 M_sizes_25 → ((x1_25 = 0 → post M_least_25 M_isPlanned_25 M_least_25 M_optima_25 M_starts_25 M_heads_25 M_chosen_25 M_orders_25 M_sizes_25) ∧ (¬ x1_25 = 0 → wp_X3_choose M_arcs M_chosen_25 M_orders_25 M_sizes_25 (fun (r_30 : Int32) (M_chosen_30 : Nat → Int32) => (r_30 = 0 → ∃ (I_53 : Int32 → (Nat → Int32) → (Nat → Int32) → Prop) (μ_53 : Int32 → (Nat → Int32) → (Nat → Int32) → Nat), I_53 0 M_orders_25 M_sizes_25 ∧ ∀ (x2_53 : Int32) (M_orders_53 : Nat → Int32) (M_sizes_53 : Nat → Int32), I_53 x2_53 M_orders_53 M_sizes_53 → ((4 ≤ x2_53 → (4 ≤ x2_53 → I_25 0 M_isPlanned_25 M_least_25 M_optima_25 M_starts_25 M_heads_25 M_chosen_30 M_orders_53 M_sizes_53 ∧ μ_25 0 M_isPlanned_25 M_least_25 M_optima_25 M_starts_25 M_heads_25 M_chosen_30 M_orders_53 M_sizes_53 < μ_25 x1_25 M_isPlanned_25 M_least_25 M_optima_25 M_starts_25 M_heads_25 M_chosen_25 M_orders_25 M_sizes_25) ∧ (¬ 4 ≤ x2_53 → I_25 1 M_isPlanned_25 M_least_25 M_optima_25 M_starts_25 M_heads_25 M_chosen_30 M_orders_53 M_sizes_53 ∧ μ_25 1 M_isPlanned_25 M_least_25 M_optima_25 M_starts_25 M_heads_25 M_chosen_30 M_orders_53 M_sizes_53 < μ_25 x1_25 M_isPlanned_25 M_least_25 M_optima_25 M_starts_25 M_heads_25 M_chosen_25 M_orders_25 M_sizes_25)) ∧ (¬ 4 ≤ x2_53 → wp_X3_nextOrder M_many M_machineOf M_orders_53 M_sizes_53 x2_53 (fun (r_60 : Int32) (M_orders_60 : Nat → Int32) (M_sizes_60 : Nat → Int32) => (¬ r_60 = 0 → (4 ≤ x2_53 → I_25 0 M_isPlanned_25 M_least_25 M_optima_25 M_starts_25 M_heads_25 M_chosen_30 M_orders_60 M_sizes_60 ∧ μ_25 0 M_isPlanned_25 M_least_25 M_optima_25 M_starts_25 M_heads_25 M_chosen_30 M_orders_60 M_sizes_60 < μ_25 x1_25 M_isPlanned_25 M_least_25 M_optima_25 M_starts_25 M_heads_25 M_chosen_25 M_orders_25 M_sizes_25) ∧ (¬ 4 ≤ x2_53 → I_25 1 M_isPlanned_25 M_least_25 M_optima_25 M_starts_25 M_heads_25 M_chosen_30 M_orders_60 M_sizes_60 ∧ μ_25 1 M_isPlanned_25 M_least_25 M_optima_25 M_starts_25 M_heads_25 M_chosen_30 M_orders_60 M_sizes_60 < μ_25 x1_25 M_isPlanned_25 M_least_25 M_optima_25 M_starts_25 M_heads_25 M_chosen_25 M_orders_25 M_sizes_25)) ∧ (r_60 = 0 → I_53 (x2_53 + 1) M_orders_60 M_sizes_60 ∧ μ_53 (x2_53 + 1) M_orders_60 M_sizes_60 < μ_53 x2_53 M_orders_53 M_sizes_53))))) ∧ (¬ r_30 = 0 → wp_X3_findHeads M_many M_jobOf M_durations M_heads_25 M_chosen_30 (fun (r_41 : Int32) (M_heads_41 : Nat → Int32) => (r_41 = 0 → ∃ (I_53 : Int32 → (Nat → Int32) → (Nat → Int32) → Prop) (μ_53 : Int32 → (Nat → Int32) → (Nat → Int32) → Nat), I_53 0 M_orders_25 M_sizes_25 ∧ ∀ (x2_53 : Int32) (M_orders_53 : Nat → Int32) (M_sizes_53 : Nat → Int32), I_53 x2_53 M_orders_53 M_sizes_53 → ((4 ≤ x2_53 → (4 ≤ x2_53 → I_25 0 M_isPlanned_25 M_least_25 M_optima_25 M_starts_25 M_heads_41 M_chosen_30 M_orders_53 M_sizes_53 ∧ μ_25 0 M_isPlanned_25 M_least_25 M_optima_25 M_starts_25 M_heads_41 M_chosen_30 M_orders_53 M_sizes_53 < μ_25 x1_25 M_isPlanned_25 M_least_25 M_optima_25 M_starts_25 M_heads_25 M_chosen_25 M_orders_25 M_sizes_25) ∧ (¬ 4 ≤ x2_53 → I_25 1 M_isPlanned_25 M_least_25 M_optima_25 M_starts_25 M_heads_41 M_chosen_30 M_orders_53 M_sizes_53 ∧ μ_25 1 M_isPlanned_25 M_least_25 M_optima_25 M_starts_25 M_heads_41 M_chosen_30 M_orders_53 M_sizes_53 < μ_25 x1_25 M_isPlanned_25 M_least_25 M_optima_25 M_starts_25 M_heads_25 M_chosen_25 M_orders_25 M_sizes_25)) ∧ (¬ 4 ≤ x2_53 → wp_X3_nextOrder M_many M_machineOf M_orders_53 M_sizes_53 x2_53 (fun (r_60 : Int32) (M_orders_60 : Nat → Int32) (M_sizes_60 : Nat → Int32) => (¬ r_60 = 0 → (4 ≤ x2_53 → I_25 0 M_isPlanned_25 M_least_25 M_optima_25 M_starts_25 M_heads_41 M_chosen_30 M_orders_60 M_sizes_60 ∧ μ_25 0 M_isPlanned_25 M_least_25 M_optima_25 M_starts_25 M_heads_41 M_chosen_30 M_orders_60 M_sizes_60 < μ_25 x1_25 M_isPlanned_25 M_least_25 M_optima_25 M_starts_25 M_heads_25 M_chosen_25 M_orders_25 M_sizes_25) ∧ (¬ 4 ≤ x2_53 → I_25 1 M_isPlanned_25 M_least_25 M_optima_25 M_starts_25 M_heads_41 M_chosen_30 M_orders_60 M_sizes_60 ∧ μ_25 1 M_isPlanned_25 M_least_25 M_optima_25 M_starts_25 M_heads_41 M_chosen_30 M_orders_60 M_sizes_60 < μ_25 x1_25 M_isPlanned_25 M_least_25 M_optima_25 M_starts_25 M_heads_25 M_chosen_25 M_orders_25 M_sizes_25)) ∧ (r_60 = 0 → I_53 (x2_53 + 1) M_orders_60 M_sizes_60 ∧ μ_53 (x2_53 + 1) M_orders_60 M_sizes_60 < μ_53 x2_53 M_orders_53 M_sizes_53))))) ∧ (¬ r_41 = 0 → wp_X3_weigh M_many M_isPlanned_25 M_least_25 M_optima_25 M_durations M_starts_25 M_heads_41 (fun (M_isPlanned_48 : Int32) (M_least_48 : Int32) (M_optima_48 : Int32) (M_starts_48 : Nat → Int32) => ∃ (I_53 : Int32 → (Nat → Int32) → (Nat → Int32) → Prop) (μ_53 : Int32 → (Nat → Int32) → (Nat → Int32) → Nat), I_53 0 M_orders_25 M_sizes_25 ∧ ∀ (x2_53 : Int32) (M_orders_53 : Nat → Int32) (M_sizes_53 : Nat → Int32), I_53 x2_53 M_orders_53 M_sizes_53 → ((4 ≤ x2_53 → (4 ≤ x2_53 → I_25 0 M_isPlanned_48 M_least_48 M_optima_48 M_starts_48 M_heads_41 M_chosen_30 M_orders_53 M_sizes_53 ∧ μ_25 0 M_isPlanned_48 M_least_48 M_optima_48 M_starts_48 M_heads_41 M_chosen_30 M_orders_53 M_sizes_53 < μ_25 x1_25 M_isPlanned_25 M_least_25 M_optima_25 M_starts_25 M_heads_25 M_chosen_25 M_orders_25 M_sizes_25) ∧ (¬ 4 ≤ x2_53 → I_25 1 M_isPlanned_48 M_least_48 M_optima_48 M_starts_48 M_heads_41 M_chosen_30 M_orders_53 M_sizes_53 ∧ μ_25 1 M_isPlanned_48 M_least_48 M_optima_48 M_starts_48 M_heads_41 M_chosen_30 M_orders_53 M_sizes_53 < μ_25 x1_25 M_isPlanned_25 M_least_25 M_optima_25 M_starts_25 M_heads_25 M_chosen_25 M_orders_25 M_sizes_25)) ∧ (¬ 4 ≤ x2_53 → wp_X3_nextOrder M_many M_machineOf M_orders_53 M_sizes_53 x2_53 (fun (r_60 : Int32) (M_orders_60 : Nat → Int32) (M_sizes_60 : Nat → Int32) => (¬ r_60 = 0 → (4 ≤ x2_53 → I_25 0 M_isPlanned_48 M_least_48 M_optima_48 M_starts_48 M_heads_41 M_chosen_30 M_orders_60 M_sizes_60 ∧ μ_25 0 M_isPlanned_48 M_least_48 M_optima_48 M_starts_48 M_heads_41 M_chosen_30 M_orders_60 M_sizes_60 < μ_25 x1_25 M_isPlanned_25 M_least_25 M_optima_25 M_starts_25 M_heads_25 M_chosen_25 M_orders_25 M_sizes_25) ∧ (¬ 4 ≤ x2_53 → I_25 1 M_isPlanned_48 M_least_48 M_optima_48 M_starts_48 M_heads_41 M_chosen_30 M_orders_60 M_sizes_60 ∧ μ_25 1 M_isPlanned_48 M_least_48 M_optima_48 M_starts_48 M_heads_41 M_chosen_30 M_orders_60 M_sizes_60 < μ_25 x1_25 M_isPlanned_25 M_least_25 M_optima_25 M_starts_25 M_heads_25 M_chosen_25 M_orders_25 M_sizes_25)) ∧ (r_60 = 0 → I_53 (x2_53 + 1) M_orders_60 M_sizes_60 ∧ μ_53 (x2_53 + 1) M_orders_60 M_sizes_60 < μ_53 x2_53 M_orders_53 M_sizes_53)))))))))))) ∧ (¬ 4 ≤ x1_7 → wp_X3_layFirst M_many M_machineOf M_orders_7 M_sizes_7 x1_7 (fun (M_orders_14 : Nat → Int32) (M_sizes_14 : Nat → Int32) => I_7 (x1_7 + 1) M_orders_14 M_sizes_14 ∧ μ_7 (x1_7 + 1) M_orders_14 M_sizes_14 < μ_7 x1_7 M_orders_7 M_sizes_7)))
def wp_X3_optima (M_isPlanned : Int32) (M_optima : Int32)  (post : Int32 → Prop) : Prop :=
  (M_isPlanned = 0 → post (-1)) ∧ (¬ M_isPlanned = 0 → post M_optima)
def wp_X3_at (M_many : Int32) (M_isPlanned : Int32) (M_machineOf : Nat → Int32) (M_durations : Nat → Int32) (M_starts : Nat → Int32) (a0 : Int32) (a1 : Int32) (post : Int32 → Prop) : Prop :=
  wp_X3_in a0 0 3 (fun (r_3 : Int32) => (¬ r_3 = 0 → ∃ (I_14 : Int32 → Prop) (μ_14 : Int32 → Nat), I_14 0 ∧ ∀ (x3_14 : Int32), I_14 x3_14 → ((M_many ≤ x3_14 → post (-1)) ∧ (¬ M_many ≤ x3_14 → (M_isPlanned = 0 → post (-1)) ∧ (¬ M_isPlanned = 0 → vp_in x3_14 12 ∧ ((¬ (M_machineOf x3_14.toNatClampNeg) = a0 → I_14 (x3_14 + 1) ∧ μ_14 (x3_14 + 1) < μ_14 x3_14) ∧ ((M_machineOf x3_14.toNatClampNeg) = a0 → vp_in x3_14 12 ∧ (vp_in x3_14 12 ∧ (vp_in x3_14 12 ∧ (wp_X3_in a1 (M_starts x3_14.toNatClampNeg) (((M_starts x3_14.toNatClampNeg) + (M_durations x3_14.toNatClampNeg)) - 1) (fun (r_61 : Int32) => (r_61 = 0 → I_14 (x3_14 + 1) ∧ μ_14 (x3_14 + 1) < μ_14 x3_14) ∧ (¬ r_61 = 0 → post x3_14))))))))))) ∧ (r_3 = 0 → post (-2)))
def wp_X3_draft (M_many : Int32) (M_drafts : Nat → Int32) (a0 : Int32) (a1 : Int32) (post : Int32 → (Nat → Int32) → Prop) : Prop :=
  wp_X3_isOperation M_many a0 (fun (r_2 : Int32) => (r_2 = 0 → post (-2) M_drafts) ∧ (¬ r_2 = 0 → wp_X3_in a1 0 1000 (fun (r_13 : Int32) => (¬ r_13 = 0 → vp_in a0 12 ∧ (vp_in a0 12 ∧ (post (M_drafts a0.toNatClampNeg) (upd M_drafts a0.toNatClampNeg a1)))) ∧ (r_13 = 0 → post (-2) M_drafts))))
def wp_X3_isOverBehind (M_many : Int32) (M_jobOf : Nat → Int32) (M_durations : Nat → Int32) (M_arcs : Nat → Int32) (M_drafts : Nat → Int32) (a0 : Int32) (post : Int32 → Prop) : Prop :=
  ∃ (I_2 : Int32 → Prop) (μ_2 : Int32 → Nat), I_2 0 ∧ ∀ (x2_2 : Int32), I_2 x2_2 → ((M_many ≤ x2_2 → post 0) ∧ (¬ M_many ≤ x2_2 → wp_X3_leads M_many M_jobOf M_arcs a0 x2_2 (fun (r_17 : Int32) => (r_17 = 0 → I_2 (x2_2 + 1) ∧ μ_2 (x2_2 + 1) < μ_2 x2_2) ∧ (¬ r_17 = 0 → vp_in a0 12 ∧ (vp_in a0 12 ∧ (vp_in x2_2 12 ∧ ((((M_drafts a0.toNatClampNeg) + (M_durations a0.toNatClampNeg)) ≤ (M_drafts x2_2.toNatClampNeg) → I_2 (x2_2 + 1) ∧ μ_2 (x2_2 + 1) < μ_2 x2_2) ∧ (¬ ((M_drafts a0.toNatClampNeg) + (M_durations a0.toNatClampNeg)) ≤ (M_drafts x2_2.toNatClampNeg) → post 1))))))))
def wp_X3_meets (M_many : Int32) (M_machineOf : Nat → Int32) (M_durations : Nat → Int32) (M_drafts : Nat → Int32) (a0 : Int32) (post : Int32 → Prop) : Prop :=
  ∃ (I_4 : Int32 → Prop) (μ_4 : Int32 → Nat), I_4 (a0 + 1) ∧ ∀ (x2_4 : Int32), I_4 x2_4 → ((M_many ≤ x2_4 → post 0) ∧ (¬ M_many ≤ x2_4 → vp_in x2_4 12 ∧ (vp_in a0 12 ∧ ((¬ (M_machineOf x2_4.toNatClampNeg) = (M_machineOf a0.toNatClampNeg) → I_4 (x2_4 + 1) ∧ μ_4 (x2_4 + 1) < μ_4 x2_4) ∧ ((M_machineOf x2_4.toNatClampNeg) = (M_machineOf a0.toNatClampNeg) → vp_in a0 12 ∧ (vp_in x2_4 12 ∧ (vp_in x2_4 12 ∧ ((((M_drafts x2_4.toNatClampNeg) + (M_durations x2_4.toNatClampNeg)) ≤ (M_drafts a0.toNatClampNeg) → I_4 (x2_4 + 1) ∧ μ_4 (x2_4 + 1) < μ_4 x2_4) ∧ (¬ ((M_drafts x2_4.toNatClampNeg) + (M_durations x2_4.toNatClampNeg)) ≤ (M_drafts a0.toNatClampNeg) → vp_in x2_4 12 ∧ (vp_in a0 12 ∧ (vp_in a0 12 ∧ ((((M_drafts a0.toNatClampNeg) + (M_durations a0.toNatClampNeg)) ≤ (M_drafts x2_4.toNatClampNeg) → I_4 (x2_4 + 1) ∧ μ_4 (x2_4 + 1) < μ_4 x2_4) ∧ (¬ ((M_drafts a0.toNatClampNeg) + (M_durations a0.toNatClampNeg)) ≤ (M_drafts x2_4.toNatClampNeg) → post 1)))))))))))))
def wp_X3_check (M_many : Int32) (M_jobOf : Nat → Int32) (M_machineOf : Nat → Int32) (M_durations : Nat → Int32) (M_arcs : Nat → Int32) (M_drafts : Nat → Int32)  (post : Int32 → Prop) : Prop :=
  ∃ (I_2 : Int32 → Prop) (μ_2 : Int32 → Nat), I_2 0 ∧ ∀ (x1_2 : Int32), I_2 x1_2 → ((M_many ≤ x1_2 → ∃ (I_33 : Int32 → Int32 → Prop) (μ_33 : Int32 → Int32 → Nat), I_33 0 0 ∧ ∀ (x1_33 : Int32) (x2_33 : Int32), I_33 x1_33 x2_33 → ((M_many ≤ x2_33 → post x1_33) ∧ (¬ M_many ≤ x2_33 → wp_X3_meets M_many M_machineOf M_durations M_drafts x2_33 (fun (r_43 : Int32) => (r_43 = 0 → vp_in x2_33 12 ∧ (vp_in x2_33 12 ∧ ((((M_drafts x2_33.toNatClampNeg) + (M_durations x2_33.toNatClampNeg)) ≤ x1_33 → I_33 x1_33 (x2_33 + 1) ∧ μ_33 x1_33 (x2_33 + 1) < μ_33 x1_33 x2_33) ∧ (¬ ((M_drafts x2_33.toNatClampNeg) + (M_durations x2_33.toNatClampNeg)) ≤ x1_33 → I_33 ((M_drafts x2_33.toNatClampNeg) + (M_durations x2_33.toNatClampNeg)) (x2_33 + 1) ∧ μ_33 ((M_drafts x2_33.toNatClampNeg) + (M_durations x2_33.toNatClampNeg)) (x2_33 + 1) < μ_33 x1_33 x2_33)))) ∧ (¬ r_43 = 0 → post ((-30) - x2_33)))))) ∧ (¬ M_many ≤ x1_2 → wp_X3_isOverBehind M_many M_jobOf M_durations M_arcs M_drafts x1_2 (fun (r_12 : Int32) => (r_12 = 0 → I_2 (x1_2 + 1) ∧ μ_2 (x1_2 + 1) < μ_2 x1_2) ∧ (¬ r_12 = 0 → post ((-10) - x1_2)))))
def wp_X3_adopt (M_many : Int32) (M_isPlanned : Int32) (M_least : Int32) (M_drafts : Nat → Int32) (M_starts : Nat → Int32)  (post : Int32 → (Nat → Int32) → Prop) : Prop :=
  (¬ M_isPlanned = 0 → ∃ (I_11 : Int32 → (Nat → Int32) → Prop) (μ_11 : Int32 → (Nat → Int32) → Nat), I_11 0 M_drafts ∧ ∀ (x1_11 : Int32) (M_drafts_11 : Nat → Int32), I_11 x1_11 M_drafts_11 → ((M_many ≤ x1_11 → post M_least M_drafts_11) ∧ (¬ M_many ≤ x1_11 → vp_in x1_11 12 ∧ (vp_in x1_11 12 ∧ (I_11 (x1_11 + 1) (upd M_drafts_11 x1_11.toNatClampNeg (M_starts x1_11.toNatClampNeg)) ∧ μ_11 (x1_11 + 1) (upd M_drafts_11 x1_11.toNatClampNeg (M_starts x1_11.toNatClampNeg)) < μ_11 x1_11 M_drafts_11))))) ∧ (M_isPlanned = 0 → post (-1) M_drafts)
def wp_X3_count (M_jobs : Int32) (M_many : Int32) (M_isPlanned : Int32) (M_least : Int32) (M_jobOf : Nat → Int32) (M_machineOf : Nat → Int32) (M_durations : Nat → Int32) (M_arcs : Nat → Int32) (M_heads : Nat → Int32) (M_tails : Nat → Int32) (a0 : Int32) (post : Int32 → (Nat → Int32) → (Nat → Int32) → Prop) : Prop :=
  ∃ (I_7 : Int32 → Int32 → Int32 → Prop) (μ_7 : Int32 → Int32 → Int32 → Nat), I_7 0 0 0 ∧ ∀ (x2_7 : Int32) (x3_7 : Int32) (x4_7 : Int32), I_7 x2_7 x3_7 x4_7 → ((M_many ≤ x4_7 → (a0 = 0 → post M_jobs M_heads M_tails) ∧ (a0 = 1 → post M_many M_heads M_tails) ∧ (a0 = 2 → post x2_7 M_heads M_tails) ∧ (a0 = 3 → post x3_7 M_heads M_tails) ∧ (a0 = 4 → wp_X3_length M_many M_jobOf M_durations M_arcs M_heads M_tails (fun (r_175 : Int32) (M_heads_175 : Nat → Int32) (M_tails_175 : Nat → Int32) => ∃ (I_183 : Int32 → Int32 → (Nat → Int32) → (Nat → Int32) → Prop) (μ_183 : Int32 → Int32 → (Nat → Int32) → (Nat → Int32) → Nat), I_183 r_175 0 M_heads_175 M_tails_175 ∧ ∀ (x4_183 : Int32) (x5_183 : Int32) (M_heads_183 : Nat → Int32) (M_tails_183 : Nat → Int32), I_183 x4_183 x5_183 M_heads_183 M_tails_183 → ((4 ≤ x5_183 → post x4_183 M_heads_183 M_tails_183) ∧ (¬ 4 ≤ x5_183 → wp_X3_load M_many M_jobOf M_machineOf M_durations M_arcs M_heads_183 M_tails_183 x5_183 (fun (r_192 : Int32) (M_heads_192 : Nat → Int32) (M_tails_192 : Nat → Int32) => (r_192 ≤ x4_183 → I_183 x4_183 (x5_183 + 1) M_heads_192 M_tails_192 ∧ μ_183 x4_183 (x5_183 + 1) M_heads_192 M_tails_192 < μ_183 x4_183 x5_183 M_heads_183 M_tails_183) ∧ (¬ r_192 ≤ x4_183 → I_183 r_192 (x5_183 + 1) M_heads_192 M_tails_192 ∧ μ_183 r_192 (x5_183 + 1) M_heads_192 M_tails_192 < μ_183 x4_183 x5_183 M_heads_183 M_tails_183)))))) ∧ (a0 = 5 → (M_isPlanned = 0 → post (-1) M_heads M_tails) ∧ (¬ M_isPlanned = 0 → post M_least M_heads M_tails)) ∧ (a0.toInt < 0 ∨ 5 < a0.toInt → post (-2) M_heads M_tails)) ∧ (¬ M_many ≤ x4_7 → ∃ (I_19 : Int32 → Int32 → Int32 → Prop) (μ_19 : Int32 → Int32 → Int32 → Nat), I_19 x2_7 x3_7 0 ∧ ∀ (x2_19 : Int32) (x3_19 : Int32) (x5_19 : Int32), I_19 x2_19 x3_19 x5_19 → ((M_many ≤ x5_19 → I_7 x2_19 x3_19 (x4_7 + 1) ∧ μ_7 x2_19 x3_19 (x4_7 + 1) < μ_7 x2_7 x3_7 x4_7) ∧ (¬ M_many ≤ x5_19 → vp_in ((12 * x4_7) + x5_19) 144 ∧ (∃ (J_51 : Int32 → Prop), (∀ (y0_51 : Int32), J_51 y0_51 → ((x5_19 ≤ x4_7 → I_19 y0_51 x3_19 (x5_19 + 1) ∧ μ_19 y0_51 x3_19 (x5_19 + 1) < μ_19 x2_19 x3_19 x5_19) ∧ (¬ x5_19 ≤ x4_7 → wp_X3_isPair M_many M_machineOf x4_7 x5_19 (fun (r_64 : Int32) => (r_64 = 0 → I_19 y0_51 x3_19 (x5_19 + 1) ∧ μ_19 y0_51 x3_19 (x5_19 + 1) < μ_19 x2_19 x3_19 x5_19) ∧ (¬ r_64 = 0 → vp_in ((12 * x4_7) + x5_19) 144 ∧ ((¬ (M_arcs ((12 * x4_7) + x5_19).toNatClampNeg) = 0 → I_19 y0_51 x3_19 (x5_19 + 1) ∧ μ_19 y0_51 x3_19 (x5_19 + 1) < μ_19 x2_19 x3_19 x5_19) ∧ ((M_arcs ((12 * x4_7) + x5_19).toNatClampNeg) = 0 → vp_in ((12 * x5_19) + x4_7) 144 ∧ ((¬ (M_arcs ((12 * x5_19) + x4_7).toNatClampNeg) = 0 → I_19 y0_51 x3_19 (x5_19 + 1) ∧ μ_19 y0_51 x3_19 (x5_19 + 1) < μ_19 x2_19 x3_19 x5_19) ∧ ((M_arcs ((12 * x5_19) + x4_7).toNatClampNeg) = 0 → I_19 y0_51 (x3_19 + 1) (x5_19 + 1) ∧ μ_19 y0_51 (x3_19 + 1) (x5_19 + 1) < μ_19 x2_19 x3_19 x5_19))))))))) ∧ (((M_arcs ((12 * x4_7) + x5_19).toNatClampNeg) = 0 → J_51 x2_19) ∧ (¬ (M_arcs ((12 * x4_7) + x5_19).toNatClampNeg) = 0 → J_51 (x2_19 + 1))))))))
end
