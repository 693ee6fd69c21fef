section
-- ===== PART A: goes FIRST, ahead of the names: the tables' words, and 'selects' of the private methods out of them =====
/-- a private method of a class that the tables say can be made, by its rows of tables_1 -/
def lw_okq (q : MethodName × Nat) : Prop := (q.1.cls ≠ "java/lang/invoke/MethodHandle" ∧ q.1.cls ≠ "java/lang/invoke/VarHandle") ∧ Cond.instantiable q.1.cls q.2 ∈ tables_1 ∧ Cond.privateMethod q.1 ∈ tables_1 ∧ Cond.instanceMethod q.1 ∈ tables_1
theorem lw_p0 : lw_okq (⟨"BusThrees", "forgetCourse", "()V"⟩, 10) := ⟨⟨by decide +kernel, by decide +kernel⟩, List.mem_of_getElem? (i := 10) (by decide +kernel), List.mem_of_getElem? (i := 219) (by decide +kernel), List.mem_of_getElem? (i := 220) (by decide +kernel)⟩
theorem lw_p1 : lw_okq (⟨"BusThrees", "presentCourse", "()LBusThrees$Course;"⟩, 10) := ⟨⟨by decide +kernel, by decide +kernel⟩, List.mem_of_getElem? (i := 10) (by decide +kernel), List.mem_of_getElem? (i := 276) (by decide +kernel), List.mem_of_getElem? (i := 277) (by decide +kernel)⟩
theorem lw_p2 : lw_okq (⟨"BusThrees$Course", "playStop", "(LBusThrees$Line;LBusThrees$Rule;I)V"⟩, 15) := ⟨⟨by decide +kernel, by decide +kernel⟩, List.mem_of_getElem? (i := 99) (by decide +kernel), List.mem_of_getElem? (i := 295) (by decide +kernel), List.mem_of_getElem? (i := 296) (by decide +kernel)⟩
theorem lw_p3 : lw_okq (⟨"BusThrees$Course", "orderComing", "(LBusThrees$Line;I)I"⟩, 15) := ⟨⟨by decide +kernel, by decide +kernel⟩, List.mem_of_getElem? (i := 99) (by decide +kernel), List.mem_of_getElem? (i := 299) (by decide +kernel), List.mem_of_getElem? (i := 300) (by decide +kernel)⟩
theorem lw_p4 : lw_okq (⟨"BusThrees$Course", "putInOrder", "([IIII)V"⟩, 15) := ⟨⟨by decide +kernel, by decide +kernel⟩, List.mem_of_getElem? (i := 99) (by decide +kernel), List.mem_of_getElem? (i := 304) (by decide +kernel), List.mem_of_getElem? (i := 305) (by decide +kernel)⟩
theorem lw_p5 : lw_okq (⟨"BusThrees$Course", "visit", "(LBusThrees$Line;LBusThrees$Rule;II)V"⟩, 15) := ⟨⟨by decide +kernel, by decide +kernel⟩, List.mem_of_getElem? (i := 99) (by decide +kernel), List.mem_of_getElem? (i := 308) (by decide +kernel), List.mem_of_getElem? (i := 309) (by decide +kernel)⟩
theorem lw_p6 : lw_okq (⟨"BusThrees$Course", "countAtGoal", "(LBusThrees$Line;II)I"⟩, 15) := ⟨⟨by decide +kernel, by decide +kernel⟩, List.mem_of_getElem? (i := 99) (by decide +kernel), List.mem_of_getElem? (i := 315) (by decide +kernel), List.mem_of_getElem? (i := 316) (by decide +kernel)⟩
theorem lw_p7 : lw_okq (⟨"BusThrees$Course", "pickUp", "(LBusThrees$Line;III)V"⟩, 15) := ⟨⟨by decide +kernel, by decide +kernel⟩, List.mem_of_getElem? (i := 99) (by decide +kernel), List.mem_of_getElem? (i := 330) (by decide +kernel), List.mem_of_getElem? (i := 331) (by decide +kernel)⟩
theorem lw_p8 : lw_okq (⟨"BusThrees$Course", "noteWaits", "(IIII)V"⟩, 15) := ⟨⟨by decide +kernel, by decide +kernel⟩, List.mem_of_getElem? (i := 99) (by decide +kernel), List.mem_of_getElem? (i := 339) (by decide +kernel), List.mem_of_getElem? (i := 340) (by decide +kernel)⟩
theorem lw_p9 : lw_okq (⟨"BusThrees$Course", "stand", "(LBusThrees$Line;II)I"⟩, 15) := ⟨⟨by decide +kernel, by decide +kernel⟩, List.mem_of_getElem? (i := 99) (by decide +kernel), List.mem_of_getElem? (i := 344) (by decide +kernel), List.mem_of_getElem? (i := 345) (by decide +kernel)⟩
theorem lw_p10 : lw_okq (⟨"BusThrees$Course", "waitByRule", "(LBusThrees$Rule;II)V"⟩, 15) := ⟨⟨by decide +kernel, by decide +kernel⟩, List.mem_of_getElem? (i := 99) (by decide +kernel), List.mem_of_getElem? (i := 348) (by decide +kernel), List.mem_of_getElem? (i := 349) (by decide +kernel)⟩
theorem lw_p11 : lw_okq (⟨"BusThrees$Course", "emptyOut", "(LBusThrees$Line;II)V"⟩, 15) := ⟨⟨by decide +kernel, by decide +kernel⟩, List.mem_of_getElem? (i := 99) (by decide +kernel), List.mem_of_getElem? (i := 356) (by decide +kernel), List.mem_of_getElem? (i := 357) (by decide +kernel)⟩
theorem lw_p12 : lw_okq (⟨"BusThrees$Signs", "reads", "(ILBusThrees$Rule;)Z"⟩, 4) := ⟨⟨by decide +kernel, by decide +kernel⟩, List.mem_of_getElem? (i := 79) (by decide +kernel), List.mem_of_getElem? (i := 390) (by decide +kernel), List.mem_of_getElem? (i := 391) (by decide +kernel)⟩
theorem lw_p13 : lw_okq (⟨"BusThrees$Signs", "readsStop", "(ILBusThrees$Rule;)Z"⟩, 4) := ⟨⟨by decide +kernel, by decide +kernel⟩, List.mem_of_getElem? (i := 79) (by decide +kernel), List.mem_of_getElem? (i := 394) (by decide +kernel), List.mem_of_getElem? (i := 395) (by decide +kernel)⟩
theorem lw_p14 : lw_okq (⟨"BusThrees$Signs", "readsLetter", "(ILBusThrees$Rule;)Z"⟩, 4) := ⟨⟨by decide +kernel, by decide +kernel⟩, List.mem_of_getElem? (i := 79) (by decide +kernel), List.mem_of_getElem? (i := 401) (by decide +kernel), List.mem_of_getElem? (i := 402) (by decide +kernel)⟩
theorem lw_p15 : lw_okq (⟨"BusThrees$Signs", "readsBetween", "(LBusThrees$Rule;)Z"⟩, 4) := ⟨⟨by decide +kernel, by decide +kernel⟩, List.mem_of_getElem? (i := 79) (by decide +kernel), List.mem_of_getElem? (i := 405) (by decide +kernel), List.mem_of_getElem? (i := 406) (by decide +kernel)⟩
def lw_privs_1 : List (MethodName × Nat) := [(⟨"BusThrees", "forgetCourse", "()V"⟩, 10), (⟨"BusThrees", "presentCourse", "()LBusThrees$Course;"⟩, 10), (⟨"BusThrees$Course", "playStop", "(LBusThrees$Line;LBusThrees$Rule;I)V"⟩, 15), (⟨"BusThrees$Course", "orderComing", "(LBusThrees$Line;I)I"⟩, 15), (⟨"BusThrees$Course", "putInOrder", "([IIII)V"⟩, 15), (⟨"BusThrees$Course", "visit", "(LBusThrees$Line;LBusThrees$Rule;II)V"⟩, 15), (⟨"BusThrees$Course", "countAtGoal", "(LBusThrees$Line;II)I"⟩, 15), (⟨"BusThrees$Course", "pickUp", "(LBusThrees$Line;III)V"⟩, 15), (⟨"BusThrees$Course", "noteWaits", "(IIII)V"⟩, 15), (⟨"BusThrees$Course", "stand", "(LBusThrees$Line;II)I"⟩, 15), (⟨"BusThrees$Course", "waitByRule", "(LBusThrees$Rule;II)V"⟩, 15), (⟨"BusThrees$Course", "emptyOut", "(LBusThrees$Line;II)V"⟩, 15), (⟨"BusThrees$Signs", "reads", "(ILBusThrees$Rule;)Z"⟩, 4), (⟨"BusThrees$Signs", "readsStop", "(ILBusThrees$Rule;)Z"⟩, 4), (⟨"BusThrees$Signs", "readsLetter", "(ILBusThrees$Rule;)Z"⟩, 4), (⟨"BusThrees$Signs", "readsBetween", "(LBusThrees$Rule;)Z"⟩, 4)]
theorem lw_r1 : ∀ q ∈ lw_privs_1, lw_okq q := List.forall_mem_cons.mpr ⟨lw_p0, List.forall_mem_cons.mpr ⟨lw_p1, List.forall_mem_cons.mpr ⟨lw_p2, List.forall_mem_cons.mpr ⟨lw_p3, List.forall_mem_cons.mpr ⟨lw_p4, List.forall_mem_cons.mpr ⟨lw_p5, List.forall_mem_cons.mpr ⟨lw_p6, List.forall_mem_cons.mpr ⟨lw_p7, List.forall_mem_cons.mpr ⟨lw_p8, List.forall_mem_cons.mpr ⟨lw_p9, List.forall_mem_cons.mpr ⟨lw_p10, List.forall_mem_cons.mpr ⟨lw_p11, List.forall_mem_cons.mpr ⟨lw_p12, List.forall_mem_cons.mpr ⟨lw_p13, List.forall_mem_cons.mpr ⟨lw_p14, List.forall_mem_cons.mpr ⟨lw_p15, fun _ h => absurd h List.not_mem_nil⟩⟩⟩⟩⟩⟩⟩⟩⟩⟩⟩⟩⟩⟩⟩⟩
theorem lw_p16 : lw_okq (⟨"BusThrees$Signs", "readsDigit", "(ILBusThrees$Rule;)Z"⟩, 4) := ⟨⟨by decide +kernel, by decide +kernel⟩, List.mem_of_getElem? (i := 79) (by decide +kernel), List.mem_of_getElem? (i := 409) (by decide +kernel), List.mem_of_getElem? (i := 410) (by decide +kernel)⟩
theorem lw_p17 : lw_okq (⟨"BusThrees$Course", "stopsLeft", "(III)I"⟩, 15) := ⟨⟨by decide +kernel, by decide +kernel⟩, List.mem_of_getElem? (i := 99) (by decide +kernel), List.mem_of_getElem? (i := 508) (by decide +kernel), List.mem_of_getElem? (i := 509) (by decide +kernel)⟩
theorem lw_p18 : lw_okq (⟨"BusThrees", "findBest", "()V"⟩, 10) := ⟨⟨by decide +kernel, by decide +kernel⟩, List.mem_of_getElem? (i := 10) (by decide +kernel), List.mem_of_getElem? (i := 520) (by decide +kernel), List.mem_of_getElem? (i := 521) (by decide +kernel)⟩
theorem lw_p19 : lw_okq (⟨"BusThreesModel", "isBus", "(I)Z"⟩, 37) := ⟨⟨by decide +kernel, by decide +kernel⟩, List.mem_of_getElem? (i := 534) (by decide +kernel), List.mem_of_getElem? (i := 674) (by decide +kernel), List.mem_of_getElem? (i := 675) (by decide +kernel)⟩
theorem lw_p20 : lw_okq (⟨"BusThreesModel", "lay", "(I)V"⟩, 37) := ⟨⟨by decide +kernel, by decide +kernel⟩, List.mem_of_getElem? (i := 534) (by decide +kernel), List.mem_of_getElem? (i := 690) (by decide +kernel), List.mem_of_getElem? (i := 691) (by decide +kernel)⟩
theorem lw_p21 : lw_okq (⟨"BusThreesModel", "atStop", "(II)V"⟩, 37) := ⟨⟨by decide +kernel, by decide +kernel⟩, List.mem_of_getElem? (i := 534) (by decide +kernel), List.mem_of_getElem? (i := 694) (by decide +kernel), List.mem_of_getElem? (i := 695) (by decide +kernel)⟩
theorem lw_p22 : lw_okq (⟨"BusThreesModel", "layOrder", "(I)I"⟩, 37) := ⟨⟨by decide +kernel, by decide +kernel⟩, List.mem_of_getElem? (i := 534) (by decide +kernel), List.mem_of_getElem? (i := 698) (by decide +kernel), List.mem_of_getElem? (i := 699) (by decide +kernel)⟩
theorem lw_p23 : lw_okq (⟨"BusThreesModel", "getOff", "(IIZ)I"⟩, 37) := ⟨⟨by decide +kernel, by decide +kernel⟩, List.mem_of_getElem? (i := 534) (by decide +kernel), List.mem_of_getElem? (i := 702) (by decide +kernel), List.mem_of_getElem? (i := 703) (by decide +kernel)⟩
theorem lw_p24 : lw_okq (⟨"BusThreesModel", "getOn", "(III)I"⟩, 37) := ⟨⟨by decide +kernel, by decide +kernel⟩, List.mem_of_getElem? (i := 534) (by decide +kernel), List.mem_of_getElem? (i := 706) (by decide +kernel), List.mem_of_getElem? (i := 707) (by decide +kernel)⟩
theorem lw_p25 : lw_okq (⟨"BusThreesModel", "lateAt", "(III)I"⟩, 37) := ⟨⟨by decide +kernel, by decide +kernel⟩, List.mem_of_getElem? (i := 534) (by decide +kernel), List.mem_of_getElem? (i := 710) (by decide +kernel), List.mem_of_getElem? (i := 711) (by decide +kernel)⟩
theorem lw_p26 : lw_okq (⟨"BusThreesModel", "faultOf", "()I"⟩, 37) := ⟨⟨by decide +kernel, by decide +kernel⟩, List.mem_of_getElem? (i := 534) (by decide +kernel), List.mem_of_getElem? (i := 726) (by decide +kernel), List.mem_of_getElem? (i := 727) (by decide +kernel)⟩
theorem lw_p27 : lw_okq (⟨"BusThreesModel", "clearRule", "()V"⟩, 37) := ⟨⟨by decide +kernel, by decide +kernel⟩, List.mem_of_getElem? (i := 534) (by decide +kernel), List.mem_of_getElem? (i := 734) (by decide +kernel), List.mem_of_getElem? (i := 735) (by decide +kernel)⟩
theorem lw_p28 : lw_okq (⟨"BusThreesModel", "layGoing", "(I)V"⟩, 37) := ⟨⟨by decide +kernel, by decide +kernel⟩, List.mem_of_getElem? (i := 534) (by decide +kernel), List.mem_of_getElem? (i := 746) (by decide +kernel), List.mem_of_getElem? (i := 747) (by decide +kernel)⟩
theorem lw_p29 : lw_okq (⟨"BusThreesModel", "followOf", "(II)I"⟩, 37) := ⟨⟨by decide +kernel, by decide +kernel⟩, List.mem_of_getElem? (i := 534) (by decide +kernel), List.mem_of_getElem? (i := 750) (by decide +kernel), List.mem_of_getElem? (i := 751) (by decide +kernel)⟩
theorem lw_p30 : lw_okq (⟨"BusThreesModel", "oneOf", "()I"⟩, 37) := ⟨⟨by decide +kernel, by decide +kernel⟩, List.mem_of_getElem? (i := 534) (by decide +kernel), List.mem_of_getElem? (i := 758) (by decide +kernel), List.mem_of_getElem? (i := 759) (by decide +kernel)⟩
theorem lw_p31 : lw_okq (⟨"BusThreesModel", "allWaited", "()I"⟩, 37) := ⟨⟨by decide +kernel, by decide +kernel⟩, List.mem_of_getElem? (i := 534) (by decide +kernel), List.mem_of_getElem? (i := 788) (by decide +kernel), List.mem_of_getElem? (i := 789) (by decide +kernel)⟩
def lw_privs_2 : List (MethodName × Nat) := [(⟨"BusThrees$Signs", "readsDigit", "(ILBusThrees$Rule;)Z"⟩, 4), (⟨"BusThrees$Course", "stopsLeft", "(III)I"⟩, 15), (⟨"BusThrees", "findBest", "()V"⟩, 10), (⟨"BusThreesModel", "isBus", "(I)Z"⟩, 37), (⟨"BusThreesModel", "lay", "(I)V"⟩, 37), (⟨"BusThreesModel", "atStop", "(II)V"⟩, 37), (⟨"BusThreesModel", "layOrder", "(I)I"⟩, 37), (⟨"BusThreesModel", "getOff", "(IIZ)I"⟩, 37), (⟨"BusThreesModel", "getOn", "(III)I"⟩, 37), (⟨"BusThreesModel", "lateAt", "(III)I"⟩, 37), (⟨"BusThreesModel", "faultOf", "()I"⟩, 37), (⟨"BusThreesModel", "clearRule", "()V"⟩, 37), (⟨"BusThreesModel", "layGoing", "(I)V"⟩, 37), (⟨"BusThreesModel", "followOf", "(II)I"⟩, 37), (⟨"BusThreesModel", "oneOf", "()I"⟩, 37), (⟨"BusThreesModel", "allWaited", "()I"⟩, 37)]
theorem lw_r2 : ∀ q ∈ lw_privs_2, lw_okq q := List.forall_mem_cons.mpr ⟨lw_p16, List.forall_mem_cons.mpr ⟨lw_p17, List.forall_mem_cons.mpr ⟨lw_p18, List.forall_mem_cons.mpr ⟨lw_p19, List.forall_mem_cons.mpr ⟨lw_p20, List.forall_mem_cons.mpr ⟨lw_p21, List.forall_mem_cons.mpr ⟨lw_p22, List.forall_mem_cons.mpr ⟨lw_p23, List.forall_mem_cons.mpr ⟨lw_p24, List.forall_mem_cons.mpr ⟨lw_p25, List.forall_mem_cons.mpr ⟨lw_p26, List.forall_mem_cons.mpr ⟨lw_p27, List.forall_mem_cons.mpr ⟨lw_p28, List.forall_mem_cons.mpr ⟨lw_p29, List.forall_mem_cons.mpr ⟨lw_p30, List.forall_mem_cons.mpr ⟨lw_p31, fun _ h => absurd h List.not_mem_nil⟩⟩⟩⟩⟩⟩⟩⟩⟩⟩⟩⟩⟩⟩⟩⟩
def lw_privs : List (MethodName × Nat) := lw_privs_1 ++ (lw_privs_2)
def lw_tbl : List Cond := k2_sels lw_privs ++ tables_1
theorem lw_privs_ok : ∀ q ∈ lw_privs, lw_okq q := by
  show ∀ q ∈ lw_privs_1 ++ (lw_privs_2), lw_okq q
  exact List.forall_mem_append.mpr ⟨lw_r1, lw_r2⟩
end
section
/-! ===== BEGIN words of one list among another's, by their places ===== -/
theorem goodIn_r {big : List Cond} (ws : List Cond) (ps : List Nat) (hp : ws = ps.filterMap (fun i => big[i]?)) (h : ws.all goodWord = true) : GoodIn big ws := by
  intro w hw
  have h1 := List.all_eq_true.mp h w hw
  rw [hp] at hw
  obtain ⟨i, -, hi⟩ := List.mem_filterMap.mp hw
  have hm : w ∈ big := by first | exact List.mem_of_getElem? hi | exact List.getElem?_mem hi
  exact ⟨hm, good_of_word h1⟩
theorem goodIn_app {big a b : List Cond} (ha : GoodIn big a) (hb : GoodIn big b) : GoodIn big (a ++ b) := fun w h => (List.mem_append.mp h).elim (ha w) (hb w)
theorem goodIn_ca {big a b : List Cond} {c : Cond} (ha : GoodIn big (c :: a)) (hb : GoodIn big b) : GoodIn big (c :: (a ++ b)) := fun w h => (List.mem_cons.mp h).elim (fun e => ha w (List.mem_cons.mpr (Or.inl e))) (fun h => (List.mem_append.mp h).elim (fun h => ha w (List.mem_cons.mpr (Or.inr h))) (hb w))
theorem goodIn_sub {big ws : List Cond} (hm : ∀ w ∈ ws, w ∈ big) (h : ws.all goodWord = true) : GoodIn big ws := fun w hw => ⟨hm w hw, good_of_word (List.all_eq_true.mp h w hw)⟩
/-! ===== END ===== -/

/-! ===== BEGIN printed: names, fields, word lists, decode rows ===== -/
def RX0 : String := "BusThrees$Course"
def TX0 : u_T := fun k => match k with
  | 0 => ("BusThrees$Course", "come", "[I", true)
  | 1 => ("BusThrees$Course", "leave", "[I", true)
  | 2 => ("BusThrees$Course", "on", "[I", true)
  | 3 => ("BusThrees$Course", "off", "[I", true)
  | 4 => ("BusThrees$Course", "inside", "[I", true)
  | 5 => ("BusThrees$Course", "left", "[I", true)
  | 6 => ("BusThrees$Course", "extra", "[I", true)
  | 7 => ("BusThrees$Course", "taken", "[I", true)
  | 8 => ("BusThrees$Course", "waits", "[J", true)
  | 9 => ("BusThrees$Course", "longest", "[I", true)
  | 10 => ("BusThrees$Course", "rode", "J", false)
  | 11 => ("BusThrees$Course", "stranded", "I", false)
  | 12 => ("BusThrees$Course", "order", "[I", true)
  | 13 => ("BusThrees$Course", "latest", "I", false)
  | _ => ("BusThrees$Course", "latestGoing", "I", false)
def tyX0 : Nat → FieldType := fun k => match k with
  | 0 => .array .int
  | 1 => .array .int
  | 2 => .array .int
  | 3 => .array .int
  | 4 => .array .int
  | 5 => .array .int
  | 6 => .array .int
  | 7 => .array .int
  | 8 => .array .long
  | 9 => .array .int
  | 10 => .long
  | 11 => .int
  | 12 => .array .int
  | 13 => .int
  | _ => .int
abbrev wsX00 : List Cond := u_ws RX0 TX0 15
theorem nmX0 : ∀ a, a < 15 → ∀ b, b < 15 → a ≠ b → (TX0 a).2.1 ≠ (TX0 b).2.1 := by decide +kernel
theorem tyX0_ok : ∀ k, k < 15 → parseFieldDescriptor (TX0 k).2.2.1 = some (tyX0 k) := by decide +kernel
abbrev cX0_init : ByteArray := prog_2_method_1_code
def yX0_init : MethodName := ⟨RX0, "<init>", "()V"⟩
abbrev cX0_layLatenesses : ByteArray := prog_2_method_2_code
def yX0_layLatenesses : MethodName := ⟨RX0, "layLatenesses", "(LBusThrees$Line;I)V"⟩
abbrev cX0_play : ByteArray := prog_2_method_3_code
def yX0_play : MethodName := ⟨RX0, "play", "(LBusThrees$Line;LBusThrees$Rule;)V"⟩
abbrev cX0_playStop : ByteArray := prog_2_method_4_code
def yX0_playStop : MethodName := ⟨RX0, "playStop", "(LBusThrees$Line;LBusThrees$Rule;I)V"⟩
abbrev cX0_orderComing : ByteArray := prog_2_method_5_code
def yX0_orderComing : MethodName := ⟨RX0, "orderComing", "(LBusThrees$Line;I)I"⟩
abbrev cX0_orderLeaving : ByteArray := prog_2_method_6_code
def yX0_orderLeaving : MethodName := ⟨RX0, "orderLeaving", "(LBusThrees$Line;I)I"⟩
abbrev cX0_putInOrder : ByteArray := prog_2_method_7_code
def yX0_putInOrder : MethodName := ⟨RX0, "putInOrder", "([IIII)V"⟩
abbrev cX0_visit : ByteArray := prog_2_method_8_code
def yX0_visit : MethodName := ⟨RX0, "visit", "(LBusThrees$Line;LBusThrees$Rule;II)V"⟩
abbrev cX0_countAtGoal : ByteArray := prog_2_method_9_code
def yX0_countAtGoal : MethodName := ⟨RX0, "countAtGoal", "(LBusThrees$Line;II)I"⟩
abbrev cX0_pickUp : ByteArray := prog_2_method_10_code
def yX0_pickUp : MethodName := ⟨RX0, "pickUp", "(LBusThrees$Line;III)V"⟩
abbrev cX0_noteWaits : ByteArray := prog_2_method_11_code
def yX0_noteWaits : MethodName := ⟨RX0, "noteWaits", "(IIII)V"⟩
abbrev cX0_emptyOut : ByteArray := prog_2_method_12_code
def yX0_emptyOut : MethodName := ⟨RX0, "emptyOut", "(LBusThrees$Line;II)V"⟩
abbrev cX0_stand : ByteArray := prog_2_method_13_code
def yX0_stand : MethodName := ⟨RX0, "stand", "(LBusThrees$Line;II)I"⟩
abbrev cX0_waitByRule : ByteArray := prog_2_method_14_code
def yX0_waitByRule : MethodName := ⟨RX0, "waitByRule", "(LBusThrees$Rule;II)V"⟩
abbrev cX0_tellVisit : ByteArray := prog_2_method_15_code
def yX0_tellVisit : MethodName := ⟨RX0, "tellVisit", "(II)I"⟩
abbrev cX0_tellWaits : ByteArray := prog_2_method_16_code
def yX0_tellWaits : MethodName := ⟨RX0, "tellWaits", "(II)I"⟩
abbrev cX0_sumOfWaits : ByteArray := prog_2_method_17_code
def yX0_sumOfWaits : MethodName := ⟨RX0, "sumOfWaits", "()J"⟩
abbrev cX0_gapAhead : ByteArray := prog_2_method_18_code
def yX0_gapAhead : MethodName := ⟨RX0, "gapAhead", "(II)I"⟩
abbrev cX0_sumOfGaps : ByteArray := prog_2_method_19_code
def yX0_sumOfGaps : MethodName := ⟨RX0, "sumOfGaps", "(II)I"⟩
abbrev cX0_spreadOfGaps : ByteArray := prog_2_method_20_code
def yX0_spreadOfGaps : MethodName := ⟨RX0, "spreadOfGaps", "(LBusThrees$Line;I)I"⟩
abbrev cX0_firstCloseStop : ByteArray := prog_2_method_21_code
def yX0_firstCloseStop : MethodName := ⟨RX0, "firstCloseStop", "(LBusThrees$Line;)I"⟩
abbrev cX0_firstCloseBus : ByteArray := prog_2_method_22_code
def yX0_firstCloseBus : MethodName := ⟨RX0, "firstCloseBus", "(LBusThrees$Line;I)I"⟩
abbrev cX0_nearestBus : ByteArray := prog_2_method_23_code
def yX0_nearestBus : MethodName := ⟨RX0, "nearestBus", "(LBusThrees$Line;II)I"⟩
abbrev cX0_stopsLeft : ByteArray := prog_2_method_24_code
def yX0_stopsLeft : MethodName := ⟨RX0, "stopsLeft", "(III)I"⟩
abbrev cX0_shownSeconds : ByteArray := prog_2_method_25_code
def yX0_shownSeconds : MethodName := ⟨RX0, "shownSeconds", "(LBusThrees$Line;III)I"⟩
def RX1 : String := "BusThrees$Line"
def TX1 : u_T := fun k => match k with
  | 0 => ("BusThrees$Line", "ride", "[I", true)
  | 1 => ("BusThrees$Line", "gap", "[I", true)
  | 2 => ("BusThrees$Line", "trip", "[I", true)
  | 3 => ("BusThrees$Line", "settings", "[I", true)
  | 4 => ("BusThrees$Line", "second", "[I", true)
  | 5 => ("BusThrees$Line", "seats", "[I", true)
  | 6 => ("BusThrees$Line", "end", "[I", true)
  | 7 => ("BusThrees$Line", "buses", "I", false)
  | 8 => ("BusThrees$Line", "lateBus", "[I", true)
  | 9 => ("BusThrees$Line", "lateStop", "[I", true)
  | 10 => ("BusThrees$Line", "lateSeconds", "[I", true)
  | _ => ("BusThrees$Line", "latenesses", "I", false)
def tyX1 : Nat → FieldType := fun k => match k with
  | 0 => .array .int
  | 1 => .array .int
  | 2 => .array .int
  | 3 => .array .int
  | 4 => .array .int
  | 5 => .array .int
  | 6 => .array .int
  | 7 => .int
  | 8 => .array .int
  | 9 => .array .int
  | 10 => .array .int
  | _ => .int
abbrev wsX10 : List Cond := u_ws RX1 TX1 12
theorem nmX1 : ∀ a, a < 12 → ∀ b, b < 12 → a ≠ b → (TX1 a).2.1 ≠ (TX1 b).2.1 := by decide +kernel
theorem tyX1_ok : ∀ k, k < 12 → parseFieldDescriptor (TX1 k).2.2.1 = some (tyX1 k) := by decide +kernel
abbrev cX1_init : ByteArray := prog_3_method_1_code
def yX1_init : MethodName := ⟨RX1, "<init>", "()V"⟩
abbrev cX1_allowsAtStop : ByteArray := prog_3_method_2_code
def yX1_allowsAtStop : MethodName := ⟨RX1, "allowsAtStop", "(II)Z"⟩
abbrev cX1_changeStop : ByteArray := prog_3_method_3_code
def yX1_changeStop : MethodName := ⟨RX1, "changeStop", "(III)I"⟩
abbrev cX1_earliestNewBus : ByteArray := prog_3_method_4_code
def yX1_earliestNewBus : MethodName := ⟨RX1, "earliestNewBus", "()I"⟩
abbrev cX1_addBus : ByteArray := prog_3_method_5_code
def yX1_addBus : MethodName := ⟨RX1, "addBus", "(II)I"⟩
abbrev cX1_addLateness : ByteArray := prog_3_method_6_code
def yX1_addLateness : MethodName := ⟨RX1, "addLateness", "(III)I"⟩
abbrev cX1_hasBus : ByteArray := prog_3_method_7_code
def yX1_hasBus : MethodName := ⟨RX1, "hasBus", "(I)Z"⟩
abbrev cX1_comes : ByteArray := prog_3_method_8_code
def yX1_comes : MethodName := ⟨RX1, "comes", "(II)Z"⟩
abbrev cX1_goesOn : ByteArray := prog_3_method_9_code
def yX1_goesOn : MethodName := ⟨RX1, "goesOn", "(II)Z"⟩
abbrev cX1_goal : ByteArray := prog_3_method_10_code
def yX1_goal : MethodName := ⟨RX1, "goal", "(I)I"⟩
abbrev cX1_come : ByteArray := prog_3_method_11_code
def yX1_come : MethodName := ⟨RX1, "come", "(II)I"⟩
def RX2 : String := "BusThrees$Rule"
def TX2 : u_T := fun k => match k with
  | 0 => ("BusThrees$Rule", "letter", "[I", true)
  | 1 => ("BusThrees$Rule", "number", "[I", true)
  | _ => ("BusThrees$Rule", "lines", "I", false)
def tyX2 : Nat → FieldType := fun k => match k with
  | 0 => .array .int
  | 1 => .array .int
  | _ => .int
abbrev wsX20 : List Cond := u_ws RX2 TX2 3
theorem nmX2 : ∀ a, a < 3 → ∀ b, b < 3 → a ≠ b → (TX2 a).2.1 ≠ (TX2 b).2.1 := by decide +kernel
theorem tyX2_ok : ∀ k, k < 3 → parseFieldDescriptor (TX2 k).2.2.1 = some (tyX2 k) := by decide +kernel
abbrev cX2_init : ByteArray := prog_4_method_1_code
def yX2_init : MethodName := ⟨RX2, "<init>", "()V"⟩
abbrev cX2_clear : ByteArray := prog_4_method_2_code
def yX2_clear : MethodName := ⟨RX2, "clear", "()V"⟩
abbrev cX2_keepOnlyGap : ByteArray := prog_4_method_3_code
def yX2_keepOnlyGap : MethodName := ⟨RX2, "keepOnlyGap", "(II)V"⟩
abbrev cX2_soonest : ByteArray := prog_4_method_4_code
def yX2_soonest : MethodName := ⟨RX2, "soonest", "(III)I"⟩
def RX3 : String := "BusThrees$Signs"
def TX3 : u_T := fun k => match k with
  | 0 => ("BusThrees$Signs", "row", "[I", true)
  | 1 => ("BusThrees$Signs", "count", "I", false)
  | 2 => ("BusThrees$Signs", "digits", "I", false)
  | _ => ("BusThrees$Signs", "stop", "I", false)
def tyX3 : Nat → FieldType := fun k => match k with
  | 0 => .array .int
  | 1 => .int
  | 2 => .int
  | _ => .int
abbrev wsX30 : List Cond := u_ws RX3 TX3 4
theorem nmX3 : ∀ a, a < 4 → ∀ b, b < 4 → a ≠ b → (TX3 a).2.1 ≠ (TX3 b).2.1 := by decide +kernel
theorem tyX3_ok : ∀ k, k < 4 → parseFieldDescriptor (TX3 k).2.2.1 = some (tyX3 k) := by decide +kernel
abbrev cX3_init : ByteArray := prog_5_method_1_code
def yX3_init : MethodName := ⟨RX3, "<init>", "()V"⟩
abbrev cX3_add : ByteArray := prog_5_method_2_code
def yX3_add : MethodName := ⟨RX3, "add", "(I)I"⟩
abbrev cX3_readInto : ByteArray := prog_5_method_3_code
def yX3_readInto : MethodName := ⟨RX3, "readInto", "(LBusThrees$Rule;)I"⟩
abbrev cX3_reads : ByteArray := prog_5_method_4_code
def yX3_reads : MethodName := ⟨RX3, "reads", "(ILBusThrees$Rule;)Z"⟩
abbrev cX3_readsStop : ByteArray := prog_5_method_5_code
def yX3_readsStop : MethodName := ⟨RX3, "readsStop", "(ILBusThrees$Rule;)Z"⟩
abbrev cX3_readsLetter : ByteArray := prog_5_method_6_code
def yX3_readsLetter : MethodName := ⟨RX3, "readsLetter", "(ILBusThrees$Rule;)Z"⟩
abbrev cX3_readsDigit : ByteArray := prog_5_method_7_code
def yX3_readsDigit : MethodName := ⟨RX3, "readsDigit", "(ILBusThrees$Rule;)Z"⟩
abbrev cX3_readsBetween : ByteArray := prog_5_method_8_code
def yX3_readsBetween : MethodName := ⟨RX3, "readsBetween", "(LBusThrees$Rule;)Z"⟩
abbrev cX3_isDigit : ByteArray := prog_5_method_9_code
def yX3_isDigit : MethodName := ⟨RX3, "isDigit", "(I)Z"⟩
def RX4 : String := "BusThrees"
def TX4 : u_T := fun k => match k with
  | 0 => ("BusThrees", "line", "LBusThrees$Line;", true)
  | 1 => ("BusThrees", "signs", "LBusThrees$Signs;", true)
  | 2 => ("BusThrees", "course", "LBusThrees$Course;", true)
  | 3 => ("BusThrees", "trial", "LBusThrees$Course;", true)
  | 4 => ("BusThrees", "rule", "LBusThrees$Rule;", false)
  | 5 => ("BusThrees", "spare", "LBusThrees$Rule;", false)
  | 6 => ("BusThrees", "courseKnown", "Z", false)
  | 7 => ("BusThrees", "bestKnown", "Z", false)
  | 8 => ("BusThrees", "bestStop", "I", false)
  | _ => ("BusThrees", "bestGap", "I", false)
def tyX4 : Nat → FieldType := fun k => match k with
  | 0 => .object "BusThrees$Line"
  | 1 => .object "BusThrees$Signs"
  | 2 => .object "BusThrees$Course"
  | 3 => .object "BusThrees$Course"
  | 4 => .object "BusThrees$Rule"
  | 5 => .object "BusThrees$Rule"
  | 6 => .boolean
  | 7 => .boolean
  | 8 => .int
  | _ => .int
abbrev wsX40 : List Cond := u_ws RX4 TX4 10
theorem nmX4 : ∀ a, a < 10 → ∀ b, b < 10 → a ≠ b → (TX4 a).2.1 ≠ (TX4 b).2.1 := by decide +kernel
theorem tyX4_ok : ∀ k, k < 10 → parseFieldDescriptor (TX4 k).2.2.1 = some (tyX4 k) := by decide +kernel
abbrev cX4_init : ByteArray := prog_1_method_1_code
def yX4_init : MethodName := ⟨RX4, "<init>", "()V"⟩
abbrev cX4_stop : ByteArray := prog_1_method_2_code
def yX4_stop : MethodName := ⟨RX4, "stop", "(III)I"⟩
abbrev cX4_bus : ByteArray := prog_1_method_3_code
def yX4_bus : MethodName := ⟨RX4, "bus", "(II)I"⟩
abbrev cX4_set : ByteArray := prog_1_method_4_code
def yX4_set : MethodName := ⟨RX4, "set", "(II)I"⟩
abbrev cX4_late : ByteArray := prog_1_method_5_code
def yX4_late : MethodName := ⟨RX4, "late", "(III)I"⟩
abbrev cX4_mend : ByteArray := prog_1_method_6_code
def yX4_mend : MethodName := ⟨RX4, "mend", "()I"⟩
abbrev cX4_turn : ByteArray := prog_1_method_7_code
def yX4_turn : MethodName := ⟨RX4, "turn", "(II)I"⟩
abbrev cX4_at : ByteArray := prog_1_method_8_code
def yX4_at : MethodName := ⟨RX4, "at", "(III)I"⟩
abbrev cX4_say : ByteArray := prog_1_method_9_code
def yX4_say : MethodName := ⟨RX4, "say", "(I)I"⟩
abbrev cX4_wipe : ByteArray := prog_1_method_10_code
def yX4_wipe : MethodName := ⟨RX4, "wipe", "()I"⟩
abbrev cX4_fault : ByteArray := prog_1_method_11_code
def yX4_fault : MethodName := ⟨RX4, "fault", "()I"⟩
abbrev cX4_rule : ByteArray := prog_1_method_12_code
def yX4_rule : MethodName := ⟨RX4, "rule", "()I"⟩
abbrev cX4_free : ByteArray := prog_1_method_13_code
def yX4_free : MethodName := ⟨RX4, "free", "()I"⟩
abbrev cX4_follow : ByteArray := prog_1_method_14_code
def yX4_follow : MethodName := ⟨RX4, "follow", "(II)I"⟩
abbrev cX4_one : ByteArray := prog_1_method_15_code
def yX4_one : MethodName := ⟨RX4, "one", "(I)I"⟩
abbrev cX4_began : ByteArray := prog_1_method_16_code
def yX4_began : MethodName := ⟨RX4, "began", "()I"⟩
abbrev cX4_spread : ByteArray := prog_1_method_17_code
def yX4_spread : MethodName := ⟨RX4, "spread", "(I)I"⟩
abbrev cX4_waited : ByteArray := prog_1_method_18_code
def yX4_waited : MethodName := ⟨RX4, "waited", "(II)I"⟩
abbrev cX4_mean : ByteArray := prog_1_method_19_code
def yX4_mean : MethodName := ⟨RX4, "mean", "(III)J"⟩
abbrev cX4_all : ByteArray := prog_1_method_20_code
def yX4_all : MethodName := ⟨RX4, "all", "(I)I"⟩
abbrev cX4_held : ByteArray := prog_1_method_21_code
def yX4_held : MethodName := ⟨RX4, "held", "(III)I"⟩
abbrev cX4_board : ByteArray := prog_1_method_22_code
def yX4_board : MethodName := ⟨RX4, "board", "(III)I"⟩
abbrev cX4_best : ByteArray := prog_1_method_23_code
def yX4_best : MethodName := ⟨RX4, "best", "(I)I"⟩
abbrev cX4_told : ByteArray := prog_1_method_24_code
def yX4_told : MethodName := ⟨RX4, "told", "(I)I"⟩
abbrev cX4_isStop : ByteArray := prog_1_method_25_code
def yX4_isStop : MethodName := ⟨RX4, "isStop", "(I)Z"⟩
abbrev cX4_isGoingStop : ByteArray := prog_1_method_26_code
def yX4_isGoingStop : MethodName := ⟨RX4, "isGoingStop", "(I)Z"⟩
abbrev cX4_cell : ByteArray := prog_1_method_27_code
def yX4_cell : MethodName := ⟨RX4, "cell", "(II)I"⟩
abbrev cX4_forgetCourse : ByteArray := prog_1_method_28_code
def yX4_forgetCourse : MethodName := ⟨RX4, "forgetCourse", "()V"⟩
abbrev cX4_presentCourse : ByteArray := prog_1_method_29_code
def yX4_presentCourse : MethodName := ⟨RX4, "presentCourse", "()LBusThrees$Course;"⟩
abbrev cX4_findBest : ByteArray := prog_1_method_30_code
def yX4_findBest : MethodName := ⟨RX4, "findBest", "()V"⟩
abbrev cX4_partOfFraction : ByteArray := prog_1_method_31_code
def yX4_partOfFraction : MethodName := ⟨RX4, "partOfFraction", "(JJI)J"⟩
abbrev cX4_commonDivisor : ByteArray := prog_1_method_32_code
def yX4_commonDivisor : MethodName := ⟨RX4, "commonDivisor", "(JJ)J"⟩
def RX5 : String := "BusThreesModel"
def TX5 : u_T := fun k => match k with
  | 0 => ("BusThreesModel", "ride", "[I", true)
  | 1 => ("BusThreesModel", "gap", "[I", true)
  | 2 => ("BusThreesModel", "trip", "[I", true)
  | 3 => ("BusThreesModel", "buses", "I", false)
  | 4 => ("BusThreesModel", "begins", "[I", true)
  | 5 => ("BusThreesModel", "seats", "[I", true)
  | 6 => ("BusThreesModel", "turned", "[I", true)
  | 7 => ("BusThreesModel", "told", "[I", true)
  | 8 => ("BusThreesModel", "late", "I", false)
  | 9 => ("BusThreesModel", "lateBus", "[I", true)
  | 10 => ("BusThreesModel", "lateStop", "[I", true)
  | 11 => ("BusThreesModel", "lateSeconds", "[I", true)
  | 12 => ("BusThreesModel", "signs", "I", false)
  | 13 => ("BusThreesModel", "sign", "[I", true)
  | 14 => ("BusThreesModel", "lines", "I", false)
  | 15 => ("BusThreesModel", "waitHow", "[I", true)
  | 16 => ("BusThreesModel", "waitBy", "[I", true)
  | 17 => ("BusThreesModel", "comes", "[I", true)
  | 18 => ("BusThreesModel", "leaves", "[I", true)
  | 19 => ("BusThreesModel", "on", "[I", true)
  | 20 => ("BusThreesModel", "off", "[I", true)
  | 21 => ("BusThreesModel", "inside", "[I", true)
  | 22 => ("BusThreesModel", "left", "[I", true)
  | 23 => ("BusThreesModel", "wants", "[I", true)
  | 24 => ("BusThreesModel", "since", "[I", true)
  | 25 => ("BusThreesModel", "waiters", "[I", true)
  | 26 => ("BusThreesModel", "waited", "[I", true)
  | 27 => ("BusThreesModel", "longest", "[I", true)
  | 28 => ("BusThreesModel", "order", "[I", true)
  | 29 => ("BusThreesModel", "rode", "I", false)
  | 30 => ("BusThreesModel", "stranded", "I", false)
  | 31 => ("BusThreesModel", "taken", "I", false)
  | 32 => ("BusThreesModel", "going", "I", false)
  | 33 => ("BusThreesModel", "row", "[I", true)
  | 34 => ("BusThreesModel", "oneBus", "I", false)
  | 35 => ("BusThreesModel", "keptHow", "[I", true)
  | _ => ("BusThreesModel", "keptBy", "[I", true)
def tyX5 : Nat → FieldType := fun k => match k with
  | 0 => .array .int
  | 1 => .array .int
  | 2 => .array .int
  | 3 => .int
  | 4 => .array .int
  | 5 => .array .int
  | 6 => .array .int
  | 7 => .array .int
  | 8 => .int
  | 9 => .array .int
  | 10 => .array .int
  | 11 => .array .int
  | 12 => .int
  | 13 => .array .int
  | 14 => .int
  | 15 => .array .int
  | 16 => .array .int
  | 17 => .array .int
  | 18 => .array .int
  | 19 => .array .int
  | 20 => .array .int
  | 21 => .array .int
  | 22 => .array .int
  | 23 => .array .int
  | 24 => .array .int
  | 25 => .array .int
  | 26 => .array .int
  | 27 => .array .int
  | 28 => .array .int
  | 29 => .int
  | 30 => .int
  | 31 => .int
  | 32 => .int
  | 33 => .array .int
  | 34 => .int
  | 35 => .array .int
  | _ => .array .int
abbrev wsX50 : List Cond := u_ws RX5 TX5 37
theorem nmX5 : ∀ a, a < 37 → ∀ b, b < 37 → a ≠ b → (TX5 a).2.1 ≠ (TX5 b).2.1 := by decide +kernel
theorem tyX5_ok : ∀ k, k < 37 → parseFieldDescriptor (TX5 k).2.2.1 = some (tyX5 k) := by decide +kernel
abbrev cX5_init : ByteArray := prog_7_method_1_code
def yX5_init : MethodName := ⟨RX5, "<init>", "()V"⟩
abbrev cX5_in : ByteArray := prog_7_method_2_code
def yX5_in : MethodName := ⟨RX5, "in", "(III)Z"⟩
abbrev cX5_isOn : ByteArray := prog_7_method_3_code
def yX5_isOn : MethodName := ⟨RX5, "isOn", "(I)Z"⟩
abbrev cX5_isBus : ByteArray := prog_7_method_4_code
def yX5_isBus : MethodName := ⟨RX5, "isBus", "(I)Z"⟩
abbrev cX5_stop : ByteArray := prog_7_method_5_code
def yX5_stop : MethodName := ⟨RX5, "stop", "(III)I"⟩
abbrev cX5_bus : ByteArray := prog_7_method_6_code
def yX5_bus : MethodName := ⟨RX5, "bus", "(II)I"⟩
abbrev cX5_set : ByteArray := prog_7_method_7_code
def yX5_set : MethodName := ⟨RX5, "set", "(II)I"⟩
abbrev cX5_late : ByteArray := prog_7_method_8_code
def yX5_late : MethodName := ⟨RX5, "late", "(III)I"⟩
abbrev cX5_mend : ByteArray := prog_7_method_9_code
def yX5_mend : MethodName := ⟨RX5, "mend", "()I"⟩
abbrev cX5_turn : ByteArray := prog_7_method_10_code
def yX5_turn : MethodName := ⟨RX5, "turn", "(II)I"⟩
abbrev cX5_lateAt : ByteArray := prog_7_method_11_code
def yX5_lateAt : MethodName := ⟨RX5, "lateAt", "(III)I"⟩
abbrev cX5_layOrder : ByteArray := prog_7_method_12_code
def yX5_layOrder : MethodName := ⟨RX5, "layOrder", "(I)I"⟩
abbrev cX5_getOff : ByteArray := prog_7_method_13_code
def yX5_getOff : MethodName := ⟨RX5, "getOff", "(IIZ)I"⟩
abbrev cX5_getOn : ByteArray := prog_7_method_14_code
def yX5_getOn : MethodName := ⟨RX5, "getOn", "(III)I"⟩
abbrev cX5_atStop : ByteArray := prog_7_method_15_code
def yX5_atStop : MethodName := ⟨RX5, "atStop", "(II)V"⟩
abbrev cX5_lay : ByteArray := prog_7_method_16_code
def yX5_lay : MethodName := ⟨RX5, "lay", "(I)V"⟩
abbrev cX5_at : ByteArray := prog_7_method_17_code
def yX5_at : MethodName := ⟨RX5, "at", "(III)I"⟩
abbrev cX5_say : ByteArray := prog_7_method_18_code
def yX5_say : MethodName := ⟨RX5, "say", "(I)I"⟩
abbrev cX5_wipe : ByteArray := prog_7_method_19_code
def yX5_wipe : MethodName := ⟨RX5, "wipe", "()I"⟩
abbrev cX5_faultOf : ByteArray := prog_7_method_20_code
def yX5_faultOf : MethodName := ⟨RX5, "faultOf", "()I"⟩
abbrev cX5_fault : ByteArray := prog_7_method_21_code
def yX5_fault : MethodName := ⟨RX5, "fault", "()I"⟩
abbrev cX5_clearRule : ByteArray := prog_7_method_22_code
def yX5_clearRule : MethodName := ⟨RX5, "clearRule", "()V"⟩
abbrev cX5_rule : ByteArray := prog_7_method_23_code
def yX5_rule : MethodName := ⟨RX5, "rule", "()I"⟩
abbrev cX5_free : ByteArray := prog_7_method_24_code
def yX5_free : MethodName := ⟨RX5, "free", "()I"⟩
abbrev cX5_layGoing : ByteArray := prog_7_method_25_code
def yX5_layGoing : MethodName := ⟨RX5, "layGoing", "(I)V"⟩
abbrev cX5_followOf : ByteArray := prog_7_method_26_code
def yX5_followOf : MethodName := ⟨RX5, "followOf", "(II)I"⟩
abbrev cX5_follow : ByteArray := prog_7_method_27_code
def yX5_follow : MethodName := ⟨RX5, "follow", "(II)I"⟩
abbrev cX5_oneOf : ByteArray := prog_7_method_28_code
def yX5_oneOf : MethodName := ⟨RX5, "oneOf", "()I"⟩
abbrev cX5_one : ByteArray := prog_7_method_29_code
def yX5_one : MethodName := ⟨RX5, "one", "(I)I"⟩
abbrev cX5_began : ByteArray := prog_7_method_30_code
def yX5_began : MethodName := ⟨RX5, "began", "()I"⟩
abbrev cX5_spread : ByteArray := prog_7_method_31_code
def yX5_spread : MethodName := ⟨RX5, "spread", "(I)I"⟩
abbrev cX5_waited : ByteArray := prog_7_method_32_code
def yX5_waited : MethodName := ⟨RX5, "waited", "(II)I"⟩
abbrev cX5_term : ByteArray := prog_7_method_33_code
def yX5_term : MethodName := ⟨RX5, "term", "(JJI)J"⟩
abbrev cX5_mean : ByteArray := prog_7_method_34_code
def yX5_mean : MethodName := ⟨RX5, "mean", "(III)J"⟩
abbrev cX5_allWaited : ByteArray := prog_7_method_35_code
def yX5_allWaited : MethodName := ⟨RX5, "allWaited", "()I"⟩
abbrev cX5_all : ByteArray := prog_7_method_36_code
def yX5_all : MethodName := ⟨RX5, "all", "(I)I"⟩
abbrev cX5_held : ByteArray := prog_7_method_37_code
def yX5_held : MethodName := ⟨RX5, "held", "(III)I"⟩
abbrev cX5_board : ByteArray := prog_7_method_38_code
def yX5_board : MethodName := ⟨RX5, "board", "(III)I"⟩
abbrev cX5_best : ByteArray := prog_7_method_39_code
def yX5_best : MethodName := ⟨RX5, "best", "(I)I"⟩
abbrev cX5_told : ByteArray := prog_7_method_40_code
def yX5_told : MethodName := ⟨RX5, "told", "(I)I"⟩
def RJ9 : String := "java/lang/Math"
def TJ9 : u_T := fun k => match k with
  | _ => ("", "", "", false)
def tyJ9 : Nat → FieldType := fun k => match k with
  | _ => .int
abbrev wsJ90 : List Cond := u_ws RJ9 TJ9 0
theorem nmJ9 : ∀ a, a < 0 → ∀ b, b < 0 → a ≠ b → (TJ9 a).2.1 ≠ (TJ9 b).2.1 := by decide +kernel
theorem tyJ9_ok : ∀ k, k < 0 → parseFieldDescriptor (TJ9 k).2.2.1 = some (tyJ9 k) := by decide +kernel
abbrev cJ9_max_7cf53 : ByteArray := prog_8_method_65_code
def yJ9_max_7cf53 : MethodName := ⟨RJ9, "max", "(II)I"⟩
abbrev cJ9_min_7cf53 : ByteArray := prog_8_method_69_code
def yJ9_min_7cf53 : MethodName := ⟨RJ9, "min", "(II)I"⟩
def RJ7 : String := "java/util/Arrays"
def TJ7 : u_T := fun k => match k with
  | _ => ("", "", "", false)
def tyJ7 : Nat → FieldType := fun k => match k with
  | _ => .int
abbrev wsJ70 : List Cond := u_ws RJ7 TJ7 0
theorem nmJ7 : ∀ a, a < 0 → ∀ b, b < 0 → a ≠ b → (TJ7 a).2.1 ≠ (TJ7 b).2.1 := by decide +kernel
theorem tyJ7_ok : ∀ k, k < 0 → parseFieldDescriptor (TJ7 k).2.2.1 = some (tyJ7 k) := by decide +kernel
abbrev cJ7_fill_d0a16 : ByteArray := prog_9_method_101_code
def yJ7_fill_d0a16 : MethodName := ⟨RJ7, "fill", "([JJ)V"⟩
abbrev cJ7_fill_53178 : ByteArray := prog_9_method_103_code
def yJ7_fill_53178 : MethodName := ⟨RJ7, "fill", "([II)V"⟩
def RL : String := "BusThreesLaw"
abbrev cL_law : ByteArray := code
def yL_law : MethodName := ⟨RL, "law", "([I)Z"⟩
abbrev vwCl : List vw_C := [(RX0, TX0, 15), (RX1, TX1, 12), (RX2, TX2, 3), (RX3, TX3, 4), (RX4, TX4, 10), (RX5, TX5, 37)]
end
section
def wsL_law_r1 : List Cond := [Cond.classLink RL 7 RX4, Cond.instantiable RX4 10, Cond.initialized RX4, Cond.classLink RL 10 RX5, Cond.instantiable RX5 37, Cond.initialized RX5, Cond.methodLink RL 9 yX4_init, Cond.instanceMethod yX4_init, Cond.code yX4_init cX4_init 1 none, Cond.methodLink RX4 1 objectInit, Cond.instanceMethod objectInit, Cond.code objectInit ⟨#[0xb1]⟩ 1 none, Cond.classLink RX4 7 RX1, Cond.instantiable RX1 12, Cond.initialized RX1, Cond.fieldLink RX4 10 "BusThrees" "line" "LBusThrees$Line;", Cond.classLink RX4 16 RX3, Cond.instantiable RX3 4, Cond.initialized RX3, Cond.fieldLink RX4 19 "BusThrees" "signs" "LBusThrees$Signs;", Cond.classLink RX4 23 RX0, Cond.instantiable RX0 15, Cond.initialized RX0, Cond.fieldLink RX4 26 "BusThrees" "course" "LBusThrees$Course;"]
def wsL_law_r2 : List Cond := [Cond.fieldLink RX4 30 "BusThrees" "trial" "LBusThrees$Course;", Cond.classLink RX4 33 RX2, Cond.instantiable RX2 3, Cond.initialized RX2, Cond.fieldLink RX4 36 "BusThrees" "rule" "LBusThrees$Rule;", Cond.fieldLink RX4 40 "BusThrees" "spare" "LBusThrees$Rule;", Cond.methodLink RX4 9 yX1_init, Cond.instanceMethod yX1_init, Cond.code yX1_init cX1_init 1 none, Cond.methodLink RX1 3 objectInit, Cond.arrayClass .int, Cond.fieldLink RX1 9 "BusThrees$Line" "ride" "[I", Cond.fieldLink RX1 15 "BusThrees$Line" "gap" "[I", Cond.fieldLink RX1 18 "BusThrees$Line" "trip" "[I", Cond.fieldLink RX1 21 "BusThrees$Line" "settings" "[I", Cond.fieldLink RX1 24 "BusThrees$Line" "second" "[I", Cond.fieldLink RX1 27 "BusThrees$Line" "seats" "[I", Cond.fieldLink RX1 30 "BusThrees$Line" "end" "[I", Cond.fieldLink RX1 33 "BusThrees$Line" "lateBus" "[I", Cond.fieldLink RX1 36 "BusThrees$Line" "lateStop" "[I", Cond.fieldLink RX1 39 "BusThrees$Line" "lateSeconds" "[I", Cond.methodLink RX1 42 yJ7_fill_53178, Cond.static yJ7_fill_53178, Cond.initialized RJ7]
def wsL_law_r3 : List Cond := [Cond.code yJ7_fill_53178 cJ7_fill_53178 4 none, Cond.instanceMethod yX3_init, Cond.code yX3_init cX3_init 1 none, Cond.methodLink RX3 3 objectInit, Cond.fieldLink RX3 9 "BusThrees$Signs" "row" "[I", Cond.instanceMethod yX0_init, Cond.code yX0_init cX0_init 1 none, Cond.methodLink RX0 3 objectInit, Cond.fieldLink RX0 9 "BusThrees$Course" "come" "[I", Cond.fieldLink RX0 15 "BusThrees$Course" "leave" "[I", Cond.fieldLink RX0 18 "BusThrees$Course" "on" "[I", Cond.fieldLink RX0 21 "BusThrees$Course" "off" "[I", Cond.fieldLink RX0 24 "BusThrees$Course" "inside" "[I", Cond.fieldLink RX0 27 "BusThrees$Course" "left" "[I", Cond.fieldLink RX0 30 "BusThrees$Course" "extra" "[I", Cond.fieldLink RX0 33 "BusThrees$Course" "taken" "[I", Cond.arrayClass .long, Cond.fieldLink RX0 36 "BusThrees$Course" "waits" "[J", Cond.fieldLink RX0 40 "BusThrees$Course" "longest" "[I", Cond.fieldLink RX0 43 "BusThrees$Course" "order" "[I", Cond.instanceMethod yX2_init, Cond.code yX2_init cX2_init 1 none, Cond.methodLink RX2 3 objectInit, Cond.fieldLink RX2 9 "BusThrees$Rule" "letter" "[I"]
def wsL_law_r4 : List Cond := [Cond.fieldLink RX2 15 "BusThrees$Rule" "number" "[I", Cond.methodLink RL 12 yX5_init, Cond.instanceMethod yX5_init, Cond.code yX5_init cX5_init 2 none, Cond.methodLink RX5 1 objectInit, Cond.fieldLink RX5 7 "BusThreesModel" "ride" "[I", Cond.fieldLink RX5 13 "BusThreesModel" "gap" "[I", Cond.fieldLink RX5 16 "BusThreesModel" "trip" "[I", Cond.fieldLink RX5 19 "BusThreesModel" "begins" "[I", Cond.fieldLink RX5 22 "BusThreesModel" "seats" "[I", Cond.fieldLink RX5 25 "BusThreesModel" "turned" "[I", Cond.fieldLink RX5 28 "BusThreesModel" "told" "[I", Cond.fieldLink RX5 31 "BusThreesModel" "lateBus" "[I", Cond.fieldLink RX5 34 "BusThreesModel" "lateStop" "[I", Cond.fieldLink RX5 37 "BusThreesModel" "lateSeconds" "[I", Cond.fieldLink RX5 40 "BusThreesModel" "sign" "[I", Cond.fieldLink RX5 43 "BusThreesModel" "waitHow" "[I", Cond.fieldLink RX5 46 "BusThreesModel" "waitBy" "[I", Cond.fieldLink RX5 49 "BusThreesModel" "comes" "[I", Cond.fieldLink RX5 52 "BusThreesModel" "leaves" "[I", Cond.fieldLink RX5 55 "BusThreesModel" "on" "[I", Cond.fieldLink RX5 58 "BusThreesModel" "off" "[I", Cond.fieldLink RX5 61 "BusThreesModel" "inside" "[I", Cond.fieldLink RX5 64 "BusThreesModel" "left" "[I"]
def wsL_law_r5 : List Cond := [Cond.fieldLink RX5 67 "BusThreesModel" "wants" "[I", Cond.fieldLink RX5 70 "BusThreesModel" "since" "[I", Cond.fieldLink RX5 73 "BusThreesModel" "waiters" "[I", Cond.fieldLink RX5 76 "BusThreesModel" "waited" "[I", Cond.fieldLink RX5 79 "BusThreesModel" "longest" "[I", Cond.fieldLink RX5 82 "BusThreesModel" "order" "[I", Cond.fieldLink RX5 85 "BusThreesModel" "row" "[I", Cond.fieldLink RX5 88 "BusThreesModel" "keptHow" "[I", Cond.fieldLink RX5 91 "BusThreesModel" "keptBy" "[I", Cond.methodLink RL 13 yX4_stop, Cond.instanceMethod yX4_stop, Cond.selects RX4 yX4_stop yX4_stop, Cond.code yX4_stop cX4_stop 4 (some .int), Cond.methodLink RX4 43 yX4_isGoingStop, Cond.static yX4_isGoingStop, Cond.code yX4_isGoingStop cX4_isGoingStop 1 (some .boolean), Cond.methodLink RX4 47 yX1_allowsAtStop, Cond.static yX1_allowsAtStop, Cond.code yX1_allowsAtStop cX1_allowsAtStop 2 (some .boolean), Cond.methodLink RX4 51 yX4_forgetCourse, Cond.instanceMethod yX4_forgetCourse, Cond.selects RX4 yX4_forgetCourse yX4_forgetCourse, Cond.code yX4_forgetCourse cX4_forgetCourse 1 none, Cond.fieldLink RX4 214 "BusThrees" "courseKnown" "Z"]
def wsL_law_r6 : List Cond := [Cond.fieldLink RX4 201 "BusThrees" "bestKnown" "Z", Cond.methodLink RX4 54 yX1_changeStop, Cond.instanceMethod yX1_changeStop, Cond.selects RX1 yX1_changeStop yX1_changeStop, Cond.code yX1_changeStop cX1_changeStop 6 (some .int), Cond.methodLink RL 17 yX5_stop, Cond.instanceMethod yX5_stop, Cond.selects RX5 yX5_stop yX5_stop, Cond.code yX5_stop cX5_stop 6 (some .int), Cond.methodLink RX5 102 yX5_isOn, Cond.static yX5_isOn, Cond.code yX5_isOn cX5_isOn 1 (some .boolean), Cond.methodLink RX5 94 yX5_in, Cond.static yX5_in, Cond.code yX5_in cX5_in 3 (some .boolean), Cond.methodLink RL 18 yX4_bus, Cond.instanceMethod yX4_bus, Cond.selects RX4 yX4_bus yX4_bus, Cond.code yX4_bus cX4_bus 3 (some .int), Cond.fieldLink RX4 62 "BusThrees$Line" "buses" "I", Cond.methodLink RX4 58 yX1_earliestNewBus, Cond.instanceMethod yX1_earliestNewBus, Cond.selects RX1 yX1_earliestNewBus yX1_earliestNewBus, Cond.code yX1_earliestNewBus cX1_earliestNewBus 1 (some .int)]
def wsL_law_r7 : List Cond := [Cond.fieldLink RX1 48 "BusThrees$Line" "buses" "I", Cond.methodLink RX4 66 yX1_addBus, Cond.instanceMethod yX1_addBus, Cond.selects RX1 yX1_addBus yX1_addBus, Cond.code yX1_addBus cX1_addBus 3 (some .int), Cond.methodLink RL 22 yX5_bus, Cond.instanceMethod yX5_bus, Cond.selects RX5 yX5_bus yX5_bus, Cond.code yX5_bus cX5_bus 3 (some .int), Cond.fieldLink RX5 98 "BusThreesModel" "buses" "I", Cond.methodLink RL 23 yX4_set, Cond.instanceMethod yX4_set, Cond.selects RX4 yX4_set yX4_set, Cond.code yX4_set cX4_set 4 (some .int), Cond.fieldLink RX4 70 "BusThrees" "MOST_OF_SETTING" "[I", Cond.fieldLink RX4 74 "BusThrees$Line" "settings" "[I", Cond.methodLink RL 26 yX5_set, Cond.instanceMethod yX5_set, Cond.selects RX5 yX5_set yX5_set, Cond.code yX5_set cX5_set 4 (some .int), Cond.methodLink RL 27 yX4_late, Cond.instanceMethod yX4_late, Cond.selects RX4 yX4_late yX4_late, Cond.code yX4_late cX4_late 4 (some .int)]
def wsL_law_r8 : List Cond := [Cond.fieldLink RX4 80 "BusThrees$Line" "latenesses" "I", Cond.methodLink RX4 77 yX1_hasBus, Cond.instanceMethod yX1_hasBus, Cond.selects RX1 yX1_hasBus yX1_hasBus, Cond.code yX1_hasBus cX1_hasBus 2 (some .boolean), Cond.methodLink RX4 83 yX1_addLateness, Cond.instanceMethod yX1_addLateness, Cond.selects RX1 yX1_addLateness yX1_addLateness, Cond.code yX1_addLateness cX1_addLateness 4 (some .int), Cond.fieldLink RX1 52 "BusThrees$Line" "latenesses" "I", Cond.methodLink RL 30 yX5_late, Cond.instanceMethod yX5_late, Cond.selects RX5 yX5_late yX5_late, Cond.code yX5_late cX5_late 4 (some .int), Cond.fieldLink RX5 109 "BusThreesModel" "late" "I", Cond.methodLink RX5 106 yX5_isBus, Cond.instanceMethod yX5_isBus, Cond.selects RX5 yX5_isBus yX5_isBus, Cond.code yX5_isBus cX5_isBus 2 (some .boolean), Cond.methodLink RL 31 yX4_mend, Cond.instanceMethod yX4_mend, Cond.selects RX4 yX4_mend yX4_mend, Cond.code yX4_mend cX4_mend 1 (some .int), Cond.methodLink RL 35 yX5_mend]
def wsL_law_r9 : List Cond := [Cond.instanceMethod yX5_mend, Cond.selects RX5 yX5_mend yX5_mend, Cond.code yX5_mend cX5_mend 1 (some .int), Cond.methodLink RL 36 yX4_turn, Cond.instanceMethod yX4_turn, Cond.selects RX4 yX4_turn yX4_turn, Cond.code yX4_turn cX4_turn 4 (some .int), Cond.fieldLink RX4 86 "BusThrees$Line" "end" "[I", Cond.methodLink RL 39 yX5_turn, Cond.instanceMethod yX5_turn, Cond.selects RX5 yX5_turn yX5_turn, Cond.code yX5_turn cX5_turn 4 (some .int), Cond.methodLink RL 40 yX4_at, Cond.instanceMethod yX4_at, Cond.selects RX4 yX4_at yX4_at, Cond.code yX4_at cX4_at 4 (some .int), Cond.methodLink RX4 89 yX4_isStop, Cond.static yX4_isStop, Cond.code yX4_isStop cX4_isStop 1 (some .boolean), Cond.methodLink RX4 92 yX1_comes, Cond.instanceMethod yX1_comes, Cond.selects RX1 yX1_comes yX1_comes, Cond.code yX1_comes cX1_comes 3 (some .boolean), Cond.methodLink RX4 95 yX4_presentCourse]
def wsL_law_r10 : List Cond := [Cond.instanceMethod yX4_presentCourse, Cond.selects RX4 yX4_presentCourse yX4_presentCourse, Cond.code yX4_presentCourse cX4_presentCourse 1 (some (.object "BusThrees$Course")), Cond.methodLink RX4 141 yX0_layLatenesses, Cond.instanceMethod yX0_layLatenesses, Cond.selects RX0 yX0_layLatenesses yX0_layLatenesses, Cond.code yX0_layLatenesses cX0_layLatenesses 4 none, Cond.fieldLink RX0 52 "BusThrees$Line" "latenesses" "I", Cond.fieldLink RX0 58 "BusThrees$Line" "lateBus" "[I", Cond.fieldLink RX0 61 "BusThrees$Line" "lateStop" "[I", Cond.fieldLink RX0 68 "BusThrees$Line" "lateSeconds" "[I", Cond.methodLink RX0 46 yJ7_fill_53178, Cond.static yX4_cell, Cond.code yX4_cell cX4_cell 2 (some .int), Cond.methodLink RX4 145 yX0_play, Cond.instanceMethod yX0_play, Cond.selects RX0 yX0_play yX0_play, Cond.code yX0_play cX0_play 4 none, Cond.fieldLink RX0 74 "BusThrees$Course" "rode" "J", Cond.fieldLink RX0 78 "BusThrees$Course" "stranded" "I", Cond.methodLink RX0 71 yJ7_fill_d0a16, Cond.static yJ7_fill_d0a16, Cond.code yJ7_fill_d0a16 cJ7_fill_d0a16 5 none, Cond.methodLink RX0 81 yX0_playStop]
def wsL_law_r11 : List Cond := [Cond.instanceMethod yX0_playStop, Cond.selects RX0 yX0_playStop yX0_playStop, Cond.code yX0_playStop cX0_playStop 6 none, Cond.fieldLink RX0 85 "BusThrees$Course" "latest" "I", Cond.fieldLink RX0 88 "BusThrees$Course" "latestGoing" "I", Cond.methodLink RX0 91 yX0_orderComing, Cond.instanceMethod yX0_orderComing, Cond.selects RX0 yX0_orderComing yX0_orderComing, Cond.code yX0_orderComing cX0_orderComing 6 (some .int), Cond.fieldLink RX0 99 "BusThrees$Line" "buses" "I", Cond.fieldLink RX0 106 "BusThrees$Line" "second" "[I", Cond.fieldLink RX0 109 "BusThrees$Line" "ride" "[I", Cond.methodLink RX0 102 yX1_comes, Cond.methodLink RX0 112 yX0_putInOrder, Cond.instanceMethod yX0_putInOrder, Cond.selects RX0 yX0_putInOrder yX0_putInOrder, Cond.code yX0_putInOrder cX0_putInOrder 6 none, Cond.methodLink RX0 95 yX0_visit, Cond.instanceMethod yX0_visit, Cond.selects RX0 yX0_visit yX0_visit, Cond.code yX0_visit cX0_visit 7 none, Cond.fieldLink RX0 119 "BusThrees$Line" "settings" "[I", Cond.methodLink RX0 122 Lib.Math.max.name, Cond.static Lib.Math.max.name]
def wsL_law_r12 : List Cond := [Cond.initialized "java/lang/Math", Cond.code Lib.Math.max.name Lib.Math.max.code 2 (some .int), Cond.methodLink RX0 127 yX0_countAtGoal, Cond.instanceMethod yX0_countAtGoal, Cond.selects RX0 yX0_countAtGoal yX0_countAtGoal, Cond.code yX0_countAtGoal cX0_countAtGoal 6 (some .int), Cond.methodLink RX0 146 yX1_goal, Cond.instanceMethod yX1_goal, Cond.selects RX1 yX1_goal yX1_goal, Cond.code yX1_goal cX1_goal 2 (some .int), Cond.methodLink RX1 55 Lib.Math.min.name, Cond.static Lib.Math.min.name, Cond.code Lib.Math.min.name Lib.Math.min.code 2 (some .int), Cond.methodLink RX0 116 yX1_goesOn, Cond.instanceMethod yX1_goesOn, Cond.selects RX1 yX1_goesOn yX1_goesOn, Cond.code yX1_goesOn cX1_goesOn 3 (some .boolean), Cond.methodLink RX0 131 yX0_pickUp, Cond.instanceMethod yX0_pickUp, Cond.selects RX0 yX0_pickUp yX0_pickUp, Cond.code yX0_pickUp cX0_pickUp 8 none, Cond.fieldLink RX0 152 "BusThrees$Line" "seats" "[I", Cond.methodLink RX0 155 Lib.Math.min.name, Cond.fieldLink RX0 158 "BusThrees$Line" "gap" "[I"]
def wsL_law_r13 : List Cond := [Cond.methodLink RX0 150 yX1_come, Cond.instanceMethod yX1_come, Cond.selects RX1 yX1_come yX1_come, Cond.code yX1_come cX1_come 3 (some .int), Cond.methodLink RX0 161 yX0_noteWaits, Cond.instanceMethod yX0_noteWaits, Cond.selects RX0 yX0_noteWaits yX0_noteWaits, Cond.code yX0_noteWaits cX0_noteWaits 8 none, Cond.constantLong RX0 165 (2), Cond.methodLink RX0 135 yX0_stand, Cond.instanceMethod yX0_stand, Cond.selects RX0 yX0_stand yX0_stand, Cond.code yX0_stand cX0_stand 5 (some .int), Cond.methodLink RX0 138 yX0_waitByRule, Cond.instanceMethod yX0_waitByRule, Cond.selects RX0 yX0_waitByRule yX0_waitByRule, Cond.code yX0_waitByRule cX0_waitByRule 6 none, Cond.methodLink RX0 167 yX2_soonest, Cond.instanceMethod yX2_soonest, Cond.selects RX2 yX2_soonest yX2_soonest, Cond.code yX2_soonest cX2_soonest 4 (some .int), Cond.methodLink RX0 142 yX0_emptyOut, Cond.instanceMethod yX0_emptyOut, Cond.selects RX0 yX0_emptyOut yX0_emptyOut]
def wsL_law_r14 : List Cond := [Cond.code yX0_emptyOut cX0_emptyOut 4 none, Cond.methodLink RX4 99 yX4_cell, Cond.methodLink RX4 102 yX0_tellVisit, Cond.instanceMethod yX0_tellVisit, Cond.selects RX0 yX0_tellVisit yX0_tellVisit, Cond.code yX0_tellVisit cX0_tellVisit 3 (some .int), Cond.methodLink RL 43 yX5_at, Cond.instanceMethod yX5_at, Cond.selects RX5 yX5_at yX5_at, Cond.code yX5_at cX5_at 5 (some .int), Cond.methodLink RX5 140 yX5_lay, Cond.instanceMethod yX5_lay, Cond.selects RX5 yX5_lay yX5_lay, Cond.code yX5_lay cX5_lay 3 none, Cond.fieldLink RX5 112 "BusThreesModel" "rode" "I", Cond.fieldLink RX5 115 "BusThreesModel" "stranded" "I", Cond.methodLink RX5 136 yX5_atStop, Cond.instanceMethod yX5_atStop, Cond.selects RX5 yX5_atStop yX5_atStop, Cond.code yX5_atStop cX5_atStop 15 none, Cond.fieldLink RX5 118 "BusThreesModel" "taken" "I", Cond.methodLink RX5 121 yX5_layOrder, Cond.instanceMethod yX5_layOrder, Cond.selects RX5 yX5_layOrder yX5_layOrder]
def wsL_law_r15 : List Cond := [Cond.code yX5_layOrder cX5_layOrder 7 (some .int), Cond.methodLink RX5 125 yX5_getOff, Cond.instanceMethod yX5_getOff, Cond.selects RX5 yX5_getOff yX5_getOff, Cond.code yX5_getOff cX5_getOff 8 (some .int), Cond.methodLink RX5 129 yX5_getOn, Cond.instanceMethod yX5_getOn, Cond.selects RX5 yX5_getOn yX5_getOn, Cond.code yX5_getOn cX5_getOn 10 (some .int), Cond.methodLink RX5 133 yX5_lateAt, Cond.instanceMethod yX5_lateAt, Cond.selects RX5 yX5_lateAt yX5_lateAt, Cond.code yX5_lateAt cX5_lateAt 6 (some .int), Cond.methodLink RL 44 yX4_say, Cond.instanceMethod yX4_say, Cond.selects RX4 yX4_say yX4_say, Cond.code yX4_say cX4_say 2 (some .int), Cond.fieldLink RX4 105 "BusThrees$Signs" "count" "I", Cond.methodLink RX4 108 yX3_add, Cond.instanceMethod yX3_add, Cond.selects RX3 yX3_add yX3_add, Cond.code yX3_add cX3_add 2 (some .int), Cond.fieldLink RX3 15 "BusThrees$Signs" "count" "I", Cond.methodLink RL 48 yX5_say]
def wsL_law_r16 : List Cond := [Cond.instanceMethod yX5_say, Cond.selects RX5 yX5_say yX5_say, Cond.code yX5_say cX5_say 2 (some .int), Cond.fieldLink RX5 144 "BusThreesModel" "signs" "I", Cond.methodLink RL 49 yX4_wipe, Cond.instanceMethod yX4_wipe, Cond.selects RX4 yX4_wipe yX4_wipe, Cond.code yX4_wipe cX4_wipe 2 (some .int), Cond.methodLink RL 52 yX5_wipe, Cond.instanceMethod yX5_wipe, Cond.selects RX5 yX5_wipe yX5_wipe, Cond.code yX5_wipe cX5_wipe 2 (some .int), Cond.methodLink RL 53 yX4_fault, Cond.instanceMethod yX4_fault, Cond.selects RX4 yX4_fault yX4_fault, Cond.code yX4_fault cX4_fault 1 (some .int), Cond.methodLink RX4 112 yX3_readInto, Cond.instanceMethod yX3_readInto, Cond.selects RX3 yX3_readInto yX3_readInto, Cond.code yX3_readInto cX3_readInto 3 (some .int), Cond.fieldLink RX3 24 "BusThrees$Signs" "digits" "I", Cond.fieldLink RX3 27 "BusThrees$Signs" "stop" "I", Cond.methodLink RX3 19 yX2_clear, Cond.instanceMethod yX2_clear]
def wsL_law_r17 : List Cond := [Cond.selects RX2 yX2_clear yX2_clear, Cond.code yX2_clear cX2_clear 1 none, Cond.fieldLink RX2 24 "BusThrees$Rule" "lines" "I", Cond.methodLink RX2 18 yJ7_fill_53178, Cond.methodLink RX3 30 yX3_reads, Cond.instanceMethod yX3_reads, Cond.selects RX3 yX3_reads yX3_reads, Cond.code yX3_reads cX3_reads 3 (some .boolean), Cond.methodLink RX3 34 yX3_readsStop, Cond.instanceMethod yX3_readsStop, Cond.selects RX3 yX3_readsStop yX3_readsStop, Cond.code yX3_readsStop cX3_readsStop 3 (some .boolean), Cond.fieldLink RX3 51 "BusThrees$Rule" "letter" "[I", Cond.methodLink RX3 47 yX3_isDigit, Cond.static yX3_isDigit, Cond.code yX3_isDigit cX3_isDigit 1 (some .boolean), Cond.methodLink RX3 37 yX3_readsLetter, Cond.instanceMethod yX3_readsLetter, Cond.selects RX3 yX3_readsLetter yX3_readsLetter, Cond.code yX3_readsLetter cX3_readsLetter 3 (some .boolean), Cond.fieldLink RX3 54 "BusThrees$Rule" "lines" "I", Cond.methodLink RX3 40 yX3_readsBetween, Cond.instanceMethod yX3_readsBetween, Cond.selects RX3 yX3_readsBetween yX3_readsBetween]
def wsL_law_r18 : List Cond := [Cond.code yX3_readsBetween cX3_readsBetween 2 (some .boolean), Cond.methodLink RX3 44 yX3_readsDigit, Cond.instanceMethod yX3_readsDigit, Cond.selects RX3 yX3_readsDigit yX3_readsDigit, Cond.code yX3_readsDigit cX3_readsDigit 3 (some .boolean), Cond.fieldLink RX3 57 "BusThrees$Rule" "number" "[I", Cond.methodLink RL 56 yX5_fault, Cond.instanceMethod yX5_fault, Cond.selects RX5 yX5_fault yX5_fault, Cond.code yX5_fault cX5_fault 1 (some .int), Cond.methodLink RX5 147 yX5_faultOf, Cond.instanceMethod yX5_faultOf, Cond.selects RX5 yX5_faultOf yX5_faultOf, Cond.code yX5_faultOf cX5_faultOf 7 (some .int), Cond.methodLink RL 57 yX4_rule, Cond.instanceMethod yX4_rule, Cond.selects RX4 yX4_rule yX4_rule, Cond.code yX4_rule cX4_rule 2 (some .int), Cond.fieldLink RX4 116 "BusThrees$Rule" "lines" "I", Cond.methodLink RL 60 yX5_rule, Cond.instanceMethod yX5_rule, Cond.selects RX5 yX5_rule yX5_rule, Cond.code yX5_rule cX5_rule 3 (some .int), Cond.fieldLink RX5 151 "BusThreesModel" "lines" "I"]
def wsL_law_r19 : List Cond := [Cond.methodLink RX5 154 yX5_clearRule, Cond.instanceMethod yX5_clearRule, Cond.selects RX5 yX5_clearRule yX5_clearRule, Cond.code yX5_clearRule cX5_clearRule 2 none, Cond.methodLink RL 61 yX4_free, Cond.instanceMethod yX4_free, Cond.selects RX4 yX4_free yX4_free, Cond.code yX4_free cX4_free 2 (some .int), Cond.methodLink RX4 119 yX2_clear, Cond.methodLink RL 64 yX5_free, Cond.instanceMethod yX5_free, Cond.selects RX5 yX5_free yX5_free, Cond.code yX5_free cX5_free 2 (some .int), Cond.methodLink RL 65 yX4_follow, Cond.instanceMethod yX4_follow, Cond.selects RX4 yX4_follow yX4_follow, Cond.code yX4_follow cX4_follow 5 (some .int), Cond.methodLink RX4 126 Lib.Math.max.name, Cond.methodLink RX4 122 yX0_orderLeaving, Cond.instanceMethod yX0_orderLeaving, Cond.selects RX0 yX0_orderLeaving yX0_orderLeaving, Cond.code yX0_orderLeaving cX0_orderLeaving 5 (some .int), Cond.methodLink RX4 131 yX0_gapAhead, Cond.instanceMethod yX0_gapAhead]
def wsL_law_r20 : List Cond := [Cond.selects RX0 yX0_gapAhead yX0_gapAhead, Cond.code yX0_gapAhead cX0_gapAhead 3 (some .int), Cond.methodLink RL 68 yX5_follow, Cond.instanceMethod yX5_follow, Cond.selects RX5 yX5_follow yX5_follow, Cond.code yX5_follow cX5_follow 4 (some .int), Cond.fieldLink RX5 157 "BusThreesModel" "going" "I", Cond.methodLink RX5 160 yX5_layGoing, Cond.instanceMethod yX5_layGoing, Cond.selects RX5 yX5_layGoing yX5_layGoing, Cond.code yX5_layGoing cX5_layGoing 4 none, Cond.methodLink RX5 163 yX5_followOf, Cond.instanceMethod yX5_followOf, Cond.selects RX5 yX5_followOf yX5_followOf, Cond.code yX5_followOf cX5_followOf 3 (some .int), Cond.methodLink RL 69 yX4_one, Cond.instanceMethod yX4_one, Cond.selects RX4 yX4_one yX4_one, Cond.code yX4_one cX4_one 4 (some .int), Cond.methodLink RX4 134 yX0_firstCloseStop, Cond.instanceMethod yX0_firstCloseStop, Cond.selects RX0 yX0_firstCloseStop yX0_firstCloseStop, Cond.code yX0_firstCloseStop cX0_firstCloseStop 3 (some .int), Cond.methodLink RX0 179 yX0_firstCloseBus]
def wsL_law_r21 : List Cond := [Cond.instanceMethod yX0_firstCloseBus, Cond.selects RX0 yX0_firstCloseBus yX0_firstCloseBus, Cond.code yX0_firstCloseBus cX0_firstCloseBus 5 (some .int), Cond.methodLink RX0 176 yX0_orderLeaving, Cond.methodLink RX0 173 yX0_gapAhead, Cond.methodLink RX4 138 yX0_firstCloseBus, Cond.methodLink RL 72 yX5_one, Cond.instanceMethod yX5_one, Cond.selects RX5 yX5_one yX5_one, Cond.code yX5_one cX5_one 3 (some .int), Cond.fieldLink RX5 167 "BusThreesModel" "oneBus" "I", Cond.methodLink RX5 170 yX5_oneOf, Cond.instanceMethod yX5_oneOf, Cond.selects RX5 yX5_oneOf yX5_oneOf, Cond.code yX5_oneOf cX5_oneOf 3 (some .int), Cond.methodLink RL 73 yX4_began, Cond.instanceMethod yX4_began, Cond.selects RX4 yX4_began yX4_began, Cond.code yX4_began cX4_began 3 (some .int), Cond.methodLink RL 76 yX5_began, Cond.instanceMethod yX5_began, Cond.selects RX5 yX5_began yX5_began, Cond.code yX5_began cX5_began 3 (some .int), Cond.methodLink RL 77 yX4_spread]
def wsL_law_r22 : List Cond := [Cond.instanceMethod yX4_spread, Cond.selects RX4 yX4_spread yX4_spread, Cond.code yX4_spread cX4_spread 2 (some .int), Cond.methodLink RX4 149 yX0_spreadOfGaps, Cond.instanceMethod yX0_spreadOfGaps, Cond.selects RX0 yX0_spreadOfGaps yX0_spreadOfGaps, Cond.code yX0_spreadOfGaps cX0_spreadOfGaps 8 (some .int), Cond.methodLink RL 80 yX5_spread, Cond.instanceMethod yX5_spread, Cond.selects RX5 yX5_spread yX5_spread, Cond.code yX5_spread cX5_spread 6 (some .int), Cond.methodLink RL 81 yX4_waited, Cond.instanceMethod yX4_waited, Cond.selects RX4 yX4_waited yX4_waited, Cond.code yX4_waited cX4_waited 3 (some .int), Cond.methodLink RX4 152 yX0_tellWaits, Cond.instanceMethod yX0_tellWaits, Cond.selects RX0 yX0_tellWaits yX0_tellWaits, Cond.code yX0_tellWaits cX0_tellWaits 3 (some .int), Cond.methodLink RL 84 yX5_waited, Cond.instanceMethod yX5_waited, Cond.selects RX5 yX5_waited yX5_waited, Cond.code yX5_waited cX5_waited 3 (some .int), Cond.methodLink RL 85 yX4_mean]
def wsL_law_r23 : List Cond := [Cond.instanceMethod yX4_mean, Cond.selects RX4 yX4_mean yX4_mean, Cond.code yX4_mean cX4_mean 6 (some .long), Cond.constantLong RX4 155 (-1000000000000000001), Cond.constantLong RX4 157 (-1000000000000000002), Cond.fieldLink RX4 159 "BusThrees$Course" "waits" "[J", Cond.fieldLink RX4 163 "BusThrees$Course" "taken" "[I", Cond.constantLong RX4 173 (2), Cond.methodLink RX4 166 yX4_partOfFraction, Cond.static yX4_partOfFraction, Cond.code yX4_partOfFraction cX4_partOfFraction 7 (some .long), Cond.methodLink RX4 223 yX4_commonDivisor, Cond.static yX4_commonDivisor, Cond.code yX4_commonDivisor cX4_commonDivisor 11 (some .long), Cond.methodLink RX4 170 yX0_sumOfGaps, Cond.instanceMethod yX0_sumOfGaps, Cond.selects RX0 yX0_sumOfGaps yX0_sumOfGaps, Cond.code yX0_sumOfGaps cX0_sumOfGaps 5 (some .int), Cond.methodLink RL 89 yX5_mean, Cond.instanceMethod yX5_mean, Cond.selects RX5 yX5_mean yX5_mean, Cond.code yX5_mean cX5_mean 6 (some .long), Cond.constantLong RX5 173 (-1000000000000000001), Cond.constantLong RX5 175 (-1000000000000000002)]
def wsL_law_r24 : List Cond := [Cond.constantLong RX5 181 (2), Cond.methodLink RX5 177 yX5_term, Cond.static yX5_term, Cond.code yX5_term cX5_term 11 (some .long), Cond.methodLink RL 90 yX4_all, Cond.instanceMethod yX4_all, Cond.selects RX4 yX4_all yX4_all, Cond.code yX4_all cX4_all 3 (some .int), Cond.fieldLink RX4 179 "BusThrees$Course" "rode" "J", Cond.fieldLink RX4 183 "BusThrees$Course" "stranded" "I", Cond.methodLink RX4 175 yX0_sumOfWaits, Cond.instanceMethod yX0_sumOfWaits, Cond.selects RX0 yX0_sumOfWaits yX0_sumOfWaits, Cond.code yX0_sumOfWaits cX0_sumOfWaits 4 (some .long), Cond.methodLink RL 93 yX5_all, Cond.instanceMethod yX5_all, Cond.selects RX5 yX5_all yX5_all, Cond.code yX5_all cX5_all 2 (some .int), Cond.methodLink RX5 183 yX5_allWaited, Cond.instanceMethod yX5_allWaited, Cond.selects RX5 yX5_allWaited yX5_allWaited, Cond.code yX5_allWaited cX5_allWaited 3 (some .int), Cond.methodLink RL 94 yX4_held, Cond.instanceMethod yX4_held]
def wsL_law_r25 : List Cond := [Cond.selects RX4 yX4_held yX4_held, Cond.code yX4_held cX4_held 5 (some .int), Cond.constant RX4 186 (-2000000000), Cond.fieldLink RX4 187 "BusThrees$Course" "extra" "[I", Cond.methodLink RL 97 yX5_held, Cond.instanceMethod yX5_held, Cond.selects RX5 yX5_held yX5_held, Cond.code yX5_held cX5_held 5 (some .int), Cond.constant RX5 186 (-2000000000), Cond.methodLink RL 98 yX4_board, Cond.instanceMethod yX4_board, Cond.selects RX4 yX4_board yX4_board, Cond.code yX4_board cX4_board 7 (some .int), Cond.fieldLink RX4 198 "BusThrees$Course" "come" "[I", Cond.methodLink RX4 190 yX0_nearestBus, Cond.instanceMethod yX0_nearestBus, Cond.selects RX0 yX0_nearestBus yX0_nearestBus, Cond.code yX0_nearestBus cX0_nearestBus 8 (some .int), Cond.methodLink RX0 182 yX0_stopsLeft, Cond.instanceMethod yX0_stopsLeft, Cond.selects RX0 yX0_stopsLeft yX0_stopsLeft, Cond.code yX0_stopsLeft cX0_stopsLeft 5 (some .int), Cond.methodLink RX4 194 yX0_shownSeconds, Cond.instanceMethod yX0_shownSeconds]
def wsL_law_r26 : List Cond := [Cond.selects RX0 yX0_shownSeconds yX0_shownSeconds, Cond.code yX0_shownSeconds cX0_shownSeconds 8 (some .int), Cond.methodLink RL 101 yX5_board, Cond.instanceMethod yX5_board, Cond.selects RX5 yX5_board yX5_board, Cond.code yX5_board cX5_board 9 (some .int), Cond.methodLink RL 102 yX4_best, Cond.instanceMethod yX4_best, Cond.selects RX4 yX4_best yX4_best, Cond.code yX4_best cX4_best 2 (some .int), Cond.fieldLink RX4 208 "BusThrees" "bestStop" "I", Cond.fieldLink RX4 211 "BusThrees" "bestGap" "I", Cond.methodLink RX4 205 yX4_findBest, Cond.instanceMethod yX4_findBest, Cond.selects RX4 yX4_findBest yX4_findBest, Cond.code yX4_findBest cX4_findBest 8 none, Cond.constantLong RX4 221 (1000), Cond.methodLink RX4 217 yX2_keepOnlyGap, Cond.instanceMethod yX2_keepOnlyGap, Cond.selects RX2 yX2_keepOnlyGap yX2_keepOnlyGap, Cond.code yX2_keepOnlyGap cX2_keepOnlyGap 3 none, Cond.methodLink RX2 28 yX2_clear, Cond.methodLink RL 105 yX5_best, Cond.instanceMethod yX5_best]
def wsL_law_r27 : List Cond := [Cond.selects RX5 yX5_best yX5_best, Cond.code yX5_best cX5_best 7 (some .int), Cond.methodLink RL 106 yX4_told, Cond.instanceMethod yX4_told, Cond.selects RX4 yX4_told yX4_told, Cond.code yX4_told cX4_told 2 (some .int), Cond.methodLink RL 109 yX5_told, Cond.instanceMethod yX5_told, Cond.selects RX5 yX5_told yX5_told, Cond.code yX5_told cX5_told 2 (some .int)]
def wsL_law : List Cond := (wsL_law_r1 ++ (wsL_law_r2 ++ (wsL_law_r3 ++ (wsL_law_r4 ++ (wsL_law_r5 ++ (wsL_law_r6 ++ (wsL_law_r7 ++ (wsL_law_r8 ++ (wsL_law_r9 ++ (wsL_law_r10 ++ (wsL_law_r11 ++ (wsL_law_r12 ++ (wsL_law_r13 ++ (wsL_law_r14 ++ (wsL_law_r15 ++ (wsL_law_r16 ++ (wsL_law_r17 ++ (wsL_law_r18 ++ (wsL_law_r19 ++ (wsL_law_r20 ++ (wsL_law_r21 ++ (wsL_law_r22 ++ (wsL_law_r23 ++ (wsL_law_r24 ++ (wsL_law_r25 ++ (wsL_law_r26 ++ wsL_law_r27)))))))))))))))))))))))))) ++ wsX40 ++ wsX50 ++ wsX10 ++ wsX30 ++ wsX00 ++ wsX20 ++ ([] : List Cond)
theorem inlX0 : ∀ w ∈ wsX00, w ∈ wsL_law := fun _ h => List.mem_append_left _ (List.mem_append_left _ (List.mem_append_right _ h))
theorem inlX1 : ∀ w ∈ wsX10, w ∈ wsL_law := fun _ h => List.mem_append_left _ (List.mem_append_left _ (List.mem_append_left _ (List.mem_append_left _ (List.mem_append_right _ h))))
theorem inlX2 : ∀ w ∈ wsX20, w ∈ wsL_law := fun _ h => List.mem_append_left _ (List.mem_append_right _ h)
theorem inlX3 : ∀ w ∈ wsX30, w ∈ wsL_law := fun _ h => List.mem_append_left _ (List.mem_append_left _ (List.mem_append_left _ (List.mem_append_right _ h)))
theorem inlX4 : ∀ w ∈ wsX40, w ∈ wsL_law := fun _ h => List.mem_append_left _ (List.mem_append_left _ (List.mem_append_left _ (List.mem_append_left _ (List.mem_append_left _ (List.mem_append_left _ (List.mem_append_right _ h))))))
theorem inlX5 : ∀ w ∈ wsX50, w ∈ wsL_law := fun _ h => List.mem_append_left _ (List.mem_append_left _ (List.mem_append_left _ (List.mem_append_left _ (List.mem_append_left _ (List.mem_append_right _ h)))))
end
section
theorem tq_1 : ∀ w ∈ tables_1_1, w ∈ lw_tbl := fun _ h => List.mem_append_right _ (List.mem_append_left _ h)
theorem tq_2 : ∀ w ∈ tables_1_2, w ∈ lw_tbl := fun _ h => List.mem_append_right _ (List.mem_append_right _ (List.mem_append_left _ h))
theorem tq_3 : ∀ w ∈ tables_1_3, w ∈ lw_tbl := fun _ h => List.mem_append_right _ (List.mem_append_right _ (List.mem_append_right _ (List.mem_append_left _ h)))
theorem tq_4 : ∀ w ∈ tables_1_4, w ∈ lw_tbl := fun _ h => List.mem_append_right _ (List.mem_append_right _ (List.mem_append_right _ (List.mem_append_right _ h)))
theorem tq_s : ∀ w ∈ k2_sels lw_privs, w ∈ lw_tbl := fun _ h => List.mem_append_left _ h
theorem wt_1_0 : Cond.classLink RL 7 RX4 ∈ lw_tbl := tq_1 _ (List.mem_of_getElem? (i := 9) rfl)
theorem wt_1_1 : Cond.instantiable RX4 10 ∈ lw_tbl := tq_1 _ (List.mem_of_getElem? (i := 10) rfl)
theorem wt_1_2 : Cond.initialized RX4 ∈ lw_tbl := tq_1 _ (List.mem_of_getElem? (i := 1) rfl)
theorem wt_1_3 : Cond.classLink RL 10 RX5 ∈ lw_tbl := tq_3 _ (List.mem_of_getElem? (i := 53) rfl)
theorem wt_1_4 : Cond.instantiable RX5 37 ∈ lw_tbl := tq_3 _ (List.mem_of_getElem? (i := 54) rfl)
theorem wt_1_5 : Cond.initialized RX5 ∈ lw_tbl := tq_1 _ (List.mem_of_getElem? (i := 7) rfl)
theorem wt_1_6 : Cond.methodLink RL 9 yX4_init ∈ lw_tbl := tq_1 _ (List.mem_of_getElem? (i := 11) rfl)
theorem wt_1_7 : Cond.instanceMethod yX4_init ∈ lw_tbl := tq_1 _ (List.mem_of_getElem? (i := 12) rfl)
theorem wt_1_8 : Cond.code yX4_init cX4_init 1 none ∈ lw_tbl := tq_1 _ (List.mem_of_getElem? (i := 13) rfl)
theorem wt_1_9 : Cond.methodLink RX4 1 objectInit ∈ lw_tbl := tq_1 _ (List.mem_of_getElem? (i := 14) rfl)
theorem wt_1_10 : Cond.instanceMethod objectInit ∈ lw_tbl := tq_1 _ (List.mem_of_getElem? (i := 15) rfl)
theorem wt_1_11 : Cond.code objectInit ⟨#[0xb1]⟩ 1 none ∈ lw_tbl := tq_1 _ (List.mem_of_getElem? (i := 16) rfl)
theorem wt_1_12 : Cond.classLink RX4 7 RX1 ∈ lw_tbl := tq_1 _ (List.mem_of_getElem? (i := 17) rfl)
theorem wt_1_13 : Cond.instantiable RX1 12 ∈ lw_tbl := tq_1 _ (List.mem_of_getElem? (i := 18) rfl)
theorem wt_1_14 : Cond.initialized RX1 ∈ lw_tbl := tq_1 _ (List.mem_of_getElem? (i := 2) rfl)
theorem wt_1_15 : Cond.fieldLink RX4 10 "BusThrees" "line" "LBusThrees$Line;" ∈ lw_tbl := tq_1 _ (List.mem_of_getElem? (i := 177) rfl)
theorem wt_1_16 : Cond.classLink RX4 16 RX3 ∈ lw_tbl := tq_1 _ (List.mem_of_getElem? (i := 78) rfl)
theorem wt_1_17 : Cond.instantiable RX3 4 ∈ lw_tbl := tq_1 _ (List.mem_of_getElem? (i := 79) rfl)
theorem wt_1_18 : Cond.initialized RX3 ∈ lw_tbl := tq_1 _ (List.mem_of_getElem? (i := 4) rfl)
theorem wt_1_19 : Cond.fieldLink RX4 19 "BusThrees" "signs" "LBusThrees$Signs;" ∈ lw_tbl := tq_1 _ (List.mem_of_getElem? (i := 178) rfl)
theorem wt_1_20 : Cond.classLink RX4 23 RX0 ∈ lw_tbl := tq_1 _ (List.mem_of_getElem? (i := 98) rfl)
theorem wt_1_21 : Cond.instantiable RX0 15 ∈ lw_tbl := tq_1 _ (List.mem_of_getElem? (i := 99) rfl)
theorem wt_1_22 : Cond.initialized RX0 ∈ lw_tbl := tq_1 _ (List.mem_of_getElem? (i := 5) rfl)
theorem wt_1_23 : Cond.fieldLink RX4 26 "BusThrees" "course" "LBusThrees$Course;" ∈ lw_tbl := tq_1 _ (List.mem_of_getElem? (i := 179) rfl)
theorem wu_1 : ∀ w ∈ wsL_law_r1, w ∈ lw_tbl := List.forall_mem_cons.mpr ⟨wt_1_0, List.forall_mem_cons.mpr ⟨wt_1_1, List.forall_mem_cons.mpr ⟨wt_1_2, List.forall_mem_cons.mpr ⟨wt_1_3, List.forall_mem_cons.mpr ⟨wt_1_4, List.forall_mem_cons.mpr ⟨wt_1_5, List.forall_mem_cons.mpr ⟨wt_1_6, List.forall_mem_cons.mpr ⟨wt_1_7, List.forall_mem_cons.mpr ⟨wt_1_8, List.forall_mem_cons.mpr ⟨wt_1_9, List.forall_mem_cons.mpr ⟨wt_1_10, List.forall_mem_cons.mpr ⟨wt_1_11, List.forall_mem_cons.mpr ⟨wt_1_12, List.forall_mem_cons.mpr ⟨wt_1_13, List.forall_mem_cons.mpr ⟨wt_1_14, List.forall_mem_cons.mpr ⟨wt_1_15, List.forall_mem_cons.mpr ⟨wt_1_16, List.forall_mem_cons.mpr ⟨wt_1_17, List.forall_mem_cons.mpr ⟨wt_1_18, List.forall_mem_cons.mpr ⟨wt_1_19, List.forall_mem_cons.mpr ⟨wt_1_20, List.forall_mem_cons.mpr ⟨wt_1_21, List.forall_mem_cons.mpr ⟨wt_1_22, List.forall_mem_cons.mpr ⟨wt_1_23, fun _ h => absurd h List.not_mem_nil⟩⟩⟩⟩⟩⟩⟩⟩⟩⟩⟩⟩⟩⟩⟩⟩⟩⟩⟩⟩⟩⟩⟩⟩
theorem wt_2_0 : Cond.fieldLink RX4 30 "BusThrees" "trial" "LBusThrees$Course;" ∈ lw_tbl := tq_1 _ (List.mem_of_getElem? (i := 180) rfl)
theorem wt_2_1 : Cond.classLink RX4 33 RX2 ∈ lw_tbl := tq_1 _ (List.mem_of_getElem? (i := 157) rfl)
theorem wt_2_2 : Cond.instantiable RX2 3 ∈ lw_tbl := tq_1 _ (List.mem_of_getElem? (i := 158) rfl)
theorem wt_2_3 : Cond.initialized RX2 ∈ lw_tbl := tq_1 _ (List.mem_of_getElem? (i := 6) rfl)
theorem wt_2_4 : Cond.fieldLink RX4 36 "BusThrees" "rule" "LBusThrees$Rule;" ∈ lw_tbl := tq_1 _ (List.mem_of_getElem? (i := 181) rfl)
theorem wt_2_5 : Cond.fieldLink RX4 40 "BusThrees" "spare" "LBusThrees$Rule;" ∈ lw_tbl := tq_1 _ (List.mem_of_getElem? (i := 182) rfl)
theorem wt_2_6 : Cond.methodLink RX4 9 yX1_init ∈ lw_tbl := tq_1 _ (List.mem_of_getElem? (i := 19) rfl)
theorem wt_2_7 : Cond.instanceMethod yX1_init ∈ lw_tbl := tq_1 _ (List.mem_of_getElem? (i := 20) rfl)
theorem wt_2_8 : Cond.code yX1_init cX1_init 1 none ∈ lw_tbl := tq_1 _ (List.mem_of_getElem? (i := 21) rfl)
theorem wt_2_9 : Cond.methodLink RX1 3 objectInit ∈ lw_tbl := tq_1 _ (List.mem_of_getElem? (i := 22) rfl)
theorem wt_2_10 : Cond.arrayClass .int ∈ lw_tbl := tq_1 _ (List.mem_of_getElem? (i := 77) rfl)
theorem wt_2_11 : Cond.fieldLink RX1 9 "BusThrees$Line" "ride" "[I" ∈ lw_tbl := tq_1 _ (List.mem_of_getElem? (i := 26) rfl)
theorem wt_2_12 : Cond.fieldLink RX1 15 "BusThrees$Line" "gap" "[I" ∈ lw_tbl := tq_1 _ (List.mem_of_getElem? (i := 28) rfl)
theorem wt_2_13 : Cond.fieldLink RX1 18 "BusThrees$Line" "trip" "[I" ∈ lw_tbl := tq_1 _ (List.mem_of_getElem? (i := 30) rfl)
theorem wt_2_14 : Cond.fieldLink RX1 21 "BusThrees$Line" "settings" "[I" ∈ lw_tbl := tq_1 _ (List.mem_of_getElem? (i := 31) rfl)
theorem wt_2_15 : Cond.fieldLink RX1 24 "BusThrees$Line" "second" "[I" ∈ lw_tbl := tq_1 _ (List.mem_of_getElem? (i := 34) rfl)
theorem wt_2_16 : Cond.fieldLink RX1 27 "BusThrees$Line" "seats" "[I" ∈ lw_tbl := tq_1 _ (List.mem_of_getElem? (i := 36) rfl)
theorem wt_2_17 : Cond.fieldLink RX1 30 "BusThrees$Line" "end" "[I" ∈ lw_tbl := tq_1 _ (List.mem_of_getElem? (i := 38) rfl)
theorem wt_2_18 : Cond.fieldLink RX1 33 "BusThrees$Line" "lateBus" "[I" ∈ lw_tbl := tq_1 _ (List.mem_of_getElem? (i := 43) rfl)
theorem wt_2_19 : Cond.fieldLink RX1 36 "BusThrees$Line" "lateStop" "[I" ∈ lw_tbl := tq_1 _ (List.mem_of_getElem? (i := 45) rfl)
theorem wt_2_20 : Cond.fieldLink RX1 39 "BusThrees$Line" "lateSeconds" "[I" ∈ lw_tbl := tq_1 _ (List.mem_of_getElem? (i := 47) rfl)
theorem wt_2_21 : Cond.methodLink RX1 42 yJ7_fill_53178 ∈ lw_tbl := tq_1 _ (List.mem_of_getElem? (i := 23) rfl)
theorem wt_2_22 : Cond.static yJ7_fill_53178 ∈ lw_tbl := tq_1 _ (List.mem_of_getElem? (i := 24) rfl)
theorem wt_2_23 : Cond.initialized RJ7 ∈ lw_tbl := tq_1 _ (List.mem_of_getElem? (i := 3) rfl)
theorem wu_2 : ∀ w ∈ wsL_law_r2, w ∈ lw_tbl := List.forall_mem_cons.mpr ⟨wt_2_0, List.forall_mem_cons.mpr ⟨wt_2_1, List.forall_mem_cons.mpr ⟨wt_2_2, List.forall_mem_cons.mpr ⟨wt_2_3, List.forall_mem_cons.mpr ⟨wt_2_4, List.forall_mem_cons.mpr ⟨wt_2_5, List.forall_mem_cons.mpr ⟨wt_2_6, List.forall_mem_cons.mpr ⟨wt_2_7, List.forall_mem_cons.mpr ⟨wt_2_8, List.forall_mem_cons.mpr ⟨wt_2_9, List.forall_mem_cons.mpr ⟨wt_2_10, List.forall_mem_cons.mpr ⟨wt_2_11, List.forall_mem_cons.mpr ⟨wt_2_12, List.forall_mem_cons.mpr ⟨wt_2_13, List.forall_mem_cons.mpr ⟨wt_2_14, List.forall_mem_cons.mpr ⟨wt_2_15, List.forall_mem_cons.mpr ⟨wt_2_16, List.forall_mem_cons.mpr ⟨wt_2_17, List.forall_mem_cons.mpr ⟨wt_2_18, List.forall_mem_cons.mpr ⟨wt_2_19, List.forall_mem_cons.mpr ⟨wt_2_20, List.forall_mem_cons.mpr ⟨wt_2_21, List.forall_mem_cons.mpr ⟨wt_2_22, List.forall_mem_cons.mpr ⟨wt_2_23, fun _ h => absurd h List.not_mem_nil⟩⟩⟩⟩⟩⟩⟩⟩⟩⟩⟩⟩⟩⟩⟩⟩⟩⟩⟩⟩⟩⟩⟩⟩
theorem wt_3_0 : Cond.code yJ7_fill_53178 cJ7_fill_53178 4 none ∈ lw_tbl := tq_1 _ (List.mem_of_getElem? (i := 25) rfl)
theorem wt_3_1 : Cond.instanceMethod yX3_init ∈ lw_tbl := tq_1 _ (List.mem_of_getElem? (i := 81) rfl)
theorem wt_3_2 : Cond.code yX3_init cX3_init 1 none ∈ lw_tbl := tq_1 _ (List.mem_of_getElem? (i := 82) rfl)
theorem wt_3_3 : Cond.methodLink RX3 3 objectInit ∈ lw_tbl := tq_1 _ (List.mem_of_getElem? (i := 83) rfl)
theorem wt_3_4 : Cond.fieldLink RX3 9 "BusThrees$Signs" "row" "[I" ∈ lw_tbl := tq_1 _ (List.mem_of_getElem? (i := 84) rfl)
theorem wt_3_5 : Cond.instanceMethod yX0_init ∈ lw_tbl := tq_1 _ (List.mem_of_getElem? (i := 101) rfl)
theorem wt_3_6 : Cond.code yX0_init cX0_init 1 none ∈ lw_tbl := tq_1 _ (List.mem_of_getElem? (i := 102) rfl)
theorem wt_3_7 : Cond.methodLink RX0 3 objectInit ∈ lw_tbl := tq_1 _ (List.mem_of_getElem? (i := 103) rfl)
theorem wt_3_8 : Cond.fieldLink RX0 9 "BusThrees$Course" "come" "[I" ∈ lw_tbl := tq_1 _ (List.mem_of_getElem? (i := 104) rfl)
theorem wt_3_9 : Cond.fieldLink RX0 15 "BusThrees$Course" "leave" "[I" ∈ lw_tbl := tq_1 _ (List.mem_of_getElem? (i := 106) rfl)
theorem wt_3_10 : Cond.fieldLink RX0 18 "BusThrees$Course" "on" "[I" ∈ lw_tbl := tq_1 _ (List.mem_of_getElem? (i := 107) rfl)
theorem wt_3_11 : Cond.fieldLink RX0 21 "BusThrees$Course" "off" "[I" ∈ lw_tbl := tq_1 _ (List.mem_of_getElem? (i := 108) rfl)
theorem wt_3_12 : Cond.fieldLink RX0 24 "BusThrees$Course" "inside" "[I" ∈ lw_tbl := tq_1 _ (List.mem_of_getElem? (i := 109) rfl)
theorem wt_3_13 : Cond.fieldLink RX0 27 "BusThrees$Course" "left" "[I" ∈ lw_tbl := tq_1 _ (List.mem_of_getElem? (i := 110) rfl)
theorem wt_3_14 : Cond.fieldLink RX0 30 "BusThrees$Course" "extra" "[I" ∈ lw_tbl := tq_1 _ (List.mem_of_getElem? (i := 111) rfl)
theorem wt_3_15 : Cond.fieldLink RX0 33 "BusThrees$Course" "taken" "[I" ∈ lw_tbl := tq_1 _ (List.mem_of_getElem? (i := 113) rfl)
theorem wt_3_16 : Cond.arrayClass .long ∈ lw_tbl := tq_1 _ (List.mem_of_getElem? (i := 156) rfl)
theorem wt_3_17 : Cond.fieldLink RX0 36 "BusThrees$Course" "waits" "[J" ∈ lw_tbl := tq_1 _ (List.mem_of_getElem? (i := 115) rfl)
theorem wt_3_18 : Cond.fieldLink RX0 40 "BusThrees$Course" "longest" "[I" ∈ lw_tbl := tq_1 _ (List.mem_of_getElem? (i := 117) rfl)
theorem wt_3_19 : Cond.fieldLink RX0 43 "BusThrees$Course" "order" "[I" ∈ lw_tbl := tq_1 _ (List.mem_of_getElem? (i := 122) rfl)
theorem wt_3_20 : Cond.instanceMethod yX2_init ∈ lw_tbl := tq_1 _ (List.mem_of_getElem? (i := 160) rfl)
theorem wt_3_21 : Cond.code yX2_init cX2_init 1 none ∈ lw_tbl := tq_1 _ (List.mem_of_getElem? (i := 161) rfl)
theorem wt_3_22 : Cond.methodLink RX2 3 objectInit ∈ lw_tbl := tq_1 _ (List.mem_of_getElem? (i := 162) rfl)
theorem wt_3_23 : Cond.fieldLink RX2 9 "BusThrees$Rule" "letter" "[I" ∈ lw_tbl := tq_1 _ (List.mem_of_getElem? (i := 163) rfl)
theorem wu_3 : ∀ w ∈ wsL_law_r3, w ∈ lw_tbl := List.forall_mem_cons.mpr ⟨wt_3_0, List.forall_mem_cons.mpr ⟨wt_3_1, List.forall_mem_cons.mpr ⟨wt_3_2, List.forall_mem_cons.mpr ⟨wt_3_3, List.forall_mem_cons.mpr ⟨wt_3_4, List.forall_mem_cons.mpr ⟨wt_3_5, List.forall_mem_cons.mpr ⟨wt_3_6, List.forall_mem_cons.mpr ⟨wt_3_7, List.forall_mem_cons.mpr ⟨wt_3_8, List.forall_mem_cons.mpr ⟨wt_3_9, List.forall_mem_cons.mpr ⟨wt_3_10, List.forall_mem_cons.mpr ⟨wt_3_11, List.forall_mem_cons.mpr ⟨wt_3_12, List.forall_mem_cons.mpr ⟨wt_3_13, List.forall_mem_cons.mpr ⟨wt_3_14, List.forall_mem_cons.mpr ⟨wt_3_15, List.forall_mem_cons.mpr ⟨wt_3_16, List.forall_mem_cons.mpr ⟨wt_3_17, List.forall_mem_cons.mpr ⟨wt_3_18, List.forall_mem_cons.mpr ⟨wt_3_19, List.forall_mem_cons.mpr ⟨wt_3_20, List.forall_mem_cons.mpr ⟨wt_3_21, List.forall_mem_cons.mpr ⟨wt_3_22, List.forall_mem_cons.mpr ⟨wt_3_23, fun _ h => absurd h List.not_mem_nil⟩⟩⟩⟩⟩⟩⟩⟩⟩⟩⟩⟩⟩⟩⟩⟩⟩⟩⟩⟩⟩⟩⟩⟩
theorem wt_4_0 : Cond.fieldLink RX2 15 "BusThrees$Rule" "number" "[I" ∈ lw_tbl := tq_1 _ (List.mem_of_getElem? (i := 165) rfl)
theorem wt_4_1 : Cond.methodLink RL 12 yX5_init ∈ lw_tbl := tq_3 _ (List.mem_of_getElem? (i := 55) rfl)
theorem wt_4_2 : Cond.instanceMethod yX5_init ∈ lw_tbl := tq_3 _ (List.mem_of_getElem? (i := 56) rfl)
theorem wt_4_3 : Cond.code yX5_init cX5_init 2 none ∈ lw_tbl := tq_3 _ (List.mem_of_getElem? (i := 57) rfl)
theorem wt_4_4 : Cond.methodLink RX5 1 objectInit ∈ lw_tbl := tq_3 _ (List.mem_of_getElem? (i := 58) rfl)
theorem wt_4_5 : Cond.fieldLink RX5 7 "BusThreesModel" "ride" "[I" ∈ lw_tbl := tq_3 _ (List.mem_of_getElem? (i := 59) rfl)
theorem wt_4_6 : Cond.fieldLink RX5 13 "BusThreesModel" "gap" "[I" ∈ lw_tbl := tq_3 _ (List.mem_of_getElem? (i := 60) rfl)
theorem wt_4_7 : Cond.fieldLink RX5 16 "BusThreesModel" "trip" "[I" ∈ lw_tbl := tq_3 _ (List.mem_of_getElem? (i := 61) rfl)
theorem wt_4_8 : Cond.fieldLink RX5 19 "BusThreesModel" "begins" "[I" ∈ lw_tbl := tq_3 _ (List.mem_of_getElem? (i := 63) rfl)
theorem wt_4_9 : Cond.fieldLink RX5 22 "BusThreesModel" "seats" "[I" ∈ lw_tbl := tq_3 _ (List.mem_of_getElem? (i := 64) rfl)
theorem wt_4_10 : Cond.fieldLink RX5 25 "BusThreesModel" "turned" "[I" ∈ lw_tbl := tq_3 _ (List.mem_of_getElem? (i := 65) rfl)
theorem wt_4_11 : Cond.fieldLink RX5 28 "BusThreesModel" "told" "[I" ∈ lw_tbl := tq_3 _ (List.mem_of_getElem? (i := 66) rfl)
theorem wt_4_12 : Cond.fieldLink RX5 31 "BusThreesModel" "lateBus" "[I" ∈ lw_tbl := tq_3 _ (List.mem_of_getElem? (i := 68) rfl)
theorem wt_4_13 : Cond.fieldLink RX5 34 "BusThreesModel" "lateStop" "[I" ∈ lw_tbl := tq_3 _ (List.mem_of_getElem? (i := 69) rfl)
theorem wt_4_14 : Cond.fieldLink RX5 37 "BusThreesModel" "lateSeconds" "[I" ∈ lw_tbl := tq_3 _ (List.mem_of_getElem? (i := 70) rfl)
theorem wt_4_15 : Cond.fieldLink RX5 40 "BusThreesModel" "sign" "[I" ∈ lw_tbl := tq_3 _ (List.mem_of_getElem? (i := 72) rfl)
theorem wt_4_16 : Cond.fieldLink RX5 43 "BusThreesModel" "waitHow" "[I" ∈ lw_tbl := tq_3 _ (List.mem_of_getElem? (i := 74) rfl)
theorem wt_4_17 : Cond.fieldLink RX5 46 "BusThreesModel" "waitBy" "[I" ∈ lw_tbl := tq_3 _ (List.mem_of_getElem? (i := 75) rfl)
theorem wt_4_18 : Cond.fieldLink RX5 49 "BusThreesModel" "comes" "[I" ∈ lw_tbl := tq_3 _ (List.mem_of_getElem? (i := 76) rfl)
theorem wt_4_19 : Cond.fieldLink RX5 52 "BusThreesModel" "leaves" "[I" ∈ lw_tbl := tq_3 _ (List.mem_of_getElem? (i := 77) rfl)
theorem wt_4_20 : Cond.fieldLink RX5 55 "BusThreesModel" "on" "[I" ∈ lw_tbl := tq_3 _ (List.mem_of_getElem? (i := 78) rfl)
theorem wt_4_21 : Cond.fieldLink RX5 58 "BusThreesModel" "off" "[I" ∈ lw_tbl := tq_3 _ (List.mem_of_getElem? (i := 79) rfl)
theorem wt_4_22 : Cond.fieldLink RX5 61 "BusThreesModel" "inside" "[I" ∈ lw_tbl := tq_3 _ (List.mem_of_getElem? (i := 80) rfl)
theorem wt_4_23 : Cond.fieldLink RX5 64 "BusThreesModel" "left" "[I" ∈ lw_tbl := tq_3 _ (List.mem_of_getElem? (i := 81) rfl)
theorem wu_4 : ∀ w ∈ wsL_law_r4, w ∈ lw_tbl := List.forall_mem_cons.mpr ⟨wt_4_0, List.forall_mem_cons.mpr ⟨wt_4_1, List.forall_mem_cons.mpr ⟨wt_4_2, List.forall_mem_cons.mpr ⟨wt_4_3, List.forall_mem_cons.mpr ⟨wt_4_4, List.forall_mem_cons.mpr ⟨wt_4_5, List.forall_mem_cons.mpr ⟨wt_4_6, List.forall_mem_cons.mpr ⟨wt_4_7, List.forall_mem_cons.mpr ⟨wt_4_8, List.forall_mem_cons.mpr ⟨wt_4_9, List.forall_mem_cons.mpr ⟨wt_4_10, List.forall_mem_cons.mpr ⟨wt_4_11, List.forall_mem_cons.mpr ⟨wt_4_12, List.forall_mem_cons.mpr ⟨wt_4_13, List.forall_mem_cons.mpr ⟨wt_4_14, List.forall_mem_cons.mpr ⟨wt_4_15, List.forall_mem_cons.mpr ⟨wt_4_16, List.forall_mem_cons.mpr ⟨wt_4_17, List.forall_mem_cons.mpr ⟨wt_4_18, List.forall_mem_cons.mpr ⟨wt_4_19, List.forall_mem_cons.mpr ⟨wt_4_20, List.forall_mem_cons.mpr ⟨wt_4_21, List.forall_mem_cons.mpr ⟨wt_4_22, List.forall_mem_cons.mpr ⟨wt_4_23, fun _ h => absurd h List.not_mem_nil⟩⟩⟩⟩⟩⟩⟩⟩⟩⟩⟩⟩⟩⟩⟩⟩⟩⟩⟩⟩⟩⟩⟩⟩
theorem wt_5_0 : Cond.fieldLink RX5 67 "BusThreesModel" "wants" "[I" ∈ lw_tbl := tq_3 _ (List.mem_of_getElem? (i := 82) rfl)
theorem wt_5_1 : Cond.fieldLink RX5 70 "BusThreesModel" "since" "[I" ∈ lw_tbl := tq_3 _ (List.mem_of_getElem? (i := 83) rfl)
theorem wt_5_2 : Cond.fieldLink RX5 73 "BusThreesModel" "waiters" "[I" ∈ lw_tbl := tq_3 _ (List.mem_of_getElem? (i := 84) rfl)
theorem wt_5_3 : Cond.fieldLink RX5 76 "BusThreesModel" "waited" "[I" ∈ lw_tbl := tq_3 _ (List.mem_of_getElem? (i := 85) rfl)
theorem wt_5_4 : Cond.fieldLink RX5 79 "BusThreesModel" "longest" "[I" ∈ lw_tbl := tq_3 _ (List.mem_of_getElem? (i := 86) rfl)
theorem wt_5_5 : Cond.fieldLink RX5 82 "BusThreesModel" "order" "[I" ∈ lw_tbl := tq_3 _ (List.mem_of_getElem? (i := 87) rfl)
theorem wt_5_6 : Cond.fieldLink RX5 85 "BusThreesModel" "row" "[I" ∈ lw_tbl := tq_3 _ (List.mem_of_getElem? (i := 92) rfl)
theorem wt_5_7 : Cond.fieldLink RX5 88 "BusThreesModel" "keptHow" "[I" ∈ lw_tbl := tq_3 _ (List.mem_of_getElem? (i := 94) rfl)
theorem wt_5_8 : Cond.fieldLink RX5 91 "BusThreesModel" "keptBy" "[I" ∈ lw_tbl := tq_3 _ (List.mem_of_getElem? (i := 95) rfl)
theorem wt_5_9 : Cond.methodLink RL 13 yX4_stop ∈ lw_tbl := tq_1 _ (List.mem_of_getElem? (i := 208) rfl)
theorem wt_5_10 : Cond.instanceMethod yX4_stop ∈ lw_tbl := tq_1 _ (List.mem_of_getElem? (i := 209) rfl)
theorem wt_5_11 : Cond.selects RX4 yX4_stop yX4_stop ∈ lw_tbl := tq_1 _ (List.mem_of_getElem? (i := 210) rfl)
theorem wt_5_12 : Cond.code yX4_stop cX4_stop 4 (some .int) ∈ lw_tbl := tq_1 _ (List.mem_of_getElem? (i := 211) rfl)
theorem wt_5_13 : Cond.methodLink RX4 43 yX4_isGoingStop ∈ lw_tbl := tq_1 _ (List.mem_of_getElem? (i := 212) rfl)
theorem wt_5_14 : Cond.static yX4_isGoingStop ∈ lw_tbl := tq_1 _ (List.mem_of_getElem? (i := 213) rfl)
theorem wt_5_15 : Cond.code yX4_isGoingStop cX4_isGoingStop 1 (some .boolean) ∈ lw_tbl := tq_1 _ (List.mem_of_getElem? (i := 214) rfl)
theorem wt_5_16 : Cond.methodLink RX4 47 yX1_allowsAtStop ∈ lw_tbl := tq_1 _ (List.mem_of_getElem? (i := 215) rfl)
theorem wt_5_17 : Cond.static yX1_allowsAtStop ∈ lw_tbl := tq_1 _ (List.mem_of_getElem? (i := 216) rfl)
theorem wt_5_18 : Cond.code yX1_allowsAtStop cX1_allowsAtStop 2 (some .boolean) ∈ lw_tbl := tq_1 _ (List.mem_of_getElem? (i := 217) rfl)
theorem wt_5_19 : Cond.methodLink RX4 51 yX4_forgetCourse ∈ lw_tbl := tq_1 _ (List.mem_of_getElem? (i := 218) rfl)
theorem wt_5_20 : Cond.instanceMethod yX4_forgetCourse ∈ lw_tbl := tq_1 _ (List.mem_of_getElem? (i := 220) rfl)
theorem wt_5_21 : Cond.selects RX4 yX4_forgetCourse yX4_forgetCourse ∈ lw_tbl := tq_s _ (List.mem_of_getElem? (i := 0) rfl)
theorem wt_5_22 : Cond.code yX4_forgetCourse cX4_forgetCourse 1 none ∈ lw_tbl := tq_1 _ (List.mem_of_getElem? (i := 221) rfl)
theorem wt_5_23 : Cond.fieldLink RX4 214 "BusThrees" "courseKnown" "Z" ∈ lw_tbl := tq_1 _ (List.mem_of_getElem? (i := 183) rfl)
theorem wu_5 : ∀ w ∈ wsL_law_r5, w ∈ lw_tbl := List.forall_mem_cons.mpr ⟨wt_5_0, List.forall_mem_cons.mpr ⟨wt_5_1, List.forall_mem_cons.mpr ⟨wt_5_2, List.forall_mem_cons.mpr ⟨wt_5_3, List.forall_mem_cons.mpr ⟨wt_5_4, List.forall_mem_cons.mpr ⟨wt_5_5, List.forall_mem_cons.mpr ⟨wt_5_6, List.forall_mem_cons.mpr ⟨wt_5_7, List.forall_mem_cons.mpr ⟨wt_5_8, List.forall_mem_cons.mpr ⟨wt_5_9, List.forall_mem_cons.mpr ⟨wt_5_10, List.forall_mem_cons.mpr ⟨wt_5_11, List.forall_mem_cons.mpr ⟨wt_5_12, List.forall_mem_cons.mpr ⟨wt_5_13, List.forall_mem_cons.mpr ⟨wt_5_14, List.forall_mem_cons.mpr ⟨wt_5_15, List.forall_mem_cons.mpr ⟨wt_5_16, List.forall_mem_cons.mpr ⟨wt_5_17, List.forall_mem_cons.mpr ⟨wt_5_18, List.forall_mem_cons.mpr ⟨wt_5_19, List.forall_mem_cons.mpr ⟨wt_5_20, List.forall_mem_cons.mpr ⟨wt_5_21, List.forall_mem_cons.mpr ⟨wt_5_22, List.forall_mem_cons.mpr ⟨wt_5_23, fun _ h => absurd h List.not_mem_nil⟩⟩⟩⟩⟩⟩⟩⟩⟩⟩⟩⟩⟩⟩⟩⟩⟩⟩⟩⟩⟩⟩⟩⟩
theorem wt_6_0 : Cond.fieldLink RX4 201 "BusThrees" "bestKnown" "Z" ∈ lw_tbl := tq_1 _ (List.mem_of_getElem? (i := 184) rfl)
theorem wt_6_1 : Cond.methodLink RX4 54 yX1_changeStop ∈ lw_tbl := tq_1 _ (List.mem_of_getElem? (i := 222) rfl)
theorem wt_6_2 : Cond.instanceMethod yX1_changeStop ∈ lw_tbl := tq_1 _ (List.mem_of_getElem? (i := 223) rfl)
theorem wt_6_3 : Cond.selects RX1 yX1_changeStop yX1_changeStop ∈ lw_tbl := tq_1 _ (List.mem_of_getElem? (i := 224) rfl)
theorem wt_6_4 : Cond.code yX1_changeStop cX1_changeStop 6 (some .int) ∈ lw_tbl := tq_1 _ (List.mem_of_getElem? (i := 225) rfl)
theorem wt_6_5 : Cond.methodLink RL 17 yX5_stop ∈ lw_tbl := tq_3 _ (List.mem_of_getElem? (i := 171) rfl)
theorem wt_6_6 : Cond.instanceMethod yX5_stop ∈ lw_tbl := tq_3 _ (List.mem_of_getElem? (i := 172) rfl)
theorem wt_6_7 : Cond.selects RX5 yX5_stop yX5_stop ∈ lw_tbl := tq_3 _ (List.mem_of_getElem? (i := 173) rfl)
theorem wt_6_8 : Cond.code yX5_stop cX5_stop 6 (some .int) ∈ lw_tbl := tq_3 _ (List.mem_of_getElem? (i := 174) rfl)
theorem wt_6_9 : Cond.methodLink RX5 102 yX5_isOn ∈ lw_tbl := tq_3 _ (List.mem_of_getElem? (i := 175) rfl)
theorem wt_6_10 : Cond.static yX5_isOn ∈ lw_tbl := tq_3 _ (List.mem_of_getElem? (i := 176) rfl)
theorem wt_6_11 : Cond.code yX5_isOn cX5_isOn 1 (some .boolean) ∈ lw_tbl := tq_3 _ (List.mem_of_getElem? (i := 177) rfl)
theorem wt_6_12 : Cond.methodLink RX5 94 yX5_in ∈ lw_tbl := tq_3 _ (List.mem_of_getElem? (i := 178) rfl)
theorem wt_6_13 : Cond.static yX5_in ∈ lw_tbl := tq_3 _ (List.mem_of_getElem? (i := 179) rfl)
theorem wt_6_14 : Cond.code yX5_in cX5_in 3 (some .boolean) ∈ lw_tbl := tq_3 _ (List.mem_of_getElem? (i := 180) rfl)
theorem wt_6_15 : Cond.methodLink RL 18 yX4_bus ∈ lw_tbl := tq_1 _ (List.mem_of_getElem? (i := 226) rfl)
theorem wt_6_16 : Cond.instanceMethod yX4_bus ∈ lw_tbl := tq_1 _ (List.mem_of_getElem? (i := 227) rfl)
theorem wt_6_17 : Cond.selects RX4 yX4_bus yX4_bus ∈ lw_tbl := tq_1 _ (List.mem_of_getElem? (i := 228) rfl)
theorem wt_6_18 : Cond.code yX4_bus cX4_bus 3 (some .int) ∈ lw_tbl := tq_1 _ (List.mem_of_getElem? (i := 229) rfl)
theorem wt_6_19 : Cond.fieldLink RX4 62 "BusThrees$Line" "buses" "I" ∈ lw_tbl := tq_1 _ (List.mem_of_getElem? (i := 40) rfl)
theorem wt_6_20 : Cond.methodLink RX4 58 yX1_earliestNewBus ∈ lw_tbl := tq_1 _ (List.mem_of_getElem? (i := 230) rfl)
theorem wt_6_21 : Cond.instanceMethod yX1_earliestNewBus ∈ lw_tbl := tq_1 _ (List.mem_of_getElem? (i := 231) rfl)
theorem wt_6_22 : Cond.selects RX1 yX1_earliestNewBus yX1_earliestNewBus ∈ lw_tbl := tq_1 _ (List.mem_of_getElem? (i := 232) rfl)
theorem wt_6_23 : Cond.code yX1_earliestNewBus cX1_earliestNewBus 1 (some .int) ∈ lw_tbl := tq_1 _ (List.mem_of_getElem? (i := 233) rfl)
theorem wu_6 : ∀ w ∈ wsL_law_r6, w ∈ lw_tbl := List.forall_mem_cons.mpr ⟨wt_6_0, List.forall_mem_cons.mpr ⟨wt_6_1, List.forall_mem_cons.mpr ⟨wt_6_2, List.forall_mem_cons.mpr ⟨wt_6_3, List.forall_mem_cons.mpr ⟨wt_6_4, List.forall_mem_cons.mpr ⟨wt_6_5, List.forall_mem_cons.mpr ⟨wt_6_6, List.forall_mem_cons.mpr ⟨wt_6_7, List.forall_mem_cons.mpr ⟨wt_6_8, List.forall_mem_cons.mpr ⟨wt_6_9, List.forall_mem_cons.mpr ⟨wt_6_10, List.forall_mem_cons.mpr ⟨wt_6_11, List.forall_mem_cons.mpr ⟨wt_6_12, List.forall_mem_cons.mpr ⟨wt_6_13, List.forall_mem_cons.mpr ⟨wt_6_14, List.forall_mem_cons.mpr ⟨wt_6_15, List.forall_mem_cons.mpr ⟨wt_6_16, List.forall_mem_cons.mpr ⟨wt_6_17, List.forall_mem_cons.mpr ⟨wt_6_18, List.forall_mem_cons.mpr ⟨wt_6_19, List.forall_mem_cons.mpr ⟨wt_6_20, List.forall_mem_cons.mpr ⟨wt_6_21, List.forall_mem_cons.mpr ⟨wt_6_22, List.forall_mem_cons.mpr ⟨wt_6_23, fun _ h => absurd h List.not_mem_nil⟩⟩⟩⟩⟩⟩⟩⟩⟩⟩⟩⟩⟩⟩⟩⟩⟩⟩⟩⟩⟩⟩⟩⟩
theorem wt_7_0 : Cond.fieldLink RX1 48 "BusThrees$Line" "buses" "I" ∈ lw_tbl := tq_1 _ (List.mem_of_getElem? (i := 41) rfl)
theorem wt_7_1 : Cond.methodLink RX4 66 yX1_addBus ∈ lw_tbl := tq_1 _ (List.mem_of_getElem? (i := 234) rfl)
theorem wt_7_2 : Cond.instanceMethod yX1_addBus ∈ lw_tbl := tq_1 _ (List.mem_of_getElem? (i := 235) rfl)
theorem wt_7_3 : Cond.selects RX1 yX1_addBus yX1_addBus ∈ lw_tbl := tq_1 _ (List.mem_of_getElem? (i := 236) rfl)
theorem wt_7_4 : Cond.code yX1_addBus cX1_addBus 3 (some .int) ∈ lw_tbl := tq_1 _ (List.mem_of_getElem? (i := 237) rfl)
theorem wt_7_5 : Cond.methodLink RL 22 yX5_bus ∈ lw_tbl := tq_3 _ (List.mem_of_getElem? (i := 181) rfl)
theorem wt_7_6 : Cond.instanceMethod yX5_bus ∈ lw_tbl := tq_3 _ (List.mem_of_getElem? (i := 182) rfl)
theorem wt_7_7 : Cond.selects RX5 yX5_bus yX5_bus ∈ lw_tbl := tq_3 _ (List.mem_of_getElem? (i := 183) rfl)
theorem wt_7_8 : Cond.code yX5_bus cX5_bus 3 (some .int) ∈ lw_tbl := tq_3 _ (List.mem_of_getElem? (i := 184) rfl)
theorem wt_7_9 : Cond.fieldLink RX5 98 "BusThreesModel" "buses" "I" ∈ lw_tbl := tq_3 _ (List.mem_of_getElem? (i := 62) rfl)
theorem wt_7_10 : Cond.methodLink RL 23 yX4_set ∈ lw_tbl := tq_1 _ (List.mem_of_getElem? (i := 238) rfl)
theorem wt_7_11 : Cond.instanceMethod yX4_set ∈ lw_tbl := tq_1 _ (List.mem_of_getElem? (i := 239) rfl)
theorem wt_7_12 : Cond.selects RX4 yX4_set yX4_set ∈ lw_tbl := tq_2 _ (List.mem_of_getElem? (i := 0) rfl)
theorem wt_7_13 : Cond.code yX4_set cX4_set 4 (some .int) ∈ lw_tbl := tq_2 _ (List.mem_of_getElem? (i := 1) rfl)
theorem wt_7_14 : Cond.fieldLink RX4 70 "BusThrees" "MOST_OF_SETTING" "[I" ∈ lw_tbl := tq_2 _ (List.mem_of_getElem? (i := 2) rfl)
theorem wt_7_15 : Cond.fieldLink RX4 74 "BusThrees$Line" "settings" "[I" ∈ lw_tbl := tq_1 _ (List.mem_of_getElem? (i := 32) rfl)
theorem wt_7_16 : Cond.methodLink RL 26 yX5_set ∈ lw_tbl := tq_3 _ (List.mem_of_getElem? (i := 185) rfl)
theorem wt_7_17 : Cond.instanceMethod yX5_set ∈ lw_tbl := tq_3 _ (List.mem_of_getElem? (i := 186) rfl)
theorem wt_7_18 : Cond.selects RX5 yX5_set yX5_set ∈ lw_tbl := tq_3 _ (List.mem_of_getElem? (i := 187) rfl)
theorem wt_7_19 : Cond.code yX5_set cX5_set 4 (some .int) ∈ lw_tbl := tq_3 _ (List.mem_of_getElem? (i := 188) rfl)
theorem wt_7_20 : Cond.methodLink RL 27 yX4_late ∈ lw_tbl := tq_2 _ (List.mem_of_getElem? (i := 4) rfl)
theorem wt_7_21 : Cond.instanceMethod yX4_late ∈ lw_tbl := tq_2 _ (List.mem_of_getElem? (i := 5) rfl)
theorem wt_7_22 : Cond.selects RX4 yX4_late yX4_late ∈ lw_tbl := tq_2 _ (List.mem_of_getElem? (i := 6) rfl)
theorem wt_7_23 : Cond.code yX4_late cX4_late 4 (some .int) ∈ lw_tbl := tq_2 _ (List.mem_of_getElem? (i := 7) rfl)
theorem wu_7 : ∀ w ∈ wsL_law_r7, w ∈ lw_tbl := List.forall_mem_cons.mpr ⟨wt_7_0, List.forall_mem_cons.mpr ⟨wt_7_1, List.forall_mem_cons.mpr ⟨wt_7_2, List.forall_mem_cons.mpr ⟨wt_7_3, List.forall_mem_cons.mpr ⟨wt_7_4, List.forall_mem_cons.mpr ⟨wt_7_5, List.forall_mem_cons.mpr ⟨wt_7_6, List.forall_mem_cons.mpr ⟨wt_7_7, List.forall_mem_cons.mpr ⟨wt_7_8, List.forall_mem_cons.mpr ⟨wt_7_9, List.forall_mem_cons.mpr ⟨wt_7_10, List.forall_mem_cons.mpr ⟨wt_7_11, List.forall_mem_cons.mpr ⟨wt_7_12, List.forall_mem_cons.mpr ⟨wt_7_13, List.forall_mem_cons.mpr ⟨wt_7_14, List.forall_mem_cons.mpr ⟨wt_7_15, List.forall_mem_cons.mpr ⟨wt_7_16, List.forall_mem_cons.mpr ⟨wt_7_17, List.forall_mem_cons.mpr ⟨wt_7_18, List.forall_mem_cons.mpr ⟨wt_7_19, List.forall_mem_cons.mpr ⟨wt_7_20, List.forall_mem_cons.mpr ⟨wt_7_21, List.forall_mem_cons.mpr ⟨wt_7_22, List.forall_mem_cons.mpr ⟨wt_7_23, fun _ h => absurd h List.not_mem_nil⟩⟩⟩⟩⟩⟩⟩⟩⟩⟩⟩⟩⟩⟩⟩⟩⟩⟩⟩⟩⟩⟩⟩⟩
theorem wt_8_0 : Cond.fieldLink RX4 80 "BusThrees$Line" "latenesses" "I" ∈ lw_tbl := tq_1 _ (List.mem_of_getElem? (i := 50) rfl)
theorem wt_8_1 : Cond.methodLink RX4 77 yX1_hasBus ∈ lw_tbl := tq_2 _ (List.mem_of_getElem? (i := 8) rfl)
theorem wt_8_2 : Cond.instanceMethod yX1_hasBus ∈ lw_tbl := tq_2 _ (List.mem_of_getElem? (i := 9) rfl)
theorem wt_8_3 : Cond.selects RX1 yX1_hasBus yX1_hasBus ∈ lw_tbl := tq_2 _ (List.mem_of_getElem? (i := 10) rfl)
theorem wt_8_4 : Cond.code yX1_hasBus cX1_hasBus 2 (some .boolean) ∈ lw_tbl := tq_2 _ (List.mem_of_getElem? (i := 11) rfl)
theorem wt_8_5 : Cond.methodLink RX4 83 yX1_addLateness ∈ lw_tbl := tq_2 _ (List.mem_of_getElem? (i := 12) rfl)
theorem wt_8_6 : Cond.instanceMethod yX1_addLateness ∈ lw_tbl := tq_2 _ (List.mem_of_getElem? (i := 13) rfl)
theorem wt_8_7 : Cond.selects RX1 yX1_addLateness yX1_addLateness ∈ lw_tbl := tq_2 _ (List.mem_of_getElem? (i := 14) rfl)
theorem wt_8_8 : Cond.code yX1_addLateness cX1_addLateness 4 (some .int) ∈ lw_tbl := tq_2 _ (List.mem_of_getElem? (i := 15) rfl)
theorem wt_8_9 : Cond.fieldLink RX1 52 "BusThrees$Line" "latenesses" "I" ∈ lw_tbl := tq_1 _ (List.mem_of_getElem? (i := 51) rfl)
theorem wt_8_10 : Cond.methodLink RL 30 yX5_late ∈ lw_tbl := tq_3 _ (List.mem_of_getElem? (i := 189) rfl)
theorem wt_8_11 : Cond.instanceMethod yX5_late ∈ lw_tbl := tq_3 _ (List.mem_of_getElem? (i := 190) rfl)
theorem wt_8_12 : Cond.selects RX5 yX5_late yX5_late ∈ lw_tbl := tq_3 _ (List.mem_of_getElem? (i := 191) rfl)
theorem wt_8_13 : Cond.code yX5_late cX5_late 4 (some .int) ∈ lw_tbl := tq_3 _ (List.mem_of_getElem? (i := 192) rfl)
theorem wt_8_14 : Cond.fieldLink RX5 109 "BusThreesModel" "late" "I" ∈ lw_tbl := tq_3 _ (List.mem_of_getElem? (i := 67) rfl)
theorem wt_8_15 : Cond.methodLink RX5 106 yX5_isBus ∈ lw_tbl := tq_3 _ (List.mem_of_getElem? (i := 193) rfl)
theorem wt_8_16 : Cond.instanceMethod yX5_isBus ∈ lw_tbl := tq_3 _ (List.mem_of_getElem? (i := 195) rfl)
theorem wt_8_17 : Cond.selects RX5 yX5_isBus yX5_isBus ∈ lw_tbl := tq_s _ (List.mem_of_getElem? (i := 19) rfl)
theorem wt_8_18 : Cond.code yX5_isBus cX5_isBus 2 (some .boolean) ∈ lw_tbl := tq_3 _ (List.mem_of_getElem? (i := 196) rfl)
theorem wt_8_19 : Cond.methodLink RL 31 yX4_mend ∈ lw_tbl := tq_2 _ (List.mem_of_getElem? (i := 16) rfl)
theorem wt_8_20 : Cond.instanceMethod yX4_mend ∈ lw_tbl := tq_2 _ (List.mem_of_getElem? (i := 17) rfl)
theorem wt_8_21 : Cond.selects RX4 yX4_mend yX4_mend ∈ lw_tbl := tq_2 _ (List.mem_of_getElem? (i := 18) rfl)
theorem wt_8_22 : Cond.code yX4_mend cX4_mend 1 (some .int) ∈ lw_tbl := tq_2 _ (List.mem_of_getElem? (i := 19) rfl)
theorem wt_8_23 : Cond.methodLink RL 35 yX5_mend ∈ lw_tbl := tq_3 _ (List.mem_of_getElem? (i := 197) rfl)
theorem wu_8 : ∀ w ∈ wsL_law_r8, w ∈ lw_tbl := List.forall_mem_cons.mpr ⟨wt_8_0, List.forall_mem_cons.mpr ⟨wt_8_1, List.forall_mem_cons.mpr ⟨wt_8_2, List.forall_mem_cons.mpr ⟨wt_8_3, List.forall_mem_cons.mpr ⟨wt_8_4, List.forall_mem_cons.mpr ⟨wt_8_5, List.forall_mem_cons.mpr ⟨wt_8_6, List.forall_mem_cons.mpr ⟨wt_8_7, List.forall_mem_cons.mpr ⟨wt_8_8, List.forall_mem_cons.mpr ⟨wt_8_9, List.forall_mem_cons.mpr ⟨wt_8_10, List.forall_mem_cons.mpr ⟨wt_8_11, List.forall_mem_cons.mpr ⟨wt_8_12, List.forall_mem_cons.mpr ⟨wt_8_13, List.forall_mem_cons.mpr ⟨wt_8_14, List.forall_mem_cons.mpr ⟨wt_8_15, List.forall_mem_cons.mpr ⟨wt_8_16, List.forall_mem_cons.mpr ⟨wt_8_17, List.forall_mem_cons.mpr ⟨wt_8_18, List.forall_mem_cons.mpr ⟨wt_8_19, List.forall_mem_cons.mpr ⟨wt_8_20, List.forall_mem_cons.mpr ⟨wt_8_21, List.forall_mem_cons.mpr ⟨wt_8_22, List.forall_mem_cons.mpr ⟨wt_8_23, fun _ h => absurd h List.not_mem_nil⟩⟩⟩⟩⟩⟩⟩⟩⟩⟩⟩⟩⟩⟩⟩⟩⟩⟩⟩⟩⟩⟩⟩⟩
theorem wt_9_0 : Cond.instanceMethod yX5_mend ∈ lw_tbl := tq_3 _ (List.mem_of_getElem? (i := 198) rfl)
theorem wt_9_1 : Cond.selects RX5 yX5_mend yX5_mend ∈ lw_tbl := tq_3 _ (List.mem_of_getElem? (i := 199) rfl)
theorem wt_9_2 : Cond.code yX5_mend cX5_mend 1 (some .int) ∈ lw_tbl := tq_3 _ (List.mem_of_getElem? (i := 200) rfl)
theorem wt_9_3 : Cond.methodLink RL 36 yX4_turn ∈ lw_tbl := tq_2 _ (List.mem_of_getElem? (i := 20) rfl)
theorem wt_9_4 : Cond.instanceMethod yX4_turn ∈ lw_tbl := tq_2 _ (List.mem_of_getElem? (i := 21) rfl)
theorem wt_9_5 : Cond.selects RX4 yX4_turn yX4_turn ∈ lw_tbl := tq_2 _ (List.mem_of_getElem? (i := 22) rfl)
theorem wt_9_6 : Cond.code yX4_turn cX4_turn 4 (some .int) ∈ lw_tbl := tq_2 _ (List.mem_of_getElem? (i := 23) rfl)
theorem wt_9_7 : Cond.fieldLink RX4 86 "BusThrees$Line" "end" "[I" ∈ lw_tbl := tq_1 _ (List.mem_of_getElem? (i := 39) rfl)
theorem wt_9_8 : Cond.methodLink RL 39 yX5_turn ∈ lw_tbl := tq_3 _ (List.mem_of_getElem? (i := 201) rfl)
theorem wt_9_9 : Cond.instanceMethod yX5_turn ∈ lw_tbl := tq_3 _ (List.mem_of_getElem? (i := 202) rfl)
theorem wt_9_10 : Cond.selects RX5 yX5_turn yX5_turn ∈ lw_tbl := tq_3 _ (List.mem_of_getElem? (i := 203) rfl)
theorem wt_9_11 : Cond.code yX5_turn cX5_turn 4 (some .int) ∈ lw_tbl := tq_3 _ (List.mem_of_getElem? (i := 204) rfl)
theorem wt_9_12 : Cond.methodLink RL 40 yX4_at ∈ lw_tbl := tq_2 _ (List.mem_of_getElem? (i := 24) rfl)
theorem wt_9_13 : Cond.instanceMethod yX4_at ∈ lw_tbl := tq_2 _ (List.mem_of_getElem? (i := 25) rfl)
theorem wt_9_14 : Cond.selects RX4 yX4_at yX4_at ∈ lw_tbl := tq_2 _ (List.mem_of_getElem? (i := 26) rfl)
theorem wt_9_15 : Cond.code yX4_at cX4_at 4 (some .int) ∈ lw_tbl := tq_2 _ (List.mem_of_getElem? (i := 27) rfl)
theorem wt_9_16 : Cond.methodLink RX4 89 yX4_isStop ∈ lw_tbl := tq_2 _ (List.mem_of_getElem? (i := 28) rfl)
theorem wt_9_17 : Cond.static yX4_isStop ∈ lw_tbl := tq_2 _ (List.mem_of_getElem? (i := 29) rfl)
theorem wt_9_18 : Cond.code yX4_isStop cX4_isStop 1 (some .boolean) ∈ lw_tbl := tq_2 _ (List.mem_of_getElem? (i := 30) rfl)
theorem wt_9_19 : Cond.methodLink RX4 92 yX1_comes ∈ lw_tbl := tq_2 _ (List.mem_of_getElem? (i := 31) rfl)
theorem wt_9_20 : Cond.instanceMethod yX1_comes ∈ lw_tbl := tq_2 _ (List.mem_of_getElem? (i := 32) rfl)
theorem wt_9_21 : Cond.selects RX1 yX1_comes yX1_comes ∈ lw_tbl := tq_2 _ (List.mem_of_getElem? (i := 33) rfl)
theorem wt_9_22 : Cond.code yX1_comes cX1_comes 3 (some .boolean) ∈ lw_tbl := tq_2 _ (List.mem_of_getElem? (i := 34) rfl)
theorem wt_9_23 : Cond.methodLink RX4 95 yX4_presentCourse ∈ lw_tbl := tq_2 _ (List.mem_of_getElem? (i := 35) rfl)
theorem wu_9 : ∀ w ∈ wsL_law_r9, w ∈ lw_tbl := List.forall_mem_cons.mpr ⟨wt_9_0, List.forall_mem_cons.mpr ⟨wt_9_1, List.forall_mem_cons.mpr ⟨wt_9_2, List.forall_mem_cons.mpr ⟨wt_9_3, List.forall_mem_cons.mpr ⟨wt_9_4, List.forall_mem_cons.mpr ⟨wt_9_5, List.forall_mem_cons.mpr ⟨wt_9_6, List.forall_mem_cons.mpr ⟨wt_9_7, List.forall_mem_cons.mpr ⟨wt_9_8, List.forall_mem_cons.mpr ⟨wt_9_9, List.forall_mem_cons.mpr ⟨wt_9_10, List.forall_mem_cons.mpr ⟨wt_9_11, List.forall_mem_cons.mpr ⟨wt_9_12, List.forall_mem_cons.mpr ⟨wt_9_13, List.forall_mem_cons.mpr ⟨wt_9_14, List.forall_mem_cons.mpr ⟨wt_9_15, List.forall_mem_cons.mpr ⟨wt_9_16, List.forall_mem_cons.mpr ⟨wt_9_17, List.forall_mem_cons.mpr ⟨wt_9_18, List.forall_mem_cons.mpr ⟨wt_9_19, List.forall_mem_cons.mpr ⟨wt_9_20, List.forall_mem_cons.mpr ⟨wt_9_21, List.forall_mem_cons.mpr ⟨wt_9_22, List.forall_mem_cons.mpr ⟨wt_9_23, fun _ h => absurd h List.not_mem_nil⟩⟩⟩⟩⟩⟩⟩⟩⟩⟩⟩⟩⟩⟩⟩⟩⟩⟩⟩⟩⟩⟩⟩⟩
theorem wt_10_0 : Cond.instanceMethod yX4_presentCourse ∈ lw_tbl := tq_2 _ (List.mem_of_getElem? (i := 37) rfl)
theorem wt_10_1 : Cond.selects RX4 yX4_presentCourse yX4_presentCourse ∈ lw_tbl := tq_s _ (List.mem_of_getElem? (i := 1) rfl)
theorem wt_10_2 : Cond.code yX4_presentCourse cX4_presentCourse 1 (some (.object "BusThrees$Course")) ∈ lw_tbl := tq_2 _ (List.mem_of_getElem? (i := 38) rfl)
theorem wt_10_3 : Cond.methodLink RX4 141 yX0_layLatenesses ∈ lw_tbl := tq_2 _ (List.mem_of_getElem? (i := 39) rfl)
theorem wt_10_4 : Cond.instanceMethod yX0_layLatenesses ∈ lw_tbl := tq_2 _ (List.mem_of_getElem? (i := 40) rfl)
theorem wt_10_5 : Cond.selects RX0 yX0_layLatenesses yX0_layLatenesses ∈ lw_tbl := tq_2 _ (List.mem_of_getElem? (i := 41) rfl)
theorem wt_10_6 : Cond.code yX0_layLatenesses cX0_layLatenesses 4 none ∈ lw_tbl := tq_2 _ (List.mem_of_getElem? (i := 42) rfl)
theorem wt_10_7 : Cond.fieldLink RX0 52 "BusThrees$Line" "latenesses" "I" ∈ lw_tbl := tq_1 _ (List.mem_of_getElem? (i := 49) rfl)
theorem wt_10_8 : Cond.fieldLink RX0 58 "BusThrees$Line" "lateBus" "[I" ∈ lw_tbl := tq_1 _ (List.mem_of_getElem? (i := 44) rfl)
theorem wt_10_9 : Cond.fieldLink RX0 61 "BusThrees$Line" "lateStop" "[I" ∈ lw_tbl := tq_1 _ (List.mem_of_getElem? (i := 46) rfl)
theorem wt_10_10 : Cond.fieldLink RX0 68 "BusThrees$Line" "lateSeconds" "[I" ∈ lw_tbl := tq_1 _ (List.mem_of_getElem? (i := 48) rfl)
theorem wt_10_11 : Cond.methodLink RX0 46 yJ7_fill_53178 ∈ lw_tbl := tq_2 _ (List.mem_of_getElem? (i := 43) rfl)
theorem wt_10_12 : Cond.static yX4_cell ∈ lw_tbl := tq_2 _ (List.mem_of_getElem? (i := 45) rfl)
theorem wt_10_13 : Cond.code yX4_cell cX4_cell 2 (some .int) ∈ lw_tbl := tq_2 _ (List.mem_of_getElem? (i := 46) rfl)
theorem wt_10_14 : Cond.methodLink RX4 145 yX0_play ∈ lw_tbl := tq_2 _ (List.mem_of_getElem? (i := 47) rfl)
theorem wt_10_15 : Cond.instanceMethod yX0_play ∈ lw_tbl := tq_2 _ (List.mem_of_getElem? (i := 48) rfl)
theorem wt_10_16 : Cond.selects RX0 yX0_play yX0_play ∈ lw_tbl := tq_2 _ (List.mem_of_getElem? (i := 49) rfl)
theorem wt_10_17 : Cond.code yX0_play cX0_play 4 none ∈ lw_tbl := tq_2 _ (List.mem_of_getElem? (i := 50) rfl)
theorem wt_10_18 : Cond.fieldLink RX0 74 "BusThrees$Course" "rode" "J" ∈ lw_tbl := tq_1 _ (List.mem_of_getElem? (i := 118) rfl)
theorem wt_10_19 : Cond.fieldLink RX0 78 "BusThrees$Course" "stranded" "I" ∈ lw_tbl := tq_1 _ (List.mem_of_getElem? (i := 120) rfl)
theorem wt_10_20 : Cond.methodLink RX0 71 yJ7_fill_d0a16 ∈ lw_tbl := tq_2 _ (List.mem_of_getElem? (i := 51) rfl)
theorem wt_10_21 : Cond.static yJ7_fill_d0a16 ∈ lw_tbl := tq_2 _ (List.mem_of_getElem? (i := 52) rfl)
theorem wt_10_22 : Cond.code yJ7_fill_d0a16 cJ7_fill_d0a16 5 none ∈ lw_tbl := tq_2 _ (List.mem_of_getElem? (i := 53) rfl)
theorem wt_10_23 : Cond.methodLink RX0 81 yX0_playStop ∈ lw_tbl := tq_2 _ (List.mem_of_getElem? (i := 54) rfl)
theorem wu_10 : ∀ w ∈ wsL_law_r10, w ∈ lw_tbl := List.forall_mem_cons.mpr ⟨wt_10_0, List.forall_mem_cons.mpr ⟨wt_10_1, List.forall_mem_cons.mpr ⟨wt_10_2, List.forall_mem_cons.mpr ⟨wt_10_3, List.forall_mem_cons.mpr ⟨wt_10_4, List.forall_mem_cons.mpr ⟨wt_10_5, List.forall_mem_cons.mpr ⟨wt_10_6, List.forall_mem_cons.mpr ⟨wt_10_7, List.forall_mem_cons.mpr ⟨wt_10_8, List.forall_mem_cons.mpr ⟨wt_10_9, List.forall_mem_cons.mpr ⟨wt_10_10, List.forall_mem_cons.mpr ⟨wt_10_11, List.forall_mem_cons.mpr ⟨wt_10_12, List.forall_mem_cons.mpr ⟨wt_10_13, List.forall_mem_cons.mpr ⟨wt_10_14, List.forall_mem_cons.mpr ⟨wt_10_15, List.forall_mem_cons.mpr ⟨wt_10_16, List.forall_mem_cons.mpr ⟨wt_10_17, List.forall_mem_cons.mpr ⟨wt_10_18, List.forall_mem_cons.mpr ⟨wt_10_19, List.forall_mem_cons.mpr ⟨wt_10_20, List.forall_mem_cons.mpr ⟨wt_10_21, List.forall_mem_cons.mpr ⟨wt_10_22, List.forall_mem_cons.mpr ⟨wt_10_23, fun _ h => absurd h List.not_mem_nil⟩⟩⟩⟩⟩⟩⟩⟩⟩⟩⟩⟩⟩⟩⟩⟩⟩⟩⟩⟩⟩⟩⟩⟩
theorem wt_11_0 : Cond.instanceMethod yX0_playStop ∈ lw_tbl := tq_2 _ (List.mem_of_getElem? (i := 56) rfl)
theorem wt_11_1 : Cond.selects RX0 yX0_playStop yX0_playStop ∈ lw_tbl := tq_s _ (List.mem_of_getElem? (i := 2) rfl)
theorem wt_11_2 : Cond.code yX0_playStop cX0_playStop 6 none ∈ lw_tbl := tq_2 _ (List.mem_of_getElem? (i := 57) rfl)
theorem wt_11_3 : Cond.fieldLink RX0 85 "BusThrees$Course" "latest" "I" ∈ lw_tbl := tq_1 _ (List.mem_of_getElem? (i := 123) rfl)
theorem wt_11_4 : Cond.fieldLink RX0 88 "BusThrees$Course" "latestGoing" "I" ∈ lw_tbl := tq_1 _ (List.mem_of_getElem? (i := 124) rfl)
theorem wt_11_5 : Cond.methodLink RX0 91 yX0_orderComing ∈ lw_tbl := tq_2 _ (List.mem_of_getElem? (i := 58) rfl)
theorem wt_11_6 : Cond.instanceMethod yX0_orderComing ∈ lw_tbl := tq_2 _ (List.mem_of_getElem? (i := 60) rfl)
theorem wt_11_7 : Cond.selects RX0 yX0_orderComing yX0_orderComing ∈ lw_tbl := tq_s _ (List.mem_of_getElem? (i := 3) rfl)
theorem wt_11_8 : Cond.code yX0_orderComing cX0_orderComing 6 (some .int) ∈ lw_tbl := tq_2 _ (List.mem_of_getElem? (i := 61) rfl)
theorem wt_11_9 : Cond.fieldLink RX0 99 "BusThrees$Line" "buses" "I" ∈ lw_tbl := tq_1 _ (List.mem_of_getElem? (i := 42) rfl)
theorem wt_11_10 : Cond.fieldLink RX0 106 "BusThrees$Line" "second" "[I" ∈ lw_tbl := tq_1 _ (List.mem_of_getElem? (i := 35) rfl)
theorem wt_11_11 : Cond.fieldLink RX0 109 "BusThrees$Line" "ride" "[I" ∈ lw_tbl := tq_1 _ (List.mem_of_getElem? (i := 27) rfl)
theorem wt_11_12 : Cond.methodLink RX0 102 yX1_comes ∈ lw_tbl := tq_2 _ (List.mem_of_getElem? (i := 62) rfl)
theorem wt_11_13 : Cond.methodLink RX0 112 yX0_putInOrder ∈ lw_tbl := tq_2 _ (List.mem_of_getElem? (i := 63) rfl)
theorem wt_11_14 : Cond.instanceMethod yX0_putInOrder ∈ lw_tbl := tq_2 _ (List.mem_of_getElem? (i := 65) rfl)
theorem wt_11_15 : Cond.selects RX0 yX0_putInOrder yX0_putInOrder ∈ lw_tbl := tq_s _ (List.mem_of_getElem? (i := 4) rfl)
theorem wt_11_16 : Cond.code yX0_putInOrder cX0_putInOrder 6 none ∈ lw_tbl := tq_2 _ (List.mem_of_getElem? (i := 66) rfl)
theorem wt_11_17 : Cond.methodLink RX0 95 yX0_visit ∈ lw_tbl := tq_2 _ (List.mem_of_getElem? (i := 67) rfl)
theorem wt_11_18 : Cond.instanceMethod yX0_visit ∈ lw_tbl := tq_2 _ (List.mem_of_getElem? (i := 69) rfl)
theorem wt_11_19 : Cond.selects RX0 yX0_visit yX0_visit ∈ lw_tbl := tq_s _ (List.mem_of_getElem? (i := 5) rfl)
theorem wt_11_20 : Cond.code yX0_visit cX0_visit 7 none ∈ lw_tbl := tq_2 _ (List.mem_of_getElem? (i := 70) rfl)
theorem wt_11_21 : Cond.fieldLink RX0 119 "BusThrees$Line" "settings" "[I" ∈ lw_tbl := tq_1 _ (List.mem_of_getElem? (i := 33) rfl)
theorem wt_11_22 : Cond.methodLink RX0 122 Lib.Math.max.name ∈ lw_tbl := tq_2 _ (List.mem_of_getElem? (i := 71) rfl)
theorem wt_11_23 : Cond.static Lib.Math.max.name ∈ lw_tbl := tq_2 _ (List.mem_of_getElem? (i := 72) rfl)
theorem wu_11 : ∀ w ∈ wsL_law_r11, w ∈ lw_tbl := List.forall_mem_cons.mpr ⟨wt_11_0, List.forall_mem_cons.mpr ⟨wt_11_1, List.forall_mem_cons.mpr ⟨wt_11_2, List.forall_mem_cons.mpr ⟨wt_11_3, List.forall_mem_cons.mpr ⟨wt_11_4, List.forall_mem_cons.mpr ⟨wt_11_5, List.forall_mem_cons.mpr ⟨wt_11_6, List.forall_mem_cons.mpr ⟨wt_11_7, List.forall_mem_cons.mpr ⟨wt_11_8, List.forall_mem_cons.mpr ⟨wt_11_9, List.forall_mem_cons.mpr ⟨wt_11_10, List.forall_mem_cons.mpr ⟨wt_11_11, List.forall_mem_cons.mpr ⟨wt_11_12, List.forall_mem_cons.mpr ⟨wt_11_13, List.forall_mem_cons.mpr ⟨wt_11_14, List.forall_mem_cons.mpr ⟨wt_11_15, List.forall_mem_cons.mpr ⟨wt_11_16, List.forall_mem_cons.mpr ⟨wt_11_17, List.forall_mem_cons.mpr ⟨wt_11_18, List.forall_mem_cons.mpr ⟨wt_11_19, List.forall_mem_cons.mpr ⟨wt_11_20, List.forall_mem_cons.mpr ⟨wt_11_21, List.forall_mem_cons.mpr ⟨wt_11_22, List.forall_mem_cons.mpr ⟨wt_11_23, fun _ h => absurd h List.not_mem_nil⟩⟩⟩⟩⟩⟩⟩⟩⟩⟩⟩⟩⟩⟩⟩⟩⟩⟩⟩⟩⟩⟩⟩⟩
theorem wt_12_0 : Cond.initialized "java/lang/Math" ∈ lw_tbl := tq_1 _ (List.mem_of_getElem? (i := 8) rfl)
theorem wt_12_1 : Cond.code Lib.Math.max.name Lib.Math.max.code 2 (some .int) ∈ lw_tbl := tq_2 _ (List.mem_of_getElem? (i := 73) rfl)
theorem wt_12_2 : Cond.methodLink RX0 127 yX0_countAtGoal ∈ lw_tbl := tq_2 _ (List.mem_of_getElem? (i := 74) rfl)
theorem wt_12_3 : Cond.instanceMethod yX0_countAtGoal ∈ lw_tbl := tq_2 _ (List.mem_of_getElem? (i := 76) rfl)
theorem wt_12_4 : Cond.selects RX0 yX0_countAtGoal yX0_countAtGoal ∈ lw_tbl := tq_s _ (List.mem_of_getElem? (i := 6) rfl)
theorem wt_12_5 : Cond.code yX0_countAtGoal cX0_countAtGoal 6 (some .int) ∈ lw_tbl := tq_2 _ (List.mem_of_getElem? (i := 77) rfl)
theorem wt_12_6 : Cond.methodLink RX0 146 yX1_goal ∈ lw_tbl := tq_2 _ (List.mem_of_getElem? (i := 78) rfl)
theorem wt_12_7 : Cond.instanceMethod yX1_goal ∈ lw_tbl := tq_2 _ (List.mem_of_getElem? (i := 79) rfl)
theorem wt_12_8 : Cond.selects RX1 yX1_goal yX1_goal ∈ lw_tbl := tq_2 _ (List.mem_of_getElem? (i := 80) rfl)
theorem wt_12_9 : Cond.code yX1_goal cX1_goal 2 (some .int) ∈ lw_tbl := tq_2 _ (List.mem_of_getElem? (i := 81) rfl)
theorem wt_12_10 : Cond.methodLink RX1 55 Lib.Math.min.name ∈ lw_tbl := tq_2 _ (List.mem_of_getElem? (i := 82) rfl)
theorem wt_12_11 : Cond.static Lib.Math.min.name ∈ lw_tbl := tq_2 _ (List.mem_of_getElem? (i := 83) rfl)
theorem wt_12_12 : Cond.code Lib.Math.min.name Lib.Math.min.code 2 (some .int) ∈ lw_tbl := tq_2 _ (List.mem_of_getElem? (i := 84) rfl)
theorem wt_12_13 : Cond.methodLink RX0 116 yX1_goesOn ∈ lw_tbl := tq_2 _ (List.mem_of_getElem? (i := 85) rfl)
theorem wt_12_14 : Cond.instanceMethod yX1_goesOn ∈ lw_tbl := tq_2 _ (List.mem_of_getElem? (i := 86) rfl)
theorem wt_12_15 : Cond.selects RX1 yX1_goesOn yX1_goesOn ∈ lw_tbl := tq_2 _ (List.mem_of_getElem? (i := 87) rfl)
theorem wt_12_16 : Cond.code yX1_goesOn cX1_goesOn 3 (some .boolean) ∈ lw_tbl := tq_2 _ (List.mem_of_getElem? (i := 88) rfl)
theorem wt_12_17 : Cond.methodLink RX0 131 yX0_pickUp ∈ lw_tbl := tq_2 _ (List.mem_of_getElem? (i := 89) rfl)
theorem wt_12_18 : Cond.instanceMethod yX0_pickUp ∈ lw_tbl := tq_2 _ (List.mem_of_getElem? (i := 91) rfl)
theorem wt_12_19 : Cond.selects RX0 yX0_pickUp yX0_pickUp ∈ lw_tbl := tq_s _ (List.mem_of_getElem? (i := 7) rfl)
theorem wt_12_20 : Cond.code yX0_pickUp cX0_pickUp 8 none ∈ lw_tbl := tq_2 _ (List.mem_of_getElem? (i := 92) rfl)
theorem wt_12_21 : Cond.fieldLink RX0 152 "BusThrees$Line" "seats" "[I" ∈ lw_tbl := tq_1 _ (List.mem_of_getElem? (i := 37) rfl)
theorem wt_12_22 : Cond.methodLink RX0 155 Lib.Math.min.name ∈ lw_tbl := tq_2 _ (List.mem_of_getElem? (i := 97) rfl)
theorem wt_12_23 : Cond.fieldLink RX0 158 "BusThrees$Line" "gap" "[I" ∈ lw_tbl := tq_1 _ (List.mem_of_getElem? (i := 29) rfl)
theorem wu_12 : ∀ w ∈ wsL_law_r12, w ∈ lw_tbl := List.forall_mem_cons.mpr ⟨wt_12_0, List.forall_mem_cons.mpr ⟨wt_12_1, List.forall_mem_cons.mpr ⟨wt_12_2, List.forall_mem_cons.mpr ⟨wt_12_3, List.forall_mem_cons.mpr ⟨wt_12_4, List.forall_mem_cons.mpr ⟨wt_12_5, List.forall_mem_cons.mpr ⟨wt_12_6, List.forall_mem_cons.mpr ⟨wt_12_7, List.forall_mem_cons.mpr ⟨wt_12_8, List.forall_mem_cons.mpr ⟨wt_12_9, List.forall_mem_cons.mpr ⟨wt_12_10, List.forall_mem_cons.mpr ⟨wt_12_11, List.forall_mem_cons.mpr ⟨wt_12_12, List.forall_mem_cons.mpr ⟨wt_12_13, List.forall_mem_cons.mpr ⟨wt_12_14, List.forall_mem_cons.mpr ⟨wt_12_15, List.forall_mem_cons.mpr ⟨wt_12_16, List.forall_mem_cons.mpr ⟨wt_12_17, List.forall_mem_cons.mpr ⟨wt_12_18, List.forall_mem_cons.mpr ⟨wt_12_19, List.forall_mem_cons.mpr ⟨wt_12_20, List.forall_mem_cons.mpr ⟨wt_12_21, List.forall_mem_cons.mpr ⟨wt_12_22, List.forall_mem_cons.mpr ⟨wt_12_23, fun _ h => absurd h List.not_mem_nil⟩⟩⟩⟩⟩⟩⟩⟩⟩⟩⟩⟩⟩⟩⟩⟩⟩⟩⟩⟩⟩⟩⟩⟩
theorem wt_13_0 : Cond.methodLink RX0 150 yX1_come ∈ lw_tbl := tq_2 _ (List.mem_of_getElem? (i := 93) rfl)
theorem wt_13_1 : Cond.instanceMethod yX1_come ∈ lw_tbl := tq_2 _ (List.mem_of_getElem? (i := 94) rfl)
theorem wt_13_2 : Cond.selects RX1 yX1_come yX1_come ∈ lw_tbl := tq_2 _ (List.mem_of_getElem? (i := 95) rfl)
theorem wt_13_3 : Cond.code yX1_come cX1_come 3 (some .int) ∈ lw_tbl := tq_2 _ (List.mem_of_getElem? (i := 96) rfl)
theorem wt_13_4 : Cond.methodLink RX0 161 yX0_noteWaits ∈ lw_tbl := tq_2 _ (List.mem_of_getElem? (i := 98) rfl)
theorem wt_13_5 : Cond.instanceMethod yX0_noteWaits ∈ lw_tbl := tq_2 _ (List.mem_of_getElem? (i := 100) rfl)
theorem wt_13_6 : Cond.selects RX0 yX0_noteWaits yX0_noteWaits ∈ lw_tbl := tq_s _ (List.mem_of_getElem? (i := 8) rfl)
theorem wt_13_7 : Cond.code yX0_noteWaits cX0_noteWaits 8 none ∈ lw_tbl := tq_2 _ (List.mem_of_getElem? (i := 101) rfl)
theorem wt_13_8 : Cond.constantLong RX0 165 (2) ∈ lw_tbl := tq_2 _ (List.mem_of_getElem? (i := 102) rfl)
theorem wt_13_9 : Cond.methodLink RX0 135 yX0_stand ∈ lw_tbl := tq_2 _ (List.mem_of_getElem? (i := 103) rfl)
theorem wt_13_10 : Cond.instanceMethod yX0_stand ∈ lw_tbl := tq_2 _ (List.mem_of_getElem? (i := 105) rfl)
theorem wt_13_11 : Cond.selects RX0 yX0_stand yX0_stand ∈ lw_tbl := tq_s _ (List.mem_of_getElem? (i := 9) rfl)
theorem wt_13_12 : Cond.code yX0_stand cX0_stand 5 (some .int) ∈ lw_tbl := tq_2 _ (List.mem_of_getElem? (i := 106) rfl)
theorem wt_13_13 : Cond.methodLink RX0 138 yX0_waitByRule ∈ lw_tbl := tq_2 _ (List.mem_of_getElem? (i := 107) rfl)
theorem wt_13_14 : Cond.instanceMethod yX0_waitByRule ∈ lw_tbl := tq_2 _ (List.mem_of_getElem? (i := 109) rfl)
theorem wt_13_15 : Cond.selects RX0 yX0_waitByRule yX0_waitByRule ∈ lw_tbl := tq_s _ (List.mem_of_getElem? (i := 10) rfl)
theorem wt_13_16 : Cond.code yX0_waitByRule cX0_waitByRule 6 none ∈ lw_tbl := tq_2 _ (List.mem_of_getElem? (i := 110) rfl)
theorem wt_13_17 : Cond.methodLink RX0 167 yX2_soonest ∈ lw_tbl := tq_2 _ (List.mem_of_getElem? (i := 111) rfl)
theorem wt_13_18 : Cond.instanceMethod yX2_soonest ∈ lw_tbl := tq_2 _ (List.mem_of_getElem? (i := 112) rfl)
theorem wt_13_19 : Cond.selects RX2 yX2_soonest yX2_soonest ∈ lw_tbl := tq_2 _ (List.mem_of_getElem? (i := 113) rfl)
theorem wt_13_20 : Cond.code yX2_soonest cX2_soonest 4 (some .int) ∈ lw_tbl := tq_2 _ (List.mem_of_getElem? (i := 114) rfl)
theorem wt_13_21 : Cond.methodLink RX0 142 yX0_emptyOut ∈ lw_tbl := tq_2 _ (List.mem_of_getElem? (i := 115) rfl)
theorem wt_13_22 : Cond.instanceMethod yX0_emptyOut ∈ lw_tbl := tq_2 _ (List.mem_of_getElem? (i := 117) rfl)
theorem wt_13_23 : Cond.selects RX0 yX0_emptyOut yX0_emptyOut ∈ lw_tbl := tq_s _ (List.mem_of_getElem? (i := 11) rfl)
theorem wu_13 : ∀ w ∈ wsL_law_r13, w ∈ lw_tbl := List.forall_mem_cons.mpr ⟨wt_13_0, List.forall_mem_cons.mpr ⟨wt_13_1, List.forall_mem_cons.mpr ⟨wt_13_2, List.forall_mem_cons.mpr ⟨wt_13_3, List.forall_mem_cons.mpr ⟨wt_13_4, List.forall_mem_cons.mpr ⟨wt_13_5, List.forall_mem_cons.mpr ⟨wt_13_6, List.forall_mem_cons.mpr ⟨wt_13_7, List.forall_mem_cons.mpr ⟨wt_13_8, List.forall_mem_cons.mpr ⟨wt_13_9, List.forall_mem_cons.mpr ⟨wt_13_10, List.forall_mem_cons.mpr ⟨wt_13_11, List.forall_mem_cons.mpr ⟨wt_13_12, List.forall_mem_cons.mpr ⟨wt_13_13, List.forall_mem_cons.mpr ⟨wt_13_14, List.forall_mem_cons.mpr ⟨wt_13_15, List.forall_mem_cons.mpr ⟨wt_13_16, List.forall_mem_cons.mpr ⟨wt_13_17, List.forall_mem_cons.mpr ⟨wt_13_18, List.forall_mem_cons.mpr ⟨wt_13_19, List.forall_mem_cons.mpr ⟨wt_13_20, List.forall_mem_cons.mpr ⟨wt_13_21, List.forall_mem_cons.mpr ⟨wt_13_22, List.forall_mem_cons.mpr ⟨wt_13_23, fun _ h => absurd h List.not_mem_nil⟩⟩⟩⟩⟩⟩⟩⟩⟩⟩⟩⟩⟩⟩⟩⟩⟩⟩⟩⟩⟩⟩⟩⟩
theorem wt_14_0 : Cond.code yX0_emptyOut cX0_emptyOut 4 none ∈ lw_tbl := tq_2 _ (List.mem_of_getElem? (i := 118) rfl)
theorem wt_14_1 : Cond.methodLink RX4 99 yX4_cell ∈ lw_tbl := tq_2 _ (List.mem_of_getElem? (i := 119) rfl)
theorem wt_14_2 : Cond.methodLink RX4 102 yX0_tellVisit ∈ lw_tbl := tq_2 _ (List.mem_of_getElem? (i := 120) rfl)
theorem wt_14_3 : Cond.instanceMethod yX0_tellVisit ∈ lw_tbl := tq_2 _ (List.mem_of_getElem? (i := 121) rfl)
theorem wt_14_4 : Cond.selects RX0 yX0_tellVisit yX0_tellVisit ∈ lw_tbl := tq_2 _ (List.mem_of_getElem? (i := 122) rfl)
theorem wt_14_5 : Cond.code yX0_tellVisit cX0_tellVisit 3 (some .int) ∈ lw_tbl := tq_2 _ (List.mem_of_getElem? (i := 123) rfl)
theorem wt_14_6 : Cond.methodLink RL 43 yX5_at ∈ lw_tbl := tq_3 _ (List.mem_of_getElem? (i := 205) rfl)
theorem wt_14_7 : Cond.instanceMethod yX5_at ∈ lw_tbl := tq_3 _ (List.mem_of_getElem? (i := 206) rfl)
theorem wt_14_8 : Cond.selects RX5 yX5_at yX5_at ∈ lw_tbl := tq_3 _ (List.mem_of_getElem? (i := 207) rfl)
theorem wt_14_9 : Cond.code yX5_at cX5_at 5 (some .int) ∈ lw_tbl := tq_3 _ (List.mem_of_getElem? (i := 208) rfl)
theorem wt_14_10 : Cond.methodLink RX5 140 yX5_lay ∈ lw_tbl := tq_3 _ (List.mem_of_getElem? (i := 209) rfl)
theorem wt_14_11 : Cond.instanceMethod yX5_lay ∈ lw_tbl := tq_3 _ (List.mem_of_getElem? (i := 211) rfl)
theorem wt_14_12 : Cond.selects RX5 yX5_lay yX5_lay ∈ lw_tbl := tq_s _ (List.mem_of_getElem? (i := 20) rfl)
theorem wt_14_13 : Cond.code yX5_lay cX5_lay 3 none ∈ lw_tbl := tq_3 _ (List.mem_of_getElem? (i := 212) rfl)
theorem wt_14_14 : Cond.fieldLink RX5 112 "BusThreesModel" "rode" "I" ∈ lw_tbl := tq_3 _ (List.mem_of_getElem? (i := 88) rfl)
theorem wt_14_15 : Cond.fieldLink RX5 115 "BusThreesModel" "stranded" "I" ∈ lw_tbl := tq_3 _ (List.mem_of_getElem? (i := 89) rfl)
theorem wt_14_16 : Cond.methodLink RX5 136 yX5_atStop ∈ lw_tbl := tq_3 _ (List.mem_of_getElem? (i := 213) rfl)
theorem wt_14_17 : Cond.instanceMethod yX5_atStop ∈ lw_tbl := tq_3 _ (List.mem_of_getElem? (i := 215) rfl)
theorem wt_14_18 : Cond.selects RX5 yX5_atStop yX5_atStop ∈ lw_tbl := tq_s _ (List.mem_of_getElem? (i := 21) rfl)
theorem wt_14_19 : Cond.code yX5_atStop cX5_atStop 15 none ∈ lw_tbl := tq_3 _ (List.mem_of_getElem? (i := 216) rfl)
theorem wt_14_20 : Cond.fieldLink RX5 118 "BusThreesModel" "taken" "I" ∈ lw_tbl := tq_3 _ (List.mem_of_getElem? (i := 90) rfl)
theorem wt_14_21 : Cond.methodLink RX5 121 yX5_layOrder ∈ lw_tbl := tq_3 _ (List.mem_of_getElem? (i := 217) rfl)
theorem wt_14_22 : Cond.instanceMethod yX5_layOrder ∈ lw_tbl := tq_3 _ (List.mem_of_getElem? (i := 219) rfl)
theorem wt_14_23 : Cond.selects RX5 yX5_layOrder yX5_layOrder ∈ lw_tbl := tq_s _ (List.mem_of_getElem? (i := 22) rfl)
theorem wu_14 : ∀ w ∈ wsL_law_r14, w ∈ lw_tbl := List.forall_mem_cons.mpr ⟨wt_14_0, List.forall_mem_cons.mpr ⟨wt_14_1, List.forall_mem_cons.mpr ⟨wt_14_2, List.forall_mem_cons.mpr ⟨wt_14_3, List.forall_mem_cons.mpr ⟨wt_14_4, List.forall_mem_cons.mpr ⟨wt_14_5, List.forall_mem_cons.mpr ⟨wt_14_6, List.forall_mem_cons.mpr ⟨wt_14_7, List.forall_mem_cons.mpr ⟨wt_14_8, List.forall_mem_cons.mpr ⟨wt_14_9, List.forall_mem_cons.mpr ⟨wt_14_10, List.forall_mem_cons.mpr ⟨wt_14_11, List.forall_mem_cons.mpr ⟨wt_14_12, List.forall_mem_cons.mpr ⟨wt_14_13, List.forall_mem_cons.mpr ⟨wt_14_14, List.forall_mem_cons.mpr ⟨wt_14_15, List.forall_mem_cons.mpr ⟨wt_14_16, List.forall_mem_cons.mpr ⟨wt_14_17, List.forall_mem_cons.mpr ⟨wt_14_18, List.forall_mem_cons.mpr ⟨wt_14_19, List.forall_mem_cons.mpr ⟨wt_14_20, List.forall_mem_cons.mpr ⟨wt_14_21, List.forall_mem_cons.mpr ⟨wt_14_22, List.forall_mem_cons.mpr ⟨wt_14_23, fun _ h => absurd h List.not_mem_nil⟩⟩⟩⟩⟩⟩⟩⟩⟩⟩⟩⟩⟩⟩⟩⟩⟩⟩⟩⟩⟩⟩⟩⟩
theorem wt_15_0 : Cond.code yX5_layOrder cX5_layOrder 7 (some .int) ∈ lw_tbl := tq_3 _ (List.mem_of_getElem? (i := 220) rfl)
theorem wt_15_1 : Cond.methodLink RX5 125 yX5_getOff ∈ lw_tbl := tq_3 _ (List.mem_of_getElem? (i := 221) rfl)
theorem wt_15_2 : Cond.instanceMethod yX5_getOff ∈ lw_tbl := tq_3 _ (List.mem_of_getElem? (i := 223) rfl)
theorem wt_15_3 : Cond.selects RX5 yX5_getOff yX5_getOff ∈ lw_tbl := tq_s _ (List.mem_of_getElem? (i := 23) rfl)
theorem wt_15_4 : Cond.code yX5_getOff cX5_getOff 8 (some .int) ∈ lw_tbl := tq_3 _ (List.mem_of_getElem? (i := 224) rfl)
theorem wt_15_5 : Cond.methodLink RX5 129 yX5_getOn ∈ lw_tbl := tq_3 _ (List.mem_of_getElem? (i := 225) rfl)
theorem wt_15_6 : Cond.instanceMethod yX5_getOn ∈ lw_tbl := tq_3 _ (List.mem_of_getElem? (i := 227) rfl)
theorem wt_15_7 : Cond.selects RX5 yX5_getOn yX5_getOn ∈ lw_tbl := tq_s _ (List.mem_of_getElem? (i := 24) rfl)
theorem wt_15_8 : Cond.code yX5_getOn cX5_getOn 10 (some .int) ∈ lw_tbl := tq_3 _ (List.mem_of_getElem? (i := 228) rfl)
theorem wt_15_9 : Cond.methodLink RX5 133 yX5_lateAt ∈ lw_tbl := tq_3 _ (List.mem_of_getElem? (i := 229) rfl)
theorem wt_15_10 : Cond.instanceMethod yX5_lateAt ∈ lw_tbl := tq_3 _ (List.mem_of_getElem? (i := 231) rfl)
theorem wt_15_11 : Cond.selects RX5 yX5_lateAt yX5_lateAt ∈ lw_tbl := tq_s _ (List.mem_of_getElem? (i := 25) rfl)
theorem wt_15_12 : Cond.code yX5_lateAt cX5_lateAt 6 (some .int) ∈ lw_tbl := tq_3 _ (List.mem_of_getElem? (i := 232) rfl)
theorem wt_15_13 : Cond.methodLink RL 44 yX4_say ∈ lw_tbl := tq_2 _ (List.mem_of_getElem? (i := 124) rfl)
theorem wt_15_14 : Cond.instanceMethod yX4_say ∈ lw_tbl := tq_2 _ (List.mem_of_getElem? (i := 125) rfl)
theorem wt_15_15 : Cond.selects RX4 yX4_say yX4_say ∈ lw_tbl := tq_2 _ (List.mem_of_getElem? (i := 126) rfl)
theorem wt_15_16 : Cond.code yX4_say cX4_say 2 (some .int) ∈ lw_tbl := tq_2 _ (List.mem_of_getElem? (i := 127) rfl)
theorem wt_15_17 : Cond.fieldLink RX4 105 "BusThrees$Signs" "count" "I" ∈ lw_tbl := tq_1 _ (List.mem_of_getElem? (i := 86) rfl)
theorem wt_15_18 : Cond.methodLink RX4 108 yX3_add ∈ lw_tbl := tq_2 _ (List.mem_of_getElem? (i := 128) rfl)
theorem wt_15_19 : Cond.instanceMethod yX3_add ∈ lw_tbl := tq_2 _ (List.mem_of_getElem? (i := 129) rfl)
theorem wt_15_20 : Cond.selects RX3 yX3_add yX3_add ∈ lw_tbl := tq_2 _ (List.mem_of_getElem? (i := 130) rfl)
theorem wt_15_21 : Cond.code yX3_add cX3_add 2 (some .int) ∈ lw_tbl := tq_2 _ (List.mem_of_getElem? (i := 131) rfl)
theorem wt_15_22 : Cond.fieldLink RX3 15 "BusThrees$Signs" "count" "I" ∈ lw_tbl := tq_1 _ (List.mem_of_getElem? (i := 85) rfl)
theorem wt_15_23 : Cond.methodLink RL 48 yX5_say ∈ lw_tbl := tq_3 _ (List.mem_of_getElem? (i := 233) rfl)
theorem wu_15 : ∀ w ∈ wsL_law_r15, w ∈ lw_tbl := List.forall_mem_cons.mpr ⟨wt_15_0, List.forall_mem_cons.mpr ⟨wt_15_1, List.forall_mem_cons.mpr ⟨wt_15_2, List.forall_mem_cons.mpr ⟨wt_15_3, List.forall_mem_cons.mpr ⟨wt_15_4, List.forall_mem_cons.mpr ⟨wt_15_5, List.forall_mem_cons.mpr ⟨wt_15_6, List.forall_mem_cons.mpr ⟨wt_15_7, List.forall_mem_cons.mpr ⟨wt_15_8, List.forall_mem_cons.mpr ⟨wt_15_9, List.forall_mem_cons.mpr ⟨wt_15_10, List.forall_mem_cons.mpr ⟨wt_15_11, List.forall_mem_cons.mpr ⟨wt_15_12, List.forall_mem_cons.mpr ⟨wt_15_13, List.forall_mem_cons.mpr ⟨wt_15_14, List.forall_mem_cons.mpr ⟨wt_15_15, List.forall_mem_cons.mpr ⟨wt_15_16, List.forall_mem_cons.mpr ⟨wt_15_17, List.forall_mem_cons.mpr ⟨wt_15_18, List.forall_mem_cons.mpr ⟨wt_15_19, List.forall_mem_cons.mpr ⟨wt_15_20, List.forall_mem_cons.mpr ⟨wt_15_21, List.forall_mem_cons.mpr ⟨wt_15_22, List.forall_mem_cons.mpr ⟨wt_15_23, fun _ h => absurd h List.not_mem_nil⟩⟩⟩⟩⟩⟩⟩⟩⟩⟩⟩⟩⟩⟩⟩⟩⟩⟩⟩⟩⟩⟩⟩⟩
theorem wt_16_0 : Cond.instanceMethod yX5_say ∈ lw_tbl := tq_3 _ (List.mem_of_getElem? (i := 234) rfl)
theorem wt_16_1 : Cond.selects RX5 yX5_say yX5_say ∈ lw_tbl := tq_3 _ (List.mem_of_getElem? (i := 235) rfl)
theorem wt_16_2 : Cond.code yX5_say cX5_say 2 (some .int) ∈ lw_tbl := tq_3 _ (List.mem_of_getElem? (i := 236) rfl)
theorem wt_16_3 : Cond.fieldLink RX5 144 "BusThreesModel" "signs" "I" ∈ lw_tbl := tq_3 _ (List.mem_of_getElem? (i := 71) rfl)
theorem wt_16_4 : Cond.methodLink RL 49 yX4_wipe ∈ lw_tbl := tq_2 _ (List.mem_of_getElem? (i := 132) rfl)
theorem wt_16_5 : Cond.instanceMethod yX4_wipe ∈ lw_tbl := tq_2 _ (List.mem_of_getElem? (i := 133) rfl)
theorem wt_16_6 : Cond.selects RX4 yX4_wipe yX4_wipe ∈ lw_tbl := tq_2 _ (List.mem_of_getElem? (i := 134) rfl)
theorem wt_16_7 : Cond.code yX4_wipe cX4_wipe 2 (some .int) ∈ lw_tbl := tq_2 _ (List.mem_of_getElem? (i := 135) rfl)
theorem wt_16_8 : Cond.methodLink RL 52 yX5_wipe ∈ lw_tbl := tq_3 _ (List.mem_of_getElem? (i := 237) rfl)
theorem wt_16_9 : Cond.instanceMethod yX5_wipe ∈ lw_tbl := tq_3 _ (List.mem_of_getElem? (i := 238) rfl)
theorem wt_16_10 : Cond.selects RX5 yX5_wipe yX5_wipe ∈ lw_tbl := tq_3 _ (List.mem_of_getElem? (i := 239) rfl)
theorem wt_16_11 : Cond.code yX5_wipe cX5_wipe 2 (some .int) ∈ lw_tbl := tq_4 _ (List.mem_of_getElem? (i := 0) rfl)
theorem wt_16_12 : Cond.methodLink RL 53 yX4_fault ∈ lw_tbl := tq_2 _ (List.mem_of_getElem? (i := 136) rfl)
theorem wt_16_13 : Cond.instanceMethod yX4_fault ∈ lw_tbl := tq_2 _ (List.mem_of_getElem? (i := 137) rfl)
theorem wt_16_14 : Cond.selects RX4 yX4_fault yX4_fault ∈ lw_tbl := tq_2 _ (List.mem_of_getElem? (i := 138) rfl)
theorem wt_16_15 : Cond.code yX4_fault cX4_fault 1 (some .int) ∈ lw_tbl := tq_2 _ (List.mem_of_getElem? (i := 139) rfl)
theorem wt_16_16 : Cond.methodLink RX4 112 yX3_readInto ∈ lw_tbl := tq_2 _ (List.mem_of_getElem? (i := 140) rfl)
theorem wt_16_17 : Cond.instanceMethod yX3_readInto ∈ lw_tbl := tq_2 _ (List.mem_of_getElem? (i := 141) rfl)
theorem wt_16_18 : Cond.selects RX3 yX3_readInto yX3_readInto ∈ lw_tbl := tq_2 _ (List.mem_of_getElem? (i := 142) rfl)
theorem wt_16_19 : Cond.code yX3_readInto cX3_readInto 3 (some .int) ∈ lw_tbl := tq_2 _ (List.mem_of_getElem? (i := 143) rfl)
theorem wt_16_20 : Cond.fieldLink RX3 24 "BusThrees$Signs" "digits" "I" ∈ lw_tbl := tq_1 _ (List.mem_of_getElem? (i := 87) rfl)
theorem wt_16_21 : Cond.fieldLink RX3 27 "BusThrees$Signs" "stop" "I" ∈ lw_tbl := tq_1 _ (List.mem_of_getElem? (i := 88) rfl)
theorem wt_16_22 : Cond.methodLink RX3 19 yX2_clear ∈ lw_tbl := tq_2 _ (List.mem_of_getElem? (i := 144) rfl)
theorem wt_16_23 : Cond.instanceMethod yX2_clear ∈ lw_tbl := tq_2 _ (List.mem_of_getElem? (i := 145) rfl)
theorem wu_16 : ∀ w ∈ wsL_law_r16, w ∈ lw_tbl := List.forall_mem_cons.mpr ⟨wt_16_0, List.forall_mem_cons.mpr ⟨wt_16_1, List.forall_mem_cons.mpr ⟨wt_16_2, List.forall_mem_cons.mpr ⟨wt_16_3, List.forall_mem_cons.mpr ⟨wt_16_4, List.forall_mem_cons.mpr ⟨wt_16_5, List.forall_mem_cons.mpr ⟨wt_16_6, List.forall_mem_cons.mpr ⟨wt_16_7, List.forall_mem_cons.mpr ⟨wt_16_8, List.forall_mem_cons.mpr ⟨wt_16_9, List.forall_mem_cons.mpr ⟨wt_16_10, List.forall_mem_cons.mpr ⟨wt_16_11, List.forall_mem_cons.mpr ⟨wt_16_12, List.forall_mem_cons.mpr ⟨wt_16_13, List.forall_mem_cons.mpr ⟨wt_16_14, List.forall_mem_cons.mpr ⟨wt_16_15, List.forall_mem_cons.mpr ⟨wt_16_16, List.forall_mem_cons.mpr ⟨wt_16_17, List.forall_mem_cons.mpr ⟨wt_16_18, List.forall_mem_cons.mpr ⟨wt_16_19, List.forall_mem_cons.mpr ⟨wt_16_20, List.forall_mem_cons.mpr ⟨wt_16_21, List.forall_mem_cons.mpr ⟨wt_16_22, List.forall_mem_cons.mpr ⟨wt_16_23, fun _ h => absurd h List.not_mem_nil⟩⟩⟩⟩⟩⟩⟩⟩⟩⟩⟩⟩⟩⟩⟩⟩⟩⟩⟩⟩⟩⟩⟩⟩
theorem wt_17_0 : Cond.selects RX2 yX2_clear yX2_clear ∈ lw_tbl := tq_2 _ (List.mem_of_getElem? (i := 146) rfl)
theorem wt_17_1 : Cond.code yX2_clear cX2_clear 1 none ∈ lw_tbl := tq_2 _ (List.mem_of_getElem? (i := 147) rfl)
theorem wt_17_2 : Cond.fieldLink RX2 24 "BusThrees$Rule" "lines" "I" ∈ lw_tbl := tq_1 _ (List.mem_of_getElem? (i := 167) rfl)
theorem wt_17_3 : Cond.methodLink RX2 18 yJ7_fill_53178 ∈ lw_tbl := tq_2 _ (List.mem_of_getElem? (i := 148) rfl)
theorem wt_17_4 : Cond.methodLink RX3 30 yX3_reads ∈ lw_tbl := tq_2 _ (List.mem_of_getElem? (i := 149) rfl)
theorem wt_17_5 : Cond.instanceMethod yX3_reads ∈ lw_tbl := tq_2 _ (List.mem_of_getElem? (i := 151) rfl)
theorem wt_17_6 : Cond.selects RX3 yX3_reads yX3_reads ∈ lw_tbl := tq_s _ (List.mem_of_getElem? (i := 12) rfl)
theorem wt_17_7 : Cond.code yX3_reads cX3_reads 3 (some .boolean) ∈ lw_tbl := tq_2 _ (List.mem_of_getElem? (i := 152) rfl)
theorem wt_17_8 : Cond.methodLink RX3 34 yX3_readsStop ∈ lw_tbl := tq_2 _ (List.mem_of_getElem? (i := 153) rfl)
theorem wt_17_9 : Cond.instanceMethod yX3_readsStop ∈ lw_tbl := tq_2 _ (List.mem_of_getElem? (i := 155) rfl)
theorem wt_17_10 : Cond.selects RX3 yX3_readsStop yX3_readsStop ∈ lw_tbl := tq_s _ (List.mem_of_getElem? (i := 13) rfl)
theorem wt_17_11 : Cond.code yX3_readsStop cX3_readsStop 3 (some .boolean) ∈ lw_tbl := tq_2 _ (List.mem_of_getElem? (i := 156) rfl)
theorem wt_17_12 : Cond.fieldLink RX3 51 "BusThrees$Rule" "letter" "[I" ∈ lw_tbl := tq_1 _ (List.mem_of_getElem? (i := 164) rfl)
theorem wt_17_13 : Cond.methodLink RX3 47 yX3_isDigit ∈ lw_tbl := tq_2 _ (List.mem_of_getElem? (i := 157) rfl)
theorem wt_17_14 : Cond.static yX3_isDigit ∈ lw_tbl := tq_2 _ (List.mem_of_getElem? (i := 158) rfl)
theorem wt_17_15 : Cond.code yX3_isDigit cX3_isDigit 1 (some .boolean) ∈ lw_tbl := tq_2 _ (List.mem_of_getElem? (i := 159) rfl)
theorem wt_17_16 : Cond.methodLink RX3 37 yX3_readsLetter ∈ lw_tbl := tq_2 _ (List.mem_of_getElem? (i := 160) rfl)
theorem wt_17_17 : Cond.instanceMethod yX3_readsLetter ∈ lw_tbl := tq_2 _ (List.mem_of_getElem? (i := 162) rfl)
theorem wt_17_18 : Cond.selects RX3 yX3_readsLetter yX3_readsLetter ∈ lw_tbl := tq_s _ (List.mem_of_getElem? (i := 14) rfl)
theorem wt_17_19 : Cond.code yX3_readsLetter cX3_readsLetter 3 (some .boolean) ∈ lw_tbl := tq_2 _ (List.mem_of_getElem? (i := 163) rfl)
theorem wt_17_20 : Cond.fieldLink RX3 54 "BusThrees$Rule" "lines" "I" ∈ lw_tbl := tq_1 _ (List.mem_of_getElem? (i := 168) rfl)
theorem wt_17_21 : Cond.methodLink RX3 40 yX3_readsBetween ∈ lw_tbl := tq_2 _ (List.mem_of_getElem? (i := 164) rfl)
theorem wt_17_22 : Cond.instanceMethod yX3_readsBetween ∈ lw_tbl := tq_2 _ (List.mem_of_getElem? (i := 166) rfl)
theorem wt_17_23 : Cond.selects RX3 yX3_readsBetween yX3_readsBetween ∈ lw_tbl := tq_s _ (List.mem_of_getElem? (i := 15) rfl)
theorem wu_17 : ∀ w ∈ wsL_law_r17, w ∈ lw_tbl := List.forall_mem_cons.mpr ⟨wt_17_0, List.forall_mem_cons.mpr ⟨wt_17_1, List.forall_mem_cons.mpr ⟨wt_17_2, List.forall_mem_cons.mpr ⟨wt_17_3, List.forall_mem_cons.mpr ⟨wt_17_4, List.forall_mem_cons.mpr ⟨wt_17_5, List.forall_mem_cons.mpr ⟨wt_17_6, List.forall_mem_cons.mpr ⟨wt_17_7, List.forall_mem_cons.mpr ⟨wt_17_8, List.forall_mem_cons.mpr ⟨wt_17_9, List.forall_mem_cons.mpr ⟨wt_17_10, List.forall_mem_cons.mpr ⟨wt_17_11, List.forall_mem_cons.mpr ⟨wt_17_12, List.forall_mem_cons.mpr ⟨wt_17_13, List.forall_mem_cons.mpr ⟨wt_17_14, List.forall_mem_cons.mpr ⟨wt_17_15, List.forall_mem_cons.mpr ⟨wt_17_16, List.forall_mem_cons.mpr ⟨wt_17_17, List.forall_mem_cons.mpr ⟨wt_17_18, List.forall_mem_cons.mpr ⟨wt_17_19, List.forall_mem_cons.mpr ⟨wt_17_20, List.forall_mem_cons.mpr ⟨wt_17_21, List.forall_mem_cons.mpr ⟨wt_17_22, List.forall_mem_cons.mpr ⟨wt_17_23, fun _ h => absurd h List.not_mem_nil⟩⟩⟩⟩⟩⟩⟩⟩⟩⟩⟩⟩⟩⟩⟩⟩⟩⟩⟩⟩⟩⟩⟩⟩
theorem wt_18_0 : Cond.code yX3_readsBetween cX3_readsBetween 2 (some .boolean) ∈ lw_tbl := tq_2 _ (List.mem_of_getElem? (i := 167) rfl)
theorem wt_18_1 : Cond.methodLink RX3 44 yX3_readsDigit ∈ lw_tbl := tq_2 _ (List.mem_of_getElem? (i := 168) rfl)
theorem wt_18_2 : Cond.instanceMethod yX3_readsDigit ∈ lw_tbl := tq_2 _ (List.mem_of_getElem? (i := 170) rfl)
theorem wt_18_3 : Cond.selects RX3 yX3_readsDigit yX3_readsDigit ∈ lw_tbl := tq_s _ (List.mem_of_getElem? (i := 16) rfl)
theorem wt_18_4 : Cond.code yX3_readsDigit cX3_readsDigit 3 (some .boolean) ∈ lw_tbl := tq_2 _ (List.mem_of_getElem? (i := 171) rfl)
theorem wt_18_5 : Cond.fieldLink RX3 57 "BusThrees$Rule" "number" "[I" ∈ lw_tbl := tq_1 _ (List.mem_of_getElem? (i := 166) rfl)
theorem wt_18_6 : Cond.methodLink RL 56 yX5_fault ∈ lw_tbl := tq_4 _ (List.mem_of_getElem? (i := 1) rfl)
theorem wt_18_7 : Cond.instanceMethod yX5_fault ∈ lw_tbl := tq_4 _ (List.mem_of_getElem? (i := 2) rfl)
theorem wt_18_8 : Cond.selects RX5 yX5_fault yX5_fault ∈ lw_tbl := tq_4 _ (List.mem_of_getElem? (i := 3) rfl)
theorem wt_18_9 : Cond.code yX5_fault cX5_fault 1 (some .int) ∈ lw_tbl := tq_4 _ (List.mem_of_getElem? (i := 4) rfl)
theorem wt_18_10 : Cond.methodLink RX5 147 yX5_faultOf ∈ lw_tbl := tq_4 _ (List.mem_of_getElem? (i := 5) rfl)
theorem wt_18_11 : Cond.instanceMethod yX5_faultOf ∈ lw_tbl := tq_4 _ (List.mem_of_getElem? (i := 7) rfl)
theorem wt_18_12 : Cond.selects RX5 yX5_faultOf yX5_faultOf ∈ lw_tbl := tq_s _ (List.mem_of_getElem? (i := 26) rfl)
theorem wt_18_13 : Cond.code yX5_faultOf cX5_faultOf 7 (some .int) ∈ lw_tbl := tq_4 _ (List.mem_of_getElem? (i := 8) rfl)
theorem wt_18_14 : Cond.methodLink RL 57 yX4_rule ∈ lw_tbl := tq_2 _ (List.mem_of_getElem? (i := 172) rfl)
theorem wt_18_15 : Cond.instanceMethod yX4_rule ∈ lw_tbl := tq_2 _ (List.mem_of_getElem? (i := 173) rfl)
theorem wt_18_16 : Cond.selects RX4 yX4_rule yX4_rule ∈ lw_tbl := tq_2 _ (List.mem_of_getElem? (i := 174) rfl)
theorem wt_18_17 : Cond.code yX4_rule cX4_rule 2 (some .int) ∈ lw_tbl := tq_2 _ (List.mem_of_getElem? (i := 175) rfl)
theorem wt_18_18 : Cond.fieldLink RX4 116 "BusThrees$Rule" "lines" "I" ∈ lw_tbl := tq_1 _ (List.mem_of_getElem? (i := 169) rfl)
theorem wt_18_19 : Cond.methodLink RL 60 yX5_rule ∈ lw_tbl := tq_4 _ (List.mem_of_getElem? (i := 9) rfl)
theorem wt_18_20 : Cond.instanceMethod yX5_rule ∈ lw_tbl := tq_4 _ (List.mem_of_getElem? (i := 10) rfl)
theorem wt_18_21 : Cond.selects RX5 yX5_rule yX5_rule ∈ lw_tbl := tq_4 _ (List.mem_of_getElem? (i := 11) rfl)
theorem wt_18_22 : Cond.code yX5_rule cX5_rule 3 (some .int) ∈ lw_tbl := tq_4 _ (List.mem_of_getElem? (i := 12) rfl)
theorem wt_18_23 : Cond.fieldLink RX5 151 "BusThreesModel" "lines" "I" ∈ lw_tbl := tq_3 _ (List.mem_of_getElem? (i := 73) rfl)
theorem wu_18 : ∀ w ∈ wsL_law_r18, w ∈ lw_tbl := List.forall_mem_cons.mpr ⟨wt_18_0, List.forall_mem_cons.mpr ⟨wt_18_1, List.forall_mem_cons.mpr ⟨wt_18_2, List.forall_mem_cons.mpr ⟨wt_18_3, List.forall_mem_cons.mpr ⟨wt_18_4, List.forall_mem_cons.mpr ⟨wt_18_5, List.forall_mem_cons.mpr ⟨wt_18_6, List.forall_mem_cons.mpr ⟨wt_18_7, List.forall_mem_cons.mpr ⟨wt_18_8, List.forall_mem_cons.mpr ⟨wt_18_9, List.forall_mem_cons.mpr ⟨wt_18_10, List.forall_mem_cons.mpr ⟨wt_18_11, List.forall_mem_cons.mpr ⟨wt_18_12, List.forall_mem_cons.mpr ⟨wt_18_13, List.forall_mem_cons.mpr ⟨wt_18_14, List.forall_mem_cons.mpr ⟨wt_18_15, List.forall_mem_cons.mpr ⟨wt_18_16, List.forall_mem_cons.mpr ⟨wt_18_17, List.forall_mem_cons.mpr ⟨wt_18_18, List.forall_mem_cons.mpr ⟨wt_18_19, List.forall_mem_cons.mpr ⟨wt_18_20, List.forall_mem_cons.mpr ⟨wt_18_21, List.forall_mem_cons.mpr ⟨wt_18_22, List.forall_mem_cons.mpr ⟨wt_18_23, fun _ h => absurd h List.not_mem_nil⟩⟩⟩⟩⟩⟩⟩⟩⟩⟩⟩⟩⟩⟩⟩⟩⟩⟩⟩⟩⟩⟩⟩⟩
theorem wt_19_0 : Cond.methodLink RX5 154 yX5_clearRule ∈ lw_tbl := tq_4 _ (List.mem_of_getElem? (i := 13) rfl)
theorem wt_19_1 : Cond.instanceMethod yX5_clearRule ∈ lw_tbl := tq_4 _ (List.mem_of_getElem? (i := 15) rfl)
theorem wt_19_2 : Cond.selects RX5 yX5_clearRule yX5_clearRule ∈ lw_tbl := tq_s _ (List.mem_of_getElem? (i := 27) rfl)
theorem wt_19_3 : Cond.code yX5_clearRule cX5_clearRule 2 none ∈ lw_tbl := tq_4 _ (List.mem_of_getElem? (i := 16) rfl)
theorem wt_19_4 : Cond.methodLink RL 61 yX4_free ∈ lw_tbl := tq_2 _ (List.mem_of_getElem? (i := 176) rfl)
theorem wt_19_5 : Cond.instanceMethod yX4_free ∈ lw_tbl := tq_2 _ (List.mem_of_getElem? (i := 177) rfl)
theorem wt_19_6 : Cond.selects RX4 yX4_free yX4_free ∈ lw_tbl := tq_2 _ (List.mem_of_getElem? (i := 178) rfl)
theorem wt_19_7 : Cond.code yX4_free cX4_free 2 (some .int) ∈ lw_tbl := tq_2 _ (List.mem_of_getElem? (i := 179) rfl)
theorem wt_19_8 : Cond.methodLink RX4 119 yX2_clear ∈ lw_tbl := tq_2 _ (List.mem_of_getElem? (i := 180) rfl)
theorem wt_19_9 : Cond.methodLink RL 64 yX5_free ∈ lw_tbl := tq_4 _ (List.mem_of_getElem? (i := 17) rfl)
theorem wt_19_10 : Cond.instanceMethod yX5_free ∈ lw_tbl := tq_4 _ (List.mem_of_getElem? (i := 18) rfl)
theorem wt_19_11 : Cond.selects RX5 yX5_free yX5_free ∈ lw_tbl := tq_4 _ (List.mem_of_getElem? (i := 19) rfl)
theorem wt_19_12 : Cond.code yX5_free cX5_free 2 (some .int) ∈ lw_tbl := tq_4 _ (List.mem_of_getElem? (i := 20) rfl)
theorem wt_19_13 : Cond.methodLink RL 65 yX4_follow ∈ lw_tbl := tq_2 _ (List.mem_of_getElem? (i := 181) rfl)
theorem wt_19_14 : Cond.instanceMethod yX4_follow ∈ lw_tbl := tq_2 _ (List.mem_of_getElem? (i := 182) rfl)
theorem wt_19_15 : Cond.selects RX4 yX4_follow yX4_follow ∈ lw_tbl := tq_2 _ (List.mem_of_getElem? (i := 183) rfl)
theorem wt_19_16 : Cond.code yX4_follow cX4_follow 5 (some .int) ∈ lw_tbl := tq_2 _ (List.mem_of_getElem? (i := 184) rfl)
theorem wt_19_17 : Cond.methodLink RX4 126 Lib.Math.max.name ∈ lw_tbl := tq_2 _ (List.mem_of_getElem? (i := 189) rfl)
theorem wt_19_18 : Cond.methodLink RX4 122 yX0_orderLeaving ∈ lw_tbl := tq_2 _ (List.mem_of_getElem? (i := 185) rfl)
theorem wt_19_19 : Cond.instanceMethod yX0_orderLeaving ∈ lw_tbl := tq_2 _ (List.mem_of_getElem? (i := 186) rfl)
theorem wt_19_20 : Cond.selects RX0 yX0_orderLeaving yX0_orderLeaving ∈ lw_tbl := tq_2 _ (List.mem_of_getElem? (i := 187) rfl)
theorem wt_19_21 : Cond.code yX0_orderLeaving cX0_orderLeaving 5 (some .int) ∈ lw_tbl := tq_2 _ (List.mem_of_getElem? (i := 188) rfl)
theorem wt_19_22 : Cond.methodLink RX4 131 yX0_gapAhead ∈ lw_tbl := tq_2 _ (List.mem_of_getElem? (i := 190) rfl)
theorem wt_19_23 : Cond.instanceMethod yX0_gapAhead ∈ lw_tbl := tq_2 _ (List.mem_of_getElem? (i := 191) rfl)
theorem wu_19 : ∀ w ∈ wsL_law_r19, w ∈ lw_tbl := List.forall_mem_cons.mpr ⟨wt_19_0, List.forall_mem_cons.mpr ⟨wt_19_1, List.forall_mem_cons.mpr ⟨wt_19_2, List.forall_mem_cons.mpr ⟨wt_19_3, List.forall_mem_cons.mpr ⟨wt_19_4, List.forall_mem_cons.mpr ⟨wt_19_5, List.forall_mem_cons.mpr ⟨wt_19_6, List.forall_mem_cons.mpr ⟨wt_19_7, List.forall_mem_cons.mpr ⟨wt_19_8, List.forall_mem_cons.mpr ⟨wt_19_9, List.forall_mem_cons.mpr ⟨wt_19_10, List.forall_mem_cons.mpr ⟨wt_19_11, List.forall_mem_cons.mpr ⟨wt_19_12, List.forall_mem_cons.mpr ⟨wt_19_13, List.forall_mem_cons.mpr ⟨wt_19_14, List.forall_mem_cons.mpr ⟨wt_19_15, List.forall_mem_cons.mpr ⟨wt_19_16, List.forall_mem_cons.mpr ⟨wt_19_17, List.forall_mem_cons.mpr ⟨wt_19_18, List.forall_mem_cons.mpr ⟨wt_19_19, List.forall_mem_cons.mpr ⟨wt_19_20, List.forall_mem_cons.mpr ⟨wt_19_21, List.forall_mem_cons.mpr ⟨wt_19_22, List.forall_mem_cons.mpr ⟨wt_19_23, fun _ h => absurd h List.not_mem_nil⟩⟩⟩⟩⟩⟩⟩⟩⟩⟩⟩⟩⟩⟩⟩⟩⟩⟩⟩⟩⟩⟩⟩⟩
theorem wt_20_0 : Cond.selects RX0 yX0_gapAhead yX0_gapAhead ∈ lw_tbl := tq_2 _ (List.mem_of_getElem? (i := 192) rfl)
theorem wt_20_1 : Cond.code yX0_gapAhead cX0_gapAhead 3 (some .int) ∈ lw_tbl := tq_2 _ (List.mem_of_getElem? (i := 193) rfl)
theorem wt_20_2 : Cond.methodLink RL 68 yX5_follow ∈ lw_tbl := tq_4 _ (List.mem_of_getElem? (i := 21) rfl)
theorem wt_20_3 : Cond.instanceMethod yX5_follow ∈ lw_tbl := tq_4 _ (List.mem_of_getElem? (i := 22) rfl)
theorem wt_20_4 : Cond.selects RX5 yX5_follow yX5_follow ∈ lw_tbl := tq_4 _ (List.mem_of_getElem? (i := 23) rfl)
theorem wt_20_5 : Cond.code yX5_follow cX5_follow 4 (some .int) ∈ lw_tbl := tq_4 _ (List.mem_of_getElem? (i := 24) rfl)
theorem wt_20_6 : Cond.fieldLink RX5 157 "BusThreesModel" "going" "I" ∈ lw_tbl := tq_3 _ (List.mem_of_getElem? (i := 91) rfl)
theorem wt_20_7 : Cond.methodLink RX5 160 yX5_layGoing ∈ lw_tbl := tq_4 _ (List.mem_of_getElem? (i := 25) rfl)
theorem wt_20_8 : Cond.instanceMethod yX5_layGoing ∈ lw_tbl := tq_4 _ (List.mem_of_getElem? (i := 27) rfl)
theorem wt_20_9 : Cond.selects RX5 yX5_layGoing yX5_layGoing ∈ lw_tbl := tq_s _ (List.mem_of_getElem? (i := 28) rfl)
theorem wt_20_10 : Cond.code yX5_layGoing cX5_layGoing 4 none ∈ lw_tbl := tq_4 _ (List.mem_of_getElem? (i := 28) rfl)
theorem wt_20_11 : Cond.methodLink RX5 163 yX5_followOf ∈ lw_tbl := tq_4 _ (List.mem_of_getElem? (i := 29) rfl)
theorem wt_20_12 : Cond.instanceMethod yX5_followOf ∈ lw_tbl := tq_4 _ (List.mem_of_getElem? (i := 31) rfl)
theorem wt_20_13 : Cond.selects RX5 yX5_followOf yX5_followOf ∈ lw_tbl := tq_s _ (List.mem_of_getElem? (i := 29) rfl)
theorem wt_20_14 : Cond.code yX5_followOf cX5_followOf 3 (some .int) ∈ lw_tbl := tq_4 _ (List.mem_of_getElem? (i := 32) rfl)
theorem wt_20_15 : Cond.methodLink RL 69 yX4_one ∈ lw_tbl := tq_2 _ (List.mem_of_getElem? (i := 194) rfl)
theorem wt_20_16 : Cond.instanceMethod yX4_one ∈ lw_tbl := tq_2 _ (List.mem_of_getElem? (i := 195) rfl)
theorem wt_20_17 : Cond.selects RX4 yX4_one yX4_one ∈ lw_tbl := tq_2 _ (List.mem_of_getElem? (i := 196) rfl)
theorem wt_20_18 : Cond.code yX4_one cX4_one 4 (some .int) ∈ lw_tbl := tq_2 _ (List.mem_of_getElem? (i := 197) rfl)
theorem wt_20_19 : Cond.methodLink RX4 134 yX0_firstCloseStop ∈ lw_tbl := tq_2 _ (List.mem_of_getElem? (i := 198) rfl)
theorem wt_20_20 : Cond.instanceMethod yX0_firstCloseStop ∈ lw_tbl := tq_2 _ (List.mem_of_getElem? (i := 199) rfl)
theorem wt_20_21 : Cond.selects RX0 yX0_firstCloseStop yX0_firstCloseStop ∈ lw_tbl := tq_2 _ (List.mem_of_getElem? (i := 200) rfl)
theorem wt_20_22 : Cond.code yX0_firstCloseStop cX0_firstCloseStop 3 (some .int) ∈ lw_tbl := tq_2 _ (List.mem_of_getElem? (i := 201) rfl)
theorem wt_20_23 : Cond.methodLink RX0 179 yX0_firstCloseBus ∈ lw_tbl := tq_2 _ (List.mem_of_getElem? (i := 202) rfl)
theorem wu_20 : ∀ w ∈ wsL_law_r20, w ∈ lw_tbl := List.forall_mem_cons.mpr ⟨wt_20_0, List.forall_mem_cons.mpr ⟨wt_20_1, List.forall_mem_cons.mpr ⟨wt_20_2, List.forall_mem_cons.mpr ⟨wt_20_3, List.forall_mem_cons.mpr ⟨wt_20_4, List.forall_mem_cons.mpr ⟨wt_20_5, List.forall_mem_cons.mpr ⟨wt_20_6, List.forall_mem_cons.mpr ⟨wt_20_7, List.forall_mem_cons.mpr ⟨wt_20_8, List.forall_mem_cons.mpr ⟨wt_20_9, List.forall_mem_cons.mpr ⟨wt_20_10, List.forall_mem_cons.mpr ⟨wt_20_11, List.forall_mem_cons.mpr ⟨wt_20_12, List.forall_mem_cons.mpr ⟨wt_20_13, List.forall_mem_cons.mpr ⟨wt_20_14, List.forall_mem_cons.mpr ⟨wt_20_15, List.forall_mem_cons.mpr ⟨wt_20_16, List.forall_mem_cons.mpr ⟨wt_20_17, List.forall_mem_cons.mpr ⟨wt_20_18, List.forall_mem_cons.mpr ⟨wt_20_19, List.forall_mem_cons.mpr ⟨wt_20_20, List.forall_mem_cons.mpr ⟨wt_20_21, List.forall_mem_cons.mpr ⟨wt_20_22, List.forall_mem_cons.mpr ⟨wt_20_23, fun _ h => absurd h List.not_mem_nil⟩⟩⟩⟩⟩⟩⟩⟩⟩⟩⟩⟩⟩⟩⟩⟩⟩⟩⟩⟩⟩⟩⟩⟩
theorem wt_21_0 : Cond.instanceMethod yX0_firstCloseBus ∈ lw_tbl := tq_2 _ (List.mem_of_getElem? (i := 203) rfl)
theorem wt_21_1 : Cond.selects RX0 yX0_firstCloseBus yX0_firstCloseBus ∈ lw_tbl := tq_2 _ (List.mem_of_getElem? (i := 204) rfl)
theorem wt_21_2 : Cond.code yX0_firstCloseBus cX0_firstCloseBus 5 (some .int) ∈ lw_tbl := tq_2 _ (List.mem_of_getElem? (i := 205) rfl)
theorem wt_21_3 : Cond.methodLink RX0 176 yX0_orderLeaving ∈ lw_tbl := tq_2 _ (List.mem_of_getElem? (i := 206) rfl)
theorem wt_21_4 : Cond.methodLink RX0 173 yX0_gapAhead ∈ lw_tbl := tq_2 _ (List.mem_of_getElem? (i := 207) rfl)
theorem wt_21_5 : Cond.methodLink RX4 138 yX0_firstCloseBus ∈ lw_tbl := tq_2 _ (List.mem_of_getElem? (i := 208) rfl)
theorem wt_21_6 : Cond.methodLink RL 72 yX5_one ∈ lw_tbl := tq_4 _ (List.mem_of_getElem? (i := 33) rfl)
theorem wt_21_7 : Cond.instanceMethod yX5_one ∈ lw_tbl := tq_4 _ (List.mem_of_getElem? (i := 34) rfl)
theorem wt_21_8 : Cond.selects RX5 yX5_one yX5_one ∈ lw_tbl := tq_4 _ (List.mem_of_getElem? (i := 35) rfl)
theorem wt_21_9 : Cond.code yX5_one cX5_one 3 (some .int) ∈ lw_tbl := tq_4 _ (List.mem_of_getElem? (i := 36) rfl)
theorem wt_21_10 : Cond.fieldLink RX5 167 "BusThreesModel" "oneBus" "I" ∈ lw_tbl := tq_3 _ (List.mem_of_getElem? (i := 93) rfl)
theorem wt_21_11 : Cond.methodLink RX5 170 yX5_oneOf ∈ lw_tbl := tq_4 _ (List.mem_of_getElem? (i := 37) rfl)
theorem wt_21_12 : Cond.instanceMethod yX5_oneOf ∈ lw_tbl := tq_4 _ (List.mem_of_getElem? (i := 39) rfl)
theorem wt_21_13 : Cond.selects RX5 yX5_oneOf yX5_oneOf ∈ lw_tbl := tq_s _ (List.mem_of_getElem? (i := 30) rfl)
theorem wt_21_14 : Cond.code yX5_oneOf cX5_oneOf 3 (some .int) ∈ lw_tbl := tq_4 _ (List.mem_of_getElem? (i := 40) rfl)
theorem wt_21_15 : Cond.methodLink RL 73 yX4_began ∈ lw_tbl := tq_2 _ (List.mem_of_getElem? (i := 209) rfl)
theorem wt_21_16 : Cond.instanceMethod yX4_began ∈ lw_tbl := tq_2 _ (List.mem_of_getElem? (i := 210) rfl)
theorem wt_21_17 : Cond.selects RX4 yX4_began yX4_began ∈ lw_tbl := tq_2 _ (List.mem_of_getElem? (i := 211) rfl)
theorem wt_21_18 : Cond.code yX4_began cX4_began 3 (some .int) ∈ lw_tbl := tq_2 _ (List.mem_of_getElem? (i := 212) rfl)
theorem wt_21_19 : Cond.methodLink RL 76 yX5_began ∈ lw_tbl := tq_4 _ (List.mem_of_getElem? (i := 41) rfl)
theorem wt_21_20 : Cond.instanceMethod yX5_began ∈ lw_tbl := tq_4 _ (List.mem_of_getElem? (i := 42) rfl)
theorem wt_21_21 : Cond.selects RX5 yX5_began yX5_began ∈ lw_tbl := tq_4 _ (List.mem_of_getElem? (i := 43) rfl)
theorem wt_21_22 : Cond.code yX5_began cX5_began 3 (some .int) ∈ lw_tbl := tq_4 _ (List.mem_of_getElem? (i := 44) rfl)
theorem wt_21_23 : Cond.methodLink RL 77 yX4_spread ∈ lw_tbl := tq_2 _ (List.mem_of_getElem? (i := 213) rfl)
theorem wu_21 : ∀ w ∈ wsL_law_r21, w ∈ lw_tbl := List.forall_mem_cons.mpr ⟨wt_21_0, List.forall_mem_cons.mpr ⟨wt_21_1, List.forall_mem_cons.mpr ⟨wt_21_2, List.forall_mem_cons.mpr ⟨wt_21_3, List.forall_mem_cons.mpr ⟨wt_21_4, List.forall_mem_cons.mpr ⟨wt_21_5, List.forall_mem_cons.mpr ⟨wt_21_6, List.forall_mem_cons.mpr ⟨wt_21_7, List.forall_mem_cons.mpr ⟨wt_21_8, List.forall_mem_cons.mpr ⟨wt_21_9, List.forall_mem_cons.mpr ⟨wt_21_10, List.forall_mem_cons.mpr ⟨wt_21_11, List.forall_mem_cons.mpr ⟨wt_21_12, List.forall_mem_cons.mpr ⟨wt_21_13, List.forall_mem_cons.mpr ⟨wt_21_14, List.forall_mem_cons.mpr ⟨wt_21_15, List.forall_mem_cons.mpr ⟨wt_21_16, List.forall_mem_cons.mpr ⟨wt_21_17, List.forall_mem_cons.mpr ⟨wt_21_18, List.forall_mem_cons.mpr ⟨wt_21_19, List.forall_mem_cons.mpr ⟨wt_21_20, List.forall_mem_cons.mpr ⟨wt_21_21, List.forall_mem_cons.mpr ⟨wt_21_22, List.forall_mem_cons.mpr ⟨wt_21_23, fun _ h => absurd h List.not_mem_nil⟩⟩⟩⟩⟩⟩⟩⟩⟩⟩⟩⟩⟩⟩⟩⟩⟩⟩⟩⟩⟩⟩⟩⟩
theorem wt_22_0 : Cond.instanceMethod yX4_spread ∈ lw_tbl := tq_2 _ (List.mem_of_getElem? (i := 214) rfl)
theorem wt_22_1 : Cond.selects RX4 yX4_spread yX4_spread ∈ lw_tbl := tq_2 _ (List.mem_of_getElem? (i := 215) rfl)
theorem wt_22_2 : Cond.code yX4_spread cX4_spread 2 (some .int) ∈ lw_tbl := tq_2 _ (List.mem_of_getElem? (i := 216) rfl)
theorem wt_22_3 : Cond.methodLink RX4 149 yX0_spreadOfGaps ∈ lw_tbl := tq_2 _ (List.mem_of_getElem? (i := 217) rfl)
theorem wt_22_4 : Cond.instanceMethod yX0_spreadOfGaps ∈ lw_tbl := tq_2 _ (List.mem_of_getElem? (i := 218) rfl)
theorem wt_22_5 : Cond.selects RX0 yX0_spreadOfGaps yX0_spreadOfGaps ∈ lw_tbl := tq_2 _ (List.mem_of_getElem? (i := 219) rfl)
theorem wt_22_6 : Cond.code yX0_spreadOfGaps cX0_spreadOfGaps 8 (some .int) ∈ lw_tbl := tq_2 _ (List.mem_of_getElem? (i := 220) rfl)
theorem wt_22_7 : Cond.methodLink RL 80 yX5_spread ∈ lw_tbl := tq_4 _ (List.mem_of_getElem? (i := 45) rfl)
theorem wt_22_8 : Cond.instanceMethod yX5_spread ∈ lw_tbl := tq_4 _ (List.mem_of_getElem? (i := 46) rfl)
theorem wt_22_9 : Cond.selects RX5 yX5_spread yX5_spread ∈ lw_tbl := tq_4 _ (List.mem_of_getElem? (i := 47) rfl)
theorem wt_22_10 : Cond.code yX5_spread cX5_spread 6 (some .int) ∈ lw_tbl := tq_4 _ (List.mem_of_getElem? (i := 48) rfl)
theorem wt_22_11 : Cond.methodLink RL 81 yX4_waited ∈ lw_tbl := tq_2 _ (List.mem_of_getElem? (i := 221) rfl)
theorem wt_22_12 : Cond.instanceMethod yX4_waited ∈ lw_tbl := tq_2 _ (List.mem_of_getElem? (i := 222) rfl)
theorem wt_22_13 : Cond.selects RX4 yX4_waited yX4_waited ∈ lw_tbl := tq_2 _ (List.mem_of_getElem? (i := 223) rfl)
theorem wt_22_14 : Cond.code yX4_waited cX4_waited 3 (some .int) ∈ lw_tbl := tq_2 _ (List.mem_of_getElem? (i := 224) rfl)
theorem wt_22_15 : Cond.methodLink RX4 152 yX0_tellWaits ∈ lw_tbl := tq_2 _ (List.mem_of_getElem? (i := 225) rfl)
theorem wt_22_16 : Cond.instanceMethod yX0_tellWaits ∈ lw_tbl := tq_2 _ (List.mem_of_getElem? (i := 226) rfl)
theorem wt_22_17 : Cond.selects RX0 yX0_tellWaits yX0_tellWaits ∈ lw_tbl := tq_2 _ (List.mem_of_getElem? (i := 227) rfl)
theorem wt_22_18 : Cond.code yX0_tellWaits cX0_tellWaits 3 (some .int) ∈ lw_tbl := tq_2 _ (List.mem_of_getElem? (i := 228) rfl)
theorem wt_22_19 : Cond.methodLink RL 84 yX5_waited ∈ lw_tbl := tq_4 _ (List.mem_of_getElem? (i := 49) rfl)
theorem wt_22_20 : Cond.instanceMethod yX5_waited ∈ lw_tbl := tq_4 _ (List.mem_of_getElem? (i := 50) rfl)
theorem wt_22_21 : Cond.selects RX5 yX5_waited yX5_waited ∈ lw_tbl := tq_4 _ (List.mem_of_getElem? (i := 51) rfl)
theorem wt_22_22 : Cond.code yX5_waited cX5_waited 3 (some .int) ∈ lw_tbl := tq_4 _ (List.mem_of_getElem? (i := 52) rfl)
theorem wt_22_23 : Cond.methodLink RL 85 yX4_mean ∈ lw_tbl := tq_2 _ (List.mem_of_getElem? (i := 229) rfl)
theorem wu_22 : ∀ w ∈ wsL_law_r22, w ∈ lw_tbl := List.forall_mem_cons.mpr ⟨wt_22_0, List.forall_mem_cons.mpr ⟨wt_22_1, List.forall_mem_cons.mpr ⟨wt_22_2, List.forall_mem_cons.mpr ⟨wt_22_3, List.forall_mem_cons.mpr ⟨wt_22_4, List.forall_mem_cons.mpr ⟨wt_22_5, List.forall_mem_cons.mpr ⟨wt_22_6, List.forall_mem_cons.mpr ⟨wt_22_7, List.forall_mem_cons.mpr ⟨wt_22_8, List.forall_mem_cons.mpr ⟨wt_22_9, List.forall_mem_cons.mpr ⟨wt_22_10, List.forall_mem_cons.mpr ⟨wt_22_11, List.forall_mem_cons.mpr ⟨wt_22_12, List.forall_mem_cons.mpr ⟨wt_22_13, List.forall_mem_cons.mpr ⟨wt_22_14, List.forall_mem_cons.mpr ⟨wt_22_15, List.forall_mem_cons.mpr ⟨wt_22_16, List.forall_mem_cons.mpr ⟨wt_22_17, List.forall_mem_cons.mpr ⟨wt_22_18, List.forall_mem_cons.mpr ⟨wt_22_19, List.forall_mem_cons.mpr ⟨wt_22_20, List.forall_mem_cons.mpr ⟨wt_22_21, List.forall_mem_cons.mpr ⟨wt_22_22, List.forall_mem_cons.mpr ⟨wt_22_23, fun _ h => absurd h List.not_mem_nil⟩⟩⟩⟩⟩⟩⟩⟩⟩⟩⟩⟩⟩⟩⟩⟩⟩⟩⟩⟩⟩⟩⟩⟩
theorem wt_23_0 : Cond.instanceMethod yX4_mean ∈ lw_tbl := tq_2 _ (List.mem_of_getElem? (i := 230) rfl)
theorem wt_23_1 : Cond.selects RX4 yX4_mean yX4_mean ∈ lw_tbl := tq_2 _ (List.mem_of_getElem? (i := 231) rfl)
theorem wt_23_2 : Cond.code yX4_mean cX4_mean 6 (some .long) ∈ lw_tbl := tq_2 _ (List.mem_of_getElem? (i := 232) rfl)
theorem wt_23_3 : Cond.constantLong RX4 155 (-1000000000000000001) ∈ lw_tbl := tq_2 _ (List.mem_of_getElem? (i := 233) rfl)
theorem wt_23_4 : Cond.constantLong RX4 157 (-1000000000000000002) ∈ lw_tbl := tq_2 _ (List.mem_of_getElem? (i := 234) rfl)
theorem wt_23_5 : Cond.fieldLink RX4 159 "BusThrees$Course" "waits" "[J" ∈ lw_tbl := tq_1 _ (List.mem_of_getElem? (i := 116) rfl)
theorem wt_23_6 : Cond.fieldLink RX4 163 "BusThrees$Course" "taken" "[I" ∈ lw_tbl := tq_1 _ (List.mem_of_getElem? (i := 114) rfl)
theorem wt_23_7 : Cond.constantLong RX4 173 (2) ∈ lw_tbl := tq_3 _ (List.mem_of_getElem? (i := 5) rfl)
theorem wt_23_8 : Cond.methodLink RX4 166 yX4_partOfFraction ∈ lw_tbl := tq_2 _ (List.mem_of_getElem? (i := 235) rfl)
theorem wt_23_9 : Cond.static yX4_partOfFraction ∈ lw_tbl := tq_2 _ (List.mem_of_getElem? (i := 236) rfl)
theorem wt_23_10 : Cond.code yX4_partOfFraction cX4_partOfFraction 7 (some .long) ∈ lw_tbl := tq_2 _ (List.mem_of_getElem? (i := 237) rfl)
theorem wt_23_11 : Cond.methodLink RX4 223 yX4_commonDivisor ∈ lw_tbl := tq_2 _ (List.mem_of_getElem? (i := 238) rfl)
theorem wt_23_12 : Cond.static yX4_commonDivisor ∈ lw_tbl := tq_2 _ (List.mem_of_getElem? (i := 239) rfl)
theorem wt_23_13 : Cond.code yX4_commonDivisor cX4_commonDivisor 11 (some .long) ∈ lw_tbl := tq_3 _ (List.mem_of_getElem? (i := 0) rfl)
theorem wt_23_14 : Cond.methodLink RX4 170 yX0_sumOfGaps ∈ lw_tbl := tq_3 _ (List.mem_of_getElem? (i := 1) rfl)
theorem wt_23_15 : Cond.instanceMethod yX0_sumOfGaps ∈ lw_tbl := tq_3 _ (List.mem_of_getElem? (i := 2) rfl)
theorem wt_23_16 : Cond.selects RX0 yX0_sumOfGaps yX0_sumOfGaps ∈ lw_tbl := tq_3 _ (List.mem_of_getElem? (i := 3) rfl)
theorem wt_23_17 : Cond.code yX0_sumOfGaps cX0_sumOfGaps 5 (some .int) ∈ lw_tbl := tq_3 _ (List.mem_of_getElem? (i := 4) rfl)
theorem wt_23_18 : Cond.methodLink RL 89 yX5_mean ∈ lw_tbl := tq_4 _ (List.mem_of_getElem? (i := 53) rfl)
theorem wt_23_19 : Cond.instanceMethod yX5_mean ∈ lw_tbl := tq_4 _ (List.mem_of_getElem? (i := 54) rfl)
theorem wt_23_20 : Cond.selects RX5 yX5_mean yX5_mean ∈ lw_tbl := tq_4 _ (List.mem_of_getElem? (i := 55) rfl)
theorem wt_23_21 : Cond.code yX5_mean cX5_mean 6 (some .long) ∈ lw_tbl := tq_4 _ (List.mem_of_getElem? (i := 56) rfl)
theorem wt_23_22 : Cond.constantLong RX5 173 (-1000000000000000001) ∈ lw_tbl := tq_4 _ (List.mem_of_getElem? (i := 57) rfl)
theorem wt_23_23 : Cond.constantLong RX5 175 (-1000000000000000002) ∈ lw_tbl := tq_4 _ (List.mem_of_getElem? (i := 58) rfl)
theorem wu_23 : ∀ w ∈ wsL_law_r23, w ∈ lw_tbl := List.forall_mem_cons.mpr ⟨wt_23_0, List.forall_mem_cons.mpr ⟨wt_23_1, List.forall_mem_cons.mpr ⟨wt_23_2, List.forall_mem_cons.mpr ⟨wt_23_3, List.forall_mem_cons.mpr ⟨wt_23_4, List.forall_mem_cons.mpr ⟨wt_23_5, List.forall_mem_cons.mpr ⟨wt_23_6, List.forall_mem_cons.mpr ⟨wt_23_7, List.forall_mem_cons.mpr ⟨wt_23_8, List.forall_mem_cons.mpr ⟨wt_23_9, List.forall_mem_cons.mpr ⟨wt_23_10, List.forall_mem_cons.mpr ⟨wt_23_11, List.forall_mem_cons.mpr ⟨wt_23_12, List.forall_mem_cons.mpr ⟨wt_23_13, List.forall_mem_cons.mpr ⟨wt_23_14, List.forall_mem_cons.mpr ⟨wt_23_15, List.forall_mem_cons.mpr ⟨wt_23_16, List.forall_mem_cons.mpr ⟨wt_23_17, List.forall_mem_cons.mpr ⟨wt_23_18, List.forall_mem_cons.mpr ⟨wt_23_19, List.forall_mem_cons.mpr ⟨wt_23_20, List.forall_mem_cons.mpr ⟨wt_23_21, List.forall_mem_cons.mpr ⟨wt_23_22, List.forall_mem_cons.mpr ⟨wt_23_23, fun _ h => absurd h List.not_mem_nil⟩⟩⟩⟩⟩⟩⟩⟩⟩⟩⟩⟩⟩⟩⟩⟩⟩⟩⟩⟩⟩⟩⟩⟩
theorem wt_24_0 : Cond.constantLong RX5 181 (2) ∈ lw_tbl := tq_4 _ (List.mem_of_getElem? (i := 62) rfl)
theorem wt_24_1 : Cond.methodLink RX5 177 yX5_term ∈ lw_tbl := tq_4 _ (List.mem_of_getElem? (i := 59) rfl)
theorem wt_24_2 : Cond.static yX5_term ∈ lw_tbl := tq_4 _ (List.mem_of_getElem? (i := 60) rfl)
theorem wt_24_3 : Cond.code yX5_term cX5_term 11 (some .long) ∈ lw_tbl := tq_4 _ (List.mem_of_getElem? (i := 61) rfl)
theorem wt_24_4 : Cond.methodLink RL 90 yX4_all ∈ lw_tbl := tq_3 _ (List.mem_of_getElem? (i := 6) rfl)
theorem wt_24_5 : Cond.instanceMethod yX4_all ∈ lw_tbl := tq_3 _ (List.mem_of_getElem? (i := 7) rfl)
theorem wt_24_6 : Cond.selects RX4 yX4_all yX4_all ∈ lw_tbl := tq_3 _ (List.mem_of_getElem? (i := 8) rfl)
theorem wt_24_7 : Cond.code yX4_all cX4_all 3 (some .int) ∈ lw_tbl := tq_3 _ (List.mem_of_getElem? (i := 9) rfl)
theorem wt_24_8 : Cond.fieldLink RX4 179 "BusThrees$Course" "rode" "J" ∈ lw_tbl := tq_1 _ (List.mem_of_getElem? (i := 119) rfl)
theorem wt_24_9 : Cond.fieldLink RX4 183 "BusThrees$Course" "stranded" "I" ∈ lw_tbl := tq_1 _ (List.mem_of_getElem? (i := 121) rfl)
theorem wt_24_10 : Cond.methodLink RX4 175 yX0_sumOfWaits ∈ lw_tbl := tq_3 _ (List.mem_of_getElem? (i := 10) rfl)
theorem wt_24_11 : Cond.instanceMethod yX0_sumOfWaits ∈ lw_tbl := tq_3 _ (List.mem_of_getElem? (i := 11) rfl)
theorem wt_24_12 : Cond.selects RX0 yX0_sumOfWaits yX0_sumOfWaits ∈ lw_tbl := tq_3 _ (List.mem_of_getElem? (i := 12) rfl)
theorem wt_24_13 : Cond.code yX0_sumOfWaits cX0_sumOfWaits 4 (some .long) ∈ lw_tbl := tq_3 _ (List.mem_of_getElem? (i := 13) rfl)
theorem wt_24_14 : Cond.methodLink RL 93 yX5_all ∈ lw_tbl := tq_4 _ (List.mem_of_getElem? (i := 63) rfl)
theorem wt_24_15 : Cond.instanceMethod yX5_all ∈ lw_tbl := tq_4 _ (List.mem_of_getElem? (i := 64) rfl)
theorem wt_24_16 : Cond.selects RX5 yX5_all yX5_all ∈ lw_tbl := tq_4 _ (List.mem_of_getElem? (i := 65) rfl)
theorem wt_24_17 : Cond.code yX5_all cX5_all 2 (some .int) ∈ lw_tbl := tq_4 _ (List.mem_of_getElem? (i := 66) rfl)
theorem wt_24_18 : Cond.methodLink RX5 183 yX5_allWaited ∈ lw_tbl := tq_4 _ (List.mem_of_getElem? (i := 67) rfl)
theorem wt_24_19 : Cond.instanceMethod yX5_allWaited ∈ lw_tbl := tq_4 _ (List.mem_of_getElem? (i := 69) rfl)
theorem wt_24_20 : Cond.selects RX5 yX5_allWaited yX5_allWaited ∈ lw_tbl := tq_s _ (List.mem_of_getElem? (i := 31) rfl)
theorem wt_24_21 : Cond.code yX5_allWaited cX5_allWaited 3 (some .int) ∈ lw_tbl := tq_4 _ (List.mem_of_getElem? (i := 70) rfl)
theorem wt_24_22 : Cond.methodLink RL 94 yX4_held ∈ lw_tbl := tq_3 _ (List.mem_of_getElem? (i := 14) rfl)
theorem wt_24_23 : Cond.instanceMethod yX4_held ∈ lw_tbl := tq_3 _ (List.mem_of_getElem? (i := 15) rfl)
theorem wu_24 : ∀ w ∈ wsL_law_r24, w ∈ lw_tbl := List.forall_mem_cons.mpr ⟨wt_24_0, List.forall_mem_cons.mpr ⟨wt_24_1, List.forall_mem_cons.mpr ⟨wt_24_2, List.forall_mem_cons.mpr ⟨wt_24_3, List.forall_mem_cons.mpr ⟨wt_24_4, List.forall_mem_cons.mpr ⟨wt_24_5, List.forall_mem_cons.mpr ⟨wt_24_6, List.forall_mem_cons.mpr ⟨wt_24_7, List.forall_mem_cons.mpr ⟨wt_24_8, List.forall_mem_cons.mpr ⟨wt_24_9, List.forall_mem_cons.mpr ⟨wt_24_10, List.forall_mem_cons.mpr ⟨wt_24_11, List.forall_mem_cons.mpr ⟨wt_24_12, List.forall_mem_cons.mpr ⟨wt_24_13, List.forall_mem_cons.mpr ⟨wt_24_14, List.forall_mem_cons.mpr ⟨wt_24_15, List.forall_mem_cons.mpr ⟨wt_24_16, List.forall_mem_cons.mpr ⟨wt_24_17, List.forall_mem_cons.mpr ⟨wt_24_18, List.forall_mem_cons.mpr ⟨wt_24_19, List.forall_mem_cons.mpr ⟨wt_24_20, List.forall_mem_cons.mpr ⟨wt_24_21, List.forall_mem_cons.mpr ⟨wt_24_22, List.forall_mem_cons.mpr ⟨wt_24_23, fun _ h => absurd h List.not_mem_nil⟩⟩⟩⟩⟩⟩⟩⟩⟩⟩⟩⟩⟩⟩⟩⟩⟩⟩⟩⟩⟩⟩⟩⟩
theorem wt_25_0 : Cond.selects RX4 yX4_held yX4_held ∈ lw_tbl := tq_3 _ (List.mem_of_getElem? (i := 16) rfl)
theorem wt_25_1 : Cond.code yX4_held cX4_held 5 (some .int) ∈ lw_tbl := tq_3 _ (List.mem_of_getElem? (i := 17) rfl)
theorem wt_25_2 : Cond.constant RX4 186 (-2000000000) ∈ lw_tbl := tq_3 _ (List.mem_of_getElem? (i := 18) rfl)
theorem wt_25_3 : Cond.fieldLink RX4 187 "BusThrees$Course" "extra" "[I" ∈ lw_tbl := tq_1 _ (List.mem_of_getElem? (i := 112) rfl)
theorem wt_25_4 : Cond.methodLink RL 97 yX5_held ∈ lw_tbl := tq_4 _ (List.mem_of_getElem? (i := 71) rfl)
theorem wt_25_5 : Cond.instanceMethod yX5_held ∈ lw_tbl := tq_4 _ (List.mem_of_getElem? (i := 72) rfl)
theorem wt_25_6 : Cond.selects RX5 yX5_held yX5_held ∈ lw_tbl := tq_4 _ (List.mem_of_getElem? (i := 73) rfl)
theorem wt_25_7 : Cond.code yX5_held cX5_held 5 (some .int) ∈ lw_tbl := tq_4 _ (List.mem_of_getElem? (i := 74) rfl)
theorem wt_25_8 : Cond.constant RX5 186 (-2000000000) ∈ lw_tbl := tq_4 _ (List.mem_of_getElem? (i := 75) rfl)
theorem wt_25_9 : Cond.methodLink RL 98 yX4_board ∈ lw_tbl := tq_3 _ (List.mem_of_getElem? (i := 19) rfl)
theorem wt_25_10 : Cond.instanceMethod yX4_board ∈ lw_tbl := tq_3 _ (List.mem_of_getElem? (i := 20) rfl)
theorem wt_25_11 : Cond.selects RX4 yX4_board yX4_board ∈ lw_tbl := tq_3 _ (List.mem_of_getElem? (i := 21) rfl)
theorem wt_25_12 : Cond.code yX4_board cX4_board 7 (some .int) ∈ lw_tbl := tq_3 _ (List.mem_of_getElem? (i := 22) rfl)
theorem wt_25_13 : Cond.fieldLink RX4 198 "BusThrees$Course" "come" "[I" ∈ lw_tbl := tq_1 _ (List.mem_of_getElem? (i := 105) rfl)
theorem wt_25_14 : Cond.methodLink RX4 190 yX0_nearestBus ∈ lw_tbl := tq_3 _ (List.mem_of_getElem? (i := 23) rfl)
theorem wt_25_15 : Cond.instanceMethod yX0_nearestBus ∈ lw_tbl := tq_3 _ (List.mem_of_getElem? (i := 24) rfl)
theorem wt_25_16 : Cond.selects RX0 yX0_nearestBus yX0_nearestBus ∈ lw_tbl := tq_3 _ (List.mem_of_getElem? (i := 25) rfl)
theorem wt_25_17 : Cond.code yX0_nearestBus cX0_nearestBus 8 (some .int) ∈ lw_tbl := tq_3 _ (List.mem_of_getElem? (i := 26) rfl)
theorem wt_25_18 : Cond.methodLink RX0 182 yX0_stopsLeft ∈ lw_tbl := tq_3 _ (List.mem_of_getElem? (i := 27) rfl)
theorem wt_25_19 : Cond.instanceMethod yX0_stopsLeft ∈ lw_tbl := tq_3 _ (List.mem_of_getElem? (i := 29) rfl)
theorem wt_25_20 : Cond.selects RX0 yX0_stopsLeft yX0_stopsLeft ∈ lw_tbl := tq_s _ (List.mem_of_getElem? (i := 17) rfl)
theorem wt_25_21 : Cond.code yX0_stopsLeft cX0_stopsLeft 5 (some .int) ∈ lw_tbl := tq_3 _ (List.mem_of_getElem? (i := 30) rfl)
theorem wt_25_22 : Cond.methodLink RX4 194 yX0_shownSeconds ∈ lw_tbl := tq_3 _ (List.mem_of_getElem? (i := 31) rfl)
theorem wt_25_23 : Cond.instanceMethod yX0_shownSeconds ∈ lw_tbl := tq_3 _ (List.mem_of_getElem? (i := 32) rfl)
theorem wu_25 : ∀ w ∈ wsL_law_r25, w ∈ lw_tbl := List.forall_mem_cons.mpr ⟨wt_25_0, List.forall_mem_cons.mpr ⟨wt_25_1, List.forall_mem_cons.mpr ⟨wt_25_2, List.forall_mem_cons.mpr ⟨wt_25_3, List.forall_mem_cons.mpr ⟨wt_25_4, List.forall_mem_cons.mpr ⟨wt_25_5, List.forall_mem_cons.mpr ⟨wt_25_6, List.forall_mem_cons.mpr ⟨wt_25_7, List.forall_mem_cons.mpr ⟨wt_25_8, List.forall_mem_cons.mpr ⟨wt_25_9, List.forall_mem_cons.mpr ⟨wt_25_10, List.forall_mem_cons.mpr ⟨wt_25_11, List.forall_mem_cons.mpr ⟨wt_25_12, List.forall_mem_cons.mpr ⟨wt_25_13, List.forall_mem_cons.mpr ⟨wt_25_14, List.forall_mem_cons.mpr ⟨wt_25_15, List.forall_mem_cons.mpr ⟨wt_25_16, List.forall_mem_cons.mpr ⟨wt_25_17, List.forall_mem_cons.mpr ⟨wt_25_18, List.forall_mem_cons.mpr ⟨wt_25_19, List.forall_mem_cons.mpr ⟨wt_25_20, List.forall_mem_cons.mpr ⟨wt_25_21, List.forall_mem_cons.mpr ⟨wt_25_22, List.forall_mem_cons.mpr ⟨wt_25_23, fun _ h => absurd h List.not_mem_nil⟩⟩⟩⟩⟩⟩⟩⟩⟩⟩⟩⟩⟩⟩⟩⟩⟩⟩⟩⟩⟩⟩⟩⟩
theorem wt_26_0 : Cond.selects RX0 yX0_shownSeconds yX0_shownSeconds ∈ lw_tbl := tq_3 _ (List.mem_of_getElem? (i := 33) rfl)
theorem wt_26_1 : Cond.code yX0_shownSeconds cX0_shownSeconds 8 (some .int) ∈ lw_tbl := tq_3 _ (List.mem_of_getElem? (i := 34) rfl)
theorem wt_26_2 : Cond.methodLink RL 101 yX5_board ∈ lw_tbl := tq_4 _ (List.mem_of_getElem? (i := 76) rfl)
theorem wt_26_3 : Cond.instanceMethod yX5_board ∈ lw_tbl := tq_4 _ (List.mem_of_getElem? (i := 77) rfl)
theorem wt_26_4 : Cond.selects RX5 yX5_board yX5_board ∈ lw_tbl := tq_4 _ (List.mem_of_getElem? (i := 78) rfl)
theorem wt_26_5 : Cond.code yX5_board cX5_board 9 (some .int) ∈ lw_tbl := tq_4 _ (List.mem_of_getElem? (i := 79) rfl)
theorem wt_26_6 : Cond.methodLink RL 102 yX4_best ∈ lw_tbl := tq_3 _ (List.mem_of_getElem? (i := 35) rfl)
theorem wt_26_7 : Cond.instanceMethod yX4_best ∈ lw_tbl := tq_3 _ (List.mem_of_getElem? (i := 36) rfl)
theorem wt_26_8 : Cond.selects RX4 yX4_best yX4_best ∈ lw_tbl := tq_3 _ (List.mem_of_getElem? (i := 37) rfl)
theorem wt_26_9 : Cond.code yX4_best cX4_best 2 (some .int) ∈ lw_tbl := tq_3 _ (List.mem_of_getElem? (i := 38) rfl)
theorem wt_26_10 : Cond.fieldLink RX4 208 "BusThrees" "bestStop" "I" ∈ lw_tbl := tq_1 _ (List.mem_of_getElem? (i := 185) rfl)
theorem wt_26_11 : Cond.fieldLink RX4 211 "BusThrees" "bestGap" "I" ∈ lw_tbl := tq_1 _ (List.mem_of_getElem? (i := 186) rfl)
theorem wt_26_12 : Cond.methodLink RX4 205 yX4_findBest ∈ lw_tbl := tq_3 _ (List.mem_of_getElem? (i := 39) rfl)
theorem wt_26_13 : Cond.instanceMethod yX4_findBest ∈ lw_tbl := tq_3 _ (List.mem_of_getElem? (i := 41) rfl)
theorem wt_26_14 : Cond.selects RX4 yX4_findBest yX4_findBest ∈ lw_tbl := tq_s _ (List.mem_of_getElem? (i := 18) rfl)
theorem wt_26_15 : Cond.code yX4_findBest cX4_findBest 8 none ∈ lw_tbl := tq_3 _ (List.mem_of_getElem? (i := 42) rfl)
theorem wt_26_16 : Cond.constantLong RX4 221 (1000) ∈ lw_tbl := tq_3 _ (List.mem_of_getElem? (i := 48) rfl)
theorem wt_26_17 : Cond.methodLink RX4 217 yX2_keepOnlyGap ∈ lw_tbl := tq_3 _ (List.mem_of_getElem? (i := 43) rfl)
theorem wt_26_18 : Cond.instanceMethod yX2_keepOnlyGap ∈ lw_tbl := tq_3 _ (List.mem_of_getElem? (i := 44) rfl)
theorem wt_26_19 : Cond.selects RX2 yX2_keepOnlyGap yX2_keepOnlyGap ∈ lw_tbl := tq_3 _ (List.mem_of_getElem? (i := 45) rfl)
theorem wt_26_20 : Cond.code yX2_keepOnlyGap cX2_keepOnlyGap 3 none ∈ lw_tbl := tq_3 _ (List.mem_of_getElem? (i := 46) rfl)
theorem wt_26_21 : Cond.methodLink RX2 28 yX2_clear ∈ lw_tbl := tq_3 _ (List.mem_of_getElem? (i := 47) rfl)
theorem wt_26_22 : Cond.methodLink RL 105 yX5_best ∈ lw_tbl := tq_4 _ (List.mem_of_getElem? (i := 80) rfl)
theorem wt_26_23 : Cond.instanceMethod yX5_best ∈ lw_tbl := tq_4 _ (List.mem_of_getElem? (i := 81) rfl)
theorem wu_26 : ∀ w ∈ wsL_law_r26, w ∈ lw_tbl := List.forall_mem_cons.mpr ⟨wt_26_0, List.forall_mem_cons.mpr ⟨wt_26_1, List.forall_mem_cons.mpr ⟨wt_26_2, List.forall_mem_cons.mpr ⟨wt_26_3, List.forall_mem_cons.mpr ⟨wt_26_4, List.forall_mem_cons.mpr ⟨wt_26_5, List.forall_mem_cons.mpr ⟨wt_26_6, List.forall_mem_cons.mpr ⟨wt_26_7, List.forall_mem_cons.mpr ⟨wt_26_8, List.forall_mem_cons.mpr ⟨wt_26_9, List.forall_mem_cons.mpr ⟨wt_26_10, List.forall_mem_cons.mpr ⟨wt_26_11, List.forall_mem_cons.mpr ⟨wt_26_12, List.forall_mem_cons.mpr ⟨wt_26_13, List.forall_mem_cons.mpr ⟨wt_26_14, List.forall_mem_cons.mpr ⟨wt_26_15, List.forall_mem_cons.mpr ⟨wt_26_16, List.forall_mem_cons.mpr ⟨wt_26_17, List.forall_mem_cons.mpr ⟨wt_26_18, List.forall_mem_cons.mpr ⟨wt_26_19, List.forall_mem_cons.mpr ⟨wt_26_20, List.forall_mem_cons.mpr ⟨wt_26_21, List.forall_mem_cons.mpr ⟨wt_26_22, List.forall_mem_cons.mpr ⟨wt_26_23, fun _ h => absurd h List.not_mem_nil⟩⟩⟩⟩⟩⟩⟩⟩⟩⟩⟩⟩⟩⟩⟩⟩⟩⟩⟩⟩⟩⟩⟩⟩
theorem wt_27_0 : Cond.selects RX5 yX5_best yX5_best ∈ lw_tbl := tq_4 _ (List.mem_of_getElem? (i := 82) rfl)
theorem wt_27_1 : Cond.code yX5_best cX5_best 7 (some .int) ∈ lw_tbl := tq_4 _ (List.mem_of_getElem? (i := 83) rfl)
theorem wt_27_2 : Cond.methodLink RL 106 yX4_told ∈ lw_tbl := tq_3 _ (List.mem_of_getElem? (i := 49) rfl)
theorem wt_27_3 : Cond.instanceMethod yX4_told ∈ lw_tbl := tq_3 _ (List.mem_of_getElem? (i := 50) rfl)
theorem wt_27_4 : Cond.selects RX4 yX4_told yX4_told ∈ lw_tbl := tq_3 _ (List.mem_of_getElem? (i := 51) rfl)
theorem wt_27_5 : Cond.code yX4_told cX4_told 2 (some .int) ∈ lw_tbl := tq_3 _ (List.mem_of_getElem? (i := 52) rfl)
theorem wt_27_6 : Cond.methodLink RL 109 yX5_told ∈ lw_tbl := tq_4 _ (List.mem_of_getElem? (i := 84) rfl)
theorem wt_27_7 : Cond.instanceMethod yX5_told ∈ lw_tbl := tq_4 _ (List.mem_of_getElem? (i := 85) rfl)
theorem wt_27_8 : Cond.selects RX5 yX5_told yX5_told ∈ lw_tbl := tq_4 _ (List.mem_of_getElem? (i := 86) rfl)
theorem wt_27_9 : Cond.code yX5_told cX5_told 2 (some .int) ∈ lw_tbl := tq_4 _ (List.mem_of_getElem? (i := 87) rfl)
theorem wu_27 : ∀ w ∈ wsL_law_r27, w ∈ lw_tbl := List.forall_mem_cons.mpr ⟨wt_27_0, List.forall_mem_cons.mpr ⟨wt_27_1, List.forall_mem_cons.mpr ⟨wt_27_2, List.forall_mem_cons.mpr ⟨wt_27_3, List.forall_mem_cons.mpr ⟨wt_27_4, List.forall_mem_cons.mpr ⟨wt_27_5, List.forall_mem_cons.mpr ⟨wt_27_6, List.forall_mem_cons.mpr ⟨wt_27_7, List.forall_mem_cons.mpr ⟨wt_27_8, List.forall_mem_cons.mpr ⟨wt_27_9, fun _ h => absurd h List.not_mem_nil⟩⟩⟩⟩⟩⟩⟩⟩⟩⟩
theorem wf_0 : ∀ w ∈ wsX00, w ∈ lw_tbl := by
  intro w hw
  obtain ⟨k, hk, rfl⟩ := List.mem_map.mp hw
  have hk := List.mem_range.mp hk
  match k, hk with
  | 0, _ => exact tq_1 _ (List.mem_of_getElem? (i := 125) rfl)
  | 1, _ => exact tq_1 _ (List.mem_of_getElem? (i := 127) rfl)
  | 2, _ => exact tq_1 _ (List.mem_of_getElem? (i := 129) rfl)
  | 3, _ => exact tq_1 _ (List.mem_of_getElem? (i := 131) rfl)
  | 4, _ => exact tq_1 _ (List.mem_of_getElem? (i := 133) rfl)
  | 5, _ => exact tq_1 _ (List.mem_of_getElem? (i := 135) rfl)
  | 6, _ => exact tq_1 _ (List.mem_of_getElem? (i := 137) rfl)
  | 7, _ => exact tq_1 _ (List.mem_of_getElem? (i := 139) rfl)
  | 8, _ => exact tq_1 _ (List.mem_of_getElem? (i := 141) rfl)
  | 9, _ => exact tq_1 _ (List.mem_of_getElem? (i := 143) rfl)
  | 10, _ => exact tq_1 _ (List.mem_of_getElem? (i := 145) rfl)
  | 11, _ => exact tq_1 _ (List.mem_of_getElem? (i := 147) rfl)
  | 12, _ => exact tq_1 _ (List.mem_of_getElem? (i := 149) rfl)
  | 13, _ => exact tq_1 _ (List.mem_of_getElem? (i := 151) rfl)
  | 14, _ => exact tq_1 _ (List.mem_of_getElem? (i := 153) rfl)
  | k + 15, hk => omega
theorem wf_1 : ∀ w ∈ wsX10, w ∈ lw_tbl := by
  intro w hw
  obtain ⟨k, hk, rfl⟩ := List.mem_map.mp hw
  have hk := List.mem_range.mp hk
  match k, hk with
  | 0, _ => exact tq_1 _ (List.mem_of_getElem? (i := 52) rfl)
  | 1, _ => exact tq_1 _ (List.mem_of_getElem? (i := 54) rfl)
  | 2, _ => exact tq_1 _ (List.mem_of_getElem? (i := 56) rfl)
  | 3, _ => exact tq_1 _ (List.mem_of_getElem? (i := 58) rfl)
  | 4, _ => exact tq_1 _ (List.mem_of_getElem? (i := 60) rfl)
  | 5, _ => exact tq_1 _ (List.mem_of_getElem? (i := 62) rfl)
  | 6, _ => exact tq_1 _ (List.mem_of_getElem? (i := 64) rfl)
  | 7, _ => exact tq_1 _ (List.mem_of_getElem? (i := 66) rfl)
  | 8, _ => exact tq_1 _ (List.mem_of_getElem? (i := 68) rfl)
  | 9, _ => exact tq_1 _ (List.mem_of_getElem? (i := 70) rfl)
  | 10, _ => exact tq_1 _ (List.mem_of_getElem? (i := 72) rfl)
  | 11, _ => exact tq_1 _ (List.mem_of_getElem? (i := 74) rfl)
  | k + 12, hk => omega
theorem wf_2 : ∀ w ∈ wsX20, w ∈ lw_tbl := by
  intro w hw
  obtain ⟨k, hk, rfl⟩ := List.mem_map.mp hw
  have hk := List.mem_range.mp hk
  match k, hk with
  | 0, _ => exact tq_1 _ (List.mem_of_getElem? (i := 170) rfl)
  | 1, _ => exact tq_1 _ (List.mem_of_getElem? (i := 172) rfl)
  | 2, _ => exact tq_1 _ (List.mem_of_getElem? (i := 174) rfl)
  | k + 3, hk => omega
theorem wf_3 : ∀ w ∈ wsX30, w ∈ lw_tbl := by
  intro w hw
  obtain ⟨k, hk, rfl⟩ := List.mem_map.mp hw
  have hk := List.mem_range.mp hk
  match k, hk with
  | 0, _ => exact tq_1 _ (List.mem_of_getElem? (i := 89) rfl)
  | 1, _ => exact tq_1 _ (List.mem_of_getElem? (i := 91) rfl)
  | 2, _ => exact tq_1 _ (List.mem_of_getElem? (i := 93) rfl)
  | 3, _ => exact tq_1 _ (List.mem_of_getElem? (i := 95) rfl)
  | k + 4, hk => omega
theorem wf_4 : ∀ w ∈ wsX40, w ∈ lw_tbl := by
  intro w hw
  obtain ⟨k, hk, rfl⟩ := List.mem_map.mp hw
  have hk := List.mem_range.mp hk
  match k, hk with
  | 0, _ => exact tq_1 _ (List.mem_of_getElem? (i := 187) rfl)
  | 1, _ => exact tq_1 _ (List.mem_of_getElem? (i := 189) rfl)
  | 2, _ => exact tq_1 _ (List.mem_of_getElem? (i := 191) rfl)
  | 3, _ => exact tq_1 _ (List.mem_of_getElem? (i := 193) rfl)
  | 4, _ => exact tq_1 _ (List.mem_of_getElem? (i := 195) rfl)
  | 5, _ => exact tq_1 _ (List.mem_of_getElem? (i := 197) rfl)
  | 6, _ => exact tq_1 _ (List.mem_of_getElem? (i := 199) rfl)
  | 7, _ => exact tq_1 _ (List.mem_of_getElem? (i := 201) rfl)
  | 8, _ => exact tq_1 _ (List.mem_of_getElem? (i := 203) rfl)
  | 9, _ => exact tq_1 _ (List.mem_of_getElem? (i := 205) rfl)
  | k + 10, hk => omega
theorem wf_5 : ∀ w ∈ wsX50, w ∈ lw_tbl := by
  intro w hw
  obtain ⟨k, hk, rfl⟩ := List.mem_map.mp hw
  have hk := List.mem_range.mp hk
  match k, hk with
  | 0, _ => exact tq_3 _ (List.mem_of_getElem? (i := 96) rfl)
  | 1, _ => exact tq_3 _ (List.mem_of_getElem? (i := 98) rfl)
  | 2, _ => exact tq_3 _ (List.mem_of_getElem? (i := 100) rfl)
  | 3, _ => exact tq_3 _ (List.mem_of_getElem? (i := 102) rfl)
  | 4, _ => exact tq_3 _ (List.mem_of_getElem? (i := 104) rfl)
  | 5, _ => exact tq_3 _ (List.mem_of_getElem? (i := 106) rfl)
  | 6, _ => exact tq_3 _ (List.mem_of_getElem? (i := 108) rfl)
  | 7, _ => exact tq_3 _ (List.mem_of_getElem? (i := 110) rfl)
  | 8, _ => exact tq_3 _ (List.mem_of_getElem? (i := 112) rfl)
  | 9, _ => exact tq_3 _ (List.mem_of_getElem? (i := 114) rfl)
  | 10, _ => exact tq_3 _ (List.mem_of_getElem? (i := 116) rfl)
  | 11, _ => exact tq_3 _ (List.mem_of_getElem? (i := 118) rfl)
  | 12, _ => exact tq_3 _ (List.mem_of_getElem? (i := 120) rfl)
  | 13, _ => exact tq_3 _ (List.mem_of_getElem? (i := 122) rfl)
  | 14, _ => exact tq_3 _ (List.mem_of_getElem? (i := 124) rfl)
  | 15, _ => exact tq_3 _ (List.mem_of_getElem? (i := 126) rfl)
  | 16, _ => exact tq_3 _ (List.mem_of_getElem? (i := 128) rfl)
  | 17, _ => exact tq_3 _ (List.mem_of_getElem? (i := 130) rfl)
  | 18, _ => exact tq_3 _ (List.mem_of_getElem? (i := 132) rfl)
  | 19, _ => exact tq_3 _ (List.mem_of_getElem? (i := 134) rfl)
  | 20, _ => exact tq_3 _ (List.mem_of_getElem? (i := 136) rfl)
  | 21, _ => exact tq_3 _ (List.mem_of_getElem? (i := 138) rfl)
  | 22, _ => exact tq_3 _ (List.mem_of_getElem? (i := 140) rfl)
  | 23, _ => exact tq_3 _ (List.mem_of_getElem? (i := 142) rfl)
  | 24, _ => exact tq_3 _ (List.mem_of_getElem? (i := 144) rfl)
  | 25, _ => exact tq_3 _ (List.mem_of_getElem? (i := 146) rfl)
  | 26, _ => exact tq_3 _ (List.mem_of_getElem? (i := 148) rfl)
  | 27, _ => exact tq_3 _ (List.mem_of_getElem? (i := 150) rfl)
  | 28, _ => exact tq_3 _ (List.mem_of_getElem? (i := 152) rfl)
  | 29, _ => exact tq_3 _ (List.mem_of_getElem? (i := 154) rfl)
  | 30, _ => exact tq_3 _ (List.mem_of_getElem? (i := 156) rfl)
  | 31, _ => exact tq_3 _ (List.mem_of_getElem? (i := 158) rfl)
  | 32, _ => exact tq_3 _ (List.mem_of_getElem? (i := 160) rfl)
  | 33, _ => exact tq_3 _ (List.mem_of_getElem? (i := 162) rfl)
  | 34, _ => exact tq_3 _ (List.mem_of_getElem? (i := 164) rfl)
  | 35, _ => exact tq_3 _ (List.mem_of_getElem? (i := 166) rfl)
  | 36, _ => exact tq_3 _ (List.mem_of_getElem? (i := 168) rfl)
  | k + 37, hk => omega
theorem wsL_law_in : ∀ w ∈ wsL_law, w ∈ lw_tbl := List.forall_mem_append.mpr ⟨List.forall_mem_append.mpr ⟨List.forall_mem_append.mpr ⟨List.forall_mem_append.mpr ⟨List.forall_mem_append.mpr ⟨List.forall_mem_append.mpr ⟨List.forall_mem_append.mpr ⟨List.forall_mem_append.mpr ⟨wu_1, List.forall_mem_append.mpr ⟨wu_2, List.forall_mem_append.mpr ⟨wu_3, List.forall_mem_append.mpr ⟨wu_4, List.forall_mem_append.mpr ⟨wu_5, List.forall_mem_append.mpr ⟨wu_6, List.forall_mem_append.mpr ⟨wu_7, List.forall_mem_append.mpr ⟨wu_8, List.forall_mem_append.mpr ⟨wu_9, List.forall_mem_append.mpr ⟨wu_10, List.forall_mem_append.mpr ⟨wu_11, List.forall_mem_append.mpr ⟨wu_12, List.forall_mem_append.mpr ⟨wu_13, List.forall_mem_append.mpr ⟨wu_14, List.forall_mem_append.mpr ⟨wu_15, List.forall_mem_append.mpr ⟨wu_16, List.forall_mem_append.mpr ⟨wu_17, List.forall_mem_append.mpr ⟨wu_18, List.forall_mem_append.mpr ⟨wu_19, List.forall_mem_append.mpr ⟨wu_20, List.forall_mem_append.mpr ⟨wu_21, List.forall_mem_append.mpr ⟨wu_22, List.forall_mem_append.mpr ⟨wu_23, List.forall_mem_append.mpr ⟨wu_24, List.forall_mem_append.mpr ⟨wu_25, List.forall_mem_append.mpr ⟨wu_26, wu_27⟩⟩⟩⟩⟩⟩⟩⟩⟩⟩⟩⟩⟩⟩⟩⟩⟩⟩⟩⟩⟩⟩⟩⟩⟩⟩, wf_4⟩, wf_5⟩, wf_1⟩, wf_3⟩, wf_0⟩, wf_2⟩, fun _ h => absurd h List.not_mem_nil⟩
theorem inX0 : ∀ w ∈ wsX00, w ∈ lw_tbl := fun w h => wsL_law_in w (inlX0 w h)
theorem inX1 : ∀ w ∈ wsX10, w ∈ lw_tbl := fun w h => wsL_law_in w (inlX1 w h)
theorem inX2 : ∀ w ∈ wsX20, w ∈ lw_tbl := fun w h => wsL_law_in w (inlX2 w h)
theorem inX3 : ∀ w ∈ wsX30, w ∈ lw_tbl := fun w h => wsL_law_in w (inlX3 w h)
theorem inX4 : ∀ w ∈ wsX40, w ∈ lw_tbl := fun w h => wsL_law_in w (inlX4 w h)
theorem inX5 : ∀ w ∈ wsX50, w ∈ lw_tbl := fun w h => wsL_law_in w (inlX5 w h)
end
section
theorem dX0_init_0 : decode cX0_init 0 = .ok (.aload_n 0, 1) := by decide +kernel
theorem dX0_init_1 : decode cX0_init 1 = .ok (.invokespecial 3, 3) := by decide +kernel
theorem dX0_init_4 : decode cX0_init 4 = .ok (.aload_n 0, 1) := by decide +kernel
theorem dX0_init_5 : decode cX0_init 5 = .ok (.bipush 80, 2) := by decide +kernel
theorem dX0_init_7 : decode cX0_init 7 = .ok (.newarray .int, 2) := by decide +kernel
theorem dX0_init_9 : decode cX0_init 9 = .ok (.putfield 9, 3) := by decide +kernel
theorem dX0_init_12 : decode cX0_init 12 = .ok (.aload_n 0, 1) := by decide +kernel
theorem dX0_init_13 : decode cX0_init 13 = .ok (.bipush 80, 2) := by decide +kernel
theorem dX0_init_15 : decode cX0_init 15 = .ok (.newarray .int, 2) := by decide +kernel
theorem dX0_init_17 : decode cX0_init 17 = .ok (.putfield 15, 3) := by decide +kernel
theorem dX0_init_20 : decode cX0_init 20 = .ok (.aload_n 0, 1) := by decide +kernel
theorem dX0_init_21 : decode cX0_init 21 = .ok (.bipush 80, 2) := by decide +kernel
theorem dX0_init_23 : decode cX0_init 23 = .ok (.newarray .int, 2) := by decide +kernel
theorem dX0_init_25 : decode cX0_init 25 = .ok (.putfield 18, 3) := by decide +kernel
theorem dX0_init_28 : decode cX0_init 28 = .ok (.aload_n 0, 1) := by decide +kernel
theorem dX0_init_29 : decode cX0_init 29 = .ok (.bipush 80, 2) := by decide +kernel
theorem dX0_init_31 : decode cX0_init 31 = .ok (.newarray .int, 2) := by decide +kernel
theorem dX0_init_33 : decode cX0_init 33 = .ok (.putfield 21, 3) := by decide +kernel
theorem dX0_init_36 : decode cX0_init 36 = .ok (.aload_n 0, 1) := by decide +kernel
theorem dX0_init_37 : decode cX0_init 37 = .ok (.bipush 80, 2) := by decide +kernel
theorem dX0_init_39 : decode cX0_init 39 = .ok (.newarray .int, 2) := by decide +kernel
theorem dX0_init_41 : decode cX0_init 41 = .ok (.putfield 24, 3) := by decide +kernel
theorem dX0_init_44 : decode cX0_init 44 = .ok (.aload_n 0, 1) := by decide +kernel
theorem dX0_init_45 : decode cX0_init 45 = .ok (.bipush 80, 2) := by decide +kernel
theorem dX0_init_47 : decode cX0_init 47 = .ok (.newarray .int, 2) := by decide +kernel
theorem dX0_init_49 : decode cX0_init 49 = .ok (.putfield 27, 3) := by decide +kernel
theorem dX0_init_52 : decode cX0_init 52 = .ok (.aload_n 0, 1) := by decide +kernel
theorem dX0_init_53 : decode cX0_init 53 = .ok (.bipush 80, 2) := by decide +kernel
theorem dX0_init_55 : decode cX0_init 55 = .ok (.newarray .int, 2) := by decide +kernel
theorem dX0_init_57 : decode cX0_init 57 = .ok (.putfield 30, 3) := by decide +kernel
theorem dX0_init_60 : decode cX0_init 60 = .ok (.aload_n 0, 1) := by decide +kernel
theorem dX0_init_61 : decode cX0_init 61 = .ok (.bipush 10, 2) := by decide +kernel
theorem dX0_init_63 : decode cX0_init 63 = .ok (.newarray .int, 2) := by decide +kernel
theorem dX0_init_65 : decode cX0_init 65 = .ok (.putfield 33, 3) := by decide +kernel
theorem dX0_init_68 : decode cX0_init 68 = .ok (.aload_n 0, 1) := by decide +kernel
theorem dX0_init_69 : decode cX0_init 69 = .ok (.bipush 10, 2) := by decide +kernel
theorem dX0_init_71 : decode cX0_init 71 = .ok (.newarray .long, 2) := by decide +kernel
theorem dX0_init_73 : decode cX0_init 73 = .ok (.putfield 36, 3) := by decide +kernel
theorem dX0_init_76 : decode cX0_init 76 = .ok (.aload_n 0, 1) := by decide +kernel
theorem dX0_init_77 : decode cX0_init 77 = .ok (.bipush 10, 2) := by decide +kernel
theorem dX0_init_79 : decode cX0_init 79 = .ok (.newarray .int, 2) := by decide +kernel
theorem dX0_init_81 : decode cX0_init 81 = .ok (.putfield 40, 3) := by decide +kernel
theorem dX0_init_84 : decode cX0_init 84 = .ok (.aload_n 0, 1) := by decide +kernel
theorem dX0_init_85 : decode cX0_init 85 = .ok (.bipush 8, 2) := by decide +kernel
theorem dX0_init_87 : decode cX0_init 87 = .ok (.newarray .int, 2) := by decide +kernel
theorem dX0_init_89 : decode cX0_init 89 = .ok (.putfield 43, 3) := by decide +kernel
theorem dX0_init_92 : decode cX0_init 92 = .ok (.return_, 1) := by decide +kernel
theorem dX0_layLatenesses_0 : decode cX0_layLatenesses 0 = .ok (.aload_n 0, 1) := by decide +kernel
theorem dX0_layLatenesses_1 : decode cX0_layLatenesses 1 = .ok (.getfield 30, 3) := by decide +kernel
theorem dX0_layLatenesses_4 : decode cX0_layLatenesses 4 = .ok (.iconst 0, 1) := by decide +kernel
theorem dX0_layLatenesses_5 : decode cX0_layLatenesses 5 = .ok (.invokestatic 46, 3) := by decide +kernel
theorem dX0_layLatenesses_8 : decode cX0_layLatenesses 8 = .ok (.iconst 0, 1) := by decide +kernel
theorem dX0_layLatenesses_9 : decode cX0_layLatenesses 9 = .ok (.istore_n 3, 1) := by decide +kernel
theorem dX0_layLatenesses_10 : decode cX0_layLatenesses 10 = .ok (.iload_n 3, 1) := by decide +kernel
theorem dX0_layLatenesses_11 : decode cX0_layLatenesses 11 = .ok (.aload_n 1, 1) := by decide +kernel
theorem dX0_layLatenesses_12 : decode cX0_layLatenesses 12 = .ok (.getfield 52, 3) := by decide +kernel
theorem dX0_layLatenesses_15 : decode cX0_layLatenesses 15 = .ok (.if_icmp .ge 43, 3) := by decide +kernel
theorem dX0_layLatenesses_18 : decode cX0_layLatenesses 18 = .ok (.iload_n 3, 1) := by decide +kernel
theorem dX0_layLatenesses_19 : decode cX0_layLatenesses 19 = .ok (.iload_n 2, 1) := by decide +kernel
theorem dX0_layLatenesses_20 : decode cX0_layLatenesses 20 = .ok (.if_icmp .eq 32, 3) := by decide +kernel
theorem dX0_layLatenesses_23 : decode cX0_layLatenesses 23 = .ok (.aload_n 0, 1) := by decide +kernel
theorem dX0_layLatenesses_24 : decode cX0_layLatenesses 24 = .ok (.getfield 30, 3) := by decide +kernel
theorem dX0_layLatenesses_27 : decode cX0_layLatenesses 27 = .ok (.aload_n 1, 1) := by decide +kernel
theorem dX0_layLatenesses_28 : decode cX0_layLatenesses 28 = .ok (.getfield 58, 3) := by decide +kernel
theorem dX0_layLatenesses_31 : decode cX0_layLatenesses 31 = .ok (.iload_n 3, 1) := by decide +kernel
theorem dX0_layLatenesses_32 : decode cX0_layLatenesses 32 = .ok (.iaload, 1) := by decide +kernel
theorem dX0_layLatenesses_33 : decode cX0_layLatenesses 33 = .ok (.aload_n 1, 1) := by decide +kernel
theorem dX0_layLatenesses_34 : decode cX0_layLatenesses 34 = .ok (.getfield 61, 3) := by decide +kernel
theorem dX0_layLatenesses_37 : decode cX0_layLatenesses 37 = .ok (.iload_n 3, 1) := by decide +kernel
theorem dX0_layLatenesses_38 : decode cX0_layLatenesses 38 = .ok (.iaload, 1) := by decide +kernel
theorem dX0_layLatenesses_39 : decode cX0_layLatenesses 39 = .ok (.invokestatic 64, 3) := by decide +kernel
theorem dX0_layLatenesses_42 : decode cX0_layLatenesses 42 = .ok (.dup2, 1) := by decide +kernel
theorem dX0_layLatenesses_43 : decode cX0_layLatenesses 43 = .ok (.iaload, 1) := by decide +kernel
theorem dX0_layLatenesses_44 : decode cX0_layLatenesses 44 = .ok (.aload_n 1, 1) := by decide +kernel
theorem dX0_layLatenesses_45 : decode cX0_layLatenesses 45 = .ok (.getfield 68, 3) := by decide +kernel
theorem dX0_layLatenesses_48 : decode cX0_layLatenesses 48 = .ok (.iload_n 3, 1) := by decide +kernel
theorem dX0_layLatenesses_49 : decode cX0_layLatenesses 49 = .ok (.iaload, 1) := by decide +kernel
theorem dX0_layLatenesses_50 : decode cX0_layLatenesses 50 = .ok (.iadd, 1) := by decide +kernel
theorem dX0_layLatenesses_51 : decode cX0_layLatenesses 51 = .ok (.iastore, 1) := by decide +kernel
theorem dX0_layLatenesses_52 : decode cX0_layLatenesses 52 = .ok (.iinc 3 1, 3) := by decide +kernel
theorem dX0_layLatenesses_55 : decode cX0_layLatenesses 55 = .ok (.goto (-45), 3) := by decide +kernel
theorem dX0_layLatenesses_58 : decode cX0_layLatenesses 58 = .ok (.return_, 1) := by decide +kernel
theorem dX0_play_0 : decode cX0_play 0 = .ok (.aload_n 0, 1) := by decide +kernel
theorem dX0_play_1 : decode cX0_play 1 = .ok (.getfield 33, 3) := by decide +kernel
theorem dX0_play_4 : decode cX0_play 4 = .ok (.iconst 0, 1) := by decide +kernel
theorem dX0_play_5 : decode cX0_play 5 = .ok (.invokestatic 46, 3) := by decide +kernel
theorem dX0_play_8 : decode cX0_play 8 = .ok (.aload_n 0, 1) := by decide +kernel
theorem dX0_play_9 : decode cX0_play 9 = .ok (.getfield 36, 3) := by decide +kernel
theorem dX0_play_12 : decode cX0_play 12 = .ok (.lconst 0, 1) := by decide +kernel
theorem dX0_play_13 : decode cX0_play 13 = .ok (.invokestatic 71, 3) := by decide +kernel
theorem dX0_play_16 : decode cX0_play 16 = .ok (.aload_n 0, 1) := by decide +kernel
theorem dX0_play_17 : decode cX0_play 17 = .ok (.getfield 40, 3) := by decide +kernel
theorem dX0_play_20 : decode cX0_play 20 = .ok (.iconst 0, 1) := by decide +kernel
theorem dX0_play_21 : decode cX0_play 21 = .ok (.invokestatic 46, 3) := by decide +kernel
theorem dX0_play_24 : decode cX0_play 24 = .ok (.aload_n 0, 1) := by decide +kernel
theorem dX0_play_25 : decode cX0_play 25 = .ok (.lconst 0, 1) := by decide +kernel
theorem dX0_play_26 : decode cX0_play 26 = .ok (.putfield 74, 3) := by decide +kernel
theorem dX0_play_29 : decode cX0_play 29 = .ok (.aload_n 0, 1) := by decide +kernel
theorem dX0_play_30 : decode cX0_play 30 = .ok (.iconst 0, 1) := by decide +kernel
theorem dX0_play_31 : decode cX0_play 31 = .ok (.putfield 78, 3) := by decide +kernel
theorem dX0_play_34 : decode cX0_play 34 = .ok (.iconst 0, 1) := by decide +kernel
theorem dX0_play_35 : decode cX0_play 35 = .ok (.istore_n 3, 1) := by decide +kernel
theorem dX0_play_36 : decode cX0_play 36 = .ok (.iload_n 3, 1) := by decide +kernel
theorem dX0_play_37 : decode cX0_play 37 = .ok (.bipush 10, 2) := by decide +kernel
theorem dX0_play_39 : decode cX0_play 39 = .ok (.if_icmp .ge 16, 3) := by decide +kernel
theorem dX0_play_42 : decode cX0_play 42 = .ok (.aload_n 0, 1) := by decide +kernel
theorem dX0_play_43 : decode cX0_play 43 = .ok (.aload_n 1, 1) := by decide +kernel
theorem dX0_play_44 : decode cX0_play 44 = .ok (.aload_n 2, 1) := by decide +kernel
theorem dX0_play_45 : decode cX0_play 45 = .ok (.iload_n 3, 1) := by decide +kernel
theorem dX0_play_46 : decode cX0_play 46 = .ok (.invokevirtual 81, 3) := by decide +kernel
theorem dX0_play_49 : decode cX0_play 49 = .ok (.iinc 3 1, 3) := by decide +kernel
theorem dX0_play_52 : decode cX0_play 52 = .ok (.goto (-16), 3) := by decide +kernel
theorem dX0_play_55 : decode cX0_play 55 = .ok (.return_, 1) := by decide +kernel
theorem dX0_playStop_0 : decode cX0_playStop 0 = .ok (.aload_n 0, 1) := by decide +kernel
theorem dX0_playStop_1 : decode cX0_playStop 1 = .ok (.iconst 0, 1) := by decide +kernel
theorem dX0_playStop_2 : decode cX0_playStop 2 = .ok (.putfield 85, 3) := by decide +kernel
theorem dX0_playStop_5 : decode cX0_playStop 5 = .ok (.aload_n 0, 1) := by decide +kernel
theorem dX0_playStop_6 : decode cX0_playStop 6 = .ok (.bipush (-6), 2) := by decide +kernel
theorem dX0_playStop_8 : decode cX0_playStop 8 = .ok (.putfield 88, 3) := by decide +kernel
theorem dX0_playStop_11 : decode cX0_playStop 11 = .ok (.aload_n 0, 1) := by decide +kernel
theorem dX0_playStop_12 : decode cX0_playStop 12 = .ok (.aload_n 1, 1) := by decide +kernel
theorem dX0_playStop_13 : decode cX0_playStop 13 = .ok (.iload_n 3, 1) := by decide +kernel
theorem dX0_playStop_14 : decode cX0_playStop 14 = .ok (.invokevirtual 91, 3) := by decide +kernel
theorem dX0_playStop_17 : decode cX0_playStop 17 = .ok (.istore 4, 2) := by decide +kernel
theorem dX0_playStop_19 : decode cX0_playStop 19 = .ok (.iconst 0, 1) := by decide +kernel
theorem dX0_playStop_20 : decode cX0_playStop 20 = .ok (.istore 5, 2) := by decide +kernel
theorem dX0_playStop_22 : decode cX0_playStop 22 = .ok (.iload 5, 2) := by decide +kernel
theorem dX0_playStop_24 : decode cX0_playStop 24 = .ok (.iload 4, 2) := by decide +kernel
theorem dX0_playStop_26 : decode cX0_playStop 26 = .ok (.if_icmp .ge 23, 3) := by decide +kernel
theorem dX0_playStop_29 : decode cX0_playStop 29 = .ok (.aload_n 0, 1) := by decide +kernel
theorem dX0_playStop_30 : decode cX0_playStop 30 = .ok (.aload_n 1, 1) := by decide +kernel
theorem dX0_playStop_31 : decode cX0_playStop 31 = .ok (.aload_n 2, 1) := by decide +kernel
theorem dX0_playStop_32 : decode cX0_playStop 32 = .ok (.aload_n 0, 1) := by decide +kernel
theorem dX0_playStop_33 : decode cX0_playStop 33 = .ok (.getfield 43, 3) := by decide +kernel
theorem dX0_playStop_36 : decode cX0_playStop 36 = .ok (.iload 5, 2) := by decide +kernel
theorem dX0_playStop_38 : decode cX0_playStop 38 = .ok (.iaload, 1) := by decide +kernel
theorem dX0_playStop_39 : decode cX0_playStop 39 = .ok (.iload_n 3, 1) := by decide +kernel
theorem dX0_playStop_40 : decode cX0_playStop 40 = .ok (.invokevirtual 95, 3) := by decide +kernel
theorem dX0_playStop_43 : decode cX0_playStop 43 = .ok (.iinc 5 1, 3) := by decide +kernel
theorem dX0_playStop_46 : decode cX0_playStop 46 = .ok (.goto (-24), 3) := by decide +kernel
theorem dX0_playStop_49 : decode cX0_playStop 49 = .ok (.return_, 1) := by decide +kernel
theorem dX0_orderComing_0 : decode cX0_orderComing 0 = .ok (.iconst 0, 1) := by decide +kernel
theorem dX0_orderComing_1 : decode cX0_orderComing 1 = .ok (.istore_n 3, 1) := by decide +kernel
theorem dX0_orderComing_2 : decode cX0_orderComing 2 = .ok (.iconst 0, 1) := by decide +kernel
theorem dX0_orderComing_3 : decode cX0_orderComing 3 = .ok (.istore 4, 2) := by decide +kernel
theorem dX0_orderComing_5 : decode cX0_orderComing 5 = .ok (.iload 4, 2) := by decide +kernel
theorem dX0_orderComing_7 : decode cX0_orderComing 7 = .ok (.aload_n 1, 1) := by decide +kernel
theorem dX0_orderComing_8 : decode cX0_orderComing 8 = .ok (.getfield 99, 3) := by decide +kernel
theorem dX0_orderComing_11 : decode cX0_orderComing 11 = .ok (.if_icmp .ge 81, 3) := by decide +kernel
theorem dX0_orderComing_14 : decode cX0_orderComing 14 = .ok (.aload_n 1, 1) := by decide +kernel
theorem dX0_orderComing_15 : decode cX0_orderComing 15 = .ok (.iload 4, 2) := by decide +kernel
theorem dX0_orderComing_17 : decode cX0_orderComing 17 = .ok (.iload_n 2, 1) := by decide +kernel
theorem dX0_orderComing_18 : decode cX0_orderComing 18 = .ok (.invokevirtual 102, 3) := by decide +kernel
theorem dX0_orderComing_21 : decode cX0_orderComing 21 = .ok (.ifCond .eq 65, 3) := by decide +kernel
theorem dX0_orderComing_24 : decode cX0_orderComing 24 = .ok (.iload 4, 2) := by decide +kernel
theorem dX0_orderComing_26 : decode cX0_orderComing 26 = .ok (.iload_n 2, 1) := by decide +kernel
theorem dX0_orderComing_27 : decode cX0_orderComing 27 = .ok (.invokestatic 64, 3) := by decide +kernel
theorem dX0_orderComing_30 : decode cX0_orderComing 30 = .ok (.istore 5, 2) := by decide +kernel
theorem dX0_orderComing_32 : decode cX0_orderComing 32 = .ok (.aload_n 0, 1) := by decide +kernel
theorem dX0_orderComing_33 : decode cX0_orderComing 33 = .ok (.getfield 9, 3) := by decide +kernel
theorem dX0_orderComing_36 : decode cX0_orderComing 36 = .ok (.iload 5, 2) := by decide +kernel
theorem dX0_orderComing_38 : decode cX0_orderComing 38 = .ok (.iload_n 2, 1) := by decide +kernel
theorem dX0_orderComing_39 : decode cX0_orderComing 39 = .ok (.ifCond .ne 13, 3) := by decide +kernel
theorem dX0_orderComing_42 : decode cX0_orderComing 42 = .ok (.aload_n 1, 1) := by decide +kernel
theorem dX0_orderComing_43 : decode cX0_orderComing 43 = .ok (.getfield 106, 3) := by decide +kernel
theorem dX0_orderComing_46 : decode cX0_orderComing 46 = .ok (.iload 4, 2) := by decide +kernel
theorem dX0_orderComing_48 : decode cX0_orderComing 48 = .ok (.iaload, 1) := by decide +kernel
theorem dX0_orderComing_49 : decode cX0_orderComing 49 = .ok (.goto 21, 3) := by decide +kernel
theorem dX0_orderComing_52 : decode cX0_orderComing 52 = .ok (.aload_n 0, 1) := by decide +kernel
theorem dX0_orderComing_53 : decode cX0_orderComing 53 = .ok (.getfield 15, 3) := by decide +kernel
theorem dX0_orderComing_56 : decode cX0_orderComing 56 = .ok (.iload 5, 2) := by decide +kernel
theorem dX0_orderComing_58 : decode cX0_orderComing 58 = .ok (.iconst 1, 1) := by decide +kernel
theorem dX0_orderComing_59 : decode cX0_orderComing 59 = .ok (.isub, 1) := by decide +kernel
theorem dX0_orderComing_60 : decode cX0_orderComing 60 = .ok (.iaload, 1) := by decide +kernel
theorem dX0_orderComing_61 : decode cX0_orderComing 61 = .ok (.aload_n 1, 1) := by decide +kernel
theorem dX0_orderComing_62 : decode cX0_orderComing 62 = .ok (.getfield 109, 3) := by decide +kernel
theorem dX0_orderComing_65 : decode cX0_orderComing 65 = .ok (.iload_n 2, 1) := by decide +kernel
theorem dX0_orderComing_66 : decode cX0_orderComing 66 = .ok (.iconst 1, 1) := by decide +kernel
theorem dX0_orderComing_67 : decode cX0_orderComing 67 = .ok (.isub, 1) := by decide +kernel
theorem dX0_orderComing_68 : decode cX0_orderComing 68 = .ok (.iaload, 1) := by decide +kernel
theorem dX0_orderComing_69 : decode cX0_orderComing 69 = .ok (.iadd, 1) := by decide +kernel
theorem dX0_orderComing_70 : decode cX0_orderComing 70 = .ok (.iastore, 1) := by decide +kernel
theorem dX0_orderComing_71 : decode cX0_orderComing 71 = .ok (.aload_n 0, 1) := by decide +kernel
theorem dX0_orderComing_72 : decode cX0_orderComing 72 = .ok (.aload_n 0, 1) := by decide +kernel
theorem dX0_orderComing_73 : decode cX0_orderComing 73 = .ok (.getfield 9, 3) := by decide +kernel
theorem dX0_orderComing_76 : decode cX0_orderComing 76 = .ok (.iload_n 2, 1) := by decide +kernel
theorem dX0_orderComing_77 : decode cX0_orderComing 77 = .ok (.iload 4, 2) := by decide +kernel
theorem dX0_orderComing_79 : decode cX0_orderComing 79 = .ok (.iload_n 3, 1) := by decide +kernel
theorem dX0_orderComing_80 : decode cX0_orderComing 80 = .ok (.invokevirtual 112, 3) := by decide +kernel
theorem dX0_orderComing_83 : decode cX0_orderComing 83 = .ok (.iinc 3 1, 3) := by decide +kernel
theorem dX0_orderComing_86 : decode cX0_orderComing 86 = .ok (.iinc 4 1, 3) := by decide +kernel
theorem dX0_orderComing_89 : decode cX0_orderComing 89 = .ok (.goto (-84), 3) := by decide +kernel
theorem dX0_orderComing_92 : decode cX0_orderComing 92 = .ok (.iload_n 3, 1) := by decide +kernel
theorem dX0_orderComing_93 : decode cX0_orderComing 93 = .ok (.ireturn, 1) := by decide +kernel
theorem dX0_orderLeaving_0 : decode cX0_orderLeaving 0 = .ok (.iconst 0, 1) := by decide +kernel
theorem dX0_orderLeaving_1 : decode cX0_orderLeaving 1 = .ok (.istore_n 3, 1) := by decide +kernel
theorem dX0_orderLeaving_2 : decode cX0_orderLeaving 2 = .ok (.iconst 0, 1) := by decide +kernel
theorem dX0_orderLeaving_3 : decode cX0_orderLeaving 3 = .ok (.istore 4, 2) := by decide +kernel
theorem dX0_orderLeaving_5 : decode cX0_orderLeaving 5 = .ok (.iload 4, 2) := by decide +kernel
theorem dX0_orderLeaving_7 : decode cX0_orderLeaving 7 = .ok (.aload_n 1, 1) := by decide +kernel
theorem dX0_orderLeaving_8 : decode cX0_orderLeaving 8 = .ok (.getfield 99, 3) := by decide +kernel
theorem dX0_orderLeaving_11 : decode cX0_orderLeaving 11 = .ok (.if_icmp .ge 34, 3) := by decide +kernel
theorem dX0_orderLeaving_14 : decode cX0_orderLeaving 14 = .ok (.aload_n 1, 1) := by decide +kernel
theorem dX0_orderLeaving_15 : decode cX0_orderLeaving 15 = .ok (.iload 4, 2) := by decide +kernel
theorem dX0_orderLeaving_17 : decode cX0_orderLeaving 17 = .ok (.iload_n 2, 1) := by decide +kernel
theorem dX0_orderLeaving_18 : decode cX0_orderLeaving 18 = .ok (.invokevirtual 116, 3) := by decide +kernel
theorem dX0_orderLeaving_21 : decode cX0_orderLeaving 21 = .ok (.ifCond .eq 18, 3) := by decide +kernel
theorem dX0_orderLeaving_24 : decode cX0_orderLeaving 24 = .ok (.aload_n 0, 1) := by decide +kernel
theorem dX0_orderLeaving_25 : decode cX0_orderLeaving 25 = .ok (.aload_n 0, 1) := by decide +kernel
theorem dX0_orderLeaving_26 : decode cX0_orderLeaving 26 = .ok (.getfield 15, 3) := by decide +kernel
theorem dX0_orderLeaving_29 : decode cX0_orderLeaving 29 = .ok (.iload_n 2, 1) := by decide +kernel
theorem dX0_orderLeaving_30 : decode cX0_orderLeaving 30 = .ok (.iload 4, 2) := by decide +kernel
theorem dX0_orderLeaving_32 : decode cX0_orderLeaving 32 = .ok (.iload_n 3, 1) := by decide +kernel
theorem dX0_orderLeaving_33 : decode cX0_orderLeaving 33 = .ok (.invokevirtual 112, 3) := by decide +kernel
theorem dX0_orderLeaving_36 : decode cX0_orderLeaving 36 = .ok (.iinc 3 1, 3) := by decide +kernel
theorem dX0_orderLeaving_39 : decode cX0_orderLeaving 39 = .ok (.iinc 4 1, 3) := by decide +kernel
theorem dX0_orderLeaving_42 : decode cX0_orderLeaving 42 = .ok (.goto (-37), 3) := by decide +kernel
theorem dX0_orderLeaving_45 : decode cX0_orderLeaving 45 = .ok (.iload_n 3, 1) := by decide +kernel
theorem dX0_orderLeaving_46 : decode cX0_orderLeaving 46 = .ok (.ireturn, 1) := by decide +kernel
theorem dX0_putInOrder_0 : decode cX0_putInOrder 0 = .ok (.iload 4, 2) := by decide +kernel
theorem dX0_putInOrder_2 : decode cX0_putInOrder 2 = .ok (.istore 5, 2) := by decide +kernel
theorem dX0_putInOrder_4 : decode cX0_putInOrder 4 = .ok (.iload 5, 2) := by decide +kernel
theorem dX0_putInOrder_6 : decode cX0_putInOrder 6 = .ok (.ifCond .le 50, 3) := by decide +kernel
theorem dX0_putInOrder_9 : decode cX0_putInOrder 9 = .ok (.aload_n 1, 1) := by decide +kernel
theorem dX0_putInOrder_10 : decode cX0_putInOrder 10 = .ok (.aload_n 0, 1) := by decide +kernel
theorem dX0_putInOrder_11 : decode cX0_putInOrder 11 = .ok (.getfield 43, 3) := by decide +kernel
theorem dX0_putInOrder_14 : decode cX0_putInOrder 14 = .ok (.iload 5, 2) := by decide +kernel
theorem dX0_putInOrder_16 : decode cX0_putInOrder 16 = .ok (.iconst 1, 1) := by decide +kernel
theorem dX0_putInOrder_17 : decode cX0_putInOrder 17 = .ok (.isub, 1) := by decide +kernel
theorem dX0_putInOrder_18 : decode cX0_putInOrder 18 = .ok (.iaload, 1) := by decide +kernel
theorem dX0_putInOrder_19 : decode cX0_putInOrder 19 = .ok (.iload_n 2, 1) := by decide +kernel
theorem dX0_putInOrder_20 : decode cX0_putInOrder 20 = .ok (.invokestatic 64, 3) := by decide +kernel
theorem dX0_putInOrder_23 : decode cX0_putInOrder 23 = .ok (.iaload, 1) := by decide +kernel
theorem dX0_putInOrder_24 : decode cX0_putInOrder 24 = .ok (.aload_n 1, 1) := by decide +kernel
theorem dX0_putInOrder_25 : decode cX0_putInOrder 25 = .ok (.iload_n 3, 1) := by decide +kernel
theorem dX0_putInOrder_26 : decode cX0_putInOrder 26 = .ok (.iload_n 2, 1) := by decide +kernel
theorem dX0_putInOrder_27 : decode cX0_putInOrder 27 = .ok (.invokestatic 64, 3) := by decide +kernel
theorem dX0_putInOrder_30 : decode cX0_putInOrder 30 = .ok (.iaload, 1) := by decide +kernel
theorem dX0_putInOrder_31 : decode cX0_putInOrder 31 = .ok (.if_icmp .le 25, 3) := by decide +kernel
theorem dX0_putInOrder_34 : decode cX0_putInOrder 34 = .ok (.aload_n 0, 1) := by decide +kernel
theorem dX0_putInOrder_35 : decode cX0_putInOrder 35 = .ok (.getfield 43, 3) := by decide +kernel
theorem dX0_putInOrder_38 : decode cX0_putInOrder 38 = .ok (.iload 5, 2) := by decide +kernel
theorem dX0_putInOrder_40 : decode cX0_putInOrder 40 = .ok (.aload_n 0, 1) := by decide +kernel
theorem dX0_putInOrder_41 : decode cX0_putInOrder 41 = .ok (.getfield 43, 3) := by decide +kernel
theorem dX0_putInOrder_44 : decode cX0_putInOrder 44 = .ok (.iload 5, 2) := by decide +kernel
theorem dX0_putInOrder_46 : decode cX0_putInOrder 46 = .ok (.iconst 1, 1) := by decide +kernel
theorem dX0_putInOrder_47 : decode cX0_putInOrder 47 = .ok (.isub, 1) := by decide +kernel
theorem dX0_putInOrder_48 : decode cX0_putInOrder 48 = .ok (.iaload, 1) := by decide +kernel
theorem dX0_putInOrder_49 : decode cX0_putInOrder 49 = .ok (.iastore, 1) := by decide +kernel
theorem dX0_putInOrder_50 : decode cX0_putInOrder 50 = .ok (.iinc 5 (-1), 3) := by decide +kernel
theorem dX0_putInOrder_53 : decode cX0_putInOrder 53 = .ok (.goto (-49), 3) := by decide +kernel
theorem dX0_putInOrder_56 : decode cX0_putInOrder 56 = .ok (.aload_n 0, 1) := by decide +kernel
theorem dX0_putInOrder_57 : decode cX0_putInOrder 57 = .ok (.getfield 43, 3) := by decide +kernel
theorem dX0_putInOrder_60 : decode cX0_putInOrder 60 = .ok (.iload 5, 2) := by decide +kernel
theorem dX0_putInOrder_62 : decode cX0_putInOrder 62 = .ok (.iload_n 3, 1) := by decide +kernel
theorem dX0_putInOrder_63 : decode cX0_putInOrder 63 = .ok (.iastore, 1) := by decide +kernel
theorem dX0_putInOrder_64 : decode cX0_putInOrder 64 = .ok (.return_, 1) := by decide +kernel
theorem dX0_visit_0 : decode cX0_visit 0 = .ok (.iload_n 3, 1) := by decide +kernel
theorem dX0_visit_1 : decode cX0_visit 1 = .ok (.iload 4, 2) := by decide +kernel
theorem dX0_visit_3 : decode cX0_visit 3 = .ok (.invokestatic 64, 3) := by decide +kernel
theorem dX0_visit_6 : decode cX0_visit 6 = .ok (.istore 5, 2) := by decide +kernel
theorem dX0_visit_8 : decode cX0_visit 8 = .ok (.aload_n 1, 1) := by decide +kernel
theorem dX0_visit_9 : decode cX0_visit 9 = .ok (.getfield 119, 3) := by decide +kernel
theorem dX0_visit_12 : decode cX0_visit 12 = .ok (.iconst 3, 1) := by decide +kernel
theorem dX0_visit_13 : decode cX0_visit 13 = .ok (.iaload, 1) := by decide +kernel
theorem dX0_visit_14 : decode cX0_visit 14 = .ok (.ifCond .ne 24, 3) := by decide +kernel
theorem dX0_visit_17 : decode cX0_visit 17 = .ok (.aload_n 0, 1) := by decide +kernel
theorem dX0_visit_18 : decode cX0_visit 18 = .ok (.getfield 9, 3) := by decide +kernel
theorem dX0_visit_21 : decode cX0_visit 21 = .ok (.iload 5, 2) := by decide +kernel
theorem dX0_visit_23 : decode cX0_visit 23 = .ok (.aload_n 0, 1) := by decide +kernel
theorem dX0_visit_24 : decode cX0_visit 24 = .ok (.getfield 9, 3) := by decide +kernel
theorem dX0_visit_27 : decode cX0_visit 27 = .ok (.iload 5, 2) := by decide +kernel
theorem dX0_visit_29 : decode cX0_visit 29 = .ok (.iaload, 1) := by decide +kernel
theorem dX0_visit_30 : decode cX0_visit 30 = .ok (.aload_n 0, 1) := by decide +kernel
theorem dX0_visit_31 : decode cX0_visit 31 = .ok (.getfield 85, 3) := by decide +kernel
theorem dX0_visit_34 : decode cX0_visit 34 = .ok (.invokestatic 122, 3) := by decide +kernel
theorem dX0_visit_37 : decode cX0_visit 37 = .ok (.iastore, 1) := by decide +kernel
theorem dX0_visit_38 : decode cX0_visit 38 = .ok (.iconst 0, 1) := by decide +kernel
theorem dX0_visit_39 : decode cX0_visit 39 = .ok (.istore 6, 2) := by decide +kernel
theorem dX0_visit_41 : decode cX0_visit 41 = .ok (.iload 4, 2) := by decide +kernel
theorem dX0_visit_43 : decode cX0_visit 43 = .ok (.ifCond .le 45, 3) := by decide +kernel
theorem dX0_visit_46 : decode cX0_visit 46 = .ok (.aload_n 0, 1) := by decide +kernel
theorem dX0_visit_47 : decode cX0_visit 47 = .ok (.getfield 24, 3) := by decide +kernel
theorem dX0_visit_50 : decode cX0_visit 50 = .ok (.iload 5, 2) := by decide +kernel
theorem dX0_visit_52 : decode cX0_visit 52 = .ok (.iconst 1, 1) := by decide +kernel
theorem dX0_visit_53 : decode cX0_visit 53 = .ok (.isub, 1) := by decide +kernel
theorem dX0_visit_54 : decode cX0_visit 54 = .ok (.iaload, 1) := by decide +kernel
theorem dX0_visit_55 : decode cX0_visit 55 = .ok (.istore 6, 2) := by decide +kernel
theorem dX0_visit_57 : decode cX0_visit 57 = .ok (.aload_n 0, 1) := by decide +kernel
theorem dX0_visit_58 : decode cX0_visit 58 = .ok (.dup, 1) := by decide +kernel
theorem dX0_visit_59 : decode cX0_visit 59 = .ok (.getfield 74, 3) := by decide +kernel
theorem dX0_visit_62 : decode cX0_visit 62 = .ok (.iload 6, 2) := by decide +kernel
theorem dX0_visit_64 : decode cX0_visit 64 = .ok (.i2l, 1) := by decide +kernel
theorem dX0_visit_65 : decode cX0_visit 65 = .ok (.aload_n 0, 1) := by decide +kernel
theorem dX0_visit_66 : decode cX0_visit 66 = .ok (.getfield 9, 3) := by decide +kernel
theorem dX0_visit_69 : decode cX0_visit 69 = .ok (.iload 5, 2) := by decide +kernel
theorem dX0_visit_71 : decode cX0_visit 71 = .ok (.iaload, 1) := by decide +kernel
theorem dX0_visit_72 : decode cX0_visit 72 = .ok (.aload_n 0, 1) := by decide +kernel
theorem dX0_visit_73 : decode cX0_visit 73 = .ok (.getfield 9, 3) := by decide +kernel
theorem dX0_visit_76 : decode cX0_visit 76 = .ok (.iload 5, 2) := by decide +kernel
theorem dX0_visit_78 : decode cX0_visit 78 = .ok (.iconst 1, 1) := by decide +kernel
theorem dX0_visit_79 : decode cX0_visit 79 = .ok (.isub, 1) := by decide +kernel
theorem dX0_visit_80 : decode cX0_visit 80 = .ok (.iaload, 1) := by decide +kernel
theorem dX0_visit_81 : decode cX0_visit 81 = .ok (.isub, 1) := by decide +kernel
theorem dX0_visit_82 : decode cX0_visit 82 = .ok (.i2l, 1) := by decide +kernel
theorem dX0_visit_83 : decode cX0_visit 83 = .ok (.lmul, 1) := by decide +kernel
theorem dX0_visit_84 : decode cX0_visit 84 = .ok (.ladd, 1) := by decide +kernel
theorem dX0_visit_85 : decode cX0_visit 85 = .ok (.putfield 74, 3) := by decide +kernel
theorem dX0_visit_88 : decode cX0_visit 88 = .ok (.aload_n 0, 1) := by decide +kernel
theorem dX0_visit_89 : decode cX0_visit 89 = .ok (.getfield 21, 3) := by decide +kernel
theorem dX0_visit_92 : decode cX0_visit 92 = .ok (.iload 5, 2) := by decide +kernel
theorem dX0_visit_94 : decode cX0_visit 94 = .ok (.aload_n 0, 1) := by decide +kernel
theorem dX0_visit_95 : decode cX0_visit 95 = .ok (.aload_n 1, 1) := by decide +kernel
theorem dX0_visit_96 : decode cX0_visit 96 = .ok (.iload_n 3, 1) := by decide +kernel
theorem dX0_visit_97 : decode cX0_visit 97 = .ok (.iload 4, 2) := by decide +kernel
theorem dX0_visit_99 : decode cX0_visit 99 = .ok (.invokevirtual 127, 3) := by decide +kernel
theorem dX0_visit_102 : decode cX0_visit 102 = .ok (.iastore, 1) := by decide +kernel
theorem dX0_visit_103 : decode cX0_visit 103 = .ok (.aload_n 1, 1) := by decide +kernel
theorem dX0_visit_104 : decode cX0_visit 104 = .ok (.iload_n 3, 1) := by decide +kernel
theorem dX0_visit_105 : decode cX0_visit 105 = .ok (.iload 4, 2) := by decide +kernel
theorem dX0_visit_107 : decode cX0_visit 107 = .ok (.invokevirtual 116, 3) := by decide +kernel
theorem dX0_visit_110 : decode cX0_visit 110 = .ok (.ifCond .eq 61, 3) := by decide +kernel
theorem dX0_visit_113 : decode cX0_visit 113 = .ok (.aload_n 0, 1) := by decide +kernel
theorem dX0_visit_114 : decode cX0_visit 114 = .ok (.aload_n 1, 1) := by decide +kernel
theorem dX0_visit_115 : decode cX0_visit 115 = .ok (.iload_n 3, 1) := by decide +kernel
theorem dX0_visit_116 : decode cX0_visit 116 = .ok (.iload 4, 2) := by decide +kernel
theorem dX0_visit_118 : decode cX0_visit 118 = .ok (.iload 6, 2) := by decide +kernel
theorem dX0_visit_120 : decode cX0_visit 120 = .ok (.aload_n 0, 1) := by decide +kernel
theorem dX0_visit_121 : decode cX0_visit 121 = .ok (.getfield 21, 3) := by decide +kernel
theorem dX0_visit_124 : decode cX0_visit 124 = .ok (.iload 5, 2) := by decide +kernel
theorem dX0_visit_126 : decode cX0_visit 126 = .ok (.iaload, 1) := by decide +kernel
theorem dX0_visit_127 : decode cX0_visit 127 = .ok (.isub, 1) := by decide +kernel
theorem dX0_visit_128 : decode cX0_visit 128 = .ok (.invokevirtual 131, 3) := by decide +kernel
theorem dX0_visit_131 : decode cX0_visit 131 = .ok (.aload_n 0, 1) := by decide +kernel
theorem dX0_visit_132 : decode cX0_visit 132 = .ok (.getfield 15, 3) := by decide +kernel
theorem dX0_visit_135 : decode cX0_visit 135 = .ok (.iload 5, 2) := by decide +kernel
theorem dX0_visit_137 : decode cX0_visit 137 = .ok (.aload_n 0, 1) := by decide +kernel
theorem dX0_visit_138 : decode cX0_visit 138 = .ok (.getfield 9, 3) := by decide +kernel
theorem dX0_visit_141 : decode cX0_visit 141 = .ok (.iload 5, 2) := by decide +kernel
theorem dX0_visit_143 : decode cX0_visit 143 = .ok (.iaload, 1) := by decide +kernel
theorem dX0_visit_144 : decode cX0_visit 144 = .ok (.aload_n 0, 1) := by decide +kernel
theorem dX0_visit_145 : decode cX0_visit 145 = .ok (.aload_n 1, 1) := by decide +kernel
theorem dX0_visit_146 : decode cX0_visit 146 = .ok (.iload 5, 2) := by decide +kernel
theorem dX0_visit_148 : decode cX0_visit 148 = .ok (.aload_n 0, 1) := by decide +kernel
theorem dX0_visit_149 : decode cX0_visit 149 = .ok (.getfield 21, 3) := by decide +kernel
theorem dX0_visit_152 : decode cX0_visit 152 = .ok (.iload 5, 2) := by decide +kernel
theorem dX0_visit_154 : decode cX0_visit 154 = .ok (.iaload, 1) := by decide +kernel
theorem dX0_visit_155 : decode cX0_visit 155 = .ok (.invokevirtual 135, 3) := by decide +kernel
theorem dX0_visit_158 : decode cX0_visit 158 = .ok (.iadd, 1) := by decide +kernel
theorem dX0_visit_159 : decode cX0_visit 159 = .ok (.iastore, 1) := by decide +kernel
theorem dX0_visit_160 : decode cX0_visit 160 = .ok (.aload_n 0, 1) := by decide +kernel
theorem dX0_visit_161 : decode cX0_visit 161 = .ok (.aload_n 2, 1) := by decide +kernel
theorem dX0_visit_162 : decode cX0_visit 162 = .ok (.iload_n 3, 1) := by decide +kernel
theorem dX0_visit_163 : decode cX0_visit 163 = .ok (.iload 4, 2) := by decide +kernel
theorem dX0_visit_165 : decode cX0_visit 165 = .ok (.invokevirtual 138, 3) := by decide +kernel
theorem dX0_visit_168 : decode cX0_visit 168 = .ok (.goto 55, 3) := by decide +kernel
theorem dX0_visit_171 : decode cX0_visit 171 = .ok (.aload_n 0, 1) := by decide +kernel
theorem dX0_visit_172 : decode cX0_visit 172 = .ok (.dup, 1) := by decide +kernel
theorem dX0_visit_173 : decode cX0_visit 173 = .ok (.getfield 78, 3) := by decide +kernel
theorem dX0_visit_176 : decode cX0_visit 176 = .ok (.iload 6, 2) := by decide +kernel
theorem dX0_visit_178 : decode cX0_visit 178 = .ok (.aload_n 0, 1) := by decide +kernel
theorem dX0_visit_179 : decode cX0_visit 179 = .ok (.getfield 21, 3) := by decide +kernel
theorem dX0_visit_182 : decode cX0_visit 182 = .ok (.iload 5, 2) := by decide +kernel
theorem dX0_visit_184 : decode cX0_visit 184 = .ok (.iaload, 1) := by decide +kernel
theorem dX0_visit_185 : decode cX0_visit 185 = .ok (.isub, 1) := by decide +kernel
theorem dX0_visit_186 : decode cX0_visit 186 = .ok (.iadd, 1) := by decide +kernel
theorem dX0_visit_187 : decode cX0_visit 187 = .ok (.putfield 78, 3) := by decide +kernel
theorem dX0_visit_190 : decode cX0_visit 190 = .ok (.aload_n 0, 1) := by decide +kernel
theorem dX0_visit_191 : decode cX0_visit 191 = .ok (.aload_n 1, 1) := by decide +kernel
theorem dX0_visit_192 : decode cX0_visit 192 = .ok (.iload 4, 2) := by decide +kernel
theorem dX0_visit_194 : decode cX0_visit 194 = .ok (.iload 5, 2) := by decide +kernel
theorem dX0_visit_196 : decode cX0_visit 196 = .ok (.invokevirtual 142, 3) := by decide +kernel
theorem dX0_visit_199 : decode cX0_visit 199 = .ok (.aload_n 0, 1) := by decide +kernel
theorem dX0_visit_200 : decode cX0_visit 200 = .ok (.getfield 15, 3) := by decide +kernel
theorem dX0_visit_203 : decode cX0_visit 203 = .ok (.iload 5, 2) := by decide +kernel
theorem dX0_visit_205 : decode cX0_visit 205 = .ok (.aload_n 0, 1) := by decide +kernel
theorem dX0_visit_206 : decode cX0_visit 206 = .ok (.getfield 9, 3) := by decide +kernel
theorem dX0_visit_209 : decode cX0_visit 209 = .ok (.iload 5, 2) := by decide +kernel
theorem dX0_visit_211 : decode cX0_visit 211 = .ok (.iaload, 1) := by decide +kernel
theorem dX0_visit_212 : decode cX0_visit 212 = .ok (.aload_n 0, 1) := by decide +kernel
theorem dX0_visit_213 : decode cX0_visit 213 = .ok (.aload_n 1, 1) := by decide +kernel
theorem dX0_visit_214 : decode cX0_visit 214 = .ok (.iload 5, 2) := by decide +kernel
theorem dX0_visit_216 : decode cX0_visit 216 = .ok (.iload 6, 2) := by decide +kernel
theorem dX0_visit_218 : decode cX0_visit 218 = .ok (.invokevirtual 135, 3) := by decide +kernel
theorem dX0_visit_221 : decode cX0_visit 221 = .ok (.iadd, 1) := by decide +kernel
theorem dX0_visit_222 : decode cX0_visit 222 = .ok (.iastore, 1) := by decide +kernel
theorem dX0_visit_223 : decode cX0_visit 223 = .ok (.aload_n 0, 1) := by decide +kernel
theorem dX0_visit_224 : decode cX0_visit 224 = .ok (.aload_n 0, 1) := by decide +kernel
theorem dX0_visit_225 : decode cX0_visit 225 = .ok (.getfield 85, 3) := by decide +kernel
theorem dX0_visit_228 : decode cX0_visit 228 = .ok (.aload_n 0, 1) := by decide +kernel
theorem dX0_visit_229 : decode cX0_visit 229 = .ok (.getfield 15, 3) := by decide +kernel
theorem dX0_visit_232 : decode cX0_visit 232 = .ok (.iload 5, 2) := by decide +kernel
theorem dX0_visit_234 : decode cX0_visit 234 = .ok (.iaload, 1) := by decide +kernel
theorem dX0_visit_235 : decode cX0_visit 235 = .ok (.invokestatic 122, 3) := by decide +kernel
theorem dX0_visit_238 : decode cX0_visit 238 = .ok (.putfield 85, 3) := by decide +kernel
theorem dX0_visit_241 : decode cX0_visit 241 = .ok (.return_, 1) := by decide +kernel
theorem dX0_countAtGoal_0 : decode cX0_countAtGoal 0 = .ok (.iconst 0, 1) := by decide +kernel
theorem dX0_countAtGoal_1 : decode cX0_countAtGoal 1 = .ok (.istore 4, 2) := by decide +kernel
theorem dX0_countAtGoal_3 : decode cX0_countAtGoal 3 = .ok (.iconst 0, 1) := by decide +kernel
theorem dX0_countAtGoal_4 : decode cX0_countAtGoal 4 = .ok (.istore 5, 2) := by decide +kernel
theorem dX0_countAtGoal_6 : decode cX0_countAtGoal 6 = .ok (.iload 5, 2) := by decide +kernel
theorem dX0_countAtGoal_8 : decode cX0_countAtGoal 8 = .ok (.iload_n 3, 1) := by decide +kernel
theorem dX0_countAtGoal_9 : decode cX0_countAtGoal 9 = .ok (.if_icmp .ge 35, 3) := by decide +kernel
theorem dX0_countAtGoal_12 : decode cX0_countAtGoal 12 = .ok (.aload_n 1, 1) := by decide +kernel
theorem dX0_countAtGoal_13 : decode cX0_countAtGoal 13 = .ok (.iload 5, 2) := by decide +kernel
theorem dX0_countAtGoal_15 : decode cX0_countAtGoal 15 = .ok (.invokevirtual 146, 3) := by decide +kernel
theorem dX0_countAtGoal_18 : decode cX0_countAtGoal 18 = .ok (.iload_n 3, 1) := by decide +kernel
theorem dX0_countAtGoal_19 : decode cX0_countAtGoal 19 = .ok (.if_icmp .ne 19, 3) := by decide +kernel
theorem dX0_countAtGoal_22 : decode cX0_countAtGoal 22 = .ok (.iload 4, 2) := by decide +kernel
theorem dX0_countAtGoal_24 : decode cX0_countAtGoal 24 = .ok (.aload_n 0, 1) := by decide +kernel
theorem dX0_countAtGoal_25 : decode cX0_countAtGoal 25 = .ok (.getfield 18, 3) := by decide +kernel
theorem dX0_countAtGoal_28 : decode cX0_countAtGoal 28 = .ok (.iload_n 2, 1) := by decide +kernel
theorem dX0_countAtGoal_29 : decode cX0_countAtGoal 29 = .ok (.iload 5, 2) := by decide +kernel
theorem dX0_countAtGoal_31 : decode cX0_countAtGoal 31 = .ok (.invokestatic 64, 3) := by decide +kernel
theorem dX0_countAtGoal_34 : decode cX0_countAtGoal 34 = .ok (.iaload, 1) := by decide +kernel
theorem dX0_countAtGoal_35 : decode cX0_countAtGoal 35 = .ok (.iadd, 1) := by decide +kernel
theorem dX0_countAtGoal_36 : decode cX0_countAtGoal 36 = .ok (.istore 4, 2) := by decide +kernel
theorem dX0_countAtGoal_38 : decode cX0_countAtGoal 38 = .ok (.iinc 5 1, 3) := by decide +kernel
theorem dX0_countAtGoal_41 : decode cX0_countAtGoal 41 = .ok (.goto (-35), 3) := by decide +kernel
theorem dX0_countAtGoal_44 : decode cX0_countAtGoal 44 = .ok (.iload 4, 2) := by decide +kernel
theorem dX0_countAtGoal_46 : decode cX0_countAtGoal 46 = .ok (.ireturn, 1) := by decide +kernel
theorem dX0_pickUp_0 : decode cX0_pickUp 0 = .ok (.iload_n 2, 1) := by decide +kernel
theorem dX0_pickUp_1 : decode cX0_pickUp 1 = .ok (.iload_n 3, 1) := by decide +kernel
theorem dX0_pickUp_2 : decode cX0_pickUp 2 = .ok (.invokestatic 64, 3) := by decide +kernel
theorem dX0_pickUp_5 : decode cX0_pickUp 5 = .ok (.istore 5, 2) := by decide +kernel
theorem dX0_pickUp_7 : decode cX0_pickUp 7 = .ok (.aload_n 1, 1) := by decide +kernel
theorem dX0_pickUp_8 : decode cX0_pickUp 8 = .ok (.iload_n 3, 1) := by decide +kernel
theorem dX0_pickUp_9 : decode cX0_pickUp 9 = .ok (.aload_n 0, 1) := by decide +kernel
theorem dX0_pickUp_10 : decode cX0_pickUp 10 = .ok (.getfield 9, 3) := by decide +kernel
theorem dX0_pickUp_13 : decode cX0_pickUp 13 = .ok (.iload 5, 2) := by decide +kernel
theorem dX0_pickUp_15 : decode cX0_pickUp 15 = .ok (.iaload, 1) := by decide +kernel
theorem dX0_pickUp_16 : decode cX0_pickUp 16 = .ok (.invokevirtual 150, 3) := by decide +kernel
theorem dX0_pickUp_19 : decode cX0_pickUp 19 = .ok (.aload_n 0, 1) := by decide +kernel
theorem dX0_pickUp_20 : decode cX0_pickUp 20 = .ok (.getfield 33, 3) := by decide +kernel
theorem dX0_pickUp_23 : decode cX0_pickUp 23 = .ok (.iload_n 3, 1) := by decide +kernel
theorem dX0_pickUp_24 : decode cX0_pickUp 24 = .ok (.iaload, 1) := by decide +kernel
theorem dX0_pickUp_25 : decode cX0_pickUp 25 = .ok (.isub, 1) := by decide +kernel
theorem dX0_pickUp_26 : decode cX0_pickUp 26 = .ok (.istore 6, 2) := by decide +kernel
theorem dX0_pickUp_28 : decode cX0_pickUp 28 = .ok (.aload_n 1, 1) := by decide +kernel
theorem dX0_pickUp_29 : decode cX0_pickUp 29 = .ok (.getfield 152, 3) := by decide +kernel
theorem dX0_pickUp_32 : decode cX0_pickUp 32 = .ok (.iload_n 2, 1) := by decide +kernel
theorem dX0_pickUp_33 : decode cX0_pickUp 33 = .ok (.iaload, 1) := by decide +kernel
theorem dX0_pickUp_34 : decode cX0_pickUp 34 = .ok (.iload 4, 2) := by decide +kernel
theorem dX0_pickUp_36 : decode cX0_pickUp 36 = .ok (.isub, 1) := by decide +kernel
theorem dX0_pickUp_37 : decode cX0_pickUp 37 = .ok (.iload 6, 2) := by decide +kernel
theorem dX0_pickUp_39 : decode cX0_pickUp 39 = .ok (.invokestatic 155, 3) := by decide +kernel
theorem dX0_pickUp_42 : decode cX0_pickUp 42 = .ok (.istore 7, 2) := by decide +kernel
theorem dX0_pickUp_44 : decode cX0_pickUp 44 = .ok (.aload_n 0, 1) := by decide +kernel
theorem dX0_pickUp_45 : decode cX0_pickUp 45 = .ok (.getfield 18, 3) := by decide +kernel
theorem dX0_pickUp_48 : decode cX0_pickUp 48 = .ok (.iload 5, 2) := by decide +kernel
theorem dX0_pickUp_50 : decode cX0_pickUp 50 = .ok (.iload 7, 2) := by decide +kernel
theorem dX0_pickUp_52 : decode cX0_pickUp 52 = .ok (.iastore, 1) := by decide +kernel
theorem dX0_pickUp_53 : decode cX0_pickUp 53 = .ok (.aload_n 0, 1) := by decide +kernel
theorem dX0_pickUp_54 : decode cX0_pickUp 54 = .ok (.getfield 27, 3) := by decide +kernel
theorem dX0_pickUp_57 : decode cX0_pickUp 57 = .ok (.iload 5, 2) := by decide +kernel
theorem dX0_pickUp_59 : decode cX0_pickUp 59 = .ok (.iload 6, 2) := by decide +kernel
theorem dX0_pickUp_61 : decode cX0_pickUp 61 = .ok (.iload 7, 2) := by decide +kernel
theorem dX0_pickUp_63 : decode cX0_pickUp 63 = .ok (.isub, 1) := by decide +kernel
theorem dX0_pickUp_64 : decode cX0_pickUp 64 = .ok (.iastore, 1) := by decide +kernel
theorem dX0_pickUp_65 : decode cX0_pickUp 65 = .ok (.aload_n 0, 1) := by decide +kernel
theorem dX0_pickUp_66 : decode cX0_pickUp 66 = .ok (.getfield 24, 3) := by decide +kernel
theorem dX0_pickUp_69 : decode cX0_pickUp 69 = .ok (.iload 5, 2) := by decide +kernel
theorem dX0_pickUp_71 : decode cX0_pickUp 71 = .ok (.iload 4, 2) := by decide +kernel
theorem dX0_pickUp_73 : decode cX0_pickUp 73 = .ok (.iload 7, 2) := by decide +kernel
theorem dX0_pickUp_75 : decode cX0_pickUp 75 = .ok (.iadd, 1) := by decide +kernel
theorem dX0_pickUp_76 : decode cX0_pickUp 76 = .ok (.iastore, 1) := by decide +kernel
theorem dX0_pickUp_77 : decode cX0_pickUp 77 = .ok (.iload 7, 2) := by decide +kernel
theorem dX0_pickUp_79 : decode cX0_pickUp 79 = .ok (.ifCond .le 34, 3) := by decide +kernel
theorem dX0_pickUp_82 : decode cX0_pickUp 82 = .ok (.aload_n 0, 1) := by decide +kernel
theorem dX0_pickUp_83 : decode cX0_pickUp 83 = .ok (.iload_n 3, 1) := by decide +kernel
theorem dX0_pickUp_84 : decode cX0_pickUp 84 = .ok (.aload_n 0, 1) := by decide +kernel
theorem dX0_pickUp_85 : decode cX0_pickUp 85 = .ok (.getfield 9, 3) := by decide +kernel
theorem dX0_pickUp_88 : decode cX0_pickUp 88 = .ok (.iload 5, 2) := by decide +kernel
theorem dX0_pickUp_90 : decode cX0_pickUp 90 = .ok (.iaload, 1) := by decide +kernel
theorem dX0_pickUp_91 : decode cX0_pickUp 91 = .ok (.iload 7, 2) := by decide +kernel
theorem dX0_pickUp_93 : decode cX0_pickUp 93 = .ok (.aload_n 1, 1) := by decide +kernel
theorem dX0_pickUp_94 : decode cX0_pickUp 94 = .ok (.getfield 158, 3) := by decide +kernel
theorem dX0_pickUp_97 : decode cX0_pickUp 97 = .ok (.iload_n 3, 1) := by decide +kernel
theorem dX0_pickUp_98 : decode cX0_pickUp 98 = .ok (.iaload, 1) := by decide +kernel
theorem dX0_pickUp_99 : decode cX0_pickUp 99 = .ok (.invokevirtual 161, 3) := by decide +kernel
theorem dX0_pickUp_102 : decode cX0_pickUp 102 = .ok (.aload_n 0, 1) := by decide +kernel
theorem dX0_pickUp_103 : decode cX0_pickUp 103 = .ok (.getfield 33, 3) := by decide +kernel
theorem dX0_pickUp_106 : decode cX0_pickUp 106 = .ok (.iload_n 3, 1) := by decide +kernel
theorem dX0_pickUp_107 : decode cX0_pickUp 107 = .ok (.dup2, 1) := by decide +kernel
theorem dX0_pickUp_108 : decode cX0_pickUp 108 = .ok (.iaload, 1) := by decide +kernel
theorem dX0_pickUp_109 : decode cX0_pickUp 109 = .ok (.iload 7, 2) := by decide +kernel
theorem dX0_pickUp_111 : decode cX0_pickUp 111 = .ok (.iadd, 1) := by decide +kernel
theorem dX0_pickUp_112 : decode cX0_pickUp 112 = .ok (.iastore, 1) := by decide +kernel
theorem dX0_pickUp_113 : decode cX0_pickUp 113 = .ok (.return_, 1) := by decide +kernel
theorem dX0_noteWaits_0 : decode cX0_noteWaits 0 = .ok (.iload_n 3, 1) := by decide +kernel
theorem dX0_noteWaits_1 : decode cX0_noteWaits 1 = .ok (.i2l, 1) := by decide +kernel
theorem dX0_noteWaits_2 : decode cX0_noteWaits 2 = .ok (.aload_n 0, 1) := by decide +kernel
theorem dX0_noteWaits_3 : decode cX0_noteWaits 3 = .ok (.getfield 33, 3) := by decide +kernel
theorem dX0_noteWaits_6 : decode cX0_noteWaits 6 = .ok (.iload_n 1, 1) := by decide +kernel
theorem dX0_noteWaits_7 : decode cX0_noteWaits 7 = .ok (.iaload, 1) := by decide +kernel
theorem dX0_noteWaits_8 : decode cX0_noteWaits 8 = .ok (.i2l, 1) := by decide +kernel
theorem dX0_noteWaits_9 : decode cX0_noteWaits 9 = .ok (.lmul, 1) := by decide +kernel
theorem dX0_noteWaits_10 : decode cX0_noteWaits 10 = .ok (.iload_n 3, 1) := by decide +kernel
theorem dX0_noteWaits_11 : decode cX0_noteWaits 11 = .ok (.i2l, 1) := by decide +kernel
theorem dX0_noteWaits_12 : decode cX0_noteWaits 12 = .ok (.iload_n 3, 1) := by decide +kernel
theorem dX0_noteWaits_13 : decode cX0_noteWaits 13 = .ok (.iconst 1, 1) := by decide +kernel
theorem dX0_noteWaits_14 : decode cX0_noteWaits 14 = .ok (.iadd, 1) := by decide +kernel
theorem dX0_noteWaits_15 : decode cX0_noteWaits 15 = .ok (.i2l, 1) := by decide +kernel
theorem dX0_noteWaits_16 : decode cX0_noteWaits 16 = .ok (.lmul, 1) := by decide +kernel
theorem dX0_noteWaits_17 : decode cX0_noteWaits 17 = .ok (.ldc2_w 165, 3) := by decide +kernel
theorem dX0_noteWaits_20 : decode cX0_noteWaits 20 = .ok (.ldiv, 1) := by decide +kernel
theorem dX0_noteWaits_21 : decode cX0_noteWaits 21 = .ok (.ladd, 1) := by decide +kernel
theorem dX0_noteWaits_22 : decode cX0_noteWaits 22 = .ok (.lstore 5, 2) := by decide +kernel
theorem dX0_noteWaits_24 : decode cX0_noteWaits 24 = .ok (.aload_n 0, 1) := by decide +kernel
theorem dX0_noteWaits_25 : decode cX0_noteWaits 25 = .ok (.getfield 36, 3) := by decide +kernel
theorem dX0_noteWaits_28 : decode cX0_noteWaits 28 = .ok (.iload_n 1, 1) := by decide +kernel
theorem dX0_noteWaits_29 : decode cX0_noteWaits 29 = .ok (.dup2, 1) := by decide +kernel
theorem dX0_noteWaits_30 : decode cX0_noteWaits 30 = .ok (.laload, 1) := by decide +kernel
theorem dX0_noteWaits_31 : decode cX0_noteWaits 31 = .ok (.iload_n 3, 1) := by decide +kernel
theorem dX0_noteWaits_32 : decode cX0_noteWaits 32 = .ok (.i2l, 1) := by decide +kernel
theorem dX0_noteWaits_33 : decode cX0_noteWaits 33 = .ok (.iload_n 2, 1) := by decide +kernel
theorem dX0_noteWaits_34 : decode cX0_noteWaits 34 = .ok (.i2l, 1) := by decide +kernel
theorem dX0_noteWaits_35 : decode cX0_noteWaits 35 = .ok (.lmul, 1) := by decide +kernel
theorem dX0_noteWaits_36 : decode cX0_noteWaits 36 = .ok (.iload 4, 2) := by decide +kernel
theorem dX0_noteWaits_38 : decode cX0_noteWaits 38 = .ok (.i2l, 1) := by decide +kernel
theorem dX0_noteWaits_39 : decode cX0_noteWaits 39 = .ok (.lload 5, 2) := by decide +kernel
theorem dX0_noteWaits_41 : decode cX0_noteWaits 41 = .ok (.lmul, 1) := by decide +kernel
theorem dX0_noteWaits_42 : decode cX0_noteWaits 42 = .ok (.lsub, 1) := by decide +kernel
theorem dX0_noteWaits_43 : decode cX0_noteWaits 43 = .ok (.ladd, 1) := by decide +kernel
theorem dX0_noteWaits_44 : decode cX0_noteWaits 44 = .ok (.lastore, 1) := by decide +kernel
theorem dX0_noteWaits_45 : decode cX0_noteWaits 45 = .ok (.iload_n 2, 1) := by decide +kernel
theorem dX0_noteWaits_46 : decode cX0_noteWaits 46 = .ok (.iload 4, 2) := by decide +kernel
theorem dX0_noteWaits_48 : decode cX0_noteWaits 48 = .ok (.aload_n 0, 1) := by decide +kernel
theorem dX0_noteWaits_49 : decode cX0_noteWaits 49 = .ok (.getfield 33, 3) := by decide +kernel
theorem dX0_noteWaits_52 : decode cX0_noteWaits 52 = .ok (.iload_n 1, 1) := by decide +kernel
theorem dX0_noteWaits_53 : decode cX0_noteWaits 53 = .ok (.iaload, 1) := by decide +kernel
theorem dX0_noteWaits_54 : decode cX0_noteWaits 54 = .ok (.iconst 1, 1) := by decide +kernel
theorem dX0_noteWaits_55 : decode cX0_noteWaits 55 = .ok (.iadd, 1) := by decide +kernel
theorem dX0_noteWaits_56 : decode cX0_noteWaits 56 = .ok (.imul, 1) := by decide +kernel
theorem dX0_noteWaits_57 : decode cX0_noteWaits 57 = .ok (.isub, 1) := by decide +kernel
theorem dX0_noteWaits_58 : decode cX0_noteWaits 58 = .ok (.istore 7, 2) := by decide +kernel
theorem dX0_noteWaits_60 : decode cX0_noteWaits 60 = .ok (.iload 7, 2) := by decide +kernel
theorem dX0_noteWaits_62 : decode cX0_noteWaits 62 = .ok (.aload_n 0, 1) := by decide +kernel
theorem dX0_noteWaits_63 : decode cX0_noteWaits 63 = .ok (.getfield 40, 3) := by decide +kernel
theorem dX0_noteWaits_66 : decode cX0_noteWaits 66 = .ok (.iload_n 1, 1) := by decide +kernel
theorem dX0_noteWaits_67 : decode cX0_noteWaits 67 = .ok (.iaload, 1) := by decide +kernel
theorem dX0_noteWaits_68 : decode cX0_noteWaits 68 = .ok (.if_icmp .le 11, 3) := by decide +kernel
theorem dX0_noteWaits_71 : decode cX0_noteWaits 71 = .ok (.aload_n 0, 1) := by decide +kernel
theorem dX0_noteWaits_72 : decode cX0_noteWaits 72 = .ok (.getfield 40, 3) := by decide +kernel
theorem dX0_noteWaits_75 : decode cX0_noteWaits 75 = .ok (.iload_n 1, 1) := by decide +kernel
theorem dX0_noteWaits_76 : decode cX0_noteWaits 76 = .ok (.iload 7, 2) := by decide +kernel
theorem dX0_noteWaits_78 : decode cX0_noteWaits 78 = .ok (.iastore, 1) := by decide +kernel
theorem dX0_noteWaits_79 : decode cX0_noteWaits 79 = .ok (.return_, 1) := by decide +kernel
theorem dX0_emptyOut_0 : decode cX0_emptyOut 0 = .ok (.aload_n 0, 1) := by decide +kernel
theorem dX0_emptyOut_1 : decode cX0_emptyOut 1 = .ok (.getfield 18, 3) := by decide +kernel
theorem dX0_emptyOut_4 : decode cX0_emptyOut 4 = .ok (.iload_n 3, 1) := by decide +kernel
theorem dX0_emptyOut_5 : decode cX0_emptyOut 5 = .ok (.iconst 0, 1) := by decide +kernel
theorem dX0_emptyOut_6 : decode cX0_emptyOut 6 = .ok (.iastore, 1) := by decide +kernel
theorem dX0_emptyOut_7 : decode cX0_emptyOut 7 = .ok (.aload_n 0, 1) := by decide +kernel
theorem dX0_emptyOut_8 : decode cX0_emptyOut 8 = .ok (.getfield 24, 3) := by decide +kernel
theorem dX0_emptyOut_11 : decode cX0_emptyOut 11 = .ok (.iload_n 3, 1) := by decide +kernel
theorem dX0_emptyOut_12 : decode cX0_emptyOut 12 = .ok (.iconst 0, 1) := by decide +kernel
theorem dX0_emptyOut_13 : decode cX0_emptyOut 13 = .ok (.iastore, 1) := by decide +kernel
theorem dX0_emptyOut_14 : decode cX0_emptyOut 14 = .ok (.aload_n 0, 1) := by decide +kernel
theorem dX0_emptyOut_15 : decode cX0_emptyOut 15 = .ok (.getfield 27, 3) := by decide +kernel
theorem dX0_emptyOut_18 : decode cX0_emptyOut 18 = .ok (.iload_n 3, 1) := by decide +kernel
theorem dX0_emptyOut_19 : decode cX0_emptyOut 19 = .ok (.aload_n 1, 1) := by decide +kernel
theorem dX0_emptyOut_20 : decode cX0_emptyOut 20 = .ok (.iload_n 2, 1) := by decide +kernel
theorem dX0_emptyOut_21 : decode cX0_emptyOut 21 = .ok (.aload_n 0, 1) := by decide +kernel
theorem dX0_emptyOut_22 : decode cX0_emptyOut 22 = .ok (.getfield 9, 3) := by decide +kernel
theorem dX0_emptyOut_25 : decode cX0_emptyOut 25 = .ok (.iload_n 3, 1) := by decide +kernel
theorem dX0_emptyOut_26 : decode cX0_emptyOut 26 = .ok (.iaload, 1) := by decide +kernel
theorem dX0_emptyOut_27 : decode cX0_emptyOut 27 = .ok (.invokevirtual 150, 3) := by decide +kernel
theorem dX0_emptyOut_30 : decode cX0_emptyOut 30 = .ok (.aload_n 0, 1) := by decide +kernel
theorem dX0_emptyOut_31 : decode cX0_emptyOut 31 = .ok (.getfield 33, 3) := by decide +kernel
theorem dX0_emptyOut_34 : decode cX0_emptyOut 34 = .ok (.iload_n 2, 1) := by decide +kernel
theorem dX0_emptyOut_35 : decode cX0_emptyOut 35 = .ok (.iaload, 1) := by decide +kernel
theorem dX0_emptyOut_36 : decode cX0_emptyOut 36 = .ok (.isub, 1) := by decide +kernel
theorem dX0_emptyOut_37 : decode cX0_emptyOut 37 = .ok (.iastore, 1) := by decide +kernel
theorem dX0_emptyOut_38 : decode cX0_emptyOut 38 = .ok (.return_, 1) := by decide +kernel
theorem dX0_stand_0 : decode cX0_stand 0 = .ok (.aload_n 0, 1) := by decide +kernel
theorem dX0_stand_1 : decode cX0_stand 1 = .ok (.getfield 18, 3) := by decide +kernel
theorem dX0_stand_4 : decode cX0_stand 4 = .ok (.iload_n 2, 1) := by decide +kernel
theorem dX0_stand_5 : decode cX0_stand 5 = .ok (.iaload, 1) := by decide +kernel
theorem dX0_stand_6 : decode cX0_stand 6 = .ok (.ifCond .ne 14, 3) := by decide +kernel
theorem dX0_stand_9 : decode cX0_stand 9 = .ok (.iload_n 3, 1) := by decide +kernel
theorem dX0_stand_10 : decode cX0_stand 10 = .ok (.ifCond .ne 10, 3) := by decide +kernel
theorem dX0_stand_13 : decode cX0_stand 13 = .ok (.aload_n 0, 1) := by decide +kernel
theorem dX0_stand_14 : decode cX0_stand 14 = .ok (.getfield 30, 3) := by decide +kernel
theorem dX0_stand_17 : decode cX0_stand 17 = .ok (.iload_n 2, 1) := by decide +kernel
theorem dX0_stand_18 : decode cX0_stand 18 = .ok (.iaload, 1) := by decide +kernel
theorem dX0_stand_19 : decode cX0_stand 19 = .ok (.ireturn, 1) := by decide +kernel
theorem dX0_stand_20 : decode cX0_stand 20 = .ok (.aload_n 1, 1) := by decide +kernel
theorem dX0_stand_21 : decode cX0_stand 21 = .ok (.getfield 119, 3) := by decide +kernel
theorem dX0_stand_24 : decode cX0_stand 24 = .ok (.astore 4, 2) := by decide +kernel
theorem dX0_stand_26 : decode cX0_stand 26 = .ok (.aload 4, 2) := by decide +kernel
theorem dX0_stand_28 : decode cX0_stand 28 = .ok (.iconst 0, 1) := by decide +kernel
theorem dX0_stand_29 : decode cX0_stand 29 = .ok (.iaload, 1) := by decide +kernel
theorem dX0_stand_30 : decode cX0_stand 30 = .ok (.aload 4, 2) := by decide +kernel
theorem dX0_stand_32 : decode cX0_stand 32 = .ok (.iconst 1, 1) := by decide +kernel
theorem dX0_stand_33 : decode cX0_stand 33 = .ok (.iaload, 1) := by decide +kernel
theorem dX0_stand_34 : decode cX0_stand 34 = .ok (.aload_n 0, 1) := by decide +kernel
theorem dX0_stand_35 : decode cX0_stand 35 = .ok (.getfield 18, 3) := by decide +kernel
theorem dX0_stand_38 : decode cX0_stand 38 = .ok (.iload_n 2, 1) := by decide +kernel
theorem dX0_stand_39 : decode cX0_stand 39 = .ok (.iaload, 1) := by decide +kernel
theorem dX0_stand_40 : decode cX0_stand 40 = .ok (.imul, 1) := by decide +kernel
theorem dX0_stand_41 : decode cX0_stand 41 = .ok (.iadd, 1) := by decide +kernel
theorem dX0_stand_42 : decode cX0_stand 42 = .ok (.aload 4, 2) := by decide +kernel
theorem dX0_stand_44 : decode cX0_stand 44 = .ok (.iconst 2, 1) := by decide +kernel
theorem dX0_stand_45 : decode cX0_stand 45 = .ok (.iaload, 1) := by decide +kernel
theorem dX0_stand_46 : decode cX0_stand 46 = .ok (.iload_n 3, 1) := by decide +kernel
theorem dX0_stand_47 : decode cX0_stand 47 = .ok (.imul, 1) := by decide +kernel
theorem dX0_stand_48 : decode cX0_stand 48 = .ok (.iadd, 1) := by decide +kernel
theorem dX0_stand_49 : decode cX0_stand 49 = .ok (.aload_n 0, 1) := by decide +kernel
theorem dX0_stand_50 : decode cX0_stand 50 = .ok (.getfield 30, 3) := by decide +kernel
theorem dX0_stand_53 : decode cX0_stand 53 = .ok (.iload_n 2, 1) := by decide +kernel
theorem dX0_stand_54 : decode cX0_stand 54 = .ok (.iaload, 1) := by decide +kernel
theorem dX0_stand_55 : decode cX0_stand 55 = .ok (.iadd, 1) := by decide +kernel
theorem dX0_stand_56 : decode cX0_stand 56 = .ok (.ireturn, 1) := by decide +kernel
theorem dX0_waitByRule_0 : decode cX0_waitByRule 0 = .ok (.iload_n 2, 1) := by decide +kernel
theorem dX0_waitByRule_1 : decode cX0_waitByRule 1 = .ok (.iload_n 3, 1) := by decide +kernel
theorem dX0_waitByRule_2 : decode cX0_waitByRule 2 = .ok (.invokestatic 64, 3) := by decide +kernel
theorem dX0_waitByRule_5 : decode cX0_waitByRule 5 = .ok (.istore 4, 2) := by decide +kernel
theorem dX0_waitByRule_7 : decode cX0_waitByRule 7 = .ok (.aload_n 1, 1) := by decide +kernel
theorem dX0_waitByRule_8 : decode cX0_waitByRule 8 = .ok (.iload_n 3, 1) := by decide +kernel
theorem dX0_waitByRule_9 : decode cX0_waitByRule 9 = .ok (.aload_n 0, 1) := by decide +kernel
theorem dX0_waitByRule_10 : decode cX0_waitByRule 10 = .ok (.getfield 9, 3) := by decide +kernel
theorem dX0_waitByRule_13 : decode cX0_waitByRule 13 = .ok (.iload_n 2, 1) := by decide +kernel
theorem dX0_waitByRule_14 : decode cX0_waitByRule 14 = .ok (.iconst 0, 1) := by decide +kernel
theorem dX0_waitByRule_15 : decode cX0_waitByRule 15 = .ok (.invokestatic 64, 3) := by decide +kernel
theorem dX0_waitByRule_18 : decode cX0_waitByRule 18 = .ok (.iaload, 1) := by decide +kernel
theorem dX0_waitByRule_19 : decode cX0_waitByRule 19 = .ok (.aload_n 0, 1) := by decide +kernel
theorem dX0_waitByRule_20 : decode cX0_waitByRule 20 = .ok (.getfield 88, 3) := by decide +kernel
theorem dX0_waitByRule_23 : decode cX0_waitByRule 23 = .ok (.invokevirtual 167, 3) := by decide +kernel
theorem dX0_waitByRule_26 : decode cX0_waitByRule 26 = .ok (.istore 5, 2) := by decide +kernel
theorem dX0_waitByRule_28 : decode cX0_waitByRule 28 = .ok (.aload_n 0, 1) := by decide +kernel
theorem dX0_waitByRule_29 : decode cX0_waitByRule 29 = .ok (.getfield 15, 3) := by decide +kernel
theorem dX0_waitByRule_32 : decode cX0_waitByRule 32 = .ok (.iload 4, 2) := by decide +kernel
theorem dX0_waitByRule_34 : decode cX0_waitByRule 34 = .ok (.aload_n 0, 1) := by decide +kernel
theorem dX0_waitByRule_35 : decode cX0_waitByRule 35 = .ok (.getfield 15, 3) := by decide +kernel
theorem dX0_waitByRule_38 : decode cX0_waitByRule 38 = .ok (.iload 4, 2) := by decide +kernel
theorem dX0_waitByRule_40 : decode cX0_waitByRule 40 = .ok (.iaload, 1) := by decide +kernel
theorem dX0_waitByRule_41 : decode cX0_waitByRule 41 = .ok (.iload 5, 2) := by decide +kernel
theorem dX0_waitByRule_43 : decode cX0_waitByRule 43 = .ok (.invokestatic 122, 3) := by decide +kernel
theorem dX0_waitByRule_46 : decode cX0_waitByRule 46 = .ok (.iastore, 1) := by decide +kernel
theorem dX0_waitByRule_47 : decode cX0_waitByRule 47 = .ok (.aload_n 0, 1) := by decide +kernel
theorem dX0_waitByRule_48 : decode cX0_waitByRule 48 = .ok (.aload_n 0, 1) := by decide +kernel
theorem dX0_waitByRule_49 : decode cX0_waitByRule 49 = .ok (.getfield 88, 3) := by decide +kernel
theorem dX0_waitByRule_52 : decode cX0_waitByRule 52 = .ok (.aload_n 0, 1) := by decide +kernel
theorem dX0_waitByRule_53 : decode cX0_waitByRule 53 = .ok (.getfield 15, 3) := by decide +kernel
theorem dX0_waitByRule_56 : decode cX0_waitByRule 56 = .ok (.iload 4, 2) := by decide +kernel
theorem dX0_waitByRule_58 : decode cX0_waitByRule 58 = .ok (.iaload, 1) := by decide +kernel
theorem dX0_waitByRule_59 : decode cX0_waitByRule 59 = .ok (.invokestatic 122, 3) := by decide +kernel
theorem dX0_waitByRule_62 : decode cX0_waitByRule 62 = .ok (.putfield 88, 3) := by decide +kernel
theorem dX0_waitByRule_65 : decode cX0_waitByRule 65 = .ok (.return_, 1) := by decide +kernel
theorem dX0_tellVisit_0 : decode cX0_tellVisit 0 = .ok (.iload_n 2, 1) := by decide +kernel
theorem dX0_tellVisit_1 : decode cX0_tellVisit 1 = .ok (.tableswitch 70 0 4 #[35, 42, 49, 56, 63], 35) := by decide +kernel
theorem dX0_tellVisit_36 : decode cX0_tellVisit 36 = .ok (.aload_n 0, 1) := by decide +kernel
theorem dX0_tellVisit_37 : decode cX0_tellVisit 37 = .ok (.getfield 9, 3) := by decide +kernel
theorem dX0_tellVisit_40 : decode cX0_tellVisit 40 = .ok (.iload_n 1, 1) := by decide +kernel
theorem dX0_tellVisit_41 : decode cX0_tellVisit 41 = .ok (.iaload, 1) := by decide +kernel
theorem dX0_tellVisit_42 : decode cX0_tellVisit 42 = .ok (.ireturn, 1) := by decide +kernel
theorem dX0_tellVisit_43 : decode cX0_tellVisit 43 = .ok (.aload_n 0, 1) := by decide +kernel
theorem dX0_tellVisit_44 : decode cX0_tellVisit 44 = .ok (.getfield 15, 3) := by decide +kernel
theorem dX0_tellVisit_47 : decode cX0_tellVisit 47 = .ok (.iload_n 1, 1) := by decide +kernel
theorem dX0_tellVisit_48 : decode cX0_tellVisit 48 = .ok (.iaload, 1) := by decide +kernel
theorem dX0_tellVisit_49 : decode cX0_tellVisit 49 = .ok (.ireturn, 1) := by decide +kernel
theorem dX0_tellVisit_50 : decode cX0_tellVisit 50 = .ok (.aload_n 0, 1) := by decide +kernel
theorem dX0_tellVisit_51 : decode cX0_tellVisit 51 = .ok (.getfield 18, 3) := by decide +kernel
theorem dX0_tellVisit_54 : decode cX0_tellVisit 54 = .ok (.iload_n 1, 1) := by decide +kernel
theorem dX0_tellVisit_55 : decode cX0_tellVisit 55 = .ok (.iaload, 1) := by decide +kernel
theorem dX0_tellVisit_56 : decode cX0_tellVisit 56 = .ok (.ireturn, 1) := by decide +kernel
theorem dX0_tellVisit_57 : decode cX0_tellVisit 57 = .ok (.aload_n 0, 1) := by decide +kernel
theorem dX0_tellVisit_58 : decode cX0_tellVisit 58 = .ok (.getfield 21, 3) := by decide +kernel
theorem dX0_tellVisit_61 : decode cX0_tellVisit 61 = .ok (.iload_n 1, 1) := by decide +kernel
theorem dX0_tellVisit_62 : decode cX0_tellVisit 62 = .ok (.iaload, 1) := by decide +kernel
theorem dX0_tellVisit_63 : decode cX0_tellVisit 63 = .ok (.ireturn, 1) := by decide +kernel
theorem dX0_tellVisit_64 : decode cX0_tellVisit 64 = .ok (.aload_n 0, 1) := by decide +kernel
theorem dX0_tellVisit_65 : decode cX0_tellVisit 65 = .ok (.getfield 24, 3) := by decide +kernel
theorem dX0_tellVisit_68 : decode cX0_tellVisit 68 = .ok (.iload_n 1, 1) := by decide +kernel
theorem dX0_tellVisit_69 : decode cX0_tellVisit 69 = .ok (.iaload, 1) := by decide +kernel
theorem dX0_tellVisit_70 : decode cX0_tellVisit 70 = .ok (.ireturn, 1) := by decide +kernel
theorem dX0_tellVisit_71 : decode cX0_tellVisit 71 = .ok (.aload_n 0, 1) := by decide +kernel
theorem dX0_tellVisit_72 : decode cX0_tellVisit 72 = .ok (.getfield 27, 3) := by decide +kernel
theorem dX0_tellVisit_75 : decode cX0_tellVisit 75 = .ok (.iload_n 1, 1) := by decide +kernel
theorem dX0_tellVisit_76 : decode cX0_tellVisit 76 = .ok (.iaload, 1) := by decide +kernel
theorem dX0_tellVisit_77 : decode cX0_tellVisit 77 = .ok (.ireturn, 1) := by decide +kernel
theorem dX0_tellWaits_0 : decode cX0_tellWaits 0 = .ok (.iload_n 2, 1) := by decide +kernel
theorem dX0_tellWaits_1 : decode cX0_tellWaits 1 = .ok (.lookupswitch 42 #[(0, 27), (1, 34)], 27) := by decide +kernel
theorem dX0_tellWaits_28 : decode cX0_tellWaits 28 = .ok (.aload_n 0, 1) := by decide +kernel
theorem dX0_tellWaits_29 : decode cX0_tellWaits 29 = .ok (.getfield 33, 3) := by decide +kernel
theorem dX0_tellWaits_32 : decode cX0_tellWaits 32 = .ok (.iload_n 1, 1) := by decide +kernel
theorem dX0_tellWaits_33 : decode cX0_tellWaits 33 = .ok (.iaload, 1) := by decide +kernel
theorem dX0_tellWaits_34 : decode cX0_tellWaits 34 = .ok (.ireturn, 1) := by decide +kernel
theorem dX0_tellWaits_35 : decode cX0_tellWaits 35 = .ok (.aload_n 0, 1) := by decide +kernel
theorem dX0_tellWaits_36 : decode cX0_tellWaits 36 = .ok (.getfield 36, 3) := by decide +kernel
theorem dX0_tellWaits_39 : decode cX0_tellWaits 39 = .ok (.iload_n 1, 1) := by decide +kernel
theorem dX0_tellWaits_40 : decode cX0_tellWaits 40 = .ok (.laload, 1) := by decide +kernel
theorem dX0_tellWaits_41 : decode cX0_tellWaits 41 = .ok (.l2i, 1) := by decide +kernel
theorem dX0_tellWaits_42 : decode cX0_tellWaits 42 = .ok (.ireturn, 1) := by decide +kernel
theorem dX0_tellWaits_43 : decode cX0_tellWaits 43 = .ok (.aload_n 0, 1) := by decide +kernel
theorem dX0_tellWaits_44 : decode cX0_tellWaits 44 = .ok (.getfield 40, 3) := by decide +kernel
theorem dX0_tellWaits_47 : decode cX0_tellWaits 47 = .ok (.iload_n 1, 1) := by decide +kernel
theorem dX0_tellWaits_48 : decode cX0_tellWaits 48 = .ok (.iaload, 1) := by decide +kernel
theorem dX0_tellWaits_49 : decode cX0_tellWaits 49 = .ok (.ireturn, 1) := by decide +kernel
theorem dX0_sumOfWaits_0 : decode cX0_sumOfWaits 0 = .ok (.lconst 0, 1) := by decide +kernel
theorem dX0_sumOfWaits_1 : decode cX0_sumOfWaits 1 = .ok (.lstore_n 1, 1) := by decide +kernel
theorem dX0_sumOfWaits_2 : decode cX0_sumOfWaits 2 = .ok (.iconst 0, 1) := by decide +kernel
theorem dX0_sumOfWaits_3 : decode cX0_sumOfWaits 3 = .ok (.istore_n 3, 1) := by decide +kernel
theorem dX0_sumOfWaits_4 : decode cX0_sumOfWaits 4 = .ok (.iload_n 3, 1) := by decide +kernel
theorem dX0_sumOfWaits_5 : decode cX0_sumOfWaits 5 = .ok (.bipush 10, 2) := by decide +kernel
theorem dX0_sumOfWaits_7 : decode cX0_sumOfWaits 7 = .ok (.if_icmp .ge 18, 3) := by decide +kernel
theorem dX0_sumOfWaits_10 : decode cX0_sumOfWaits 10 = .ok (.lload_n 1, 1) := by decide +kernel
theorem dX0_sumOfWaits_11 : decode cX0_sumOfWaits 11 = .ok (.aload_n 0, 1) := by decide +kernel
theorem dX0_sumOfWaits_12 : decode cX0_sumOfWaits 12 = .ok (.getfield 36, 3) := by decide +kernel
theorem dX0_sumOfWaits_15 : decode cX0_sumOfWaits 15 = .ok (.iload_n 3, 1) := by decide +kernel
theorem dX0_sumOfWaits_16 : decode cX0_sumOfWaits 16 = .ok (.laload, 1) := by decide +kernel
theorem dX0_sumOfWaits_17 : decode cX0_sumOfWaits 17 = .ok (.ladd, 1) := by decide +kernel
theorem dX0_sumOfWaits_18 : decode cX0_sumOfWaits 18 = .ok (.lstore_n 1, 1) := by decide +kernel
theorem dX0_sumOfWaits_19 : decode cX0_sumOfWaits 19 = .ok (.iinc 3 1, 3) := by decide +kernel
theorem dX0_sumOfWaits_22 : decode cX0_sumOfWaits 22 = .ok (.goto (-18), 3) := by decide +kernel
theorem dX0_sumOfWaits_25 : decode cX0_sumOfWaits 25 = .ok (.lload_n 1, 1) := by decide +kernel
theorem dX0_sumOfWaits_26 : decode cX0_sumOfWaits 26 = .ok (.lreturn, 1) := by decide +kernel
theorem dX0_gapAhead_0 : decode cX0_gapAhead 0 = .ok (.aload_n 0, 1) := by decide +kernel
theorem dX0_gapAhead_1 : decode cX0_gapAhead 1 = .ok (.getfield 15, 3) := by decide +kernel
theorem dX0_gapAhead_4 : decode cX0_gapAhead 4 = .ok (.aload_n 0, 1) := by decide +kernel
theorem dX0_gapAhead_5 : decode cX0_gapAhead 5 = .ok (.getfield 43, 3) := by decide +kernel
theorem dX0_gapAhead_8 : decode cX0_gapAhead 8 = .ok (.iload_n 2, 1) := by decide +kernel
theorem dX0_gapAhead_9 : decode cX0_gapAhead 9 = .ok (.iaload, 1) := by decide +kernel
theorem dX0_gapAhead_10 : decode cX0_gapAhead 10 = .ok (.iload_n 1, 1) := by decide +kernel
theorem dX0_gapAhead_11 : decode cX0_gapAhead 11 = .ok (.invokestatic 64, 3) := by decide +kernel
theorem dX0_gapAhead_14 : decode cX0_gapAhead 14 = .ok (.iaload, 1) := by decide +kernel
theorem dX0_gapAhead_15 : decode cX0_gapAhead 15 = .ok (.aload_n 0, 1) := by decide +kernel
theorem dX0_gapAhead_16 : decode cX0_gapAhead 16 = .ok (.getfield 15, 3) := by decide +kernel
theorem dX0_gapAhead_19 : decode cX0_gapAhead 19 = .ok (.aload_n 0, 1) := by decide +kernel
theorem dX0_gapAhead_20 : decode cX0_gapAhead 20 = .ok (.getfield 43, 3) := by decide +kernel
theorem dX0_gapAhead_23 : decode cX0_gapAhead 23 = .ok (.iload_n 2, 1) := by decide +kernel
theorem dX0_gapAhead_24 : decode cX0_gapAhead 24 = .ok (.iconst 1, 1) := by decide +kernel
theorem dX0_gapAhead_25 : decode cX0_gapAhead 25 = .ok (.isub, 1) := by decide +kernel
theorem dX0_gapAhead_26 : decode cX0_gapAhead 26 = .ok (.iaload, 1) := by decide +kernel
theorem dX0_gapAhead_27 : decode cX0_gapAhead 27 = .ok (.iload_n 1, 1) := by decide +kernel
theorem dX0_gapAhead_28 : decode cX0_gapAhead 28 = .ok (.invokestatic 64, 3) := by decide +kernel
theorem dX0_gapAhead_31 : decode cX0_gapAhead 31 = .ok (.iaload, 1) := by decide +kernel
theorem dX0_gapAhead_32 : decode cX0_gapAhead 32 = .ok (.isub, 1) := by decide +kernel
theorem dX0_gapAhead_33 : decode cX0_gapAhead 33 = .ok (.ireturn, 1) := by decide +kernel
theorem dX0_sumOfGaps_0 : decode cX0_sumOfGaps 0 = .ok (.iconst 0, 1) := by decide +kernel
theorem dX0_sumOfGaps_1 : decode cX0_sumOfGaps 1 = .ok (.istore_n 3, 1) := by decide +kernel
theorem dX0_sumOfGaps_2 : decode cX0_sumOfGaps 2 = .ok (.iconst 1, 1) := by decide +kernel
theorem dX0_sumOfGaps_3 : decode cX0_sumOfGaps 3 = .ok (.istore 4, 2) := by decide +kernel
theorem dX0_sumOfGaps_5 : decode cX0_sumOfGaps 5 = .ok (.iload 4, 2) := by decide +kernel
theorem dX0_sumOfGaps_7 : decode cX0_sumOfGaps 7 = .ok (.iload_n 2, 1) := by decide +kernel
theorem dX0_sumOfGaps_8 : decode cX0_sumOfGaps 8 = .ok (.if_icmp .ge 19, 3) := by decide +kernel
theorem dX0_sumOfGaps_11 : decode cX0_sumOfGaps 11 = .ok (.iload_n 3, 1) := by decide +kernel
theorem dX0_sumOfGaps_12 : decode cX0_sumOfGaps 12 = .ok (.aload_n 0, 1) := by decide +kernel
theorem dX0_sumOfGaps_13 : decode cX0_sumOfGaps 13 = .ok (.iload_n 1, 1) := by decide +kernel
theorem dX0_sumOfGaps_14 : decode cX0_sumOfGaps 14 = .ok (.iload 4, 2) := by decide +kernel
theorem dX0_sumOfGaps_16 : decode cX0_sumOfGaps 16 = .ok (.invokevirtual 173, 3) := by decide +kernel
theorem dX0_sumOfGaps_19 : decode cX0_sumOfGaps 19 = .ok (.iadd, 1) := by decide +kernel
theorem dX0_sumOfGaps_20 : decode cX0_sumOfGaps 20 = .ok (.istore_n 3, 1) := by decide +kernel
theorem dX0_sumOfGaps_21 : decode cX0_sumOfGaps 21 = .ok (.iinc 4 1, 3) := by decide +kernel
theorem dX0_sumOfGaps_24 : decode cX0_sumOfGaps 24 = .ok (.goto (-19), 3) := by decide +kernel
theorem dX0_sumOfGaps_27 : decode cX0_sumOfGaps 27 = .ok (.iload_n 3, 1) := by decide +kernel
theorem dX0_sumOfGaps_28 : decode cX0_sumOfGaps 28 = .ok (.ireturn, 1) := by decide +kernel
end
section
theorem dX0_spreadOfGaps_0 : decode cX0_spreadOfGaps 0 = .ok (.aload_n 0, 1) := by decide +kernel
theorem dX0_spreadOfGaps_1 : decode cX0_spreadOfGaps 1 = .ok (.aload_n 1, 1) := by decide +kernel
theorem dX0_spreadOfGaps_2 : decode cX0_spreadOfGaps 2 = .ok (.iload_n 2, 1) := by decide +kernel
theorem dX0_spreadOfGaps_3 : decode cX0_spreadOfGaps 3 = .ok (.invokevirtual 176, 3) := by decide +kernel
theorem dX0_spreadOfGaps_6 : decode cX0_spreadOfGaps 6 = .ok (.istore_n 3, 1) := by decide +kernel
theorem dX0_spreadOfGaps_7 : decode cX0_spreadOfGaps 7 = .ok (.iload_n 3, 1) := by decide +kernel
theorem dX0_spreadOfGaps_8 : decode cX0_spreadOfGaps 8 = .ok (.iconst 2, 1) := by decide +kernel
theorem dX0_spreadOfGaps_9 : decode cX0_spreadOfGaps 9 = .ok (.if_icmp .ge 6, 3) := by decide +kernel
theorem dX0_spreadOfGaps_12 : decode cX0_spreadOfGaps 12 = .ok (.bipush (-6), 2) := by decide +kernel
theorem dX0_spreadOfGaps_14 : decode cX0_spreadOfGaps 14 = .ok (.ireturn, 1) := by decide +kernel
theorem dX0_spreadOfGaps_15 : decode cX0_spreadOfGaps 15 = .ok (.aload_n 0, 1) := by decide +kernel
theorem dX0_spreadOfGaps_16 : decode cX0_spreadOfGaps 16 = .ok (.iload_n 2, 1) := by decide +kernel
theorem dX0_spreadOfGaps_17 : decode cX0_spreadOfGaps 17 = .ok (.iconst 1, 1) := by decide +kernel
theorem dX0_spreadOfGaps_18 : decode cX0_spreadOfGaps 18 = .ok (.invokevirtual 173, 3) := by decide +kernel
theorem dX0_spreadOfGaps_21 : decode cX0_spreadOfGaps 21 = .ok (.istore 4, 2) := by decide +kernel
theorem dX0_spreadOfGaps_23 : decode cX0_spreadOfGaps 23 = .ok (.iload 4, 2) := by decide +kernel
theorem dX0_spreadOfGaps_25 : decode cX0_spreadOfGaps 25 = .ok (.istore 5, 2) := by decide +kernel
theorem dX0_spreadOfGaps_27 : decode cX0_spreadOfGaps 27 = .ok (.iconst 2, 1) := by decide +kernel
theorem dX0_spreadOfGaps_28 : decode cX0_spreadOfGaps 28 = .ok (.istore 6, 2) := by decide +kernel
theorem dX0_spreadOfGaps_30 : decode cX0_spreadOfGaps 30 = .ok (.iload 6, 2) := by decide +kernel
theorem dX0_spreadOfGaps_32 : decode cX0_spreadOfGaps 32 = .ok (.iload_n 3, 1) := by decide +kernel
theorem dX0_spreadOfGaps_33 : decode cX0_spreadOfGaps 33 = .ok (.if_icmp .ge 36, 3) := by decide +kernel
theorem dX0_spreadOfGaps_36 : decode cX0_spreadOfGaps 36 = .ok (.aload_n 0, 1) := by decide +kernel
theorem dX0_spreadOfGaps_37 : decode cX0_spreadOfGaps 37 = .ok (.iload_n 2, 1) := by decide +kernel
theorem dX0_spreadOfGaps_38 : decode cX0_spreadOfGaps 38 = .ok (.iload 6, 2) := by decide +kernel
theorem dX0_spreadOfGaps_40 : decode cX0_spreadOfGaps 40 = .ok (.invokevirtual 173, 3) := by decide +kernel
theorem dX0_spreadOfGaps_43 : decode cX0_spreadOfGaps 43 = .ok (.istore 7, 2) := by decide +kernel
theorem dX0_spreadOfGaps_45 : decode cX0_spreadOfGaps 45 = .ok (.iload 4, 2) := by decide +kernel
theorem dX0_spreadOfGaps_47 : decode cX0_spreadOfGaps 47 = .ok (.iload 7, 2) := by decide +kernel
theorem dX0_spreadOfGaps_49 : decode cX0_spreadOfGaps 49 = .ok (.invokestatic 122, 3) := by decide +kernel
theorem dX0_spreadOfGaps_52 : decode cX0_spreadOfGaps 52 = .ok (.istore 4, 2) := by decide +kernel
theorem dX0_spreadOfGaps_54 : decode cX0_spreadOfGaps 54 = .ok (.iload 5, 2) := by decide +kernel
theorem dX0_spreadOfGaps_56 : decode cX0_spreadOfGaps 56 = .ok (.iload 7, 2) := by decide +kernel
theorem dX0_spreadOfGaps_58 : decode cX0_spreadOfGaps 58 = .ok (.invokestatic 155, 3) := by decide +kernel
theorem dX0_spreadOfGaps_61 : decode cX0_spreadOfGaps 61 = .ok (.istore 5, 2) := by decide +kernel
theorem dX0_spreadOfGaps_63 : decode cX0_spreadOfGaps 63 = .ok (.iinc 6 1, 3) := by decide +kernel
theorem dX0_spreadOfGaps_66 : decode cX0_spreadOfGaps 66 = .ok (.goto (-36), 3) := by decide +kernel
theorem dX0_spreadOfGaps_69 : decode cX0_spreadOfGaps 69 = .ok (.iload 4, 2) := by decide +kernel
theorem dX0_spreadOfGaps_71 : decode cX0_spreadOfGaps 71 = .ok (.iload 5, 2) := by decide +kernel
theorem dX0_spreadOfGaps_73 : decode cX0_spreadOfGaps 73 = .ok (.isub, 1) := by decide +kernel
theorem dX0_spreadOfGaps_74 : decode cX0_spreadOfGaps 74 = .ok (.ireturn, 1) := by decide +kernel
theorem dX0_firstCloseStop_0 : decode cX0_firstCloseStop 0 = .ok (.iconst 0, 1) := by decide +kernel
theorem dX0_firstCloseStop_1 : decode cX0_firstCloseStop 1 = .ok (.istore_n 2, 1) := by decide +kernel
theorem dX0_firstCloseStop_2 : decode cX0_firstCloseStop 2 = .ok (.iload_n 2, 1) := by decide +kernel
theorem dX0_firstCloseStop_3 : decode cX0_firstCloseStop 3 = .ok (.bipush 9, 2) := by decide +kernel
theorem dX0_firstCloseStop_5 : decode cX0_firstCloseStop 5 = .ok (.if_icmp .ge 22, 3) := by decide +kernel
theorem dX0_firstCloseStop_8 : decode cX0_firstCloseStop 8 = .ok (.aload_n 0, 1) := by decide +kernel
theorem dX0_firstCloseStop_9 : decode cX0_firstCloseStop 9 = .ok (.aload_n 1, 1) := by decide +kernel
theorem dX0_firstCloseStop_10 : decode cX0_firstCloseStop 10 = .ok (.iload_n 2, 1) := by decide +kernel
theorem dX0_firstCloseStop_11 : decode cX0_firstCloseStop 11 = .ok (.invokevirtual 179, 3) := by decide +kernel
theorem dX0_firstCloseStop_14 : decode cX0_firstCloseStop 14 = .ok (.bipush (-6), 2) := by decide +kernel
theorem dX0_firstCloseStop_16 : decode cX0_firstCloseStop 16 = .ok (.if_icmp .eq 5, 3) := by decide +kernel
theorem dX0_firstCloseStop_19 : decode cX0_firstCloseStop 19 = .ok (.iload_n 2, 1) := by decide +kernel
theorem dX0_firstCloseStop_20 : decode cX0_firstCloseStop 20 = .ok (.ireturn, 1) := by decide +kernel
theorem dX0_firstCloseStop_21 : decode cX0_firstCloseStop 21 = .ok (.iinc 2 1, 3) := by decide +kernel
theorem dX0_firstCloseStop_24 : decode cX0_firstCloseStop 24 = .ok (.goto (-22), 3) := by decide +kernel
theorem dX0_firstCloseStop_27 : decode cX0_firstCloseStop 27 = .ok (.bipush (-6), 2) := by decide +kernel
theorem dX0_firstCloseStop_29 : decode cX0_firstCloseStop 29 = .ok (.ireturn, 1) := by decide +kernel
theorem dX0_firstCloseBus_0 : decode cX0_firstCloseBus 0 = .ok (.aload_n 0, 1) := by decide +kernel
theorem dX0_firstCloseBus_1 : decode cX0_firstCloseBus 1 = .ok (.aload_n 1, 1) := by decide +kernel
theorem dX0_firstCloseBus_2 : decode cX0_firstCloseBus 2 = .ok (.iload_n 2, 1) := by decide +kernel
theorem dX0_firstCloseBus_3 : decode cX0_firstCloseBus 3 = .ok (.invokevirtual 176, 3) := by decide +kernel
theorem dX0_firstCloseBus_6 : decode cX0_firstCloseBus 6 = .ok (.istore_n 3, 1) := by decide +kernel
theorem dX0_firstCloseBus_7 : decode cX0_firstCloseBus 7 = .ok (.iconst 1, 1) := by decide +kernel
theorem dX0_firstCloseBus_8 : decode cX0_firstCloseBus 8 = .ok (.istore 4, 2) := by decide +kernel
theorem dX0_firstCloseBus_10 : decode cX0_firstCloseBus 10 = .ok (.iload 4, 2) := by decide +kernel
theorem dX0_firstCloseBus_12 : decode cX0_firstCloseBus 12 = .ok (.iload_n 3, 1) := by decide +kernel
theorem dX0_firstCloseBus_13 : decode cX0_firstCloseBus 13 = .ok (.if_icmp .ge 33, 3) := by decide +kernel
theorem dX0_firstCloseBus_16 : decode cX0_firstCloseBus 16 = .ok (.aload_n 0, 1) := by decide +kernel
theorem dX0_firstCloseBus_17 : decode cX0_firstCloseBus 17 = .ok (.iload_n 2, 1) := by decide +kernel
theorem dX0_firstCloseBus_18 : decode cX0_firstCloseBus 18 = .ok (.iload 4, 2) := by decide +kernel
theorem dX0_firstCloseBus_20 : decode cX0_firstCloseBus 20 = .ok (.invokevirtual 173, 3) := by decide +kernel
theorem dX0_firstCloseBus_23 : decode cX0_firstCloseBus 23 = .ok (.aload_n 1, 1) := by decide +kernel
theorem dX0_firstCloseBus_24 : decode cX0_firstCloseBus 24 = .ok (.getfield 119, 3) := by decide +kernel
theorem dX0_firstCloseBus_27 : decode cX0_firstCloseBus 27 = .ok (.iconst 4, 1) := by decide +kernel
theorem dX0_firstCloseBus_28 : decode cX0_firstCloseBus 28 = .ok (.iaload, 1) := by decide +kernel
theorem dX0_firstCloseBus_29 : decode cX0_firstCloseBus 29 = .ok (.if_icmp .gt 11, 3) := by decide +kernel
theorem dX0_firstCloseBus_32 : decode cX0_firstCloseBus 32 = .ok (.aload_n 0, 1) := by decide +kernel
theorem dX0_firstCloseBus_33 : decode cX0_firstCloseBus 33 = .ok (.getfield 43, 3) := by decide +kernel
theorem dX0_firstCloseBus_36 : decode cX0_firstCloseBus 36 = .ok (.iload 4, 2) := by decide +kernel
theorem dX0_firstCloseBus_38 : decode cX0_firstCloseBus 38 = .ok (.iaload, 1) := by decide +kernel
theorem dX0_firstCloseBus_39 : decode cX0_firstCloseBus 39 = .ok (.ireturn, 1) := by decide +kernel
theorem dX0_firstCloseBus_40 : decode cX0_firstCloseBus 40 = .ok (.iinc 4 1, 3) := by decide +kernel
theorem dX0_firstCloseBus_43 : decode cX0_firstCloseBus 43 = .ok (.goto (-33), 3) := by decide +kernel
theorem dX0_firstCloseBus_46 : decode cX0_firstCloseBus 46 = .ok (.bipush (-6), 2) := by decide +kernel
theorem dX0_firstCloseBus_48 : decode cX0_firstCloseBus 48 = .ok (.ireturn, 1) := by decide +kernel
theorem dX0_nearestBus_0 : decode cX0_nearestBus 0 = .ok (.bipush (-6), 2) := by decide +kernel
theorem dX0_nearestBus_2 : decode cX0_nearestBus 2 = .ok (.istore 4, 2) := by decide +kernel
theorem dX0_nearestBus_4 : decode cX0_nearestBus 4 = .ok (.iconst 0, 1) := by decide +kernel
theorem dX0_nearestBus_5 : decode cX0_nearestBus 5 = .ok (.istore 5, 2) := by decide +kernel
theorem dX0_nearestBus_7 : decode cX0_nearestBus 7 = .ok (.iconst 0, 1) := by decide +kernel
theorem dX0_nearestBus_8 : decode cX0_nearestBus 8 = .ok (.istore 6, 2) := by decide +kernel
theorem dX0_nearestBus_10 : decode cX0_nearestBus 10 = .ok (.iload 6, 2) := by decide +kernel
theorem dX0_nearestBus_12 : decode cX0_nearestBus 12 = .ok (.aload_n 1, 1) := by decide +kernel
theorem dX0_nearestBus_13 : decode cX0_nearestBus 13 = .ok (.getfield 99, 3) := by decide +kernel
theorem dX0_nearestBus_16 : decode cX0_nearestBus 16 = .ok (.if_icmp .ge 59, 3) := by decide +kernel
theorem dX0_nearestBus_19 : decode cX0_nearestBus 19 = .ok (.aload_n 1, 1) := by decide +kernel
theorem dX0_nearestBus_20 : decode cX0_nearestBus 20 = .ok (.iload 6, 2) := by decide +kernel
theorem dX0_nearestBus_22 : decode cX0_nearestBus 22 = .ok (.iload_n 2, 1) := by decide +kernel
theorem dX0_nearestBus_23 : decode cX0_nearestBus 23 = .ok (.invokevirtual 102, 3) := by decide +kernel
theorem dX0_nearestBus_26 : decode cX0_nearestBus 26 = .ok (.ifCond .eq 43, 3) := by decide +kernel
theorem dX0_nearestBus_29 : decode cX0_nearestBus 29 = .ok (.aload_n 0, 1) := by decide +kernel
theorem dX0_nearestBus_30 : decode cX0_nearestBus 30 = .ok (.getfield 9, 3) := by decide +kernel
theorem dX0_nearestBus_33 : decode cX0_nearestBus 33 = .ok (.iload 6, 2) := by decide +kernel
theorem dX0_nearestBus_35 : decode cX0_nearestBus 35 = .ok (.iload_n 2, 1) := by decide +kernel
theorem dX0_nearestBus_36 : decode cX0_nearestBus 36 = .ok (.invokestatic 64, 3) := by decide +kernel
theorem dX0_nearestBus_39 : decode cX0_nearestBus 39 = .ok (.iaload, 1) := by decide +kernel
theorem dX0_nearestBus_40 : decode cX0_nearestBus 40 = .ok (.iload_n 3, 1) := by decide +kernel
theorem dX0_nearestBus_41 : decode cX0_nearestBus 41 = .ok (.if_icmp .le 28, 3) := by decide +kernel
theorem dX0_nearestBus_44 : decode cX0_nearestBus 44 = .ok (.aload_n 0, 1) := by decide +kernel
theorem dX0_nearestBus_45 : decode cX0_nearestBus 45 = .ok (.iload 6, 2) := by decide +kernel
theorem dX0_nearestBus_47 : decode cX0_nearestBus 47 = .ok (.iload_n 2, 1) := by decide +kernel
theorem dX0_nearestBus_48 : decode cX0_nearestBus 48 = .ok (.iload_n 3, 1) := by decide +kernel
theorem dX0_nearestBus_49 : decode cX0_nearestBus 49 = .ok (.invokevirtual 182, 3) := by decide +kernel
theorem dX0_nearestBus_52 : decode cX0_nearestBus 52 = .ok (.istore 7, 2) := by decide +kernel
theorem dX0_nearestBus_54 : decode cX0_nearestBus 54 = .ok (.iload 7, 2) := by decide +kernel
theorem dX0_nearestBus_56 : decode cX0_nearestBus 56 = .ok (.iload 5, 2) := by decide +kernel
theorem dX0_nearestBus_58 : decode cX0_nearestBus 58 = .ok (.if_icmp .le 11, 3) := by decide +kernel
theorem dX0_nearestBus_61 : decode cX0_nearestBus 61 = .ok (.iload 7, 2) := by decide +kernel
theorem dX0_nearestBus_63 : decode cX0_nearestBus 63 = .ok (.istore 5, 2) := by decide +kernel
theorem dX0_nearestBus_65 : decode cX0_nearestBus 65 = .ok (.iload 6, 2) := by decide +kernel
theorem dX0_nearestBus_67 : decode cX0_nearestBus 67 = .ok (.istore 4, 2) := by decide +kernel
theorem dX0_nearestBus_69 : decode cX0_nearestBus 69 = .ok (.iinc 6 1, 3) := by decide +kernel
theorem dX0_nearestBus_72 : decode cX0_nearestBus 72 = .ok (.goto (-62), 3) := by decide +kernel
theorem dX0_nearestBus_75 : decode cX0_nearestBus 75 = .ok (.iload 4, 2) := by decide +kernel
theorem dX0_nearestBus_77 : decode cX0_nearestBus 77 = .ok (.ireturn, 1) := by decide +kernel
theorem dX0_stopsLeft_0 : decode cX0_stopsLeft 0 = .ok (.iconst 0, 1) := by decide +kernel
theorem dX0_stopsLeft_1 : decode cX0_stopsLeft 1 = .ok (.istore 4, 2) := by decide +kernel
theorem dX0_stopsLeft_3 : decode cX0_stopsLeft 3 = .ok (.iload 4, 2) := by decide +kernel
theorem dX0_stopsLeft_5 : decode cX0_stopsLeft 5 = .ok (.iload_n 2, 1) := by decide +kernel
theorem dX0_stopsLeft_6 : decode cX0_stopsLeft 6 = .ok (.if_icmp .ge 24, 3) := by decide +kernel
theorem dX0_stopsLeft_9 : decode cX0_stopsLeft 9 = .ok (.aload_n 0, 1) := by decide +kernel
theorem dX0_stopsLeft_10 : decode cX0_stopsLeft 10 = .ok (.getfield 15, 3) := by decide +kernel
theorem dX0_stopsLeft_13 : decode cX0_stopsLeft 13 = .ok (.iload_n 1, 1) := by decide +kernel
theorem dX0_stopsLeft_14 : decode cX0_stopsLeft 14 = .ok (.iload 4, 2) := by decide +kernel
theorem dX0_stopsLeft_16 : decode cX0_stopsLeft 16 = .ok (.invokestatic 64, 3) := by decide +kernel
theorem dX0_stopsLeft_19 : decode cX0_stopsLeft 19 = .ok (.iaload, 1) := by decide +kernel
theorem dX0_stopsLeft_20 : decode cX0_stopsLeft 20 = .ok (.iload_n 3, 1) := by decide +kernel
theorem dX0_stopsLeft_21 : decode cX0_stopsLeft 21 = .ok (.if_icmp .gt 9, 3) := by decide +kernel
theorem dX0_stopsLeft_24 : decode cX0_stopsLeft 24 = .ok (.iinc 4 1, 3) := by decide +kernel
theorem dX0_stopsLeft_27 : decode cX0_stopsLeft 27 = .ok (.goto (-24), 3) := by decide +kernel
theorem dX0_stopsLeft_30 : decode cX0_stopsLeft 30 = .ok (.iload 4, 2) := by decide +kernel
theorem dX0_stopsLeft_32 : decode cX0_stopsLeft 32 = .ok (.ireturn, 1) := by decide +kernel
theorem dX0_shownSeconds_0 : decode cX0_shownSeconds 0 = .ok (.aload_n 0, 1) := by decide +kernel
theorem dX0_shownSeconds_1 : decode cX0_shownSeconds 1 = .ok (.iload_n 2, 1) := by decide +kernel
theorem dX0_shownSeconds_2 : decode cX0_shownSeconds 2 = .ok (.iload_n 3, 1) := by decide +kernel
theorem dX0_shownSeconds_3 : decode cX0_shownSeconds 3 = .ok (.iload 4, 2) := by decide +kernel
theorem dX0_shownSeconds_5 : decode cX0_shownSeconds 5 = .ok (.invokevirtual 182, 3) := by decide +kernel
theorem dX0_shownSeconds_8 : decode cX0_shownSeconds 8 = .ok (.iconst 1, 1) := by decide +kernel
theorem dX0_shownSeconds_9 : decode cX0_shownSeconds 9 = .ok (.isub, 1) := by decide +kernel
theorem dX0_shownSeconds_10 : decode cX0_shownSeconds 10 = .ok (.istore 5, 2) := by decide +kernel
theorem dX0_shownSeconds_12 : decode cX0_shownSeconds 12 = .ok (.iload 5, 2) := by decide +kernel
theorem dX0_shownSeconds_14 : decode cX0_shownSeconds 14 = .ok (.ifCond .ge 5, 3) := by decide +kernel
theorem dX0_shownSeconds_17 : decode cX0_shownSeconds 17 = .ok (.iconst 0, 1) := by decide +kernel
theorem dX0_shownSeconds_18 : decode cX0_shownSeconds 18 = .ok (.ireturn, 1) := by decide +kernel
theorem dX0_shownSeconds_19 : decode cX0_shownSeconds 19 = .ok (.aload_n 0, 1) := by decide +kernel
theorem dX0_shownSeconds_20 : decode cX0_shownSeconds 20 = .ok (.getfield 15, 3) := by decide +kernel
theorem dX0_shownSeconds_23 : decode cX0_shownSeconds 23 = .ok (.iload_n 2, 1) := by decide +kernel
theorem dX0_shownSeconds_24 : decode cX0_shownSeconds 24 = .ok (.iload 5, 2) := by decide +kernel
theorem dX0_shownSeconds_26 : decode cX0_shownSeconds 26 = .ok (.invokestatic 64, 3) := by decide +kernel
theorem dX0_shownSeconds_29 : decode cX0_shownSeconds 29 = .ok (.iaload, 1) := by decide +kernel
theorem dX0_shownSeconds_30 : decode cX0_shownSeconds 30 = .ok (.istore 6, 2) := by decide +kernel
theorem dX0_shownSeconds_32 : decode cX0_shownSeconds 32 = .ok (.iload 5, 2) := by decide +kernel
theorem dX0_shownSeconds_34 : decode cX0_shownSeconds 34 = .ok (.istore 7, 2) := by decide +kernel
theorem dX0_shownSeconds_36 : decode cX0_shownSeconds 36 = .ok (.iload 7, 2) := by decide +kernel
theorem dX0_shownSeconds_38 : decode cX0_shownSeconds 38 = .ok (.iload_n 3, 1) := by decide +kernel
theorem dX0_shownSeconds_39 : decode cX0_shownSeconds 39 = .ok (.if_icmp .ge 21, 3) := by decide +kernel
theorem dX0_shownSeconds_42 : decode cX0_shownSeconds 42 = .ok (.iload 6, 2) := by decide +kernel
theorem dX0_shownSeconds_44 : decode cX0_shownSeconds 44 = .ok (.aload_n 1, 1) := by decide +kernel
theorem dX0_shownSeconds_45 : decode cX0_shownSeconds 45 = .ok (.getfield 109, 3) := by decide +kernel
theorem dX0_shownSeconds_48 : decode cX0_shownSeconds 48 = .ok (.iload 7, 2) := by decide +kernel
theorem dX0_shownSeconds_50 : decode cX0_shownSeconds 50 = .ok (.iaload, 1) := by decide +kernel
theorem dX0_shownSeconds_51 : decode cX0_shownSeconds 51 = .ok (.iadd, 1) := by decide +kernel
theorem dX0_shownSeconds_52 : decode cX0_shownSeconds 52 = .ok (.istore 6, 2) := by decide +kernel
theorem dX0_shownSeconds_54 : decode cX0_shownSeconds 54 = .ok (.iinc 7 1, 3) := by decide +kernel
theorem dX0_shownSeconds_57 : decode cX0_shownSeconds 57 = .ok (.goto (-21), 3) := by decide +kernel
theorem dX0_shownSeconds_60 : decode cX0_shownSeconds 60 = .ok (.iload 6, 2) := by decide +kernel
theorem dX0_shownSeconds_62 : decode cX0_shownSeconds 62 = .ok (.iload 4, 2) := by decide +kernel
theorem dX0_shownSeconds_64 : decode cX0_shownSeconds 64 = .ok (.isub, 1) := by decide +kernel
theorem dX0_shownSeconds_65 : decode cX0_shownSeconds 65 = .ok (.iconst 0, 1) := by decide +kernel
theorem dX0_shownSeconds_66 : decode cX0_shownSeconds 66 = .ok (.invokestatic 122, 3) := by decide +kernel
theorem dX0_shownSeconds_69 : decode cX0_shownSeconds 69 = .ok (.ireturn, 1) := by decide +kernel
theorem dX1_init_0 : decode cX1_init 0 = .ok (.aload_n 0, 1) := by decide +kernel
theorem dX1_init_1 : decode cX1_init 1 = .ok (.invokespecial 3, 3) := by decide +kernel
theorem dX1_init_4 : decode cX1_init 4 = .ok (.aload_n 0, 1) := by decide +kernel
theorem dX1_init_5 : decode cX1_init 5 = .ok (.bipush 10, 2) := by decide +kernel
theorem dX1_init_7 : decode cX1_init 7 = .ok (.newarray .int, 2) := by decide +kernel
theorem dX1_init_9 : decode cX1_init 9 = .ok (.putfield 9, 3) := by decide +kernel
theorem dX1_init_12 : decode cX1_init 12 = .ok (.aload_n 0, 1) := by decide +kernel
theorem dX1_init_13 : decode cX1_init 13 = .ok (.bipush 10, 2) := by decide +kernel
theorem dX1_init_15 : decode cX1_init 15 = .ok (.newarray .int, 2) := by decide +kernel
theorem dX1_init_17 : decode cX1_init 17 = .ok (.putfield 15, 3) := by decide +kernel
theorem dX1_init_20 : decode cX1_init 20 = .ok (.aload_n 0, 1) := by decide +kernel
theorem dX1_init_21 : decode cX1_init 21 = .ok (.bipush 10, 2) := by decide +kernel
theorem dX1_init_23 : decode cX1_init 23 = .ok (.newarray .int, 2) := by decide +kernel
theorem dX1_init_25 : decode cX1_init 25 = .ok (.putfield 18, 3) := by decide +kernel
theorem dX1_init_28 : decode cX1_init 28 = .ok (.aload_n 0, 1) := by decide +kernel
theorem dX1_init_29 : decode cX1_init 29 = .ok (.iconst 5, 1) := by decide +kernel
theorem dX1_init_30 : decode cX1_init 30 = .ok (.newarray .int, 2) := by decide +kernel
theorem dX1_init_32 : decode cX1_init 32 = .ok (.dup, 1) := by decide +kernel
theorem dX1_init_33 : decode cX1_init 33 = .ok (.iconst 0, 1) := by decide +kernel
theorem dX1_init_34 : decode cX1_init 34 = .ok (.bipush 8, 2) := by decide +kernel
theorem dX1_init_36 : decode cX1_init 36 = .ok (.iastore, 1) := by decide +kernel
theorem dX1_init_37 : decode cX1_init 37 = .ok (.dup, 1) := by decide +kernel
theorem dX1_init_38 : decode cX1_init 38 = .ok (.iconst 1, 1) := by decide +kernel
theorem dX1_init_39 : decode cX1_init 39 = .ok (.iconst 2, 1) := by decide +kernel
theorem dX1_init_40 : decode cX1_init 40 = .ok (.iastore, 1) := by decide +kernel
theorem dX1_init_41 : decode cX1_init 41 = .ok (.dup, 1) := by decide +kernel
theorem dX1_init_42 : decode cX1_init 42 = .ok (.iconst 2, 1) := by decide +kernel
theorem dX1_init_43 : decode cX1_init 43 = .ok (.iconst 1, 1) := by decide +kernel
theorem dX1_init_44 : decode cX1_init 44 = .ok (.iastore, 1) := by decide +kernel
theorem dX1_init_45 : decode cX1_init 45 = .ok (.dup, 1) := by decide +kernel
theorem dX1_init_46 : decode cX1_init 46 = .ok (.iconst 3, 1) := by decide +kernel
theorem dX1_init_47 : decode cX1_init 47 = .ok (.iconst 0, 1) := by decide +kernel
theorem dX1_init_48 : decode cX1_init 48 = .ok (.iastore, 1) := by decide +kernel
theorem dX1_init_49 : decode cX1_init 49 = .ok (.dup, 1) := by decide +kernel
theorem dX1_init_50 : decode cX1_init 50 = .ok (.iconst 4, 1) := by decide +kernel
theorem dX1_init_51 : decode cX1_init 51 = .ok (.bipush 30, 2) := by decide +kernel
theorem dX1_init_53 : decode cX1_init 53 = .ok (.iastore, 1) := by decide +kernel
theorem dX1_init_54 : decode cX1_init 54 = .ok (.putfield 21, 3) := by decide +kernel
theorem dX1_init_57 : decode cX1_init 57 = .ok (.aload_n 0, 1) := by decide +kernel
theorem dX1_init_58 : decode cX1_init 58 = .ok (.bipush 8, 2) := by decide +kernel
theorem dX1_init_60 : decode cX1_init 60 = .ok (.newarray .int, 2) := by decide +kernel
theorem dX1_init_62 : decode cX1_init 62 = .ok (.putfield 24, 3) := by decide +kernel
theorem dX1_init_65 : decode cX1_init 65 = .ok (.aload_n 0, 1) := by decide +kernel
theorem dX1_init_66 : decode cX1_init 66 = .ok (.bipush 8, 2) := by decide +kernel
theorem dX1_init_68 : decode cX1_init 68 = .ok (.newarray .int, 2) := by decide +kernel
theorem dX1_init_70 : decode cX1_init 70 = .ok (.putfield 27, 3) := by decide +kernel
theorem dX1_init_73 : decode cX1_init 73 = .ok (.aload_n 0, 1) := by decide +kernel
theorem dX1_init_74 : decode cX1_init 74 = .ok (.bipush 8, 2) := by decide +kernel
theorem dX1_init_76 : decode cX1_init 76 = .ok (.newarray .int, 2) := by decide +kernel
theorem dX1_init_78 : decode cX1_init 78 = .ok (.putfield 30, 3) := by decide +kernel
theorem dX1_init_81 : decode cX1_init 81 = .ok (.aload_n 0, 1) := by decide +kernel
theorem dX1_init_82 : decode cX1_init 82 = .ok (.bipush 10, 2) := by decide +kernel
theorem dX1_init_84 : decode cX1_init 84 = .ok (.newarray .int, 2) := by decide +kernel
theorem dX1_init_86 : decode cX1_init 86 = .ok (.putfield 33, 3) := by decide +kernel
theorem dX1_init_89 : decode cX1_init 89 = .ok (.aload_n 0, 1) := by decide +kernel
theorem dX1_init_90 : decode cX1_init 90 = .ok (.bipush 10, 2) := by decide +kernel
theorem dX1_init_92 : decode cX1_init 92 = .ok (.newarray .int, 2) := by decide +kernel
theorem dX1_init_94 : decode cX1_init 94 = .ok (.putfield 36, 3) := by decide +kernel
theorem dX1_init_97 : decode cX1_init 97 = .ok (.aload_n 0, 1) := by decide +kernel
theorem dX1_init_98 : decode cX1_init 98 = .ok (.bipush 10, 2) := by decide +kernel
theorem dX1_init_100 : decode cX1_init 100 = .ok (.newarray .int, 2) := by decide +kernel
theorem dX1_init_102 : decode cX1_init 102 = .ok (.putfield 39, 3) := by decide +kernel
theorem dX1_init_105 : decode cX1_init 105 = .ok (.aload_n 0, 1) := by decide +kernel
theorem dX1_init_106 : decode cX1_init 106 = .ok (.getfield 9, 3) := by decide +kernel
theorem dX1_init_109 : decode cX1_init 109 = .ok (.bipush 120, 2) := by decide +kernel
theorem dX1_init_111 : decode cX1_init 111 = .ok (.invokestatic 42, 3) := by decide +kernel
theorem dX1_init_114 : decode cX1_init 114 = .ok (.aload_n 0, 1) := by decide +kernel
theorem dX1_init_115 : decode cX1_init 115 = .ok (.getfield 18, 3) := by decide +kernel
theorem dX1_init_118 : decode cX1_init 118 = .ok (.iconst 3, 1) := by decide +kernel
theorem dX1_init_119 : decode cX1_init 119 = .ok (.invokestatic 42, 3) := by decide +kernel
theorem dX1_init_122 : decode cX1_init 122 = .ok (.return_, 1) := by decide +kernel
theorem dX1_allowsAtStop_0 : decode cX1_allowsAtStop 0 = .ok (.iload_n 0, 1) := by decide +kernel
theorem dX1_allowsAtStop_1 : decode cX1_allowsAtStop 1 = .ok (.tableswitch 86 0 2 #[27, 46, 69], 27) := by decide +kernel
theorem dX1_allowsAtStop_28 : decode cX1_allowsAtStop 28 = .ok (.iload_n 1, 1) := by decide +kernel
theorem dX1_allowsAtStop_29 : decode cX1_allowsAtStop 29 = .ok (.bipush 10, 2) := by decide +kernel
theorem dX1_allowsAtStop_31 : decode cX1_allowsAtStop 31 = .ok (.if_icmp .lt 14, 3) := by decide +kernel
theorem dX1_allowsAtStop_34 : decode cX1_allowsAtStop 34 = .ok (.iload_n 1, 1) := by decide +kernel
theorem dX1_allowsAtStop_35 : decode cX1_allowsAtStop 35 = .ok (.sipush 900, 3) := by decide +kernel
theorem dX1_allowsAtStop_38 : decode cX1_allowsAtStop 38 = .ok (.if_icmp .gt 7, 3) := by decide +kernel
theorem dX1_allowsAtStop_41 : decode cX1_allowsAtStop 41 = .ok (.iconst 1, 1) := by decide +kernel
theorem dX1_allowsAtStop_42 : decode cX1_allowsAtStop 42 = .ok (.goto 4, 3) := by decide +kernel
theorem dX1_allowsAtStop_45 : decode cX1_allowsAtStop 45 = .ok (.iconst 0, 1) := by decide +kernel
theorem dX1_allowsAtStop_46 : decode cX1_allowsAtStop 46 = .ok (.ireturn, 1) := by decide +kernel
theorem dX1_allowsAtStop_47 : decode cX1_allowsAtStop 47 = .ok (.iload_n 1, 1) := by decide +kernel
theorem dX1_allowsAtStop_48 : decode cX1_allowsAtStop 48 = .ok (.ifCond .eq 16, 3) := by decide +kernel
theorem dX1_allowsAtStop_51 : decode cX1_allowsAtStop 51 = .ok (.iload_n 1, 1) := by decide +kernel
theorem dX1_allowsAtStop_52 : decode cX1_allowsAtStop 52 = .ok (.bipush 10, 2) := by decide +kernel
theorem dX1_allowsAtStop_54 : decode cX1_allowsAtStop 54 = .ok (.if_icmp .lt 14, 3) := by decide +kernel
theorem dX1_allowsAtStop_57 : decode cX1_allowsAtStop 57 = .ok (.iload_n 1, 1) := by decide +kernel
theorem dX1_allowsAtStop_58 : decode cX1_allowsAtStop 58 = .ok (.sipush 900, 3) := by decide +kernel
theorem dX1_allowsAtStop_61 : decode cX1_allowsAtStop 61 = .ok (.if_icmp .gt 7, 3) := by decide +kernel
theorem dX1_allowsAtStop_64 : decode cX1_allowsAtStop 64 = .ok (.iconst 1, 1) := by decide +kernel
theorem dX1_allowsAtStop_65 : decode cX1_allowsAtStop 65 = .ok (.goto 4, 3) := by decide +kernel
theorem dX1_allowsAtStop_68 : decode cX1_allowsAtStop 68 = .ok (.iconst 0, 1) := by decide +kernel
theorem dX1_allowsAtStop_69 : decode cX1_allowsAtStop 69 = .ok (.ireturn, 1) := by decide +kernel
theorem dX1_allowsAtStop_70 : decode cX1_allowsAtStop 70 = .ok (.iload_n 1, 1) := by decide +kernel
theorem dX1_allowsAtStop_71 : decode cX1_allowsAtStop 71 = .ok (.iconst 1, 1) := by decide +kernel
theorem dX1_allowsAtStop_72 : decode cX1_allowsAtStop 72 = .ok (.if_icmp .lt 13, 3) := by decide +kernel
theorem dX1_allowsAtStop_75 : decode cX1_allowsAtStop 75 = .ok (.iload_n 1, 1) := by decide +kernel
theorem dX1_allowsAtStop_76 : decode cX1_allowsAtStop 76 = .ok (.bipush 9, 2) := by decide +kernel
theorem dX1_allowsAtStop_78 : decode cX1_allowsAtStop 78 = .ok (.if_icmp .gt 7, 3) := by decide +kernel
theorem dX1_allowsAtStop_81 : decode cX1_allowsAtStop 81 = .ok (.iconst 1, 1) := by decide +kernel
theorem dX1_allowsAtStop_82 : decode cX1_allowsAtStop 82 = .ok (.goto 4, 3) := by decide +kernel
theorem dX1_allowsAtStop_85 : decode cX1_allowsAtStop 85 = .ok (.iconst 0, 1) := by decide +kernel
theorem dX1_allowsAtStop_86 : decode cX1_allowsAtStop 86 = .ok (.ireturn, 1) := by decide +kernel
theorem dX1_allowsAtStop_87 : decode cX1_allowsAtStop 87 = .ok (.iconst 0, 1) := by decide +kernel
theorem dX1_allowsAtStop_88 : decode cX1_allowsAtStop 88 = .ok (.ireturn, 1) := by decide +kernel
theorem dX1_changeStop_0 : decode cX1_changeStop 0 = .ok (.iload_n 2, 1) := by decide +kernel
theorem dX1_changeStop_1 : decode cX1_changeStop 1 = .ok (.ifCond .ne 10, 3) := by decide +kernel
theorem dX1_changeStop_4 : decode cX1_changeStop 4 = .ok (.aload_n 0, 1) := by decide +kernel
theorem dX1_changeStop_5 : decode cX1_changeStop 5 = .ok (.getfield 9, 3) := by decide +kernel
theorem dX1_changeStop_8 : decode cX1_changeStop 8 = .ok (.goto 19, 3) := by decide +kernel
theorem dX1_changeStop_11 : decode cX1_changeStop 11 = .ok (.iload_n 2, 1) := by decide +kernel
theorem dX1_changeStop_12 : decode cX1_changeStop 12 = .ok (.iconst 1, 1) := by decide +kernel
theorem dX1_changeStop_13 : decode cX1_changeStop 13 = .ok (.if_icmp .ne 10, 3) := by decide +kernel
theorem dX1_changeStop_16 : decode cX1_changeStop 16 = .ok (.aload_n 0, 1) := by decide +kernel
theorem dX1_changeStop_17 : decode cX1_changeStop 17 = .ok (.getfield 15, 3) := by decide +kernel
theorem dX1_changeStop_20 : decode cX1_changeStop 20 = .ok (.goto 7, 3) := by decide +kernel
theorem dX1_changeStop_23 : decode cX1_changeStop 23 = .ok (.aload_n 0, 1) := by decide +kernel
theorem dX1_changeStop_24 : decode cX1_changeStop 24 = .ok (.getfield 18, 3) := by decide +kernel
theorem dX1_changeStop_27 : decode cX1_changeStop 27 = .ok (.astore 4, 2) := by decide +kernel
theorem dX1_changeStop_29 : decode cX1_changeStop 29 = .ok (.aload 4, 2) := by decide +kernel
theorem dX1_changeStop_31 : decode cX1_changeStop 31 = .ok (.iload_n 1, 1) := by decide +kernel
theorem dX1_changeStop_32 : decode cX1_changeStop 32 = .ok (.iaload, 1) := by decide +kernel
theorem dX1_changeStop_33 : decode cX1_changeStop 33 = .ok (.istore 5, 2) := by decide +kernel
theorem dX1_changeStop_35 : decode cX1_changeStop 35 = .ok (.aload 4, 2) := by decide +kernel
theorem dX1_changeStop_37 : decode cX1_changeStop 37 = .ok (.iload_n 1, 1) := by decide +kernel
theorem dX1_changeStop_38 : decode cX1_changeStop 38 = .ok (.iload_n 3, 1) := by decide +kernel
theorem dX1_changeStop_39 : decode cX1_changeStop 39 = .ok (.iastore, 1) := by decide +kernel
theorem dX1_changeStop_40 : decode cX1_changeStop 40 = .ok (.iload 5, 2) := by decide +kernel
theorem dX1_changeStop_42 : decode cX1_changeStop 42 = .ok (.ireturn, 1) := by decide +kernel
theorem dX1_earliestNewBus_0 : decode cX1_earliestNewBus 0 = .ok (.aload_n 0, 1) := by decide +kernel
theorem dX1_earliestNewBus_1 : decode cX1_earliestNewBus 1 = .ok (.getfield 48, 3) := by decide +kernel
theorem dX1_earliestNewBus_4 : decode cX1_earliestNewBus 4 = .ok (.ifCond .le 17, 3) := by decide +kernel
theorem dX1_earliestNewBus_7 : decode cX1_earliestNewBus 7 = .ok (.aload_n 0, 1) := by decide +kernel
theorem dX1_earliestNewBus_8 : decode cX1_earliestNewBus 8 = .ok (.getfield 24, 3) := by decide +kernel
theorem dX1_earliestNewBus_11 : decode cX1_earliestNewBus 11 = .ok (.aload_n 0, 1) := by decide +kernel
theorem dX1_earliestNewBus_12 : decode cX1_earliestNewBus 12 = .ok (.getfield 48, 3) := by decide +kernel
theorem dX1_earliestNewBus_15 : decode cX1_earliestNewBus 15 = .ok (.iconst 1, 1) := by decide +kernel
theorem dX1_earliestNewBus_16 : decode cX1_earliestNewBus 16 = .ok (.isub, 1) := by decide +kernel
theorem dX1_earliestNewBus_17 : decode cX1_earliestNewBus 17 = .ok (.iaload, 1) := by decide +kernel
theorem dX1_earliestNewBus_18 : decode cX1_earliestNewBus 18 = .ok (.goto 4, 3) := by decide +kernel
theorem dX1_earliestNewBus_21 : decode cX1_earliestNewBus 21 = .ok (.iconst 0, 1) := by decide +kernel
theorem dX1_earliestNewBus_22 : decode cX1_earliestNewBus 22 = .ok (.ireturn, 1) := by decide +kernel
theorem dX1_addBus_0 : decode cX1_addBus 0 = .ok (.aload_n 0, 1) := by decide +kernel
theorem dX1_addBus_1 : decode cX1_addBus 1 = .ok (.getfield 24, 3) := by decide +kernel
theorem dX1_addBus_4 : decode cX1_addBus 4 = .ok (.aload_n 0, 1) := by decide +kernel
theorem dX1_addBus_5 : decode cX1_addBus 5 = .ok (.getfield 48, 3) := by decide +kernel
theorem dX1_addBus_8 : decode cX1_addBus 8 = .ok (.iload_n 1, 1) := by decide +kernel
theorem dX1_addBus_9 : decode cX1_addBus 9 = .ok (.iastore, 1) := by decide +kernel
theorem dX1_addBus_10 : decode cX1_addBus 10 = .ok (.aload_n 0, 1) := by decide +kernel
theorem dX1_addBus_11 : decode cX1_addBus 11 = .ok (.getfield 27, 3) := by decide +kernel
theorem dX1_addBus_14 : decode cX1_addBus 14 = .ok (.aload_n 0, 1) := by decide +kernel
theorem dX1_addBus_15 : decode cX1_addBus 15 = .ok (.getfield 48, 3) := by decide +kernel
theorem dX1_addBus_18 : decode cX1_addBus 18 = .ok (.iload_n 2, 1) := by decide +kernel
theorem dX1_addBus_19 : decode cX1_addBus 19 = .ok (.iastore, 1) := by decide +kernel
theorem dX1_addBus_20 : decode cX1_addBus 20 = .ok (.aload_n 0, 1) := by decide +kernel
theorem dX1_addBus_21 : decode cX1_addBus 21 = .ok (.getfield 30, 3) := by decide +kernel
theorem dX1_addBus_24 : decode cX1_addBus 24 = .ok (.aload_n 0, 1) := by decide +kernel
theorem dX1_addBus_25 : decode cX1_addBus 25 = .ok (.getfield 48, 3) := by decide +kernel
theorem dX1_addBus_28 : decode cX1_addBus 28 = .ok (.bipush 9, 2) := by decide +kernel
theorem dX1_addBus_30 : decode cX1_addBus 30 = .ok (.iastore, 1) := by decide +kernel
theorem dX1_addBus_31 : decode cX1_addBus 31 = .ok (.aload_n 0, 1) := by decide +kernel
theorem dX1_addBus_32 : decode cX1_addBus 32 = .ok (.dup, 1) := by decide +kernel
theorem dX1_addBus_33 : decode cX1_addBus 33 = .ok (.getfield 48, 3) := by decide +kernel
theorem dX1_addBus_36 : decode cX1_addBus 36 = .ok (.iconst 1, 1) := by decide +kernel
theorem dX1_addBus_37 : decode cX1_addBus 37 = .ok (.iadd, 1) := by decide +kernel
theorem dX1_addBus_38 : decode cX1_addBus 38 = .ok (.putfield 48, 3) := by decide +kernel
theorem dX1_addBus_41 : decode cX1_addBus 41 = .ok (.aload_n 0, 1) := by decide +kernel
theorem dX1_addBus_42 : decode cX1_addBus 42 = .ok (.getfield 48, 3) := by decide +kernel
theorem dX1_addBus_45 : decode cX1_addBus 45 = .ok (.iconst 1, 1) := by decide +kernel
theorem dX1_addBus_46 : decode cX1_addBus 46 = .ok (.isub, 1) := by decide +kernel
theorem dX1_addBus_47 : decode cX1_addBus 47 = .ok (.ireturn, 1) := by decide +kernel
theorem dX1_addLateness_0 : decode cX1_addLateness 0 = .ok (.aload_n 0, 1) := by decide +kernel
theorem dX1_addLateness_1 : decode cX1_addLateness 1 = .ok (.getfield 33, 3) := by decide +kernel
theorem dX1_addLateness_4 : decode cX1_addLateness 4 = .ok (.aload_n 0, 1) := by decide +kernel
theorem dX1_addLateness_5 : decode cX1_addLateness 5 = .ok (.getfield 52, 3) := by decide +kernel
theorem dX1_addLateness_8 : decode cX1_addLateness 8 = .ok (.iload_n 1, 1) := by decide +kernel
theorem dX1_addLateness_9 : decode cX1_addLateness 9 = .ok (.iastore, 1) := by decide +kernel
theorem dX1_addLateness_10 : decode cX1_addLateness 10 = .ok (.aload_n 0, 1) := by decide +kernel
theorem dX1_addLateness_11 : decode cX1_addLateness 11 = .ok (.getfield 36, 3) := by decide +kernel
theorem dX1_addLateness_14 : decode cX1_addLateness 14 = .ok (.aload_n 0, 1) := by decide +kernel
theorem dX1_addLateness_15 : decode cX1_addLateness 15 = .ok (.getfield 52, 3) := by decide +kernel
theorem dX1_addLateness_18 : decode cX1_addLateness 18 = .ok (.iload_n 2, 1) := by decide +kernel
theorem dX1_addLateness_19 : decode cX1_addLateness 19 = .ok (.iastore, 1) := by decide +kernel
theorem dX1_addLateness_20 : decode cX1_addLateness 20 = .ok (.aload_n 0, 1) := by decide +kernel
theorem dX1_addLateness_21 : decode cX1_addLateness 21 = .ok (.getfield 39, 3) := by decide +kernel
theorem dX1_addLateness_24 : decode cX1_addLateness 24 = .ok (.aload_n 0, 1) := by decide +kernel
theorem dX1_addLateness_25 : decode cX1_addLateness 25 = .ok (.getfield 52, 3) := by decide +kernel
theorem dX1_addLateness_28 : decode cX1_addLateness 28 = .ok (.iload_n 3, 1) := by decide +kernel
theorem dX1_addLateness_29 : decode cX1_addLateness 29 = .ok (.iastore, 1) := by decide +kernel
theorem dX1_addLateness_30 : decode cX1_addLateness 30 = .ok (.aload_n 0, 1) := by decide +kernel
theorem dX1_addLateness_31 : decode cX1_addLateness 31 = .ok (.dup, 1) := by decide +kernel
theorem dX1_addLateness_32 : decode cX1_addLateness 32 = .ok (.getfield 52, 3) := by decide +kernel
theorem dX1_addLateness_35 : decode cX1_addLateness 35 = .ok (.iconst 1, 1) := by decide +kernel
theorem dX1_addLateness_36 : decode cX1_addLateness 36 = .ok (.iadd, 1) := by decide +kernel
theorem dX1_addLateness_37 : decode cX1_addLateness 37 = .ok (.putfield 52, 3) := by decide +kernel
theorem dX1_addLateness_40 : decode cX1_addLateness 40 = .ok (.aload_n 0, 1) := by decide +kernel
theorem dX1_addLateness_41 : decode cX1_addLateness 41 = .ok (.getfield 52, 3) := by decide +kernel
theorem dX1_addLateness_44 : decode cX1_addLateness 44 = .ok (.iconst 1, 1) := by decide +kernel
theorem dX1_addLateness_45 : decode cX1_addLateness 45 = .ok (.isub, 1) := by decide +kernel
theorem dX1_addLateness_46 : decode cX1_addLateness 46 = .ok (.ireturn, 1) := by decide +kernel
theorem dX1_hasBus_0 : decode cX1_hasBus 0 = .ok (.iload_n 1, 1) := by decide +kernel
theorem dX1_hasBus_1 : decode cX1_hasBus 1 = .ok (.ifCond .lt 15, 3) := by decide +kernel
theorem dX1_hasBus_4 : decode cX1_hasBus 4 = .ok (.iload_n 1, 1) := by decide +kernel
theorem dX1_hasBus_5 : decode cX1_hasBus 5 = .ok (.aload_n 0, 1) := by decide +kernel
theorem dX1_hasBus_6 : decode cX1_hasBus 6 = .ok (.getfield 48, 3) := by decide +kernel
theorem dX1_hasBus_9 : decode cX1_hasBus 9 = .ok (.if_icmp .ge 7, 3) := by decide +kernel
theorem dX1_hasBus_12 : decode cX1_hasBus 12 = .ok (.iconst 1, 1) := by decide +kernel
theorem dX1_hasBus_13 : decode cX1_hasBus 13 = .ok (.goto 4, 3) := by decide +kernel
theorem dX1_hasBus_16 : decode cX1_hasBus 16 = .ok (.iconst 0, 1) := by decide +kernel
theorem dX1_hasBus_17 : decode cX1_hasBus 17 = .ok (.ireturn, 1) := by decide +kernel
theorem dX1_comes_0 : decode cX1_comes 0 = .ok (.iload_n 2, 1) := by decide +kernel
theorem dX1_comes_1 : decode cX1_comes 1 = .ok (.aload_n 0, 1) := by decide +kernel
theorem dX1_comes_2 : decode cX1_comes 2 = .ok (.getfield 30, 3) := by decide +kernel
theorem dX1_comes_5 : decode cX1_comes 5 = .ok (.iload_n 1, 1) := by decide +kernel
theorem dX1_comes_6 : decode cX1_comes 6 = .ok (.iaload, 1) := by decide +kernel
theorem dX1_comes_7 : decode cX1_comes 7 = .ok (.if_icmp .gt 7, 3) := by decide +kernel
theorem dX1_comes_10 : decode cX1_comes 10 = .ok (.iconst 1, 1) := by decide +kernel
theorem dX1_comes_11 : decode cX1_comes 11 = .ok (.goto 4, 3) := by decide +kernel
theorem dX1_comes_14 : decode cX1_comes 14 = .ok (.iconst 0, 1) := by decide +kernel
theorem dX1_comes_15 : decode cX1_comes 15 = .ok (.ireturn, 1) := by decide +kernel
theorem dX1_goesOn_0 : decode cX1_goesOn 0 = .ok (.iload_n 2, 1) := by decide +kernel
theorem dX1_goesOn_1 : decode cX1_goesOn 1 = .ok (.aload_n 0, 1) := by decide +kernel
theorem dX1_goesOn_2 : decode cX1_goesOn 2 = .ok (.getfield 30, 3) := by decide +kernel
theorem dX1_goesOn_5 : decode cX1_goesOn 5 = .ok (.iload_n 1, 1) := by decide +kernel
theorem dX1_goesOn_6 : decode cX1_goesOn 6 = .ok (.iaload, 1) := by decide +kernel
theorem dX1_goesOn_7 : decode cX1_goesOn 7 = .ok (.if_icmp .ge 7, 3) := by decide +kernel
theorem dX1_goesOn_10 : decode cX1_goesOn 10 = .ok (.iconst 1, 1) := by decide +kernel
theorem dX1_goesOn_11 : decode cX1_goesOn 11 = .ok (.goto 4, 3) := by decide +kernel
theorem dX1_goesOn_14 : decode cX1_goesOn 14 = .ok (.iconst 0, 1) := by decide +kernel
theorem dX1_goesOn_15 : decode cX1_goesOn 15 = .ok (.ireturn, 1) := by decide +kernel
theorem dX1_goal_0 : decode cX1_goal 0 = .ok (.iload_n 1, 1) := by decide +kernel
theorem dX1_goal_1 : decode cX1_goal 1 = .ok (.aload_n 0, 1) := by decide +kernel
theorem dX1_goal_2 : decode cX1_goal 2 = .ok (.getfield 18, 3) := by decide +kernel
theorem dX1_goal_5 : decode cX1_goal 5 = .ok (.iload_n 1, 1) := by decide +kernel
theorem dX1_goal_6 : decode cX1_goal 6 = .ok (.iaload, 1) := by decide +kernel
theorem dX1_goal_7 : decode cX1_goal 7 = .ok (.iadd, 1) := by decide +kernel
theorem dX1_goal_8 : decode cX1_goal 8 = .ok (.bipush 9, 2) := by decide +kernel
theorem dX1_goal_10 : decode cX1_goal 10 = .ok (.invokestatic 55, 3) := by decide +kernel
theorem dX1_goal_13 : decode cX1_goal 13 = .ok (.ireturn, 1) := by decide +kernel
theorem dX1_come_0 : decode cX1_come 0 = .ok (.aload_n 0, 1) := by decide +kernel
theorem dX1_come_1 : decode cX1_come 1 = .ok (.getfield 15, 3) := by decide +kernel
theorem dX1_come_4 : decode cX1_come 4 = .ok (.iload_n 1, 1) := by decide +kernel
theorem dX1_come_5 : decode cX1_come 5 = .ok (.iaload, 1) := by decide +kernel
theorem dX1_come_6 : decode cX1_come 6 = .ok (.ifCond .le 14, 3) := by decide +kernel
theorem dX1_come_9 : decode cX1_come 9 = .ok (.iload_n 2, 1) := by decide +kernel
theorem dX1_come_10 : decode cX1_come 10 = .ok (.aload_n 0, 1) := by decide +kernel
theorem dX1_come_11 : decode cX1_come 11 = .ok (.getfield 15, 3) := by decide +kernel
theorem dX1_come_14 : decode cX1_come 14 = .ok (.iload_n 1, 1) := by decide +kernel
theorem dX1_come_15 : decode cX1_come 15 = .ok (.iaload, 1) := by decide +kernel
theorem dX1_come_16 : decode cX1_come 16 = .ok (.idiv, 1) := by decide +kernel
theorem dX1_come_17 : decode cX1_come 17 = .ok (.goto 4, 3) := by decide +kernel
theorem dX1_come_20 : decode cX1_come 20 = .ok (.iconst 0, 1) := by decide +kernel
theorem dX1_come_21 : decode cX1_come 21 = .ok (.ireturn, 1) := by decide +kernel
theorem dX2_init_0 : decode cX2_init 0 = .ok (.aload_n 0, 1) := by decide +kernel
theorem dX2_init_1 : decode cX2_init 1 = .ok (.invokespecial 3, 3) := by decide +kernel
theorem dX2_init_4 : decode cX2_init 4 = .ok (.aload_n 0, 1) := by decide +kernel
theorem dX2_init_5 : decode cX2_init 5 = .ok (.bipush 10, 2) := by decide +kernel
theorem dX2_init_7 : decode cX2_init 7 = .ok (.newarray .int, 2) := by decide +kernel
theorem dX2_init_9 : decode cX2_init 9 = .ok (.putfield 9, 3) := by decide +kernel
theorem dX2_init_12 : decode cX2_init 12 = .ok (.aload_n 0, 1) := by decide +kernel
theorem dX2_init_13 : decode cX2_init 13 = .ok (.bipush 10, 2) := by decide +kernel
theorem dX2_init_15 : decode cX2_init 15 = .ok (.newarray .int, 2) := by decide +kernel
theorem dX2_init_17 : decode cX2_init 17 = .ok (.putfield 15, 3) := by decide +kernel
theorem dX2_init_20 : decode cX2_init 20 = .ok (.return_, 1) := by decide +kernel
theorem dX2_clear_0 : decode cX2_clear 0 = .ok (.aload_n 0, 1) := by decide +kernel
theorem dX2_clear_1 : decode cX2_clear 1 = .ok (.getfield 9, 3) := by decide +kernel
theorem dX2_clear_4 : decode cX2_clear 4 = .ok (.iconst 0, 1) := by decide +kernel
theorem dX2_clear_5 : decode cX2_clear 5 = .ok (.invokestatic 18, 3) := by decide +kernel
theorem dX2_clear_8 : decode cX2_clear 8 = .ok (.aload_n 0, 1) := by decide +kernel
theorem dX2_clear_9 : decode cX2_clear 9 = .ok (.getfield 15, 3) := by decide +kernel
theorem dX2_clear_12 : decode cX2_clear 12 = .ok (.iconst 0, 1) := by decide +kernel
theorem dX2_clear_13 : decode cX2_clear 13 = .ok (.invokestatic 18, 3) := by decide +kernel
theorem dX2_clear_16 : decode cX2_clear 16 = .ok (.aload_n 0, 1) := by decide +kernel
theorem dX2_clear_17 : decode cX2_clear 17 = .ok (.iconst 0, 1) := by decide +kernel
theorem dX2_clear_18 : decode cX2_clear 18 = .ok (.putfield 24, 3) := by decide +kernel
theorem dX2_clear_21 : decode cX2_clear 21 = .ok (.return_, 1) := by decide +kernel
theorem dX2_keepOnlyGap_0 : decode cX2_keepOnlyGap 0 = .ok (.aload_n 0, 1) := by decide +kernel
theorem dX2_keepOnlyGap_1 : decode cX2_keepOnlyGap 1 = .ok (.invokevirtual 28, 3) := by decide +kernel
theorem dX2_keepOnlyGap_4 : decode cX2_keepOnlyGap 4 = .ok (.aload_n 0, 1) := by decide +kernel
theorem dX2_keepOnlyGap_5 : decode cX2_keepOnlyGap 5 = .ok (.getfield 9, 3) := by decide +kernel
theorem dX2_keepOnlyGap_8 : decode cX2_keepOnlyGap 8 = .ok (.iload_n 1, 1) := by decide +kernel
theorem dX2_keepOnlyGap_9 : decode cX2_keepOnlyGap 9 = .ok (.bipush 103, 2) := by decide +kernel
theorem dX2_keepOnlyGap_11 : decode cX2_keepOnlyGap 11 = .ok (.iastore, 1) := by decide +kernel
theorem dX2_keepOnlyGap_12 : decode cX2_keepOnlyGap 12 = .ok (.aload_n 0, 1) := by decide +kernel
theorem dX2_keepOnlyGap_13 : decode cX2_keepOnlyGap 13 = .ok (.getfield 15, 3) := by decide +kernel
theorem dX2_keepOnlyGap_16 : decode cX2_keepOnlyGap 16 = .ok (.iload_n 1, 1) := by decide +kernel
theorem dX2_keepOnlyGap_17 : decode cX2_keepOnlyGap 17 = .ok (.iload_n 2, 1) := by decide +kernel
theorem dX2_keepOnlyGap_18 : decode cX2_keepOnlyGap 18 = .ok (.iastore, 1) := by decide +kernel
theorem dX2_keepOnlyGap_19 : decode cX2_keepOnlyGap 19 = .ok (.aload_n 0, 1) := by decide +kernel
theorem dX2_keepOnlyGap_20 : decode cX2_keepOnlyGap 20 = .ok (.iconst 1, 1) := by decide +kernel
theorem dX2_keepOnlyGap_21 : decode cX2_keepOnlyGap 21 = .ok (.putfield 24, 3) := by decide +kernel
theorem dX2_keepOnlyGap_24 : decode cX2_keepOnlyGap 24 = .ok (.return_, 1) := by decide +kernel
theorem dX2_soonest_0 : decode cX2_soonest 0 = .ok (.aload_n 0, 1) := by decide +kernel
theorem dX2_soonest_1 : decode cX2_soonest 1 = .ok (.getfield 9, 3) := by decide +kernel
theorem dX2_soonest_4 : decode cX2_soonest 4 = .ok (.iload_n 1, 1) := by decide +kernel
theorem dX2_soonest_5 : decode cX2_soonest 5 = .ok (.iaload, 1) := by decide +kernel
theorem dX2_soonest_6 : decode cX2_soonest 6 = .ok (.bipush 99, 2) := by decide +kernel
theorem dX2_soonest_8 : decode cX2_soonest 8 = .ok (.if_icmp .ne 15, 3) := by decide +kernel
theorem dX2_soonest_11 : decode cX2_soonest 11 = .ok (.iload_n 2, 1) := by decide +kernel
theorem dX2_soonest_12 : decode cX2_soonest 12 = .ok (.bipush 10, 2) := by decide +kernel
theorem dX2_soonest_14 : decode cX2_soonest 14 = .ok (.aload_n 0, 1) := by decide +kernel
theorem dX2_soonest_15 : decode cX2_soonest 15 = .ok (.getfield 15, 3) := by decide +kernel
theorem dX2_soonest_18 : decode cX2_soonest 18 = .ok (.iload_n 1, 1) := by decide +kernel
theorem dX2_soonest_19 : decode cX2_soonest 19 = .ok (.iaload, 1) := by decide +kernel
theorem dX2_soonest_20 : decode cX2_soonest 20 = .ok (.imul, 1) := by decide +kernel
theorem dX2_soonest_21 : decode cX2_soonest 21 = .ok (.iadd, 1) := by decide +kernel
theorem dX2_soonest_22 : decode cX2_soonest 22 = .ok (.ireturn, 1) := by decide +kernel
theorem dX2_soonest_23 : decode cX2_soonest 23 = .ok (.aload_n 0, 1) := by decide +kernel
theorem dX2_soonest_24 : decode cX2_soonest 24 = .ok (.getfield 9, 3) := by decide +kernel
theorem dX2_soonest_27 : decode cX2_soonest 27 = .ok (.iload_n 1, 1) := by decide +kernel
theorem dX2_soonest_28 : decode cX2_soonest 28 = .ok (.iaload, 1) := by decide +kernel
theorem dX2_soonest_29 : decode cX2_soonest 29 = .ok (.bipush 103, 2) := by decide +kernel
theorem dX2_soonest_31 : decode cX2_soonest 31 = .ok (.if_icmp .ne 18, 3) := by decide +kernel
theorem dX2_soonest_34 : decode cX2_soonest 34 = .ok (.iload_n 3, 1) := by decide +kernel
theorem dX2_soonest_35 : decode cX2_soonest 35 = .ok (.bipush (-6), 2) := by decide +kernel
theorem dX2_soonest_37 : decode cX2_soonest 37 = .ok (.if_icmp .eq 12, 3) := by decide +kernel
theorem dX2_soonest_40 : decode cX2_soonest 40 = .ok (.iload_n 3, 1) := by decide +kernel
theorem dX2_soonest_41 : decode cX2_soonest 41 = .ok (.aload_n 0, 1) := by decide +kernel
theorem dX2_soonest_42 : decode cX2_soonest 42 = .ok (.getfield 15, 3) := by decide +kernel
theorem dX2_soonest_45 : decode cX2_soonest 45 = .ok (.iload_n 1, 1) := by decide +kernel
theorem dX2_soonest_46 : decode cX2_soonest 46 = .ok (.iaload, 1) := by decide +kernel
theorem dX2_soonest_47 : decode cX2_soonest 47 = .ok (.iadd, 1) := by decide +kernel
theorem dX2_soonest_48 : decode cX2_soonest 48 = .ok (.ireturn, 1) := by decide +kernel
theorem dX2_soonest_49 : decode cX2_soonest 49 = .ok (.iconst 0, 1) := by decide +kernel
theorem dX2_soonest_50 : decode cX2_soonest 50 = .ok (.ireturn, 1) := by decide +kernel
theorem dX3_init_0 : decode cX3_init 0 = .ok (.aload_n 0, 1) := by decide +kernel
theorem dX3_init_1 : decode cX3_init 1 = .ok (.invokespecial 3, 3) := by decide +kernel
theorem dX3_init_4 : decode cX3_init 4 = .ok (.aload_n 0, 1) := by decide +kernel
theorem dX3_init_5 : decode cX3_init 5 = .ok (.bipush 40, 2) := by decide +kernel
theorem dX3_init_7 : decode cX3_init 7 = .ok (.newarray .int, 2) := by decide +kernel
theorem dX3_init_9 : decode cX3_init 9 = .ok (.putfield 9, 3) := by decide +kernel
theorem dX3_init_12 : decode cX3_init 12 = .ok (.return_, 1) := by decide +kernel
theorem dX3_add_0 : decode cX3_add 0 = .ok (.aload_n 0, 1) := by decide +kernel
theorem dX3_add_1 : decode cX3_add 1 = .ok (.getfield 9, 3) := by decide +kernel
theorem dX3_add_4 : decode cX3_add 4 = .ok (.aload_n 0, 1) := by decide +kernel
theorem dX3_add_5 : decode cX3_add 5 = .ok (.getfield 15, 3) := by decide +kernel
theorem dX3_add_8 : decode cX3_add 8 = .ok (.iload_n 1, 1) := by decide +kernel
theorem dX3_add_9 : decode cX3_add 9 = .ok (.iastore, 1) := by decide +kernel
theorem dX3_add_10 : decode cX3_add 10 = .ok (.aload_n 0, 1) := by decide +kernel
theorem dX3_add_11 : decode cX3_add 11 = .ok (.dup, 1) := by decide +kernel
theorem dX3_add_12 : decode cX3_add 12 = .ok (.getfield 15, 3) := by decide +kernel
theorem dX3_add_15 : decode cX3_add 15 = .ok (.iconst 1, 1) := by decide +kernel
theorem dX3_add_16 : decode cX3_add 16 = .ok (.iadd, 1) := by decide +kernel
theorem dX3_add_17 : decode cX3_add 17 = .ok (.putfield 15, 3) := by decide +kernel
theorem dX3_add_20 : decode cX3_add 20 = .ok (.aload_n 0, 1) := by decide +kernel
theorem dX3_add_21 : decode cX3_add 21 = .ok (.getfield 15, 3) := by decide +kernel
theorem dX3_add_24 : decode cX3_add 24 = .ok (.ireturn, 1) := by decide +kernel
theorem dX3_readInto_0 : decode cX3_readInto 0 = .ok (.aload_n 1, 1) := by decide +kernel
theorem dX3_readInto_1 : decode cX3_readInto 1 = .ok (.invokevirtual 19, 3) := by decide +kernel
theorem dX3_readInto_4 : decode cX3_readInto 4 = .ok (.aload_n 0, 1) := by decide +kernel
theorem dX3_readInto_5 : decode cX3_readInto 5 = .ok (.bipush (-2), 2) := by decide +kernel
theorem dX3_readInto_7 : decode cX3_readInto 7 = .ok (.putfield 24, 3) := by decide +kernel
theorem dX3_readInto_10 : decode cX3_readInto 10 = .ok (.aload_n 0, 1) := by decide +kernel
theorem dX3_readInto_11 : decode cX3_readInto 11 = .ok (.iconst 0, 1) := by decide +kernel
theorem dX3_readInto_12 : decode cX3_readInto 12 = .ok (.putfield 27, 3) := by decide +kernel
theorem dX3_readInto_15 : decode cX3_readInto 15 = .ok (.iconst 0, 1) := by decide +kernel
theorem dX3_readInto_16 : decode cX3_readInto 16 = .ok (.istore_n 2, 1) := by decide +kernel
theorem dX3_readInto_17 : decode cX3_readInto 17 = .ok (.iload_n 2, 1) := by decide +kernel
theorem dX3_readInto_18 : decode cX3_readInto 18 = .ok (.aload_n 0, 1) := by decide +kernel
theorem dX3_readInto_19 : decode cX3_readInto 19 = .ok (.getfield 15, 3) := by decide +kernel
theorem dX3_readInto_22 : decode cX3_readInto 22 = .ok (.if_icmp .ge 25, 3) := by decide +kernel
theorem dX3_readInto_25 : decode cX3_readInto 25 = .ok (.aload_n 0, 1) := by decide +kernel
theorem dX3_readInto_26 : decode cX3_readInto 26 = .ok (.aload_n 0, 1) := by decide +kernel
theorem dX3_readInto_27 : decode cX3_readInto 27 = .ok (.getfield 9, 3) := by decide +kernel
theorem dX3_readInto_30 : decode cX3_readInto 30 = .ok (.iload_n 2, 1) := by decide +kernel
theorem dX3_readInto_31 : decode cX3_readInto 31 = .ok (.iaload, 1) := by decide +kernel
theorem dX3_readInto_32 : decode cX3_readInto 32 = .ok (.aload_n 1, 1) := by decide +kernel
theorem dX3_readInto_33 : decode cX3_readInto 33 = .ok (.invokevirtual 30, 3) := by decide +kernel
theorem dX3_readInto_36 : decode cX3_readInto 36 = .ok (.ifCond .ne 5, 3) := by decide +kernel
theorem dX3_readInto_39 : decode cX3_readInto 39 = .ok (.iload_n 2, 1) := by decide +kernel
theorem dX3_readInto_40 : decode cX3_readInto 40 = .ok (.ireturn, 1) := by decide +kernel
theorem dX3_readInto_41 : decode cX3_readInto 41 = .ok (.iinc 2 1, 3) := by decide +kernel
theorem dX3_readInto_44 : decode cX3_readInto 44 = .ok (.goto (-27), 3) := by decide +kernel
theorem dX3_readInto_47 : decode cX3_readInto 47 = .ok (.aload_n 0, 1) := by decide +kernel
theorem dX3_readInto_48 : decode cX3_readInto 48 = .ok (.getfield 24, 3) := by decide +kernel
theorem dX3_readInto_51 : decode cX3_readInto 51 = .ok (.iconst 1, 1) := by decide +kernel
theorem dX3_readInto_52 : decode cX3_readInto 52 = .ok (.if_icmp .ge 10, 3) := by decide +kernel
theorem dX3_readInto_55 : decode cX3_readInto 55 = .ok (.aload_n 0, 1) := by decide +kernel
theorem dX3_readInto_56 : decode cX3_readInto 56 = .ok (.getfield 15, 3) := by decide +kernel
theorem dX3_readInto_59 : decode cX3_readInto 59 = .ok (.goto 5, 3) := by decide +kernel
theorem dX3_readInto_62 : decode cX3_readInto 62 = .ok (.bipush (-6), 2) := by decide +kernel
theorem dX3_readInto_64 : decode cX3_readInto 64 = .ok (.ireturn, 1) := by decide +kernel
theorem dX3_reads_0 : decode cX3_reads 0 = .ok (.aload_n 0, 1) := by decide +kernel
theorem dX3_reads_1 : decode cX3_reads 1 = .ok (.getfield 24, 3) := by decide +kernel
theorem dX3_reads_4 : decode cX3_reads 4 = .ok (.bipush (-2), 2) := by decide +kernel
theorem dX3_reads_6 : decode cX3_reads 6 = .ok (.if_icmp .ne 10, 3) := by decide +kernel
theorem dX3_reads_9 : decode cX3_reads 9 = .ok (.aload_n 0, 1) := by decide +kernel
theorem dX3_reads_10 : decode cX3_reads 10 = .ok (.iload_n 1, 1) := by decide +kernel
theorem dX3_reads_11 : decode cX3_reads 11 = .ok (.aload_n 2, 1) := by decide +kernel
theorem dX3_reads_12 : decode cX3_reads 12 = .ok (.invokevirtual 34, 3) := by decide +kernel
theorem dX3_reads_15 : decode cX3_reads 15 = .ok (.ireturn, 1) := by decide +kernel
theorem dX3_reads_16 : decode cX3_reads 16 = .ok (.aload_n 0, 1) := by decide +kernel
theorem dX3_reads_17 : decode cX3_reads 17 = .ok (.getfield 24, 3) := by decide +kernel
theorem dX3_reads_20 : decode cX3_reads 20 = .ok (.iconst (-1), 1) := by decide +kernel
theorem dX3_reads_21 : decode cX3_reads 21 = .ok (.if_icmp .ne 10, 3) := by decide +kernel
theorem dX3_reads_24 : decode cX3_reads 24 = .ok (.aload_n 0, 1) := by decide +kernel
theorem dX3_reads_25 : decode cX3_reads 25 = .ok (.iload_n 1, 1) := by decide +kernel
theorem dX3_reads_26 : decode cX3_reads 26 = .ok (.aload_n 2, 1) := by decide +kernel
theorem dX3_reads_27 : decode cX3_reads 27 = .ok (.invokevirtual 37, 3) := by decide +kernel
theorem dX3_reads_30 : decode cX3_reads 30 = .ok (.ireturn, 1) := by decide +kernel
theorem dX3_reads_31 : decode cX3_reads 31 = .ok (.iload_n 1, 1) := by decide +kernel
theorem dX3_reads_32 : decode cX3_reads 32 = .ok (.bipush 59, 2) := by decide +kernel
theorem dX3_reads_34 : decode cX3_reads 34 = .ok (.if_icmp .ne 9, 3) := by decide +kernel
theorem dX3_reads_37 : decode cX3_reads 37 = .ok (.aload_n 0, 1) := by decide +kernel
theorem dX3_reads_38 : decode cX3_reads 38 = .ok (.aload_n 2, 1) := by decide +kernel
theorem dX3_reads_39 : decode cX3_reads 39 = .ok (.invokevirtual 40, 3) := by decide +kernel
theorem dX3_reads_42 : decode cX3_reads 42 = .ok (.ireturn, 1) := by decide +kernel
theorem dX3_reads_43 : decode cX3_reads 43 = .ok (.aload_n 0, 1) := by decide +kernel
theorem dX3_reads_44 : decode cX3_reads 44 = .ok (.iload_n 1, 1) := by decide +kernel
theorem dX3_reads_45 : decode cX3_reads 45 = .ok (.aload_n 2, 1) := by decide +kernel
theorem dX3_reads_46 : decode cX3_reads 46 = .ok (.invokevirtual 44, 3) := by decide +kernel
theorem dX3_reads_49 : decode cX3_reads 49 = .ok (.ireturn, 1) := by decide +kernel
theorem dX3_readsStop_0 : decode cX3_readsStop 0 = .ok (.iload_n 1, 1) := by decide +kernel
theorem dX3_readsStop_1 : decode cX3_readsStop 1 = .ok (.invokestatic 47, 3) := by decide +kernel
theorem dX3_readsStop_4 : decode cX3_readsStop 4 = .ok (.ifCond .eq 15, 3) := by decide +kernel
theorem dX3_readsStop_7 : decode cX3_readsStop 7 = .ok (.aload_n 2, 1) := by decide +kernel
theorem dX3_readsStop_8 : decode cX3_readsStop 8 = .ok (.getfield 51, 3) := by decide +kernel
theorem dX3_readsStop_11 : decode cX3_readsStop 11 = .ok (.iload_n 1, 1) := by decide +kernel
theorem dX3_readsStop_12 : decode cX3_readsStop 12 = .ok (.bipush 48, 2) := by decide +kernel
theorem dX3_readsStop_14 : decode cX3_readsStop 14 = .ok (.isub, 1) := by decide +kernel
theorem dX3_readsStop_15 : decode cX3_readsStop 15 = .ok (.iaload, 1) := by decide +kernel
theorem dX3_readsStop_16 : decode cX3_readsStop 16 = .ok (.ifCond .eq 5, 3) := by decide +kernel
theorem dX3_readsStop_19 : decode cX3_readsStop 19 = .ok (.iconst 0, 1) := by decide +kernel
theorem dX3_readsStop_20 : decode cX3_readsStop 20 = .ok (.ireturn, 1) := by decide +kernel
theorem dX3_readsStop_21 : decode cX3_readsStop 21 = .ok (.aload_n 0, 1) := by decide +kernel
theorem dX3_readsStop_22 : decode cX3_readsStop 22 = .ok (.iload_n 1, 1) := by decide +kernel
theorem dX3_readsStop_23 : decode cX3_readsStop 23 = .ok (.bipush 48, 2) := by decide +kernel
theorem dX3_readsStop_25 : decode cX3_readsStop 25 = .ok (.isub, 1) := by decide +kernel
theorem dX3_readsStop_26 : decode cX3_readsStop 26 = .ok (.putfield 27, 3) := by decide +kernel
theorem dX3_readsStop_29 : decode cX3_readsStop 29 = .ok (.aload_n 0, 1) := by decide +kernel
theorem dX3_readsStop_30 : decode cX3_readsStop 30 = .ok (.iconst (-1), 1) := by decide +kernel
theorem dX3_readsStop_31 : decode cX3_readsStop 31 = .ok (.putfield 24, 3) := by decide +kernel
theorem dX3_readsStop_34 : decode cX3_readsStop 34 = .ok (.iconst 1, 1) := by decide +kernel
theorem dX3_readsStop_35 : decode cX3_readsStop 35 = .ok (.ireturn, 1) := by decide +kernel
theorem dX3_readsLetter_0 : decode cX3_readsLetter 0 = .ok (.iload_n 1, 1) := by decide +kernel
theorem dX3_readsLetter_1 : decode cX3_readsLetter 1 = .ok (.bipush 99, 2) := by decide +kernel
theorem dX3_readsLetter_3 : decode cX3_readsLetter 3 = .ok (.if_icmp .eq 11, 3) := by decide +kernel
theorem dX3_readsLetter_6 : decode cX3_readsLetter 6 = .ok (.iload_n 1, 1) := by decide +kernel
theorem dX3_readsLetter_7 : decode cX3_readsLetter 7 = .ok (.bipush 103, 2) := by decide +kernel
theorem dX3_readsLetter_9 : decode cX3_readsLetter 9 = .ok (.if_icmp .eq 5, 3) := by decide +kernel
theorem dX3_readsLetter_12 : decode cX3_readsLetter 12 = .ok (.iconst 0, 1) := by decide +kernel
theorem dX3_readsLetter_13 : decode cX3_readsLetter 13 = .ok (.ireturn, 1) := by decide +kernel
theorem dX3_readsLetter_14 : decode cX3_readsLetter 14 = .ok (.aload_n 2, 1) := by decide +kernel
theorem dX3_readsLetter_15 : decode cX3_readsLetter 15 = .ok (.getfield 51, 3) := by decide +kernel
theorem dX3_readsLetter_18 : decode cX3_readsLetter 18 = .ok (.aload_n 0, 1) := by decide +kernel
theorem dX3_readsLetter_19 : decode cX3_readsLetter 19 = .ok (.getfield 27, 3) := by decide +kernel
theorem dX3_readsLetter_22 : decode cX3_readsLetter 22 = .ok (.iload_n 1, 1) := by decide +kernel
theorem dX3_readsLetter_23 : decode cX3_readsLetter 23 = .ok (.iastore, 1) := by decide +kernel
theorem dX3_readsLetter_24 : decode cX3_readsLetter 24 = .ok (.aload_n 2, 1) := by decide +kernel
theorem dX3_readsLetter_25 : decode cX3_readsLetter 25 = .ok (.dup, 1) := by decide +kernel
theorem dX3_readsLetter_26 : decode cX3_readsLetter 26 = .ok (.getfield 54, 3) := by decide +kernel
theorem dX3_readsLetter_29 : decode cX3_readsLetter 29 = .ok (.iconst 1, 1) := by decide +kernel
theorem dX3_readsLetter_30 : decode cX3_readsLetter 30 = .ok (.iadd, 1) := by decide +kernel
theorem dX3_readsLetter_31 : decode cX3_readsLetter 31 = .ok (.putfield 54, 3) := by decide +kernel
theorem dX3_readsLetter_34 : decode cX3_readsLetter 34 = .ok (.aload_n 0, 1) := by decide +kernel
theorem dX3_readsLetter_35 : decode cX3_readsLetter 35 = .ok (.iconst 0, 1) := by decide +kernel
theorem dX3_readsLetter_36 : decode cX3_readsLetter 36 = .ok (.putfield 24, 3) := by decide +kernel
theorem dX3_readsLetter_39 : decode cX3_readsLetter 39 = .ok (.iconst 1, 1) := by decide +kernel
theorem dX3_readsLetter_40 : decode cX3_readsLetter 40 = .ok (.ireturn, 1) := by decide +kernel
theorem dX3_readsDigit_0 : decode cX3_readsDigit 0 = .ok (.iload_n 1, 1) := by decide +kernel
theorem dX3_readsDigit_1 : decode cX3_readsDigit 1 = .ok (.invokestatic 47, 3) := by decide +kernel
theorem dX3_readsDigit_4 : decode cX3_readsDigit 4 = .ok (.ifCond .eq 11, 3) := by decide +kernel
theorem dX3_readsDigit_7 : decode cX3_readsDigit 7 = .ok (.aload_n 0, 1) := by decide +kernel
theorem dX3_readsDigit_8 : decode cX3_readsDigit 8 = .ok (.getfield 24, 3) := by decide +kernel
theorem dX3_readsDigit_11 : decode cX3_readsDigit 11 = .ok (.iconst 3, 1) := by decide +kernel
theorem dX3_readsDigit_12 : decode cX3_readsDigit 12 = .ok (.if_icmp .lt 5, 3) := by decide +kernel
theorem dX3_readsDigit_15 : decode cX3_readsDigit 15 = .ok (.iconst 0, 1) := by decide +kernel
theorem dX3_readsDigit_16 : decode cX3_readsDigit 16 = .ok (.ireturn, 1) := by decide +kernel
theorem dX3_readsDigit_17 : decode cX3_readsDigit 17 = .ok (.aload_n 2, 1) := by decide +kernel
theorem dX3_readsDigit_18 : decode cX3_readsDigit 18 = .ok (.getfield 57, 3) := by decide +kernel
theorem dX3_readsDigit_21 : decode cX3_readsDigit 21 = .ok (.aload_n 0, 1) := by decide +kernel
theorem dX3_readsDigit_22 : decode cX3_readsDigit 22 = .ok (.getfield 27, 3) := by decide +kernel
theorem dX3_readsDigit_25 : decode cX3_readsDigit 25 = .ok (.aload_n 2, 1) := by decide +kernel
theorem dX3_readsDigit_26 : decode cX3_readsDigit 26 = .ok (.getfield 57, 3) := by decide +kernel
theorem dX3_readsDigit_29 : decode cX3_readsDigit 29 = .ok (.aload_n 0, 1) := by decide +kernel
theorem dX3_readsDigit_30 : decode cX3_readsDigit 30 = .ok (.getfield 27, 3) := by decide +kernel
theorem dX3_readsDigit_33 : decode cX3_readsDigit 33 = .ok (.iaload, 1) := by decide +kernel
theorem dX3_readsDigit_34 : decode cX3_readsDigit 34 = .ok (.bipush 10, 2) := by decide +kernel
theorem dX3_readsDigit_36 : decode cX3_readsDigit 36 = .ok (.imul, 1) := by decide +kernel
theorem dX3_readsDigit_37 : decode cX3_readsDigit 37 = .ok (.iload_n 1, 1) := by decide +kernel
theorem dX3_readsDigit_38 : decode cX3_readsDigit 38 = .ok (.iadd, 1) := by decide +kernel
theorem dX3_readsDigit_39 : decode cX3_readsDigit 39 = .ok (.bipush 48, 2) := by decide +kernel
theorem dX3_readsDigit_41 : decode cX3_readsDigit 41 = .ok (.isub, 1) := by decide +kernel
theorem dX3_readsDigit_42 : decode cX3_readsDigit 42 = .ok (.iastore, 1) := by decide +kernel
theorem dX3_readsDigit_43 : decode cX3_readsDigit 43 = .ok (.aload_n 0, 1) := by decide +kernel
theorem dX3_readsDigit_44 : decode cX3_readsDigit 44 = .ok (.dup, 1) := by decide +kernel
theorem dX3_readsDigit_45 : decode cX3_readsDigit 45 = .ok (.getfield 24, 3) := by decide +kernel
theorem dX3_readsDigit_48 : decode cX3_readsDigit 48 = .ok (.iconst 1, 1) := by decide +kernel
theorem dX3_readsDigit_49 : decode cX3_readsDigit 49 = .ok (.iadd, 1) := by decide +kernel
theorem dX3_readsDigit_50 : decode cX3_readsDigit 50 = .ok (.putfield 24, 3) := by decide +kernel
theorem dX3_readsDigit_53 : decode cX3_readsDigit 53 = .ok (.iconst 1, 1) := by decide +kernel
theorem dX3_readsDigit_54 : decode cX3_readsDigit 54 = .ok (.ireturn, 1) := by decide +kernel
theorem dX3_readsBetween_0 : decode cX3_readsBetween 0 = .ok (.aload_n 0, 1) := by decide +kernel
theorem dX3_readsBetween_1 : decode cX3_readsBetween 1 = .ok (.getfield 24, 3) := by decide +kernel
theorem dX3_readsBetween_4 : decode cX3_readsBetween 4 = .ok (.iconst 1, 1) := by decide +kernel
theorem dX3_readsBetween_5 : decode cX3_readsBetween 5 = .ok (.if_icmp .lt 12, 3) := by decide +kernel
theorem dX3_readsBetween_8 : decode cX3_readsBetween 8 = .ok (.aload_n 1, 1) := by decide +kernel
theorem dX3_readsBetween_9 : decode cX3_readsBetween 9 = .ok (.getfield 54, 3) := by decide +kernel
theorem dX3_readsBetween_12 : decode cX3_readsBetween 12 = .ok (.bipush 10, 2) := by decide +kernel
theorem dX3_readsBetween_14 : decode cX3_readsBetween 14 = .ok (.if_icmp .lt 5, 3) := by decide +kernel
theorem dX3_readsBetween_17 : decode cX3_readsBetween 17 = .ok (.iconst 0, 1) := by decide +kernel
theorem dX3_readsBetween_18 : decode cX3_readsBetween 18 = .ok (.ireturn, 1) := by decide +kernel
theorem dX3_readsBetween_19 : decode cX3_readsBetween 19 = .ok (.aload_n 0, 1) := by decide +kernel
theorem dX3_readsBetween_20 : decode cX3_readsBetween 20 = .ok (.bipush (-2), 2) := by decide +kernel
theorem dX3_readsBetween_22 : decode cX3_readsBetween 22 = .ok (.putfield 24, 3) := by decide +kernel
theorem dX3_readsBetween_25 : decode cX3_readsBetween 25 = .ok (.iconst 1, 1) := by decide +kernel
theorem dX3_readsBetween_26 : decode cX3_readsBetween 26 = .ok (.ireturn, 1) := by decide +kernel
theorem dX3_isDigit_0 : decode cX3_isDigit 0 = .ok (.iload_n 0, 1) := by decide +kernel
theorem dX3_isDigit_1 : decode cX3_isDigit 1 = .ok (.bipush 48, 2) := by decide +kernel
theorem dX3_isDigit_3 : decode cX3_isDigit 3 = .ok (.if_icmp .lt 13, 3) := by decide +kernel
theorem dX3_isDigit_6 : decode cX3_isDigit 6 = .ok (.iload_n 0, 1) := by decide +kernel
theorem dX3_isDigit_7 : decode cX3_isDigit 7 = .ok (.bipush 57, 2) := by decide +kernel
theorem dX3_isDigit_9 : decode cX3_isDigit 9 = .ok (.if_icmp .gt 7, 3) := by decide +kernel
theorem dX3_isDigit_12 : decode cX3_isDigit 12 = .ok (.iconst 1, 1) := by decide +kernel
theorem dX3_isDigit_13 : decode cX3_isDigit 13 = .ok (.goto 4, 3) := by decide +kernel
theorem dX3_isDigit_16 : decode cX3_isDigit 16 = .ok (.iconst 0, 1) := by decide +kernel
theorem dX3_isDigit_17 : decode cX3_isDigit 17 = .ok (.ireturn, 1) := by decide +kernel
theorem dX4_init_0 : decode cX4_init 0 = .ok (.aload_n 0, 1) := by decide +kernel
theorem dX4_init_1 : decode cX4_init 1 = .ok (.invokespecial 1, 3) := by decide +kernel
theorem dX4_init_4 : decode cX4_init 4 = .ok (.aload_n 0, 1) := by decide +kernel
theorem dX4_init_5 : decode cX4_init 5 = .ok (.new 7, 3) := by decide +kernel
theorem dX4_init_8 : decode cX4_init 8 = .ok (.dup, 1) := by decide +kernel
theorem dX4_init_9 : decode cX4_init 9 = .ok (.invokespecial 9, 3) := by decide +kernel
theorem dX4_init_12 : decode cX4_init 12 = .ok (.putfield 10, 3) := by decide +kernel
theorem dX4_init_15 : decode cX4_init 15 = .ok (.aload_n 0, 1) := by decide +kernel
theorem dX4_init_16 : decode cX4_init 16 = .ok (.new 16, 3) := by decide +kernel
theorem dX4_init_19 : decode cX4_init 19 = .ok (.dup, 1) := by decide +kernel
theorem dX4_init_20 : decode cX4_init 20 = .ok (.invokespecial 18, 3) := by decide +kernel
theorem dX4_init_23 : decode cX4_init 23 = .ok (.putfield 19, 3) := by decide +kernel
theorem dX4_init_26 : decode cX4_init 26 = .ok (.aload_n 0, 1) := by decide +kernel
theorem dX4_init_27 : decode cX4_init 27 = .ok (.new 23, 3) := by decide +kernel
theorem dX4_init_30 : decode cX4_init 30 = .ok (.dup, 1) := by decide +kernel
theorem dX4_init_31 : decode cX4_init 31 = .ok (.invokespecial 25, 3) := by decide +kernel
theorem dX4_init_34 : decode cX4_init 34 = .ok (.putfield 26, 3) := by decide +kernel
theorem dX4_init_37 : decode cX4_init 37 = .ok (.aload_n 0, 1) := by decide +kernel
theorem dX4_init_38 : decode cX4_init 38 = .ok (.new 23, 3) := by decide +kernel
theorem dX4_init_41 : decode cX4_init 41 = .ok (.dup, 1) := by decide +kernel
theorem dX4_init_42 : decode cX4_init 42 = .ok (.invokespecial 25, 3) := by decide +kernel
theorem dX4_init_45 : decode cX4_init 45 = .ok (.putfield 30, 3) := by decide +kernel
theorem dX4_init_48 : decode cX4_init 48 = .ok (.aload_n 0, 1) := by decide +kernel
theorem dX4_init_49 : decode cX4_init 49 = .ok (.new 33, 3) := by decide +kernel
theorem dX4_init_52 : decode cX4_init 52 = .ok (.dup, 1) := by decide +kernel
theorem dX4_init_53 : decode cX4_init 53 = .ok (.invokespecial 35, 3) := by decide +kernel
theorem dX4_init_56 : decode cX4_init 56 = .ok (.putfield 36, 3) := by decide +kernel
theorem dX4_init_59 : decode cX4_init 59 = .ok (.aload_n 0, 1) := by decide +kernel
theorem dX4_init_60 : decode cX4_init 60 = .ok (.new 33, 3) := by decide +kernel
theorem dX4_init_63 : decode cX4_init 63 = .ok (.dup, 1) := by decide +kernel
theorem dX4_init_64 : decode cX4_init 64 = .ok (.invokespecial 35, 3) := by decide +kernel
theorem dX4_init_67 : decode cX4_init 67 = .ok (.putfield 40, 3) := by decide +kernel
theorem dX4_init_70 : decode cX4_init 70 = .ok (.return_, 1) := by decide +kernel
theorem dX4_stop_0 : decode cX4_stop 0 = .ok (.iload_n 1, 1) := by decide +kernel
theorem dX4_stop_1 : decode cX4_stop 1 = .ok (.invokestatic 43, 3) := by decide +kernel
theorem dX4_stop_4 : decode cX4_stop 4 = .ok (.ifCond .ne 5, 3) := by decide +kernel
theorem dX4_stop_7 : decode cX4_stop 7 = .ok (.iconst (-1), 1) := by decide +kernel
theorem dX4_stop_8 : decode cX4_stop 8 = .ok (.ireturn, 1) := by decide +kernel
theorem dX4_stop_9 : decode cX4_stop 9 = .ok (.iload_n 2, 1) := by decide +kernel
theorem dX4_stop_10 : decode cX4_stop 10 = .ok (.iload_n 3, 1) := by decide +kernel
theorem dX4_stop_11 : decode cX4_stop 11 = .ok (.invokestatic 47, 3) := by decide +kernel
theorem dX4_stop_14 : decode cX4_stop 14 = .ok (.ifCond .ne 6, 3) := by decide +kernel
theorem dX4_stop_17 : decode cX4_stop 17 = .ok (.bipush (-2), 2) := by decide +kernel
theorem dX4_stop_19 : decode cX4_stop 19 = .ok (.ireturn, 1) := by decide +kernel
theorem dX4_stop_20 : decode cX4_stop 20 = .ok (.aload_n 0, 1) := by decide +kernel
theorem dX4_stop_21 : decode cX4_stop 21 = .ok (.invokevirtual 51, 3) := by decide +kernel
theorem dX4_stop_24 : decode cX4_stop 24 = .ok (.aload_n 0, 1) := by decide +kernel
theorem dX4_stop_25 : decode cX4_stop 25 = .ok (.getfield 10, 3) := by decide +kernel
theorem dX4_stop_28 : decode cX4_stop 28 = .ok (.iload_n 1, 1) := by decide +kernel
theorem dX4_stop_29 : decode cX4_stop 29 = .ok (.iload_n 2, 1) := by decide +kernel
theorem dX4_stop_30 : decode cX4_stop 30 = .ok (.iload_n 3, 1) := by decide +kernel
theorem dX4_stop_31 : decode cX4_stop 31 = .ok (.invokevirtual 54, 3) := by decide +kernel
theorem dX4_stop_34 : decode cX4_stop 34 = .ok (.ireturn, 1) := by decide +kernel
theorem dX4_bus_0 : decode cX4_bus 0 = .ok (.iload_n 1, 1) := by decide +kernel
theorem dX4_bus_1 : decode cX4_bus 1 = .ok (.aload_n 0, 1) := by decide +kernel
theorem dX4_bus_2 : decode cX4_bus 2 = .ok (.getfield 10, 3) := by decide +kernel
theorem dX4_bus_5 : decode cX4_bus 5 = .ok (.invokevirtual 58, 3) := by decide +kernel
end
section
theorem dX4_bus_8 : decode cX4_bus 8 = .ok (.if_icmp .lt 10, 3) := by decide +kernel
theorem dX4_bus_11 : decode cX4_bus 11 = .ok (.iload_n 1, 1) := by decide +kernel
theorem dX4_bus_12 : decode cX4_bus 12 = .ok (.sipush 7200, 3) := by decide +kernel
theorem dX4_bus_15 : decode cX4_bus 15 = .ok (.if_icmp .le 6, 3) := by decide +kernel
theorem dX4_bus_18 : decode cX4_bus 18 = .ok (.bipush (-2), 2) := by decide +kernel
theorem dX4_bus_20 : decode cX4_bus 20 = .ok (.ireturn, 1) := by decide +kernel
theorem dX4_bus_21 : decode cX4_bus 21 = .ok (.iload_n 2, 1) := by decide +kernel
theorem dX4_bus_22 : decode cX4_bus 22 = .ok (.iconst 1, 1) := by decide +kernel
theorem dX4_bus_23 : decode cX4_bus 23 = .ok (.if_icmp .lt 9, 3) := by decide +kernel
theorem dX4_bus_26 : decode cX4_bus 26 = .ok (.iload_n 2, 1) := by decide +kernel
theorem dX4_bus_27 : decode cX4_bus 27 = .ok (.bipush 80, 2) := by decide +kernel
theorem dX4_bus_29 : decode cX4_bus 29 = .ok (.if_icmp .le 6, 3) := by decide +kernel
theorem dX4_bus_32 : decode cX4_bus 32 = .ok (.bipush (-2), 2) := by decide +kernel
theorem dX4_bus_34 : decode cX4_bus 34 = .ok (.ireturn, 1) := by decide +kernel
theorem dX4_bus_35 : decode cX4_bus 35 = .ok (.aload_n 0, 1) := by decide +kernel
theorem dX4_bus_36 : decode cX4_bus 36 = .ok (.getfield 10, 3) := by decide +kernel
theorem dX4_bus_39 : decode cX4_bus 39 = .ok (.getfield 62, 3) := by decide +kernel
theorem dX4_bus_42 : decode cX4_bus 42 = .ok (.bipush 8, 2) := by decide +kernel
theorem dX4_bus_44 : decode cX4_bus 44 = .ok (.if_icmp .lt 6, 3) := by decide +kernel
theorem dX4_bus_47 : decode cX4_bus 47 = .ok (.bipush (-4), 2) := by decide +kernel
theorem dX4_bus_49 : decode cX4_bus 49 = .ok (.ireturn, 1) := by decide +kernel
theorem dX4_bus_50 : decode cX4_bus 50 = .ok (.aload_n 0, 1) := by decide +kernel
theorem dX4_bus_51 : decode cX4_bus 51 = .ok (.invokevirtual 51, 3) := by decide +kernel
theorem dX4_bus_54 : decode cX4_bus 54 = .ok (.aload_n 0, 1) := by decide +kernel
theorem dX4_bus_55 : decode cX4_bus 55 = .ok (.getfield 10, 3) := by decide +kernel
theorem dX4_bus_58 : decode cX4_bus 58 = .ok (.iload_n 1, 1) := by decide +kernel
theorem dX4_bus_59 : decode cX4_bus 59 = .ok (.iload_n 2, 1) := by decide +kernel
theorem dX4_bus_60 : decode cX4_bus 60 = .ok (.invokevirtual 66, 3) := by decide +kernel
theorem dX4_bus_63 : decode cX4_bus 63 = .ok (.ireturn, 1) := by decide +kernel
theorem dX4_set_0 : decode cX4_set 0 = .ok (.iload_n 1, 1) := by decide +kernel
theorem dX4_set_1 : decode cX4_set 1 = .ok (.ifCond .lt 21, 3) := by decide +kernel
theorem dX4_set_4 : decode cX4_set 4 = .ok (.iload_n 1, 1) := by decide +kernel
theorem dX4_set_5 : decode cX4_set 5 = .ok (.iconst 5, 1) := by decide +kernel
theorem dX4_set_6 : decode cX4_set 6 = .ok (.if_icmp .ge 16, 3) := by decide +kernel
theorem dX4_set_9 : decode cX4_set 9 = .ok (.iload_n 2, 1) := by decide +kernel
theorem dX4_set_10 : decode cX4_set 10 = .ok (.ifCond .lt 12, 3) := by decide +kernel
theorem dX4_set_13 : decode cX4_set 13 = .ok (.iload_n 2, 1) := by decide +kernel
theorem dX4_set_14 : decode cX4_set 14 = .ok (.getstatic 70, 3) := by decide +kernel
theorem dX4_set_17 : decode cX4_set 17 = .ok (.iload_n 1, 1) := by decide +kernel
theorem dX4_set_18 : decode cX4_set 18 = .ok (.iaload, 1) := by decide +kernel
theorem dX4_set_19 : decode cX4_set 19 = .ok (.if_icmp .le 6, 3) := by decide +kernel
theorem dX4_set_22 : decode cX4_set 22 = .ok (.bipush (-2), 2) := by decide +kernel
theorem dX4_set_24 : decode cX4_set 24 = .ok (.ireturn, 1) := by decide +kernel
theorem dX4_set_25 : decode cX4_set 25 = .ok (.aload_n 0, 1) := by decide +kernel
theorem dX4_set_26 : decode cX4_set 26 = .ok (.invokevirtual 51, 3) := by decide +kernel
theorem dX4_set_29 : decode cX4_set 29 = .ok (.aload_n 0, 1) := by decide +kernel
theorem dX4_set_30 : decode cX4_set 30 = .ok (.getfield 10, 3) := by decide +kernel
theorem dX4_set_33 : decode cX4_set 33 = .ok (.getfield 74, 3) := by decide +kernel
theorem dX4_set_36 : decode cX4_set 36 = .ok (.iload_n 1, 1) := by decide +kernel
theorem dX4_set_37 : decode cX4_set 37 = .ok (.iaload, 1) := by decide +kernel
theorem dX4_set_38 : decode cX4_set 38 = .ok (.istore_n 3, 1) := by decide +kernel
theorem dX4_set_39 : decode cX4_set 39 = .ok (.aload_n 0, 1) := by decide +kernel
theorem dX4_set_40 : decode cX4_set 40 = .ok (.getfield 10, 3) := by decide +kernel
theorem dX4_set_43 : decode cX4_set 43 = .ok (.getfield 74, 3) := by decide +kernel
theorem dX4_set_46 : decode cX4_set 46 = .ok (.iload_n 1, 1) := by decide +kernel
theorem dX4_set_47 : decode cX4_set 47 = .ok (.iload_n 2, 1) := by decide +kernel
theorem dX4_set_48 : decode cX4_set 48 = .ok (.iastore, 1) := by decide +kernel
theorem dX4_set_49 : decode cX4_set 49 = .ok (.iload_n 3, 1) := by decide +kernel
theorem dX4_set_50 : decode cX4_set 50 = .ok (.ireturn, 1) := by decide +kernel
theorem dX4_late_0 : decode cX4_late 0 = .ok (.aload_n 0, 1) := by decide +kernel
theorem dX4_late_1 : decode cX4_late 1 = .ok (.getfield 10, 3) := by decide +kernel
theorem dX4_late_4 : decode cX4_late 4 = .ok (.iload_n 1, 1) := by decide +kernel
theorem dX4_late_5 : decode cX4_late 5 = .ok (.invokevirtual 77, 3) := by decide +kernel
theorem dX4_late_8 : decode cX4_late 8 = .ok (.ifCond .eq 10, 3) := by decide +kernel
theorem dX4_late_11 : decode cX4_late 11 = .ok (.iload_n 2, 1) := by decide +kernel
theorem dX4_late_12 : decode cX4_late 12 = .ok (.invokestatic 43, 3) := by decide +kernel
theorem dX4_late_15 : decode cX4_late 15 = .ok (.ifCond .ne 5, 3) := by decide +kernel
theorem dX4_late_18 : decode cX4_late 18 = .ok (.iconst (-1), 1) := by decide +kernel
theorem dX4_late_19 : decode cX4_late 19 = .ok (.ireturn, 1) := by decide +kernel
theorem dX4_late_20 : decode cX4_late 20 = .ok (.iload_n 3, 1) := by decide +kernel
theorem dX4_late_21 : decode cX4_late 21 = .ok (.iconst 1, 1) := by decide +kernel
theorem dX4_late_22 : decode cX4_late 22 = .ok (.if_icmp .lt 10, 3) := by decide +kernel
theorem dX4_late_25 : decode cX4_late 25 = .ok (.iload_n 3, 1) := by decide +kernel
theorem dX4_late_26 : decode cX4_late 26 = .ok (.sipush 900, 3) := by decide +kernel
theorem dX4_late_29 : decode cX4_late 29 = .ok (.if_icmp .le 6, 3) := by decide +kernel
theorem dX4_late_32 : decode cX4_late 32 = .ok (.bipush (-2), 2) := by decide +kernel
theorem dX4_late_34 : decode cX4_late 34 = .ok (.ireturn, 1) := by decide +kernel
theorem dX4_late_35 : decode cX4_late 35 = .ok (.aload_n 0, 1) := by decide +kernel
theorem dX4_late_36 : decode cX4_late 36 = .ok (.getfield 10, 3) := by decide +kernel
theorem dX4_late_39 : decode cX4_late 39 = .ok (.getfield 80, 3) := by decide +kernel
theorem dX4_late_42 : decode cX4_late 42 = .ok (.bipush 10, 2) := by decide +kernel
theorem dX4_late_44 : decode cX4_late 44 = .ok (.if_icmp .lt 6, 3) := by decide +kernel
theorem dX4_late_47 : decode cX4_late 47 = .ok (.bipush (-4), 2) := by decide +kernel
theorem dX4_late_49 : decode cX4_late 49 = .ok (.ireturn, 1) := by decide +kernel
theorem dX4_late_50 : decode cX4_late 50 = .ok (.aload_n 0, 1) := by decide +kernel
theorem dX4_late_51 : decode cX4_late 51 = .ok (.invokevirtual 51, 3) := by decide +kernel
theorem dX4_late_54 : decode cX4_late 54 = .ok (.aload_n 0, 1) := by decide +kernel
theorem dX4_late_55 : decode cX4_late 55 = .ok (.getfield 10, 3) := by decide +kernel
theorem dX4_late_58 : decode cX4_late 58 = .ok (.iload_n 1, 1) := by decide +kernel
theorem dX4_late_59 : decode cX4_late 59 = .ok (.iload_n 2, 1) := by decide +kernel
theorem dX4_late_60 : decode cX4_late 60 = .ok (.iload_n 3, 1) := by decide +kernel
theorem dX4_late_61 : decode cX4_late 61 = .ok (.invokevirtual 83, 3) := by decide +kernel
theorem dX4_late_64 : decode cX4_late 64 = .ok (.ireturn, 1) := by decide +kernel
theorem dX4_mend_0 : decode cX4_mend 0 = .ok (.aload_n 0, 1) := by decide +kernel
theorem dX4_mend_1 : decode cX4_mend 1 = .ok (.getfield 10, 3) := by decide +kernel
theorem dX4_mend_4 : decode cX4_mend 4 = .ok (.getfield 80, 3) := by decide +kernel
theorem dX4_mend_7 : decode cX4_mend 7 = .ok (.iconst 1, 1) := by decide +kernel
theorem dX4_mend_8 : decode cX4_mend 8 = .ok (.if_icmp .ge 6, 3) := by decide +kernel
theorem dX4_mend_11 : decode cX4_mend 11 = .ok (.bipush (-5), 2) := by decide +kernel
theorem dX4_mend_13 : decode cX4_mend 13 = .ok (.ireturn, 1) := by decide +kernel
theorem dX4_mend_14 : decode cX4_mend 14 = .ok (.aload_n 0, 1) := by decide +kernel
theorem dX4_mend_15 : decode cX4_mend 15 = .ok (.invokevirtual 51, 3) := by decide +kernel
theorem dX4_mend_18 : decode cX4_mend 18 = .ok (.aload_n 0, 1) := by decide +kernel
theorem dX4_mend_19 : decode cX4_mend 19 = .ok (.getfield 10, 3) := by decide +kernel
theorem dX4_mend_22 : decode cX4_mend 22 = .ok (.dup, 1) := by decide +kernel
theorem dX4_mend_23 : decode cX4_mend 23 = .ok (.getfield 80, 3) := by decide +kernel
theorem dX4_mend_26 : decode cX4_mend 26 = .ok (.iconst 1, 1) := by decide +kernel
theorem dX4_mend_27 : decode cX4_mend 27 = .ok (.isub, 1) := by decide +kernel
theorem dX4_mend_28 : decode cX4_mend 28 = .ok (.putfield 80, 3) := by decide +kernel
theorem dX4_mend_31 : decode cX4_mend 31 = .ok (.aload_n 0, 1) := by decide +kernel
theorem dX4_mend_32 : decode cX4_mend 32 = .ok (.getfield 10, 3) := by decide +kernel
theorem dX4_mend_35 : decode cX4_mend 35 = .ok (.getfield 80, 3) := by decide +kernel
theorem dX4_mend_38 : decode cX4_mend 38 = .ok (.ireturn, 1) := by decide +kernel
theorem dX4_turn_0 : decode cX4_turn 0 = .ok (.aload_n 0, 1) := by decide +kernel
theorem dX4_turn_1 : decode cX4_turn 1 = .ok (.getfield 10, 3) := by decide +kernel
theorem dX4_turn_4 : decode cX4_turn 4 = .ok (.iload_n 1, 1) := by decide +kernel
theorem dX4_turn_5 : decode cX4_turn 5 = .ok (.invokevirtual 77, 3) := by decide +kernel
theorem dX4_turn_8 : decode cX4_turn 8 = .ok (.ifCond .ne 5, 3) := by decide +kernel
theorem dX4_turn_11 : decode cX4_turn 11 = .ok (.iconst (-1), 1) := by decide +kernel
theorem dX4_turn_12 : decode cX4_turn 12 = .ok (.ireturn, 1) := by decide +kernel
theorem dX4_turn_13 : decode cX4_turn 13 = .ok (.iload_n 2, 1) := by decide +kernel
theorem dX4_turn_14 : decode cX4_turn 14 = .ok (.iconst 1, 1) := by decide +kernel
theorem dX4_turn_15 : decode cX4_turn 15 = .ok (.if_icmp .lt 9, 3) := by decide +kernel
theorem dX4_turn_18 : decode cX4_turn 18 = .ok (.iload_n 2, 1) := by decide +kernel
theorem dX4_turn_19 : decode cX4_turn 19 = .ok (.bipush 9, 2) := by decide +kernel
theorem dX4_turn_21 : decode cX4_turn 21 = .ok (.if_icmp .le 6, 3) := by decide +kernel
theorem dX4_turn_24 : decode cX4_turn 24 = .ok (.bipush (-2), 2) := by decide +kernel
theorem dX4_turn_26 : decode cX4_turn 26 = .ok (.ireturn, 1) := by decide +kernel
theorem dX4_turn_27 : decode cX4_turn 27 = .ok (.aload_n 0, 1) := by decide +kernel
theorem dX4_turn_28 : decode cX4_turn 28 = .ok (.invokevirtual 51, 3) := by decide +kernel
theorem dX4_turn_31 : decode cX4_turn 31 = .ok (.aload_n 0, 1) := by decide +kernel
theorem dX4_turn_32 : decode cX4_turn 32 = .ok (.getfield 10, 3) := by decide +kernel
theorem dX4_turn_35 : decode cX4_turn 35 = .ok (.getfield 86, 3) := by decide +kernel
theorem dX4_turn_38 : decode cX4_turn 38 = .ok (.iload_n 1, 1) := by decide +kernel
theorem dX4_turn_39 : decode cX4_turn 39 = .ok (.iaload, 1) := by decide +kernel
theorem dX4_turn_40 : decode cX4_turn 40 = .ok (.istore_n 3, 1) := by decide +kernel
theorem dX4_turn_41 : decode cX4_turn 41 = .ok (.aload_n 0, 1) := by decide +kernel
theorem dX4_turn_42 : decode cX4_turn 42 = .ok (.getfield 10, 3) := by decide +kernel
theorem dX4_turn_45 : decode cX4_turn 45 = .ok (.getfield 86, 3) := by decide +kernel
theorem dX4_turn_48 : decode cX4_turn 48 = .ok (.iload_n 1, 1) := by decide +kernel
theorem dX4_turn_49 : decode cX4_turn 49 = .ok (.iload_n 2, 1) := by decide +kernel
theorem dX4_turn_50 : decode cX4_turn 50 = .ok (.iastore, 1) := by decide +kernel
theorem dX4_turn_51 : decode cX4_turn 51 = .ok (.iload_n 3, 1) := by decide +kernel
theorem dX4_turn_52 : decode cX4_turn 52 = .ok (.ireturn, 1) := by decide +kernel
theorem dX4_at_0 : decode cX4_at 0 = .ok (.aload_n 0, 1) := by decide +kernel
theorem dX4_at_1 : decode cX4_at 1 = .ok (.getfield 10, 3) := by decide +kernel
theorem dX4_at_4 : decode cX4_at 4 = .ok (.iload_n 1, 1) := by decide +kernel
theorem dX4_at_5 : decode cX4_at 5 = .ok (.invokevirtual 77, 3) := by decide +kernel
theorem dX4_at_8 : decode cX4_at 8 = .ok (.ifCond .eq 10, 3) := by decide +kernel
theorem dX4_at_11 : decode cX4_at 11 = .ok (.iload_n 2, 1) := by decide +kernel
theorem dX4_at_12 : decode cX4_at 12 = .ok (.invokestatic 89, 3) := by decide +kernel
theorem dX4_at_15 : decode cX4_at 15 = .ok (.ifCond .ne 5, 3) := by decide +kernel
theorem dX4_at_18 : decode cX4_at 18 = .ok (.iconst (-1), 1) := by decide +kernel
theorem dX4_at_19 : decode cX4_at 19 = .ok (.ireturn, 1) := by decide +kernel
theorem dX4_at_20 : decode cX4_at 20 = .ok (.iload_n 3, 1) := by decide +kernel
theorem dX4_at_21 : decode cX4_at 21 = .ok (.ifCond .lt 8, 3) := by decide +kernel
theorem dX4_at_24 : decode cX4_at 24 = .ok (.iload_n 3, 1) := by decide +kernel
theorem dX4_at_25 : decode cX4_at 25 = .ok (.iconst 5, 1) := by decide +kernel
theorem dX4_at_26 : decode cX4_at 26 = .ok (.if_icmp .le 6, 3) := by decide +kernel
theorem dX4_at_29 : decode cX4_at 29 = .ok (.bipush (-2), 2) := by decide +kernel
theorem dX4_at_31 : decode cX4_at 31 = .ok (.ireturn, 1) := by decide +kernel
theorem dX4_at_32 : decode cX4_at 32 = .ok (.aload_n 0, 1) := by decide +kernel
theorem dX4_at_33 : decode cX4_at 33 = .ok (.getfield 10, 3) := by decide +kernel
theorem dX4_at_36 : decode cX4_at 36 = .ok (.iload_n 1, 1) := by decide +kernel
theorem dX4_at_37 : decode cX4_at 37 = .ok (.iload_n 2, 1) := by decide +kernel
theorem dX4_at_38 : decode cX4_at 38 = .ok (.invokevirtual 92, 3) := by decide +kernel
theorem dX4_at_41 : decode cX4_at 41 = .ok (.ifCond .ne 6, 3) := by decide +kernel
theorem dX4_at_44 : decode cX4_at 44 = .ok (.bipush (-6), 2) := by decide +kernel
theorem dX4_at_46 : decode cX4_at 46 = .ok (.ireturn, 1) := by decide +kernel
theorem dX4_at_47 : decode cX4_at 47 = .ok (.aload_n 0, 1) := by decide +kernel
theorem dX4_at_48 : decode cX4_at 48 = .ok (.invokevirtual 95, 3) := by decide +kernel
theorem dX4_at_51 : decode cX4_at 51 = .ok (.iload_n 1, 1) := by decide +kernel
theorem dX4_at_52 : decode cX4_at 52 = .ok (.iload_n 2, 1) := by decide +kernel
theorem dX4_at_53 : decode cX4_at 53 = .ok (.invokestatic 99, 3) := by decide +kernel
theorem dX4_at_56 : decode cX4_at 56 = .ok (.iload_n 3, 1) := by decide +kernel
theorem dX4_at_57 : decode cX4_at 57 = .ok (.invokevirtual 102, 3) := by decide +kernel
theorem dX4_at_60 : decode cX4_at 60 = .ok (.ireturn, 1) := by decide +kernel
theorem dX4_say_0 : decode cX4_say 0 = .ok (.iload_n 1, 1) := by decide +kernel
theorem dX4_say_1 : decode cX4_say 1 = .ok (.bipush 33, 2) := by decide +kernel
theorem dX4_say_3 : decode cX4_say 3 = .ok (.if_icmp .lt 9, 3) := by decide +kernel
theorem dX4_say_6 : decode cX4_say 6 = .ok (.iload_n 1, 1) := by decide +kernel
theorem dX4_say_7 : decode cX4_say 7 = .ok (.bipush 126, 2) := by decide +kernel
theorem dX4_say_9 : decode cX4_say 9 = .ok (.if_icmp .le 6, 3) := by decide +kernel
theorem dX4_say_12 : decode cX4_say 12 = .ok (.bipush (-2), 2) := by decide +kernel
theorem dX4_say_14 : decode cX4_say 14 = .ok (.ireturn, 1) := by decide +kernel
theorem dX4_say_15 : decode cX4_say 15 = .ok (.aload_n 0, 1) := by decide +kernel
theorem dX4_say_16 : decode cX4_say 16 = .ok (.getfield 19, 3) := by decide +kernel
theorem dX4_say_19 : decode cX4_say 19 = .ok (.getfield 105, 3) := by decide +kernel
theorem dX4_say_22 : decode cX4_say 22 = .ok (.bipush 40, 2) := by decide +kernel
theorem dX4_say_24 : decode cX4_say 24 = .ok (.if_icmp .lt 6, 3) := by decide +kernel
theorem dX4_say_27 : decode cX4_say 27 = .ok (.bipush (-4), 2) := by decide +kernel
theorem dX4_say_29 : decode cX4_say 29 = .ok (.ireturn, 1) := by decide +kernel
theorem dX4_say_30 : decode cX4_say 30 = .ok (.aload_n 0, 1) := by decide +kernel
theorem dX4_say_31 : decode cX4_say 31 = .ok (.getfield 19, 3) := by decide +kernel
theorem dX4_say_34 : decode cX4_say 34 = .ok (.iload_n 1, 1) := by decide +kernel
theorem dX4_say_35 : decode cX4_say 35 = .ok (.invokevirtual 108, 3) := by decide +kernel
theorem dX4_say_38 : decode cX4_say 38 = .ok (.ireturn, 1) := by decide +kernel
theorem dX4_wipe_0 : decode cX4_wipe 0 = .ok (.aload_n 0, 1) := by decide +kernel
theorem dX4_wipe_1 : decode cX4_wipe 1 = .ok (.getfield 19, 3) := by decide +kernel
theorem dX4_wipe_4 : decode cX4_wipe 4 = .ok (.getfield 105, 3) := by decide +kernel
theorem dX4_wipe_7 : decode cX4_wipe 7 = .ok (.istore_n 1, 1) := by decide +kernel
theorem dX4_wipe_8 : decode cX4_wipe 8 = .ok (.aload_n 0, 1) := by decide +kernel
theorem dX4_wipe_9 : decode cX4_wipe 9 = .ok (.getfield 19, 3) := by decide +kernel
theorem dX4_wipe_12 : decode cX4_wipe 12 = .ok (.iconst 0, 1) := by decide +kernel
theorem dX4_wipe_13 : decode cX4_wipe 13 = .ok (.putfield 105, 3) := by decide +kernel
theorem dX4_wipe_16 : decode cX4_wipe 16 = .ok (.iload_n 1, 1) := by decide +kernel
theorem dX4_wipe_17 : decode cX4_wipe 17 = .ok (.ireturn, 1) := by decide +kernel
theorem dX4_fault_0 : decode cX4_fault 0 = .ok (.aload_n 0, 1) := by decide +kernel
theorem dX4_fault_1 : decode cX4_fault 1 = .ok (.getfield 19, 3) := by decide +kernel
theorem dX4_fault_4 : decode cX4_fault 4 = .ok (.aload_n 0, 1) := by decide +kernel
theorem dX4_fault_5 : decode cX4_fault 5 = .ok (.getfield 40, 3) := by decide +kernel
theorem dX4_fault_8 : decode cX4_fault 8 = .ok (.invokevirtual 112, 3) := by decide +kernel
theorem dX4_fault_11 : decode cX4_fault 11 = .ok (.ireturn, 1) := by decide +kernel
theorem dX4_rule_0 : decode cX4_rule 0 = .ok (.aload_n 0, 1) := by decide +kernel
theorem dX4_rule_1 : decode cX4_rule 1 = .ok (.getfield 19, 3) := by decide +kernel
theorem dX4_rule_4 : decode cX4_rule 4 = .ok (.aload_n 0, 1) := by decide +kernel
theorem dX4_rule_5 : decode cX4_rule 5 = .ok (.getfield 40, 3) := by decide +kernel
theorem dX4_rule_8 : decode cX4_rule 8 = .ok (.invokevirtual 112, 3) := by decide +kernel
theorem dX4_rule_11 : decode cX4_rule 11 = .ok (.bipush (-6), 2) := by decide +kernel
theorem dX4_rule_13 : decode cX4_rule 13 = .ok (.if_icmp .eq 6, 3) := by decide +kernel
theorem dX4_rule_16 : decode cX4_rule 16 = .ok (.bipush (-5), 2) := by decide +kernel
theorem dX4_rule_18 : decode cX4_rule 18 = .ok (.ireturn, 1) := by decide +kernel
theorem dX4_rule_19 : decode cX4_rule 19 = .ok (.aload_n 0, 1) := by decide +kernel
theorem dX4_rule_20 : decode cX4_rule 20 = .ok (.invokevirtual 51, 3) := by decide +kernel
theorem dX4_rule_23 : decode cX4_rule 23 = .ok (.aload_n 0, 1) := by decide +kernel
theorem dX4_rule_24 : decode cX4_rule 24 = .ok (.getfield 36, 3) := by decide +kernel
theorem dX4_rule_27 : decode cX4_rule 27 = .ok (.astore_n 1, 1) := by decide +kernel
theorem dX4_rule_28 : decode cX4_rule 28 = .ok (.aload_n 0, 1) := by decide +kernel
theorem dX4_rule_29 : decode cX4_rule 29 = .ok (.aload_n 0, 1) := by decide +kernel
theorem dX4_rule_30 : decode cX4_rule 30 = .ok (.getfield 40, 3) := by decide +kernel
theorem dX4_rule_33 : decode cX4_rule 33 = .ok (.putfield 36, 3) := by decide +kernel
theorem dX4_rule_36 : decode cX4_rule 36 = .ok (.aload_n 0, 1) := by decide +kernel
theorem dX4_rule_37 : decode cX4_rule 37 = .ok (.aload_n 1, 1) := by decide +kernel
theorem dX4_rule_38 : decode cX4_rule 38 = .ok (.putfield 40, 3) := by decide +kernel
theorem dX4_rule_41 : decode cX4_rule 41 = .ok (.aload_n 0, 1) := by decide +kernel
theorem dX4_rule_42 : decode cX4_rule 42 = .ok (.getfield 19, 3) := by decide +kernel
theorem dX4_rule_45 : decode cX4_rule 45 = .ok (.iconst 0, 1) := by decide +kernel
theorem dX4_rule_46 : decode cX4_rule 46 = .ok (.putfield 105, 3) := by decide +kernel
theorem dX4_rule_49 : decode cX4_rule 49 = .ok (.aload_n 0, 1) := by decide +kernel
theorem dX4_rule_50 : decode cX4_rule 50 = .ok (.getfield 36, 3) := by decide +kernel
theorem dX4_rule_53 : decode cX4_rule 53 = .ok (.getfield 116, 3) := by decide +kernel
theorem dX4_rule_56 : decode cX4_rule 56 = .ok (.ireturn, 1) := by decide +kernel
theorem dX4_free_0 : decode cX4_free 0 = .ok (.aload_n 0, 1) := by decide +kernel
theorem dX4_free_1 : decode cX4_free 1 = .ok (.invokevirtual 51, 3) := by decide +kernel
theorem dX4_free_4 : decode cX4_free 4 = .ok (.aload_n 0, 1) := by decide +kernel
theorem dX4_free_5 : decode cX4_free 5 = .ok (.getfield 36, 3) := by decide +kernel
theorem dX4_free_8 : decode cX4_free 8 = .ok (.getfield 116, 3) := by decide +kernel
theorem dX4_free_11 : decode cX4_free 11 = .ok (.istore_n 1, 1) := by decide +kernel
theorem dX4_free_12 : decode cX4_free 12 = .ok (.aload_n 0, 1) := by decide +kernel
theorem dX4_free_13 : decode cX4_free 13 = .ok (.getfield 36, 3) := by decide +kernel
theorem dX4_free_16 : decode cX4_free 16 = .ok (.invokevirtual 119, 3) := by decide +kernel
theorem dX4_free_19 : decode cX4_free 19 = .ok (.iload_n 1, 1) := by decide +kernel
theorem dX4_free_20 : decode cX4_free 20 = .ok (.ireturn, 1) := by decide +kernel
theorem dX4_follow_0 : decode cX4_follow 0 = .ok (.iload_n 1, 1) := by decide +kernel
theorem dX4_follow_1 : decode cX4_follow 1 = .ok (.invokestatic 43, 3) := by decide +kernel
theorem dX4_follow_4 : decode cX4_follow 4 = .ok (.ifCond .ne 5, 3) := by decide +kernel
theorem dX4_follow_7 : decode cX4_follow 7 = .ok (.iconst (-1), 1) := by decide +kernel
theorem dX4_follow_8 : decode cX4_follow 8 = .ok (.ireturn, 1) := by decide +kernel
theorem dX4_follow_9 : decode cX4_follow 9 = .ok (.aload_n 0, 1) := by decide +kernel
theorem dX4_follow_10 : decode cX4_follow 10 = .ok (.invokevirtual 95, 3) := by decide +kernel
theorem dX4_follow_13 : decode cX4_follow 13 = .ok (.astore_n 3, 1) := by decide +kernel
theorem dX4_follow_14 : decode cX4_follow 14 = .ok (.aload_n 3, 1) := by decide +kernel
theorem dX4_follow_15 : decode cX4_follow 15 = .ok (.aload_n 0, 1) := by decide +kernel
theorem dX4_follow_16 : decode cX4_follow 16 = .ok (.getfield 10, 3) := by decide +kernel
theorem dX4_follow_19 : decode cX4_follow 19 = .ok (.iload_n 1, 1) := by decide +kernel
theorem dX4_follow_20 : decode cX4_follow 20 = .ok (.invokevirtual 122, 3) := by decide +kernel
theorem dX4_follow_23 : decode cX4_follow 23 = .ok (.iconst 1, 1) := by decide +kernel
theorem dX4_follow_24 : decode cX4_follow 24 = .ok (.isub, 1) := by decide +kernel
theorem dX4_follow_25 : decode cX4_follow 25 = .ok (.istore 4, 2) := by decide +kernel
theorem dX4_follow_27 : decode cX4_follow 27 = .ok (.iload_n 2, 1) := by decide +kernel
theorem dX4_follow_28 : decode cX4_follow 28 = .ok (.ifCond .ne 10, 3) := by decide +kernel
theorem dX4_follow_31 : decode cX4_follow 31 = .ok (.iload 4, 2) := by decide +kernel
theorem dX4_follow_33 : decode cX4_follow 33 = .ok (.iconst 0, 1) := by decide +kernel
theorem dX4_follow_34 : decode cX4_follow 34 = .ok (.invokestatic 126, 3) := by decide +kernel
theorem dX4_follow_37 : decode cX4_follow 37 = .ok (.ireturn, 1) := by decide +kernel
theorem dX4_follow_38 : decode cX4_follow 38 = .ok (.iload_n 2, 1) := by decide +kernel
theorem dX4_follow_39 : decode cX4_follow 39 = .ok (.ifCond .lt 9, 3) := by decide +kernel
theorem dX4_follow_42 : decode cX4_follow 42 = .ok (.iload_n 2, 1) := by decide +kernel
theorem dX4_follow_43 : decode cX4_follow 43 = .ok (.iload 4, 2) := by decide +kernel
theorem dX4_follow_45 : decode cX4_follow 45 = .ok (.if_icmp .le 8, 3) := by decide +kernel
theorem dX4_follow_48 : decode cX4_follow 48 = .ok (.bipush (-6), 2) := by decide +kernel
theorem dX4_follow_50 : decode cX4_follow 50 = .ok (.goto 9, 3) := by decide +kernel
theorem dX4_follow_53 : decode cX4_follow 53 = .ok (.aload_n 3, 1) := by decide +kernel
theorem dX4_follow_54 : decode cX4_follow 54 = .ok (.iload_n 1, 1) := by decide +kernel
theorem dX4_follow_55 : decode cX4_follow 55 = .ok (.iload_n 2, 1) := by decide +kernel
theorem dX4_follow_56 : decode cX4_follow 56 = .ok (.invokevirtual 131, 3) := by decide +kernel
theorem dX4_follow_59 : decode cX4_follow 59 = .ok (.ireturn, 1) := by decide +kernel
theorem dX4_one_0 : decode cX4_one 0 = .ok (.iload_n 1, 1) := by decide +kernel
theorem dX4_one_1 : decode cX4_one 1 = .ok (.ifCond .lt 8, 3) := by decide +kernel
theorem dX4_one_4 : decode cX4_one 4 = .ok (.iload_n 1, 1) := by decide +kernel
theorem dX4_one_5 : decode cX4_one 5 = .ok (.iconst 1, 1) := by decide +kernel
theorem dX4_one_6 : decode cX4_one 6 = .ok (.if_icmp .le 6, 3) := by decide +kernel
theorem dX4_one_9 : decode cX4_one 9 = .ok (.bipush (-2), 2) := by decide +kernel
theorem dX4_one_11 : decode cX4_one 11 = .ok (.ireturn, 1) := by decide +kernel
theorem dX4_one_12 : decode cX4_one 12 = .ok (.aload_n 0, 1) := by decide +kernel
theorem dX4_one_13 : decode cX4_one 13 = .ok (.invokevirtual 95, 3) := by decide +kernel
theorem dX4_one_16 : decode cX4_one 16 = .ok (.astore_n 2, 1) := by decide +kernel
theorem dX4_one_17 : decode cX4_one 17 = .ok (.aload_n 2, 1) := by decide +kernel
theorem dX4_one_18 : decode cX4_one 18 = .ok (.aload_n 0, 1) := by decide +kernel
theorem dX4_one_19 : decode cX4_one 19 = .ok (.getfield 10, 3) := by decide +kernel
theorem dX4_one_22 : decode cX4_one 22 = .ok (.invokevirtual 134, 3) := by decide +kernel
theorem dX4_one_25 : decode cX4_one 25 = .ok (.istore_n 3, 1) := by decide +kernel
theorem dX4_one_26 : decode cX4_one 26 = .ok (.iload_n 1, 1) := by decide +kernel
theorem dX4_one_27 : decode cX4_one 27 = .ok (.ifCond .eq 9, 3) := by decide +kernel
theorem dX4_one_30 : decode cX4_one 30 = .ok (.iload_n 3, 1) := by decide +kernel
theorem dX4_one_31 : decode cX4_one 31 = .ok (.bipush (-6), 2) := by decide +kernel
theorem dX4_one_33 : decode cX4_one 33 = .ok (.if_icmp .ne 5, 3) := by decide +kernel
theorem dX4_one_36 : decode cX4_one 36 = .ok (.iload_n 3, 1) := by decide +kernel
theorem dX4_one_37 : decode cX4_one 37 = .ok (.ireturn, 1) := by decide +kernel
theorem dX4_one_38 : decode cX4_one 38 = .ok (.aload_n 2, 1) := by decide +kernel
theorem dX4_one_39 : decode cX4_one 39 = .ok (.aload_n 0, 1) := by decide +kernel
theorem dX4_one_40 : decode cX4_one 40 = .ok (.getfield 10, 3) := by decide +kernel
theorem dX4_one_43 : decode cX4_one 43 = .ok (.iload_n 3, 1) := by decide +kernel
theorem dX4_one_44 : decode cX4_one 44 = .ok (.invokevirtual 138, 3) := by decide +kernel
theorem dX4_one_47 : decode cX4_one 47 = .ok (.ireturn, 1) := by decide +kernel
theorem dX4_began_0 : decode cX4_began 0 = .ok (.aload_n 0, 1) := by decide +kernel
theorem dX4_began_1 : decode cX4_began 1 = .ok (.invokevirtual 95, 3) := by decide +kernel
theorem dX4_began_4 : decode cX4_began 4 = .ok (.aload_n 0, 1) := by decide +kernel
theorem dX4_began_5 : decode cX4_began 5 = .ok (.getfield 10, 3) := by decide +kernel
theorem dX4_began_8 : decode cX4_began 8 = .ok (.invokevirtual 134, 3) := by decide +kernel
theorem dX4_began_11 : decode cX4_began 11 = .ok (.bipush (-6), 2) := by decide +kernel
theorem dX4_began_13 : decode cX4_began 13 = .ok (.if_icmp .ne 5, 3) := by decide +kernel
theorem dX4_began_16 : decode cX4_began 16 = .ok (.iconst 0, 1) := by decide +kernel
theorem dX4_began_17 : decode cX4_began 17 = .ok (.ireturn, 1) := by decide +kernel
theorem dX4_began_18 : decode cX4_began 18 = .ok (.iconst 0, 1) := by decide +kernel
theorem dX4_began_19 : decode cX4_began 19 = .ok (.istore_n 1, 1) := by decide +kernel
theorem dX4_began_20 : decode cX4_began 20 = .ok (.iconst 0, 1) := by decide +kernel
theorem dX4_began_21 : decode cX4_began 21 = .ok (.istore_n 2, 1) := by decide +kernel
theorem dX4_began_22 : decode cX4_began 22 = .ok (.iload_n 2, 1) := by decide +kernel
theorem dX4_began_23 : decode cX4_began 23 = .ok (.aload_n 0, 1) := by decide +kernel
theorem dX4_began_24 : decode cX4_began 24 = .ok (.getfield 10, 3) := by decide +kernel
theorem dX4_began_27 : decode cX4_began 27 = .ok (.getfield 80, 3) := by decide +kernel
theorem dX4_began_30 : decode cX4_began 30 = .ok (.if_icmp .ge 58, 3) := by decide +kernel
theorem dX4_began_33 : decode cX4_began 33 = .ok (.aload_n 0, 1) := by decide +kernel
theorem dX4_began_34 : decode cX4_began 34 = .ok (.getfield 30, 3) := by decide +kernel
theorem dX4_began_37 : decode cX4_began 37 = .ok (.aload_n 0, 1) := by decide +kernel
theorem dX4_began_38 : decode cX4_began 38 = .ok (.getfield 10, 3) := by decide +kernel
theorem dX4_began_41 : decode cX4_began 41 = .ok (.iload_n 2, 1) := by decide +kernel
theorem dX4_began_42 : decode cX4_began 42 = .ok (.invokevirtual 141, 3) := by decide +kernel
theorem dX4_began_45 : decode cX4_began 45 = .ok (.aload_n 0, 1) := by decide +kernel
theorem dX4_began_46 : decode cX4_began 46 = .ok (.getfield 30, 3) := by decide +kernel
theorem dX4_began_49 : decode cX4_began 49 = .ok (.aload_n 0, 1) := by decide +kernel
theorem dX4_began_50 : decode cX4_began 50 = .ok (.getfield 10, 3) := by decide +kernel
theorem dX4_began_53 : decode cX4_began 53 = .ok (.aload_n 0, 1) := by decide +kernel
theorem dX4_began_54 : decode cX4_began 54 = .ok (.getfield 36, 3) := by decide +kernel
theorem dX4_began_57 : decode cX4_began 57 = .ok (.invokevirtual 145, 3) := by decide +kernel
theorem dX4_began_60 : decode cX4_began 60 = .ok (.aload_n 0, 1) := by decide +kernel
theorem dX4_began_61 : decode cX4_began 61 = .ok (.getfield 30, 3) := by decide +kernel
theorem dX4_began_64 : decode cX4_began 64 = .ok (.aload_n 0, 1) := by decide +kernel
theorem dX4_began_65 : decode cX4_began 65 = .ok (.getfield 10, 3) := by decide +kernel
theorem dX4_began_68 : decode cX4_began 68 = .ok (.invokevirtual 134, 3) := by decide +kernel
theorem dX4_began_71 : decode cX4_began 71 = .ok (.bipush (-6), 2) := by decide +kernel
theorem dX4_began_73 : decode cX4_began 73 = .ok (.if_icmp .ne 9, 3) := by decide +kernel
theorem dX4_began_76 : decode cX4_began 76 = .ok (.iload_n 1, 1) := by decide +kernel
theorem dX4_began_77 : decode cX4_began 77 = .ok (.iconst 1, 1) := by decide +kernel
theorem dX4_began_78 : decode cX4_began 78 = .ok (.iload_n 2, 1) := by decide +kernel
theorem dX4_began_79 : decode cX4_began 79 = .ok (.ishl, 1) := by decide +kernel
theorem dX4_began_80 : decode cX4_began 80 = .ok (.ior, 1) := by decide +kernel
theorem dX4_began_81 : decode cX4_began 81 = .ok (.istore_n 1, 1) := by decide +kernel
theorem dX4_began_82 : decode cX4_began 82 = .ok (.iinc 2 1, 3) := by decide +kernel
theorem dX4_began_85 : decode cX4_began 85 = .ok (.goto (-63), 3) := by decide +kernel
theorem dX4_began_88 : decode cX4_began 88 = .ok (.iload_n 1, 1) := by decide +kernel
theorem dX4_began_89 : decode cX4_began 89 = .ok (.ireturn, 1) := by decide +kernel
theorem dX4_spread_0 : decode cX4_spread 0 = .ok (.iload_n 1, 1) := by decide +kernel
theorem dX4_spread_1 : decode cX4_spread 1 = .ok (.invokestatic 43, 3) := by decide +kernel
theorem dX4_spread_4 : decode cX4_spread 4 = .ok (.ifCond .ne 5, 3) := by decide +kernel
theorem dX4_spread_7 : decode cX4_spread 7 = .ok (.iconst (-1), 1) := by decide +kernel
theorem dX4_spread_8 : decode cX4_spread 8 = .ok (.ireturn, 1) := by decide +kernel
theorem dX4_spread_9 : decode cX4_spread 9 = .ok (.aload_n 0, 1) := by decide +kernel
theorem dX4_spread_10 : decode cX4_spread 10 = .ok (.invokevirtual 95, 3) := by decide +kernel
theorem dX4_spread_13 : decode cX4_spread 13 = .ok (.aload_n 0, 1) := by decide +kernel
theorem dX4_spread_14 : decode cX4_spread 14 = .ok (.getfield 10, 3) := by decide +kernel
theorem dX4_spread_17 : decode cX4_spread 17 = .ok (.iload_n 1, 1) := by decide +kernel
theorem dX4_spread_18 : decode cX4_spread 18 = .ok (.invokevirtual 149, 3) := by decide +kernel
theorem dX4_spread_21 : decode cX4_spread 21 = .ok (.ireturn, 1) := by decide +kernel
theorem dX4_waited_0 : decode cX4_waited 0 = .ok (.iload_n 1, 1) := by decide +kernel
theorem dX4_waited_1 : decode cX4_waited 1 = .ok (.invokestatic 43, 3) := by decide +kernel
theorem dX4_waited_4 : decode cX4_waited 4 = .ok (.ifCond .ne 5, 3) := by decide +kernel
theorem dX4_waited_7 : decode cX4_waited 7 = .ok (.iconst (-1), 1) := by decide +kernel
theorem dX4_waited_8 : decode cX4_waited 8 = .ok (.ireturn, 1) := by decide +kernel
theorem dX4_waited_9 : decode cX4_waited 9 = .ok (.iload_n 2, 1) := by decide +kernel
theorem dX4_waited_10 : decode cX4_waited 10 = .ok (.ifCond .lt 8, 3) := by decide +kernel
theorem dX4_waited_13 : decode cX4_waited 13 = .ok (.iload_n 2, 1) := by decide +kernel
theorem dX4_waited_14 : decode cX4_waited 14 = .ok (.iconst 2, 1) := by decide +kernel
theorem dX4_waited_15 : decode cX4_waited 15 = .ok (.if_icmp .le 6, 3) := by decide +kernel
theorem dX4_waited_18 : decode cX4_waited 18 = .ok (.bipush (-2), 2) := by decide +kernel
theorem dX4_waited_20 : decode cX4_waited 20 = .ok (.ireturn, 1) := by decide +kernel
theorem dX4_waited_21 : decode cX4_waited 21 = .ok (.aload_n 0, 1) := by decide +kernel
theorem dX4_waited_22 : decode cX4_waited 22 = .ok (.invokevirtual 95, 3) := by decide +kernel
theorem dX4_waited_25 : decode cX4_waited 25 = .ok (.iload_n 1, 1) := by decide +kernel
theorem dX4_waited_26 : decode cX4_waited 26 = .ok (.iload_n 2, 1) := by decide +kernel
theorem dX4_waited_27 : decode cX4_waited 27 = .ok (.invokevirtual 152, 3) := by decide +kernel
theorem dX4_waited_30 : decode cX4_waited 30 = .ok (.ireturn, 1) := by decide +kernel
theorem dX4_mean_0 : decode cX4_mean 0 = .ok (.iload_n 1, 1) := by decide +kernel
theorem dX4_mean_1 : decode cX4_mean 1 = .ok (.invokestatic 43, 3) := by decide +kernel
theorem dX4_mean_4 : decode cX4_mean 4 = .ok (.ifCond .ne 7, 3) := by decide +kernel
theorem dX4_mean_7 : decode cX4_mean 7 = .ok (.ldc2_w 155, 3) := by decide +kernel
theorem dX4_mean_10 : decode cX4_mean 10 = .ok (.lreturn, 1) := by decide +kernel
theorem dX4_mean_11 : decode cX4_mean 11 = .ok (.iload_n 2, 1) := by decide +kernel
theorem dX4_mean_12 : decode cX4_mean 12 = .ok (.ifCond .lt 17, 3) := by decide +kernel
theorem dX4_mean_15 : decode cX4_mean 15 = .ok (.iload_n 2, 1) := by decide +kernel
theorem dX4_mean_16 : decode cX4_mean 16 = .ok (.iconst 1, 1) := by decide +kernel
theorem dX4_mean_17 : decode cX4_mean 17 = .ok (.if_icmp .gt 12, 3) := by decide +kernel
theorem dX4_mean_20 : decode cX4_mean 20 = .ok (.iload_n 3, 1) := by decide +kernel
theorem dX4_mean_21 : decode cX4_mean 21 = .ok (.ifCond .lt 8, 3) := by decide +kernel
theorem dX4_mean_24 : decode cX4_mean 24 = .ok (.iload_n 3, 1) := by decide +kernel
theorem dX4_mean_25 : decode cX4_mean 25 = .ok (.iconst 1, 1) := by decide +kernel
theorem dX4_mean_26 : decode cX4_mean 26 = .ok (.if_icmp .le 7, 3) := by decide +kernel
theorem dX4_mean_29 : decode cX4_mean 29 = .ok (.ldc2_w 157, 3) := by decide +kernel
theorem dX4_mean_32 : decode cX4_mean 32 = .ok (.lreturn, 1) := by decide +kernel
theorem dX4_mean_33 : decode cX4_mean 33 = .ok (.aload_n 0, 1) := by decide +kernel
theorem dX4_mean_34 : decode cX4_mean 34 = .ok (.invokevirtual 95, 3) := by decide +kernel
theorem dX4_mean_37 : decode cX4_mean 37 = .ok (.astore 4, 2) := by decide +kernel
theorem dX4_mean_39 : decode cX4_mean 39 = .ok (.iload_n 2, 1) := by decide +kernel
theorem dX4_mean_40 : decode cX4_mean 40 = .ok (.ifCond .ne 23, 3) := by decide +kernel
theorem dX4_mean_43 : decode cX4_mean 43 = .ok (.aload 4, 2) := by decide +kernel
theorem dX4_mean_45 : decode cX4_mean 45 = .ok (.getfield 159, 3) := by decide +kernel
theorem dX4_mean_48 : decode cX4_mean 48 = .ok (.iload_n 1, 1) := by decide +kernel
theorem dX4_mean_49 : decode cX4_mean 49 = .ok (.laload, 1) := by decide +kernel
theorem dX4_mean_50 : decode cX4_mean 50 = .ok (.aload 4, 2) := by decide +kernel
theorem dX4_mean_52 : decode cX4_mean 52 = .ok (.getfield 163, 3) := by decide +kernel
theorem dX4_mean_55 : decode cX4_mean 55 = .ok (.iload_n 1, 1) := by decide +kernel
theorem dX4_mean_56 : decode cX4_mean 56 = .ok (.iaload, 1) := by decide +kernel
theorem dX4_mean_57 : decode cX4_mean 57 = .ok (.i2l, 1) := by decide +kernel
theorem dX4_mean_58 : decode cX4_mean 58 = .ok (.iload_n 3, 1) := by decide +kernel
theorem dX4_mean_59 : decode cX4_mean 59 = .ok (.invokestatic 166, 3) := by decide +kernel
theorem dX4_mean_62 : decode cX4_mean 62 = .ok (.lreturn, 1) := by decide +kernel
theorem dX4_mean_63 : decode cX4_mean 63 = .ok (.aload 4, 2) := by decide +kernel
theorem dX4_mean_65 : decode cX4_mean 65 = .ok (.aload_n 0, 1) := by decide +kernel
theorem dX4_mean_66 : decode cX4_mean 66 = .ok (.getfield 10, 3) := by decide +kernel
theorem dX4_mean_69 : decode cX4_mean 69 = .ok (.iload_n 1, 1) := by decide +kernel
theorem dX4_mean_70 : decode cX4_mean 70 = .ok (.invokevirtual 122, 3) := by decide +kernel
theorem dX4_mean_73 : decode cX4_mean 73 = .ok (.istore 5, 2) := by decide +kernel
theorem dX4_mean_75 : decode cX4_mean 75 = .ok (.aload 4, 2) := by decide +kernel
theorem dX4_mean_77 : decode cX4_mean 77 = .ok (.iload_n 1, 1) := by decide +kernel
theorem dX4_mean_78 : decode cX4_mean 78 = .ok (.iload 5, 2) := by decide +kernel
theorem dX4_mean_80 : decode cX4_mean 80 = .ok (.invokevirtual 170, 3) := by decide +kernel
theorem dX4_mean_83 : decode cX4_mean 83 = .ok (.i2l, 1) := by decide +kernel
theorem dX4_mean_84 : decode cX4_mean 84 = .ok (.ldc2_w 173, 3) := by decide +kernel
theorem dX4_mean_87 : decode cX4_mean 87 = .ok (.iload 5, 2) := by decide +kernel
theorem dX4_mean_89 : decode cX4_mean 89 = .ok (.iconst 1, 1) := by decide +kernel
theorem dX4_mean_90 : decode cX4_mean 90 = .ok (.isub, 1) := by decide +kernel
theorem dX4_mean_91 : decode cX4_mean 91 = .ok (.i2l, 1) := by decide +kernel
theorem dX4_mean_92 : decode cX4_mean 92 = .ok (.lmul, 1) := by decide +kernel
theorem dX4_mean_93 : decode cX4_mean 93 = .ok (.iload_n 3, 1) := by decide +kernel
theorem dX4_mean_94 : decode cX4_mean 94 = .ok (.invokestatic 166, 3) := by decide +kernel
theorem dX4_mean_97 : decode cX4_mean 97 = .ok (.lreturn, 1) := by decide +kernel
theorem dX4_all_0 : decode cX4_all 0 = .ok (.iload_n 1, 1) := by decide +kernel
theorem dX4_all_1 : decode cX4_all 1 = .ok (.ifCond .lt 8, 3) := by decide +kernel
theorem dX4_all_4 : decode cX4_all 4 = .ok (.iload_n 1, 1) := by decide +kernel
theorem dX4_all_5 : decode cX4_all 5 = .ok (.iconst 2, 1) := by decide +kernel
theorem dX4_all_6 : decode cX4_all 6 = .ok (.if_icmp .le 6, 3) := by decide +kernel
theorem dX4_all_9 : decode cX4_all 9 = .ok (.bipush (-2), 2) := by decide +kernel
theorem dX4_all_11 : decode cX4_all 11 = .ok (.ireturn, 1) := by decide +kernel
theorem dX4_all_12 : decode cX4_all 12 = .ok (.aload_n 0, 1) := by decide +kernel
theorem dX4_all_13 : decode cX4_all 13 = .ok (.invokevirtual 95, 3) := by decide +kernel
theorem dX4_all_16 : decode cX4_all 16 = .ok (.astore_n 2, 1) := by decide +kernel
theorem dX4_all_17 : decode cX4_all 17 = .ok (.iload_n 1, 1) := by decide +kernel
theorem dX4_all_18 : decode cX4_all 18 = .ok (.lookupswitch 38 #[(0, 26), (1, 32)], 26) := by decide +kernel
theorem dX4_all_44 : decode cX4_all 44 = .ok (.aload_n 2, 1) := by decide +kernel
theorem dX4_all_45 : decode cX4_all 45 = .ok (.invokevirtual 175, 3) := by decide +kernel
theorem dX4_all_48 : decode cX4_all 48 = .ok (.l2i, 1) := by decide +kernel
theorem dX4_all_49 : decode cX4_all 49 = .ok (.ireturn, 1) := by decide +kernel
theorem dX4_all_50 : decode cX4_all 50 = .ok (.aload_n 2, 1) := by decide +kernel
theorem dX4_all_51 : decode cX4_all 51 = .ok (.getfield 179, 3) := by decide +kernel
theorem dX4_all_54 : decode cX4_all 54 = .ok (.l2i, 1) := by decide +kernel
theorem dX4_all_55 : decode cX4_all 55 = .ok (.ireturn, 1) := by decide +kernel
theorem dX4_all_56 : decode cX4_all 56 = .ok (.aload_n 2, 1) := by decide +kernel
theorem dX4_all_57 : decode cX4_all 57 = .ok (.getfield 183, 3) := by decide +kernel
theorem dX4_all_60 : decode cX4_all 60 = .ok (.ireturn, 1) := by decide +kernel
theorem dX4_held_0 : decode cX4_held 0 = .ok (.aload_n 0, 1) := by decide +kernel
theorem dX4_held_1 : decode cX4_held 1 = .ok (.getfield 10, 3) := by decide +kernel
theorem dX4_held_4 : decode cX4_held 4 = .ok (.iload_n 1, 1) := by decide +kernel
theorem dX4_held_5 : decode cX4_held 5 = .ok (.invokevirtual 77, 3) := by decide +kernel
theorem dX4_held_8 : decode cX4_held 8 = .ok (.ifCond .eq 22, 3) := by decide +kernel
theorem dX4_held_11 : decode cX4_held 11 = .ok (.iload_n 2, 1) := by decide +kernel
theorem dX4_held_12 : decode cX4_held 12 = .ok (.invokestatic 43, 3) := by decide +kernel
theorem dX4_held_15 : decode cX4_held 15 = .ok (.ifCond .eq 15, 3) := by decide +kernel
theorem dX4_held_18 : decode cX4_held 18 = .ok (.aload_n 0, 1) := by decide +kernel
theorem dX4_held_19 : decode cX4_held 19 = .ok (.getfield 10, 3) := by decide +kernel
theorem dX4_held_22 : decode cX4_held 22 = .ok (.iload_n 1, 1) := by decide +kernel
theorem dX4_held_23 : decode cX4_held 23 = .ok (.iload_n 2, 1) := by decide +kernel
theorem dX4_held_24 : decode cX4_held 24 = .ok (.invokevirtual 92, 3) := by decide +kernel
theorem dX4_held_27 : decode cX4_held 27 = .ok (.ifCond .ne 6, 3) := by decide +kernel
theorem dX4_held_30 : decode cX4_held 30 = .ok (.ldc 186, 2) := by decide +kernel
theorem dX4_held_32 : decode cX4_held 32 = .ok (.ireturn, 1) := by decide +kernel
theorem dX4_held_33 : decode cX4_held 33 = .ok (.iload_n 3, 1) := by decide +kernel
theorem dX4_held_34 : decode cX4_held 34 = .ok (.iconst 1, 1) := by decide +kernel
theorem dX4_held_35 : decode cX4_held 35 = .ok (.if_icmp .lt 10, 3) := by decide +kernel
theorem dX4_held_38 : decode cX4_held 38 = .ok (.iload_n 3, 1) := by decide +kernel
theorem dX4_held_39 : decode cX4_held 39 = .ok (.sipush 900, 3) := by decide +kernel
theorem dX4_held_42 : decode cX4_held 42 = .ok (.if_icmp .le 6, 3) := by decide +kernel
theorem dX4_held_45 : decode cX4_held 45 = .ok (.ldc 186, 2) := by decide +kernel
theorem dX4_held_47 : decode cX4_held 47 = .ok (.ireturn, 1) := by decide +kernel
theorem dX4_held_48 : decode cX4_held 48 = .ok (.aload_n 0, 1) := by decide +kernel
theorem dX4_held_49 : decode cX4_held 49 = .ok (.getfield 30, 3) := by decide +kernel
theorem dX4_held_52 : decode cX4_held 52 = .ok (.aload_n 0, 1) := by decide +kernel
theorem dX4_held_53 : decode cX4_held 53 = .ok (.getfield 10, 3) := by decide +kernel
theorem dX4_held_56 : decode cX4_held 56 = .ok (.bipush (-6), 2) := by decide +kernel
theorem dX4_held_58 : decode cX4_held 58 = .ok (.invokevirtual 141, 3) := by decide +kernel
theorem dX4_held_61 : decode cX4_held 61 = .ok (.aload_n 0, 1) := by decide +kernel
theorem dX4_held_62 : decode cX4_held 62 = .ok (.getfield 30, 3) := by decide +kernel
theorem dX4_held_65 : decode cX4_held 65 = .ok (.getfield 187, 3) := by decide +kernel
theorem dX4_held_68 : decode cX4_held 68 = .ok (.iload_n 1, 1) := by decide +kernel
theorem dX4_held_69 : decode cX4_held 69 = .ok (.iload_n 2, 1) := by decide +kernel
theorem dX4_held_70 : decode cX4_held 70 = .ok (.invokestatic 99, 3) := by decide +kernel
theorem dX4_held_73 : decode cX4_held 73 = .ok (.dup2, 1) := by decide +kernel
theorem dX4_held_74 : decode cX4_held 74 = .ok (.iaload, 1) := by decide +kernel
theorem dX4_held_75 : decode cX4_held 75 = .ok (.iload_n 3, 1) := by decide +kernel
theorem dX4_held_76 : decode cX4_held 76 = .ok (.iadd, 1) := by decide +kernel
theorem dX4_held_77 : decode cX4_held 77 = .ok (.iastore, 1) := by decide +kernel
theorem dX4_held_78 : decode cX4_held 78 = .ok (.aload_n 0, 1) := by decide +kernel
theorem dX4_held_79 : decode cX4_held 79 = .ok (.getfield 30, 3) := by decide +kernel
theorem dX4_held_82 : decode cX4_held 82 = .ok (.aload_n 0, 1) := by decide +kernel
theorem dX4_held_83 : decode cX4_held 83 = .ok (.getfield 10, 3) := by decide +kernel
theorem dX4_held_86 : decode cX4_held 86 = .ok (.aload_n 0, 1) := by decide +kernel
theorem dX4_held_87 : decode cX4_held 87 = .ok (.getfield 36, 3) := by decide +kernel
theorem dX4_held_90 : decode cX4_held 90 = .ok (.invokevirtual 145, 3) := by decide +kernel
theorem dX4_held_93 : decode cX4_held 93 = .ok (.aload_n 0, 1) := by decide +kernel
theorem dX4_held_94 : decode cX4_held 94 = .ok (.invokevirtual 95, 3) := by decide +kernel
theorem dX4_held_97 : decode cX4_held 97 = .ok (.astore 4, 2) := by decide +kernel
theorem dX4_held_99 : decode cX4_held 99 = .ok (.aload_n 0, 1) := by decide +kernel
theorem dX4_held_100 : decode cX4_held 100 = .ok (.getfield 30, 3) := by decide +kernel
theorem dX4_held_103 : decode cX4_held 103 = .ok (.invokevirtual 175, 3) := by decide +kernel
theorem dX4_held_106 : decode cX4_held 106 = .ok (.aload_n 0, 1) := by decide +kernel
theorem dX4_held_107 : decode cX4_held 107 = .ok (.getfield 30, 3) := by decide +kernel
theorem dX4_held_110 : decode cX4_held 110 = .ok (.getfield 179, 3) := by decide +kernel
theorem dX4_held_113 : decode cX4_held 113 = .ok (.ladd, 1) := by decide +kernel
theorem dX4_held_114 : decode cX4_held 114 = .ok (.aload 4, 2) := by decide +kernel
theorem dX4_held_116 : decode cX4_held 116 = .ok (.invokevirtual 175, 3) := by decide +kernel
theorem dX4_held_119 : decode cX4_held 119 = .ok (.lsub, 1) := by decide +kernel
theorem dX4_held_120 : decode cX4_held 120 = .ok (.aload 4, 2) := by decide +kernel
theorem dX4_held_122 : decode cX4_held 122 = .ok (.getfield 179, 3) := by decide +kernel
theorem dX4_held_125 : decode cX4_held 125 = .ok (.lsub, 1) := by decide +kernel
theorem dX4_held_126 : decode cX4_held 126 = .ok (.l2i, 1) := by decide +kernel
theorem dX4_held_127 : decode cX4_held 127 = .ok (.ireturn, 1) := by decide +kernel
theorem dX4_board_0 : decode cX4_board 0 = .ok (.iload_n 1, 1) := by decide +kernel
theorem dX4_board_1 : decode cX4_board 1 = .ok (.iconst 1, 1) := by decide +kernel
theorem dX4_board_2 : decode cX4_board 2 = .ok (.if_icmp .lt 9, 3) := by decide +kernel
theorem dX4_board_5 : decode cX4_board 5 = .ok (.iload_n 1, 1) := by decide +kernel
theorem dX4_board_6 : decode cX4_board 6 = .ok (.bipush 9, 2) := by decide +kernel
theorem dX4_board_8 : decode cX4_board 8 = .ok (.if_icmp .le 5, 3) := by decide +kernel
theorem dX4_board_11 : decode cX4_board 11 = .ok (.iconst (-1), 1) := by decide +kernel
theorem dX4_board_12 : decode cX4_board 12 = .ok (.ireturn, 1) := by decide +kernel
theorem dX4_board_13 : decode cX4_board 13 = .ok (.iload_n 2, 1) := by decide +kernel
theorem dX4_board_14 : decode cX4_board 14 = .ok (.ifCond .lt 19, 3) := by decide +kernel
theorem dX4_board_17 : decode cX4_board 17 = .ok (.iload_n 2, 1) := by decide +kernel
theorem dX4_board_18 : decode cX4_board 18 = .ok (.sipush 20000, 3) := by decide +kernel
theorem dX4_board_21 : decode cX4_board 21 = .ok (.if_icmp .gt 12, 3) := by decide +kernel
theorem dX4_board_24 : decode cX4_board 24 = .ok (.iload_n 3, 1) := by decide +kernel
theorem dX4_board_25 : decode cX4_board 25 = .ok (.ifCond .lt 8, 3) := by decide +kernel
theorem dX4_board_28 : decode cX4_board 28 = .ok (.iload_n 3, 1) := by decide +kernel
theorem dX4_board_29 : decode cX4_board 29 = .ok (.iconst 2, 1) := by decide +kernel
theorem dX4_board_30 : decode cX4_board 30 = .ok (.if_icmp .le 6, 3) := by decide +kernel
theorem dX4_board_33 : decode cX4_board 33 = .ok (.bipush (-2), 2) := by decide +kernel
theorem dX4_board_35 : decode cX4_board 35 = .ok (.ireturn, 1) := by decide +kernel
theorem dX4_board_36 : decode cX4_board 36 = .ok (.aload_n 0, 1) := by decide +kernel
theorem dX4_board_37 : decode cX4_board 37 = .ok (.invokevirtual 95, 3) := by decide +kernel
theorem dX4_board_40 : decode cX4_board 40 = .ok (.astore 4, 2) := by decide +kernel
theorem dX4_board_42 : decode cX4_board 42 = .ok (.aload 4, 2) := by decide +kernel
theorem dX4_board_44 : decode cX4_board 44 = .ok (.aload_n 0, 1) := by decide +kernel
theorem dX4_board_45 : decode cX4_board 45 = .ok (.getfield 10, 3) := by decide +kernel
theorem dX4_board_48 : decode cX4_board 48 = .ok (.iload_n 1, 1) := by decide +kernel
theorem dX4_board_49 : decode cX4_board 49 = .ok (.iload_n 2, 1) := by decide +kernel
theorem dX4_board_50 : decode cX4_board 50 = .ok (.invokevirtual 190, 3) := by decide +kernel
theorem dX4_board_53 : decode cX4_board 53 = .ok (.istore 5, 2) := by decide +kernel
theorem dX4_board_55 : decode cX4_board 55 = .ok (.iload 5, 2) := by decide +kernel
theorem dX4_board_57 : decode cX4_board 57 = .ok (.bipush (-6), 2) := by decide +kernel
theorem dX4_board_59 : decode cX4_board 59 = .ok (.if_icmp .ne 16, 3) := by decide +kernel
theorem dX4_board_62 : decode cX4_board 62 = .ok (.iload_n 3, 1) := by decide +kernel
theorem dX4_board_63 : decode cX4_board 63 = .ok (.iconst 2, 1) := by decide +kernel
theorem dX4_board_64 : decode cX4_board 64 = .ok (.if_icmp .ne 8, 3) := by decide +kernel
theorem dX4_board_67 : decode cX4_board 67 = .ok (.ldc 186, 2) := by decide +kernel
theorem dX4_board_69 : decode cX4_board 69 = .ok (.goto 5, 3) := by decide +kernel
theorem dX4_board_72 : decode cX4_board 72 = .ok (.bipush (-6), 2) := by decide +kernel
theorem dX4_board_74 : decode cX4_board 74 = .ok (.ireturn, 1) := by decide +kernel
theorem dX4_board_75 : decode cX4_board 75 = .ok (.iload_n 3, 1) := by decide +kernel
theorem dX4_board_76 : decode cX4_board 76 = .ok (.iconst 1, 1) := by decide +kernel
theorem dX4_board_77 : decode cX4_board 77 = .ok (.if_icmp .ne 6, 3) := by decide +kernel
theorem dX4_board_80 : decode cX4_board 80 = .ok (.iload 5, 2) := by decide +kernel
theorem dX4_board_82 : decode cX4_board 82 = .ok (.ireturn, 1) := by decide +kernel
theorem dX4_board_83 : decode cX4_board 83 = .ok (.aload 4, 2) := by decide +kernel
theorem dX4_board_85 : decode cX4_board 85 = .ok (.aload_n 0, 1) := by decide +kernel
theorem dX4_board_86 : decode cX4_board 86 = .ok (.getfield 10, 3) := by decide +kernel
theorem dX4_board_89 : decode cX4_board 89 = .ok (.iload 5, 2) := by decide +kernel
theorem dX4_board_91 : decode cX4_board 91 = .ok (.iload_n 1, 1) := by decide +kernel
theorem dX4_board_92 : decode cX4_board 92 = .ok (.iload_n 2, 1) := by decide +kernel
theorem dX4_board_93 : decode cX4_board 93 = .ok (.invokevirtual 194, 3) := by decide +kernel
theorem dX4_board_96 : decode cX4_board 96 = .ok (.istore 6, 2) := by decide +kernel
theorem dX4_board_98 : decode cX4_board 98 = .ok (.iload_n 3, 1) := by decide +kernel
theorem dX4_board_99 : decode cX4_board 99 = .ok (.ifCond .ne 8, 3) := by decide +kernel
theorem dX4_board_102 : decode cX4_board 102 = .ok (.iload 6, 2) := by decide +kernel
theorem dX4_board_104 : decode cX4_board 104 = .ok (.goto 20, 3) := by decide +kernel
theorem dX4_board_107 : decode cX4_board 107 = .ok (.aload 4, 2) := by decide +kernel
theorem dX4_board_109 : decode cX4_board 109 = .ok (.getfield 198, 3) := by decide +kernel
theorem dX4_board_112 : decode cX4_board 112 = .ok (.iload 5, 2) := by decide +kernel
theorem dX4_board_114 : decode cX4_board 114 = .ok (.iload_n 1, 1) := by decide +kernel
theorem dX4_board_115 : decode cX4_board 115 = .ok (.invokestatic 99, 3) := by decide +kernel
theorem dX4_board_118 : decode cX4_board 118 = .ok (.iaload, 1) := by decide +kernel
theorem dX4_board_119 : decode cX4_board 119 = .ok (.iload_n 2, 1) := by decide +kernel
theorem dX4_board_120 : decode cX4_board 120 = .ok (.isub, 1) := by decide +kernel
theorem dX4_board_121 : decode cX4_board 121 = .ok (.iload 6, 2) := by decide +kernel
theorem dX4_board_123 : decode cX4_board 123 = .ok (.isub, 1) := by decide +kernel
theorem dX4_board_124 : decode cX4_board 124 = .ok (.ireturn, 1) := by decide +kernel
theorem dX4_best_0 : decode cX4_best 0 = .ok (.iload_n 1, 1) := by decide +kernel
theorem dX4_best_1 : decode cX4_best 1 = .ok (.ifCond .lt 8, 3) := by decide +kernel
theorem dX4_best_4 : decode cX4_best 4 = .ok (.iload_n 1, 1) := by decide +kernel
theorem dX4_best_5 : decode cX4_best 5 = .ok (.iconst 1, 1) := by decide +kernel
theorem dX4_best_6 : decode cX4_best 6 = .ok (.if_icmp .le 6, 3) := by decide +kernel
theorem dX4_best_9 : decode cX4_best 9 = .ok (.bipush (-2), 2) := by decide +kernel
theorem dX4_best_11 : decode cX4_best 11 = .ok (.ireturn, 1) := by decide +kernel
theorem dX4_best_12 : decode cX4_best 12 = .ok (.aload_n 0, 1) := by decide +kernel
theorem dX4_best_13 : decode cX4_best 13 = .ok (.getfield 10, 3) := by decide +kernel
theorem dX4_best_16 : decode cX4_best 16 = .ok (.getfield 62, 3) := by decide +kernel
theorem dX4_best_19 : decode cX4_best 19 = .ok (.iconst 1, 1) := by decide +kernel
theorem dX4_best_20 : decode cX4_best 20 = .ok (.if_icmp .ge 6, 3) := by decide +kernel
theorem dX4_best_23 : decode cX4_best 23 = .ok (.bipush (-3), 2) := by decide +kernel
theorem dX4_best_25 : decode cX4_best 25 = .ok (.ireturn, 1) := by decide +kernel
theorem dX4_best_26 : decode cX4_best 26 = .ok (.aload_n 0, 1) := by decide +kernel
theorem dX4_best_27 : decode cX4_best 27 = .ok (.getfield 201, 3) := by decide +kernel
theorem dX4_best_30 : decode cX4_best 30 = .ok (.ifCond .ne 12, 3) := by decide +kernel
theorem dX4_best_33 : decode cX4_best 33 = .ok (.aload_n 0, 1) := by decide +kernel
theorem dX4_best_34 : decode cX4_best 34 = .ok (.invokevirtual 205, 3) := by decide +kernel
theorem dX4_best_37 : decode cX4_best 37 = .ok (.aload_n 0, 1) := by decide +kernel
theorem dX4_best_38 : decode cX4_best 38 = .ok (.iconst 1, 1) := by decide +kernel
theorem dX4_best_39 : decode cX4_best 39 = .ok (.putfield 201, 3) := by decide +kernel
theorem dX4_best_42 : decode cX4_best 42 = .ok (.iload_n 1, 1) := by decide +kernel
theorem dX4_best_43 : decode cX4_best 43 = .ok (.ifCond .ne 10, 3) := by decide +kernel
theorem dX4_best_46 : decode cX4_best 46 = .ok (.aload_n 0, 1) := by decide +kernel
theorem dX4_best_47 : decode cX4_best 47 = .ok (.getfield 208, 3) := by decide +kernel
theorem dX4_best_50 : decode cX4_best 50 = .ok (.goto 7, 3) := by decide +kernel
theorem dX4_best_53 : decode cX4_best 53 = .ok (.aload_n 0, 1) := by decide +kernel
theorem dX4_best_54 : decode cX4_best 54 = .ok (.getfield 211, 3) := by decide +kernel
theorem dX4_best_57 : decode cX4_best 57 = .ok (.ireturn, 1) := by decide +kernel
theorem dX4_told_0 : decode cX4_told 0 = .ok (.iload_n 1, 1) := by decide +kernel
theorem dX4_told_1 : decode cX4_told 1 = .ok (.tableswitch 63 0 3 #[31, 39, 47, 55], 31) := by decide +kernel
theorem dX4_told_32 : decode cX4_told 32 = .ok (.aload_n 0, 1) := by decide +kernel
theorem dX4_told_33 : decode cX4_told 33 = .ok (.getfield 10, 3) := by decide +kernel
theorem dX4_told_36 : decode cX4_told 36 = .ok (.getfield 62, 3) := by decide +kernel
theorem dX4_told_39 : decode cX4_told 39 = .ok (.ireturn, 1) := by decide +kernel
theorem dX4_told_40 : decode cX4_told 40 = .ok (.aload_n 0, 1) := by decide +kernel
theorem dX4_told_41 : decode cX4_told 41 = .ok (.getfield 10, 3) := by decide +kernel
theorem dX4_told_44 : decode cX4_told 44 = .ok (.getfield 80, 3) := by decide +kernel
theorem dX4_told_47 : decode cX4_told 47 = .ok (.ireturn, 1) := by decide +kernel
theorem dX4_told_48 : decode cX4_told 48 = .ok (.aload_n 0, 1) := by decide +kernel
theorem dX4_told_49 : decode cX4_told 49 = .ok (.getfield 19, 3) := by decide +kernel
theorem dX4_told_52 : decode cX4_told 52 = .ok (.getfield 105, 3) := by decide +kernel
theorem dX4_told_55 : decode cX4_told 55 = .ok (.ireturn, 1) := by decide +kernel
theorem dX4_told_56 : decode cX4_told 56 = .ok (.aload_n 0, 1) := by decide +kernel
theorem dX4_told_57 : decode cX4_told 57 = .ok (.getfield 36, 3) := by decide +kernel
theorem dX4_told_60 : decode cX4_told 60 = .ok (.getfield 116, 3) := by decide +kernel
theorem dX4_told_63 : decode cX4_told 63 = .ok (.ireturn, 1) := by decide +kernel
theorem dX4_told_64 : decode cX4_told 64 = .ok (.iload_n 1, 1) := by decide +kernel
theorem dX4_told_65 : decode cX4_told 65 = .ok (.iconst 4, 1) := by decide +kernel
theorem dX4_told_66 : decode cX4_told 66 = .ok (.if_icmp .lt 23, 3) := by decide +kernel
theorem dX4_told_69 : decode cX4_told 69 = .ok (.iload_n 1, 1) := by decide +kernel
theorem dX4_told_70 : decode cX4_told 70 = .ok (.bipush 9, 2) := by decide +kernel
theorem dX4_told_72 : decode cX4_told 72 = .ok (.if_icmp .ge 17, 3) := by decide +kernel
theorem dX4_told_75 : decode cX4_told 75 = .ok (.aload_n 0, 1) := by decide +kernel
theorem dX4_told_76 : decode cX4_told 76 = .ok (.getfield 10, 3) := by decide +kernel
theorem dX4_told_79 : decode cX4_told 79 = .ok (.getfield 74, 3) := by decide +kernel
theorem dX4_told_82 : decode cX4_told 82 = .ok (.iload_n 1, 1) := by decide +kernel
theorem dX4_told_83 : decode cX4_told 83 = .ok (.iconst 4, 1) := by decide +kernel
theorem dX4_told_84 : decode cX4_told 84 = .ok (.isub, 1) := by decide +kernel
theorem dX4_told_85 : decode cX4_told 85 = .ok (.iaload, 1) := by decide +kernel
theorem dX4_told_86 : decode cX4_told 86 = .ok (.goto 5, 3) := by decide +kernel
theorem dX4_told_89 : decode cX4_told 89 = .ok (.bipush (-2), 2) := by decide +kernel
theorem dX4_told_91 : decode cX4_told 91 = .ok (.ireturn, 1) := by decide +kernel
theorem dX4_isStop_0 : decode cX4_isStop 0 = .ok (.iload_n 0, 1) := by decide +kernel
theorem dX4_isStop_1 : decode cX4_isStop 1 = .ok (.ifCond .lt 13, 3) := by decide +kernel
theorem dX4_isStop_4 : decode cX4_isStop 4 = .ok (.iload_n 0, 1) := by decide +kernel
theorem dX4_isStop_5 : decode cX4_isStop 5 = .ok (.bipush 10, 2) := by decide +kernel
theorem dX4_isStop_7 : decode cX4_isStop 7 = .ok (.if_icmp .ge 7, 3) := by decide +kernel
theorem dX4_isStop_10 : decode cX4_isStop 10 = .ok (.iconst 1, 1) := by decide +kernel
theorem dX4_isStop_11 : decode cX4_isStop 11 = .ok (.goto 4, 3) := by decide +kernel
theorem dX4_isStop_14 : decode cX4_isStop 14 = .ok (.iconst 0, 1) := by decide +kernel
theorem dX4_isStop_15 : decode cX4_isStop 15 = .ok (.ireturn, 1) := by decide +kernel
theorem dX4_isGoingStop_0 : decode cX4_isGoingStop 0 = .ok (.iload_n 0, 1) := by decide +kernel
theorem dX4_isGoingStop_1 : decode cX4_isGoingStop 1 = .ok (.ifCond .lt 13, 3) := by decide +kernel
theorem dX4_isGoingStop_4 : decode cX4_isGoingStop 4 = .ok (.iload_n 0, 1) := by decide +kernel
theorem dX4_isGoingStop_5 : decode cX4_isGoingStop 5 = .ok (.bipush 9, 2) := by decide +kernel
theorem dX4_isGoingStop_7 : decode cX4_isGoingStop 7 = .ok (.if_icmp .ge 7, 3) := by decide +kernel
theorem dX4_isGoingStop_10 : decode cX4_isGoingStop 10 = .ok (.iconst 1, 1) := by decide +kernel
theorem dX4_isGoingStop_11 : decode cX4_isGoingStop 11 = .ok (.goto 4, 3) := by decide +kernel
theorem dX4_isGoingStop_14 : decode cX4_isGoingStop 14 = .ok (.iconst 0, 1) := by decide +kernel
theorem dX4_isGoingStop_15 : decode cX4_isGoingStop 15 = .ok (.ireturn, 1) := by decide +kernel
theorem dX4_cell_0 : decode cX4_cell 0 = .ok (.iload_n 0, 1) := by decide +kernel
theorem dX4_cell_1 : decode cX4_cell 1 = .ok (.bipush 10, 2) := by decide +kernel
theorem dX4_cell_3 : decode cX4_cell 3 = .ok (.imul, 1) := by decide +kernel
theorem dX4_cell_4 : decode cX4_cell 4 = .ok (.iload_n 1, 1) := by decide +kernel
theorem dX4_cell_5 : decode cX4_cell 5 = .ok (.iadd, 1) := by decide +kernel
theorem dX4_cell_6 : decode cX4_cell 6 = .ok (.ireturn, 1) := by decide +kernel
theorem dX4_forgetCourse_0 : decode cX4_forgetCourse 0 = .ok (.aload_n 0, 1) := by decide +kernel
theorem dX4_forgetCourse_1 : decode cX4_forgetCourse 1 = .ok (.iconst 0, 1) := by decide +kernel
theorem dX4_forgetCourse_2 : decode cX4_forgetCourse 2 = .ok (.putfield 214, 3) := by decide +kernel
theorem dX4_forgetCourse_5 : decode cX4_forgetCourse 5 = .ok (.aload_n 0, 1) := by decide +kernel
theorem dX4_forgetCourse_6 : decode cX4_forgetCourse 6 = .ok (.iconst 0, 1) := by decide +kernel
theorem dX4_forgetCourse_7 : decode cX4_forgetCourse 7 = .ok (.putfield 201, 3) := by decide +kernel
theorem dX4_forgetCourse_10 : decode cX4_forgetCourse 10 = .ok (.return_, 1) := by decide +kernel
theorem dX4_presentCourse_0 : decode cX4_presentCourse 0 = .ok (.aload_n 0, 1) := by decide +kernel
theorem dX4_presentCourse_1 : decode cX4_presentCourse 1 = .ok (.getfield 214, 3) := by decide +kernel
theorem dX4_presentCourse_4 : decode cX4_presentCourse 4 = .ok (.ifCond .ne 36, 3) := by decide +kernel
theorem dX4_presentCourse_7 : decode cX4_presentCourse 7 = .ok (.aload_n 0, 1) := by decide +kernel
theorem dX4_presentCourse_8 : decode cX4_presentCourse 8 = .ok (.getfield 26, 3) := by decide +kernel
theorem dX4_presentCourse_11 : decode cX4_presentCourse 11 = .ok (.aload_n 0, 1) := by decide +kernel
theorem dX4_presentCourse_12 : decode cX4_presentCourse 12 = .ok (.getfield 10, 3) := by decide +kernel
theorem dX4_presentCourse_15 : decode cX4_presentCourse 15 = .ok (.bipush (-6), 2) := by decide +kernel
theorem dX4_presentCourse_17 : decode cX4_presentCourse 17 = .ok (.invokevirtual 141, 3) := by decide +kernel
theorem dX4_presentCourse_20 : decode cX4_presentCourse 20 = .ok (.aload_n 0, 1) := by decide +kernel
theorem dX4_presentCourse_21 : decode cX4_presentCourse 21 = .ok (.getfield 26, 3) := by decide +kernel
theorem dX4_presentCourse_24 : decode cX4_presentCourse 24 = .ok (.aload_n 0, 1) := by decide +kernel
theorem dX4_presentCourse_25 : decode cX4_presentCourse 25 = .ok (.getfield 10, 3) := by decide +kernel
theorem dX4_presentCourse_28 : decode cX4_presentCourse 28 = .ok (.aload_n 0, 1) := by decide +kernel
theorem dX4_presentCourse_29 : decode cX4_presentCourse 29 = .ok (.getfield 36, 3) := by decide +kernel
theorem dX4_presentCourse_32 : decode cX4_presentCourse 32 = .ok (.invokevirtual 145, 3) := by decide +kernel
theorem dX4_presentCourse_35 : decode cX4_presentCourse 35 = .ok (.aload_n 0, 1) := by decide +kernel
theorem dX4_presentCourse_36 : decode cX4_presentCourse 36 = .ok (.iconst 1, 1) := by decide +kernel
theorem dX4_presentCourse_37 : decode cX4_presentCourse 37 = .ok (.putfield 214, 3) := by decide +kernel
theorem dX4_presentCourse_40 : decode cX4_presentCourse 40 = .ok (.aload_n 0, 1) := by decide +kernel
theorem dX4_presentCourse_41 : decode cX4_presentCourse 41 = .ok (.getfield 26, 3) := by decide +kernel
theorem dX4_presentCourse_44 : decode cX4_presentCourse 44 = .ok (.areturn, 1) := by decide +kernel
theorem dX4_findBest_0 : decode cX4_findBest 0 = .ok (.aload_n 0, 1) := by decide +kernel
theorem dX4_findBest_1 : decode cX4_findBest 1 = .ok (.getfield 30, 3) := by decide +kernel
theorem dX4_findBest_4 : decode cX4_findBest 4 = .ok (.aload_n 0, 1) := by decide +kernel
theorem dX4_findBest_5 : decode cX4_findBest 5 = .ok (.getfield 10, 3) := by decide +kernel
theorem dX4_findBest_8 : decode cX4_findBest 8 = .ok (.bipush (-6), 2) := by decide +kernel
theorem dX4_findBest_10 : decode cX4_findBest 10 = .ok (.invokevirtual 141, 3) := by decide +kernel
theorem dX4_findBest_13 : decode cX4_findBest 13 = .ok (.lconst 0, 1) := by decide +kernel
theorem dX4_findBest_14 : decode cX4_findBest 14 = .ok (.lstore_n 1, 1) := by decide +kernel
theorem dX4_findBest_15 : decode cX4_findBest 15 = .ok (.iconst 0, 1) := by decide +kernel
theorem dX4_findBest_16 : decode cX4_findBest 16 = .ok (.istore_n 3, 1) := by decide +kernel
theorem dX4_findBest_17 : decode cX4_findBest 17 = .ok (.iload_n 3, 1) := by decide +kernel
theorem dX4_findBest_18 : decode cX4_findBest 18 = .ok (.bipush 9, 2) := by decide +kernel
theorem dX4_findBest_20 : decode cX4_findBest 20 = .ok (.if_icmp .ge 123, 3) := by decide +kernel
theorem dX4_findBest_23 : decode cX4_findBest 23 = .ok (.iconst 0, 1) := by decide +kernel
theorem dX4_findBest_24 : decode cX4_findBest 24 = .ok (.istore 4, 2) := by decide +kernel
theorem dX4_findBest_26 : decode cX4_findBest 26 = .ok (.iload 4, 2) := by decide +kernel
theorem dX4_findBest_28 : decode cX4_findBest 28 = .ok (.sipush 600, 3) := by decide +kernel
theorem dX4_findBest_31 : decode cX4_findBest 31 = .ok (.if_icmp .gt 106, 3) := by decide +kernel
theorem dX4_findBest_34 : decode cX4_findBest 34 = .ok (.aload_n 0, 1) := by decide +kernel
theorem dX4_findBest_35 : decode cX4_findBest 35 = .ok (.getfield 40, 3) := by decide +kernel
theorem dX4_findBest_38 : decode cX4_findBest 38 = .ok (.iload_n 3, 1) := by decide +kernel
theorem dX4_findBest_39 : decode cX4_findBest 39 = .ok (.iload 4, 2) := by decide +kernel
theorem dX4_findBest_41 : decode cX4_findBest 41 = .ok (.invokevirtual 217, 3) := by decide +kernel
theorem dX4_findBest_44 : decode cX4_findBest 44 = .ok (.aload_n 0, 1) := by decide +kernel
theorem dX4_findBest_45 : decode cX4_findBest 45 = .ok (.getfield 30, 3) := by decide +kernel
theorem dX4_findBest_48 : decode cX4_findBest 48 = .ok (.aload_n 0, 1) := by decide +kernel
theorem dX4_findBest_49 : decode cX4_findBest 49 = .ok (.getfield 10, 3) := by decide +kernel
theorem dX4_findBest_52 : decode cX4_findBest 52 = .ok (.aload_n 0, 1) := by decide +kernel
theorem dX4_findBest_53 : decode cX4_findBest 53 = .ok (.getfield 40, 3) := by decide +kernel
theorem dX4_findBest_56 : decode cX4_findBest 56 = .ok (.invokevirtual 145, 3) := by decide +kernel
theorem dX4_findBest_59 : decode cX4_findBest 59 = .ok (.aload_n 0, 1) := by decide +kernel
theorem dX4_findBest_60 : decode cX4_findBest 60 = .ok (.getfield 30, 3) := by decide +kernel
theorem dX4_findBest_63 : decode cX4_findBest 63 = .ok (.invokevirtual 175, 3) := by decide +kernel
theorem dX4_findBest_66 : decode cX4_findBest 66 = .ok (.aload_n 0, 1) := by decide +kernel
theorem dX4_findBest_67 : decode cX4_findBest 67 = .ok (.getfield 30, 3) := by decide +kernel
theorem dX4_findBest_70 : decode cX4_findBest 70 = .ok (.getfield 179, 3) := by decide +kernel
theorem dX4_findBest_73 : decode cX4_findBest 73 = .ok (.ladd, 1) := by decide +kernel
end
section
theorem dX4_findBest_74 : decode cX4_findBest 74 = .ok (.ldc2_w 221, 3) := by decide +kernel
theorem dX4_findBest_77 : decode cX4_findBest 77 = .ok (.aload_n 0, 1) := by decide +kernel
theorem dX4_findBest_78 : decode cX4_findBest 78 = .ok (.getfield 30, 3) := by decide +kernel
theorem dX4_findBest_81 : decode cX4_findBest 81 = .ok (.getfield 183, 3) := by decide +kernel
theorem dX4_findBest_84 : decode cX4_findBest 84 = .ok (.i2l, 1) := by decide +kernel
theorem dX4_findBest_85 : decode cX4_findBest 85 = .ok (.lmul, 1) := by decide +kernel
theorem dX4_findBest_86 : decode cX4_findBest 86 = .ok (.ladd, 1) := by decide +kernel
theorem dX4_findBest_87 : decode cX4_findBest 87 = .ok (.lstore 5, 2) := by decide +kernel
theorem dX4_findBest_89 : decode cX4_findBest 89 = .ok (.iload_n 3, 1) := by decide +kernel
theorem dX4_findBest_90 : decode cX4_findBest 90 = .ok (.ifCond .ne 12, 3) := by decide +kernel
theorem dX4_findBest_93 : decode cX4_findBest 93 = .ok (.iload 4, 2) := by decide +kernel
theorem dX4_findBest_95 : decode cX4_findBest 95 = .ok (.ifCond .ne 7, 3) := by decide +kernel
theorem dX4_findBest_98 : decode cX4_findBest 98 = .ok (.iconst 1, 1) := by decide +kernel
theorem dX4_findBest_99 : decode cX4_findBest 99 = .ok (.goto 4, 3) := by decide +kernel
theorem dX4_findBest_102 : decode cX4_findBest 102 = .ok (.iconst 0, 1) := by decide +kernel
theorem dX4_findBest_103 : decode cX4_findBest 103 = .ok (.istore 7, 2) := by decide +kernel
theorem dX4_findBest_105 : decode cX4_findBest 105 = .ok (.iload 7, 2) := by decide +kernel
theorem dX4_findBest_107 : decode cX4_findBest 107 = .ok (.ifCond .ne 10, 3) := by decide +kernel
theorem dX4_findBest_110 : decode cX4_findBest 110 = .ok (.lload 5, 2) := by decide +kernel
theorem dX4_findBest_112 : decode cX4_findBest 112 = .ok (.lload_n 1, 1) := by decide +kernel
theorem dX4_findBest_113 : decode cX4_findBest 113 = .ok (.lcmp, 1) := by decide +kernel
theorem dX4_findBest_114 : decode cX4_findBest 114 = .ok (.ifCond .ge 17, 3) := by decide +kernel
theorem dX4_findBest_117 : decode cX4_findBest 117 = .ok (.lload 5, 2) := by decide +kernel
theorem dX4_findBest_119 : decode cX4_findBest 119 = .ok (.lstore_n 1, 1) := by decide +kernel
theorem dX4_findBest_120 : decode cX4_findBest 120 = .ok (.aload_n 0, 1) := by decide +kernel
theorem dX4_findBest_121 : decode cX4_findBest 121 = .ok (.iload_n 3, 1) := by decide +kernel
theorem dX4_findBest_122 : decode cX4_findBest 122 = .ok (.putfield 208, 3) := by decide +kernel
theorem dX4_findBest_125 : decode cX4_findBest 125 = .ok (.aload_n 0, 1) := by decide +kernel
theorem dX4_findBest_126 : decode cX4_findBest 126 = .ok (.iload 4, 2) := by decide +kernel
theorem dX4_findBest_128 : decode cX4_findBest 128 = .ok (.putfield 211, 3) := by decide +kernel
theorem dX4_findBest_131 : decode cX4_findBest 131 = .ok (.iinc 4 60, 3) := by decide +kernel
theorem dX4_findBest_134 : decode cX4_findBest 134 = .ok (.goto (-108), 3) := by decide +kernel
theorem dX4_findBest_137 : decode cX4_findBest 137 = .ok (.iinc 3 1, 3) := by decide +kernel
theorem dX4_findBest_140 : decode cX4_findBest 140 = .ok (.goto (-123), 3) := by decide +kernel
theorem dX4_findBest_143 : decode cX4_findBest 143 = .ok (.return_, 1) := by decide +kernel
theorem dX4_partOfFraction_0 : decode cX4_partOfFraction 0 = .ok (.lload_n 2, 1) := by decide +kernel
theorem dX4_partOfFraction_1 : decode cX4_partOfFraction 1 = .ok (.lconst 0, 1) := by decide +kernel
theorem dX4_partOfFraction_2 : decode cX4_partOfFraction 2 = .ok (.lcmp, 1) := by decide +kernel
theorem dX4_partOfFraction_3 : decode cX4_partOfFraction 3 = .ok (.ifCond .le 11, 3) := by decide +kernel
theorem dX4_partOfFraction_6 : decode cX4_partOfFraction 6 = .ok (.lload_n 0, 1) := by decide +kernel
theorem dX4_partOfFraction_7 : decode cX4_partOfFraction 7 = .ok (.lload_n 2, 1) := by decide +kernel
theorem dX4_partOfFraction_8 : decode cX4_partOfFraction 8 = .ok (.invokestatic 223, 3) := by decide +kernel
theorem dX4_partOfFraction_11 : decode cX4_partOfFraction 11 = .ok (.goto 4, 3) := by decide +kernel
theorem dX4_partOfFraction_14 : decode cX4_partOfFraction 14 = .ok (.lconst 0, 1) := by decide +kernel
theorem dX4_partOfFraction_15 : decode cX4_partOfFraction 15 = .ok (.lstore 5, 2) := by decide +kernel
theorem dX4_partOfFraction_17 : decode cX4_partOfFraction 17 = .ok (.lload 5, 2) := by decide +kernel
theorem dX4_partOfFraction_19 : decode cX4_partOfFraction 19 = .ok (.lconst 0, 1) := by decide +kernel
theorem dX4_partOfFraction_20 : decode cX4_partOfFraction 20 = .ok (.lcmp, 1) := by decide +kernel
theorem dX4_partOfFraction_21 : decode cX4_partOfFraction 21 = .ok (.ifCond .gt 14, 3) := by decide +kernel
theorem dX4_partOfFraction_24 : decode cX4_partOfFraction 24 = .ok (.iload 4, 2) := by decide +kernel
theorem dX4_partOfFraction_26 : decode cX4_partOfFraction 26 = .ok (.ifCond .ne 7, 3) := by decide +kernel
theorem dX4_partOfFraction_29 : decode cX4_partOfFraction 29 = .ok (.lconst 0, 1) := by decide +kernel
theorem dX4_partOfFraction_30 : decode cX4_partOfFraction 30 = .ok (.goto 4, 3) := by decide +kernel
theorem dX4_partOfFraction_33 : decode cX4_partOfFraction 33 = .ok (.lconst 1, 1) := by decide +kernel
theorem dX4_partOfFraction_34 : decode cX4_partOfFraction 34 = .ok (.lreturn, 1) := by decide +kernel
theorem dX4_partOfFraction_35 : decode cX4_partOfFraction 35 = .ok (.iload 4, 2) := by decide +kernel
theorem dX4_partOfFraction_37 : decode cX4_partOfFraction 37 = .ok (.ifCond .ne 7, 3) := by decide +kernel
theorem dX4_partOfFraction_40 : decode cX4_partOfFraction 40 = .ok (.lload_n 0, 1) := by decide +kernel
theorem dX4_partOfFraction_41 : decode cX4_partOfFraction 41 = .ok (.goto 4, 3) := by decide +kernel
theorem dX4_partOfFraction_44 : decode cX4_partOfFraction 44 = .ok (.lload_n 2, 1) := by decide +kernel
theorem dX4_partOfFraction_45 : decode cX4_partOfFraction 45 = .ok (.lload 5, 2) := by decide +kernel
theorem dX4_partOfFraction_47 : decode cX4_partOfFraction 47 = .ok (.ldiv, 1) := by decide +kernel
theorem dX4_partOfFraction_48 : decode cX4_partOfFraction 48 = .ok (.lreturn, 1) := by decide +kernel
theorem dX4_commonDivisor_0 : decode cX4_commonDivisor 0 = .ok (.lload_n 0, 1) := by decide +kernel
theorem dX4_commonDivisor_1 : decode cX4_commonDivisor 1 = .ok (.lstore 4, 2) := by decide +kernel
theorem dX4_commonDivisor_3 : decode cX4_commonDivisor 3 = .ok (.lload_n 2, 1) := by decide +kernel
theorem dX4_commonDivisor_4 : decode cX4_commonDivisor 4 = .ok (.lstore 6, 2) := by decide +kernel
theorem dX4_commonDivisor_6 : decode cX4_commonDivisor 6 = .ok (.iconst 0, 1) := by decide +kernel
theorem dX4_commonDivisor_7 : decode cX4_commonDivisor 7 = .ok (.istore 8, 2) := by decide +kernel
theorem dX4_commonDivisor_9 : decode cX4_commonDivisor 9 = .ok (.iload 8, 2) := by decide +kernel
theorem dX4_commonDivisor_11 : decode cX4_commonDivisor 11 = .ok (.bipush 100, 2) := by decide +kernel
theorem dX4_commonDivisor_13 : decode cX4_commonDivisor 13 = .ok (.if_icmp .ge 31, 3) := by decide +kernel
theorem dX4_commonDivisor_16 : decode cX4_commonDivisor 16 = .ok (.lload 6, 2) := by decide +kernel
theorem dX4_commonDivisor_18 : decode cX4_commonDivisor 18 = .ok (.lconst 0, 1) := by decide +kernel
theorem dX4_commonDivisor_19 : decode cX4_commonDivisor 19 = .ok (.lcmp, 1) := by decide +kernel
theorem dX4_commonDivisor_20 : decode cX4_commonDivisor 20 = .ok (.ifCond .eq 24, 3) := by decide +kernel
theorem dX4_commonDivisor_23 : decode cX4_commonDivisor 23 = .ok (.lload 4, 2) := by decide +kernel
theorem dX4_commonDivisor_25 : decode cX4_commonDivisor 25 = .ok (.lload 6, 2) := by decide +kernel
theorem dX4_commonDivisor_27 : decode cX4_commonDivisor 27 = .ok (.lrem, 1) := by decide +kernel
theorem dX4_commonDivisor_28 : decode cX4_commonDivisor 28 = .ok (.lstore 9, 2) := by decide +kernel
theorem dX4_commonDivisor_30 : decode cX4_commonDivisor 30 = .ok (.lload 6, 2) := by decide +kernel
theorem dX4_commonDivisor_32 : decode cX4_commonDivisor 32 = .ok (.lstore 4, 2) := by decide +kernel
theorem dX4_commonDivisor_34 : decode cX4_commonDivisor 34 = .ok (.lload 9, 2) := by decide +kernel
theorem dX4_commonDivisor_36 : decode cX4_commonDivisor 36 = .ok (.lstore 6, 2) := by decide +kernel
theorem dX4_commonDivisor_38 : decode cX4_commonDivisor 38 = .ok (.iinc 8 1, 3) := by decide +kernel
theorem dX4_commonDivisor_41 : decode cX4_commonDivisor 41 = .ok (.goto (-32), 3) := by decide +kernel
theorem dX4_commonDivisor_44 : decode cX4_commonDivisor 44 = .ok (.lload 4, 2) := by decide +kernel
theorem dX4_commonDivisor_46 : decode cX4_commonDivisor 46 = .ok (.lreturn, 1) := by decide +kernel
theorem dX5_init_0 : decode cX5_init 0 = .ok (.aload_n 0, 1) := by decide +kernel
theorem dX5_init_1 : decode cX5_init 1 = .ok (.invokespecial 1, 3) := by decide +kernel
theorem dX5_init_4 : decode cX5_init 4 = .ok (.aload_n 0, 1) := by decide +kernel
theorem dX5_init_5 : decode cX5_init 5 = .ok (.bipush 9, 2) := by decide +kernel
theorem dX5_init_7 : decode cX5_init 7 = .ok (.newarray .int, 2) := by decide +kernel
theorem dX5_init_9 : decode cX5_init 9 = .ok (.putfield 7, 3) := by decide +kernel
theorem dX5_init_12 : decode cX5_init 12 = .ok (.aload_n 0, 1) := by decide +kernel
theorem dX5_init_13 : decode cX5_init 13 = .ok (.bipush 9, 2) := by decide +kernel
theorem dX5_init_15 : decode cX5_init 15 = .ok (.newarray .int, 2) := by decide +kernel
theorem dX5_init_17 : decode cX5_init 17 = .ok (.putfield 13, 3) := by decide +kernel
theorem dX5_init_20 : decode cX5_init 20 = .ok (.aload_n 0, 1) := by decide +kernel
theorem dX5_init_21 : decode cX5_init 21 = .ok (.bipush 9, 2) := by decide +kernel
theorem dX5_init_23 : decode cX5_init 23 = .ok (.newarray .int, 2) := by decide +kernel
theorem dX5_init_25 : decode cX5_init 25 = .ok (.putfield 16, 3) := by decide +kernel
theorem dX5_init_28 : decode cX5_init 28 = .ok (.aload_n 0, 1) := by decide +kernel
theorem dX5_init_29 : decode cX5_init 29 = .ok (.bipush 8, 2) := by decide +kernel
theorem dX5_init_31 : decode cX5_init 31 = .ok (.newarray .int, 2) := by decide +kernel
theorem dX5_init_33 : decode cX5_init 33 = .ok (.putfield 19, 3) := by decide +kernel
theorem dX5_init_36 : decode cX5_init 36 = .ok (.aload_n 0, 1) := by decide +kernel
theorem dX5_init_37 : decode cX5_init 37 = .ok (.bipush 8, 2) := by decide +kernel
theorem dX5_init_39 : decode cX5_init 39 = .ok (.newarray .int, 2) := by decide +kernel
theorem dX5_init_41 : decode cX5_init 41 = .ok (.putfield 22, 3) := by decide +kernel
theorem dX5_init_44 : decode cX5_init 44 = .ok (.aload_n 0, 1) := by decide +kernel
theorem dX5_init_45 : decode cX5_init 45 = .ok (.bipush 8, 2) := by decide +kernel
theorem dX5_init_47 : decode cX5_init 47 = .ok (.newarray .int, 2) := by decide +kernel
theorem dX5_init_49 : decode cX5_init 49 = .ok (.putfield 25, 3) := by decide +kernel
theorem dX5_init_52 : decode cX5_init 52 = .ok (.aload_n 0, 1) := by decide +kernel
theorem dX5_init_53 : decode cX5_init 53 = .ok (.iconst 5, 1) := by decide +kernel
theorem dX5_init_54 : decode cX5_init 54 = .ok (.newarray .int, 2) := by decide +kernel
theorem dX5_init_56 : decode cX5_init 56 = .ok (.putfield 28, 3) := by decide +kernel
theorem dX5_init_59 : decode cX5_init 59 = .ok (.aload_n 0, 1) := by decide +kernel
theorem dX5_init_60 : decode cX5_init 60 = .ok (.bipush 11, 2) := by decide +kernel
theorem dX5_init_62 : decode cX5_init 62 = .ok (.newarray .int, 2) := by decide +kernel
theorem dX5_init_64 : decode cX5_init 64 = .ok (.putfield 31, 3) := by decide +kernel
theorem dX5_init_67 : decode cX5_init 67 = .ok (.aload_n 0, 1) := by decide +kernel
theorem dX5_init_68 : decode cX5_init 68 = .ok (.bipush 11, 2) := by decide +kernel
theorem dX5_init_70 : decode cX5_init 70 = .ok (.newarray .int, 2) := by decide +kernel
theorem dX5_init_72 : decode cX5_init 72 = .ok (.putfield 34, 3) := by decide +kernel
theorem dX5_init_75 : decode cX5_init 75 = .ok (.aload_n 0, 1) := by decide +kernel
theorem dX5_init_76 : decode cX5_init 76 = .ok (.bipush 11, 2) := by decide +kernel
theorem dX5_init_78 : decode cX5_init 78 = .ok (.newarray .int, 2) := by decide +kernel
theorem dX5_init_80 : decode cX5_init 80 = .ok (.putfield 37, 3) := by decide +kernel
theorem dX5_init_83 : decode cX5_init 83 = .ok (.aload_n 0, 1) := by decide +kernel
theorem dX5_init_84 : decode cX5_init 84 = .ok (.bipush 40, 2) := by decide +kernel
theorem dX5_init_86 : decode cX5_init 86 = .ok (.newarray .int, 2) := by decide +kernel
theorem dX5_init_88 : decode cX5_init 88 = .ok (.putfield 40, 3) := by decide +kernel
theorem dX5_init_91 : decode cX5_init 91 = .ok (.aload_n 0, 1) := by decide +kernel
theorem dX5_init_92 : decode cX5_init 92 = .ok (.bipush 10, 2) := by decide +kernel
theorem dX5_init_94 : decode cX5_init 94 = .ok (.newarray .int, 2) := by decide +kernel
theorem dX5_init_96 : decode cX5_init 96 = .ok (.putfield 43, 3) := by decide +kernel
theorem dX5_init_99 : decode cX5_init 99 = .ok (.aload_n 0, 1) := by decide +kernel
theorem dX5_init_100 : decode cX5_init 100 = .ok (.bipush 10, 2) := by decide +kernel
theorem dX5_init_102 : decode cX5_init 102 = .ok (.newarray .int, 2) := by decide +kernel
theorem dX5_init_104 : decode cX5_init 104 = .ok (.putfield 46, 3) := by decide +kernel
theorem dX5_init_107 : decode cX5_init 107 = .ok (.aload_n 0, 1) := by decide +kernel
theorem dX5_init_108 : decode cX5_init 108 = .ok (.bipush 80, 2) := by decide +kernel
theorem dX5_init_110 : decode cX5_init 110 = .ok (.newarray .int, 2) := by decide +kernel
theorem dX5_init_112 : decode cX5_init 112 = .ok (.putfield 49, 3) := by decide +kernel
theorem dX5_init_115 : decode cX5_init 115 = .ok (.aload_n 0, 1) := by decide +kernel
theorem dX5_init_116 : decode cX5_init 116 = .ok (.bipush 80, 2) := by decide +kernel
theorem dX5_init_118 : decode cX5_init 118 = .ok (.newarray .int, 2) := by decide +kernel
theorem dX5_init_120 : decode cX5_init 120 = .ok (.putfield 52, 3) := by decide +kernel
theorem dX5_init_123 : decode cX5_init 123 = .ok (.aload_n 0, 1) := by decide +kernel
theorem dX5_init_124 : decode cX5_init 124 = .ok (.bipush 80, 2) := by decide +kernel
theorem dX5_init_126 : decode cX5_init 126 = .ok (.newarray .int, 2) := by decide +kernel
theorem dX5_init_128 : decode cX5_init 128 = .ok (.putfield 55, 3) := by decide +kernel
theorem dX5_init_131 : decode cX5_init 131 = .ok (.aload_n 0, 1) := by decide +kernel
theorem dX5_init_132 : decode cX5_init 132 = .ok (.bipush 80, 2) := by decide +kernel
theorem dX5_init_134 : decode cX5_init 134 = .ok (.newarray .int, 2) := by decide +kernel
theorem dX5_init_136 : decode cX5_init 136 = .ok (.putfield 58, 3) := by decide +kernel
theorem dX5_init_139 : decode cX5_init 139 = .ok (.aload_n 0, 1) := by decide +kernel
theorem dX5_init_140 : decode cX5_init 140 = .ok (.bipush 80, 2) := by decide +kernel
theorem dX5_init_142 : decode cX5_init 142 = .ok (.newarray .int, 2) := by decide +kernel
theorem dX5_init_144 : decode cX5_init 144 = .ok (.putfield 61, 3) := by decide +kernel
theorem dX5_init_147 : decode cX5_init 147 = .ok (.aload_n 0, 1) := by decide +kernel
theorem dX5_init_148 : decode cX5_init 148 = .ok (.bipush 80, 2) := by decide +kernel
theorem dX5_init_150 : decode cX5_init 150 = .ok (.newarray .int, 2) := by decide +kernel
theorem dX5_init_152 : decode cX5_init 152 = .ok (.putfield 64, 3) := by decide +kernel
theorem dX5_init_155 : decode cX5_init 155 = .ok (.aload_n 0, 1) := by decide +kernel
theorem dX5_init_156 : decode cX5_init 156 = .ok (.bipush 80, 2) := by decide +kernel
theorem dX5_init_158 : decode cX5_init 158 = .ok (.newarray .int, 2) := by decide +kernel
theorem dX5_init_160 : decode cX5_init 160 = .ok (.putfield 67, 3) := by decide +kernel
theorem dX5_init_163 : decode cX5_init 163 = .ok (.aload_n 0, 1) := by decide +kernel
theorem dX5_init_164 : decode cX5_init 164 = .ok (.bipush 80, 2) := by decide +kernel
theorem dX5_init_166 : decode cX5_init 166 = .ok (.newarray .int, 2) := by decide +kernel
theorem dX5_init_168 : decode cX5_init 168 = .ok (.putfield 70, 3) := by decide +kernel
theorem dX5_init_171 : decode cX5_init 171 = .ok (.aload_n 0, 1) := by decide +kernel
theorem dX5_init_172 : decode cX5_init 172 = .ok (.bipush 9, 2) := by decide +kernel
theorem dX5_init_174 : decode cX5_init 174 = .ok (.newarray .int, 2) := by decide +kernel
theorem dX5_init_176 : decode cX5_init 176 = .ok (.putfield 73, 3) := by decide +kernel
theorem dX5_init_179 : decode cX5_init 179 = .ok (.aload_n 0, 1) := by decide +kernel
theorem dX5_init_180 : decode cX5_init 180 = .ok (.bipush 9, 2) := by decide +kernel
theorem dX5_init_182 : decode cX5_init 182 = .ok (.newarray .int, 2) := by decide +kernel
theorem dX5_init_184 : decode cX5_init 184 = .ok (.putfield 76, 3) := by decide +kernel
theorem dX5_init_187 : decode cX5_init 187 = .ok (.aload_n 0, 1) := by decide +kernel
theorem dX5_init_188 : decode cX5_init 188 = .ok (.bipush 9, 2) := by decide +kernel
theorem dX5_init_190 : decode cX5_init 190 = .ok (.newarray .int, 2) := by decide +kernel
theorem dX5_init_192 : decode cX5_init 192 = .ok (.putfield 79, 3) := by decide +kernel
theorem dX5_init_195 : decode cX5_init 195 = .ok (.aload_n 0, 1) := by decide +kernel
theorem dX5_init_196 : decode cX5_init 196 = .ok (.bipush 8, 2) := by decide +kernel
theorem dX5_init_198 : decode cX5_init 198 = .ok (.newarray .int, 2) := by decide +kernel
theorem dX5_init_200 : decode cX5_init 200 = .ok (.putfield 82, 3) := by decide +kernel
theorem dX5_init_203 : decode cX5_init 203 = .ok (.aload_n 0, 1) := by decide +kernel
theorem dX5_init_204 : decode cX5_init 204 = .ok (.bipush 8, 2) := by decide +kernel
theorem dX5_init_206 : decode cX5_init 206 = .ok (.newarray .int, 2) := by decide +kernel
theorem dX5_init_208 : decode cX5_init 208 = .ok (.putfield 85, 3) := by decide +kernel
theorem dX5_init_211 : decode cX5_init 211 = .ok (.aload_n 0, 1) := by decide +kernel
theorem dX5_init_212 : decode cX5_init 212 = .ok (.bipush 10, 2) := by decide +kernel
theorem dX5_init_214 : decode cX5_init 214 = .ok (.newarray .int, 2) := by decide +kernel
theorem dX5_init_216 : decode cX5_init 216 = .ok (.putfield 88, 3) := by decide +kernel
theorem dX5_init_219 : decode cX5_init 219 = .ok (.aload_n 0, 1) := by decide +kernel
theorem dX5_init_220 : decode cX5_init 220 = .ok (.bipush 10, 2) := by decide +kernel
theorem dX5_init_222 : decode cX5_init 222 = .ok (.newarray .int, 2) := by decide +kernel
theorem dX5_init_224 : decode cX5_init 224 = .ok (.putfield 91, 3) := by decide +kernel
theorem dX5_init_227 : decode cX5_init 227 = .ok (.iconst 0, 1) := by decide +kernel
theorem dX5_init_228 : decode cX5_init 228 = .ok (.istore_n 1, 1) := by decide +kernel
theorem dX5_init_229 : decode cX5_init 229 = .ok (.iload_n 1, 1) := by decide +kernel
theorem dX5_init_230 : decode cX5_init 230 = .ok (.bipush 9, 2) := by decide +kernel
theorem dX5_init_232 : decode cX5_init 232 = .ok (.if_icmp .ge 24, 3) := by decide +kernel
theorem dX5_init_235 : decode cX5_init 235 = .ok (.aload_n 0, 1) := by decide +kernel
theorem dX5_init_236 : decode cX5_init 236 = .ok (.getfield 7, 3) := by decide +kernel
theorem dX5_init_239 : decode cX5_init 239 = .ok (.iload_n 1, 1) := by decide +kernel
theorem dX5_init_240 : decode cX5_init 240 = .ok (.bipush 120, 2) := by decide +kernel
theorem dX5_init_242 : decode cX5_init 242 = .ok (.iastore, 1) := by decide +kernel
theorem dX5_init_243 : decode cX5_init 243 = .ok (.aload_n 0, 1) := by decide +kernel
theorem dX5_init_244 : decode cX5_init 244 = .ok (.getfield 16, 3) := by decide +kernel
theorem dX5_init_247 : decode cX5_init 247 = .ok (.iload_n 1, 1) := by decide +kernel
theorem dX5_init_248 : decode cX5_init 248 = .ok (.iconst 3, 1) := by decide +kernel
theorem dX5_init_249 : decode cX5_init 249 = .ok (.iastore, 1) := by decide +kernel
theorem dX5_init_250 : decode cX5_init 250 = .ok (.iinc 1 1, 3) := by decide +kernel
theorem dX5_init_253 : decode cX5_init 253 = .ok (.goto (-24), 3) := by decide +kernel
theorem dX5_init_256 : decode cX5_init 256 = .ok (.aload_n 0, 1) := by decide +kernel
theorem dX5_init_257 : decode cX5_init 257 = .ok (.getfield 28, 3) := by decide +kernel
theorem dX5_init_260 : decode cX5_init 260 = .ok (.iconst 0, 1) := by decide +kernel
theorem dX5_init_261 : decode cX5_init 261 = .ok (.bipush 8, 2) := by decide +kernel
theorem dX5_init_263 : decode cX5_init 263 = .ok (.iastore, 1) := by decide +kernel
theorem dX5_init_264 : decode cX5_init 264 = .ok (.aload_n 0, 1) := by decide +kernel
theorem dX5_init_265 : decode cX5_init 265 = .ok (.getfield 28, 3) := by decide +kernel
theorem dX5_init_268 : decode cX5_init 268 = .ok (.iconst 1, 1) := by decide +kernel
theorem dX5_init_269 : decode cX5_init 269 = .ok (.iconst 2, 1) := by decide +kernel
theorem dX5_init_270 : decode cX5_init 270 = .ok (.iastore, 1) := by decide +kernel
theorem dX5_init_271 : decode cX5_init 271 = .ok (.aload_n 0, 1) := by decide +kernel
theorem dX5_init_272 : decode cX5_init 272 = .ok (.getfield 28, 3) := by decide +kernel
theorem dX5_init_275 : decode cX5_init 275 = .ok (.iconst 2, 1) := by decide +kernel
theorem dX5_init_276 : decode cX5_init 276 = .ok (.iconst 1, 1) := by decide +kernel
theorem dX5_init_277 : decode cX5_init 277 = .ok (.iastore, 1) := by decide +kernel
theorem dX5_init_278 : decode cX5_init 278 = .ok (.aload_n 0, 1) := by decide +kernel
theorem dX5_init_279 : decode cX5_init 279 = .ok (.getfield 28, 3) := by decide +kernel
theorem dX5_init_282 : decode cX5_init 282 = .ok (.iconst 4, 1) := by decide +kernel
theorem dX5_init_283 : decode cX5_init 283 = .ok (.bipush 30, 2) := by decide +kernel
theorem dX5_init_285 : decode cX5_init 285 = .ok (.iastore, 1) := by decide +kernel
theorem dX5_init_286 : decode cX5_init 286 = .ok (.return_, 1) := by decide +kernel
theorem dX5_in_0 : decode cX5_in 0 = .ok (.iload_n 0, 1) := by decide +kernel
theorem dX5_in_1 : decode cX5_in 1 = .ok (.iload_n 1, 1) := by decide +kernel
theorem dX5_in_2 : decode cX5_in 2 = .ok (.if_icmp .lt 12, 3) := by decide +kernel
theorem dX5_in_5 : decode cX5_in 5 = .ok (.iload_n 0, 1) := by decide +kernel
theorem dX5_in_6 : decode cX5_in 6 = .ok (.iload_n 2, 1) := by decide +kernel
theorem dX5_in_7 : decode cX5_in 7 = .ok (.if_icmp .gt 7, 3) := by decide +kernel
theorem dX5_in_10 : decode cX5_in 10 = .ok (.iconst 1, 1) := by decide +kernel
theorem dX5_in_11 : decode cX5_in 11 = .ok (.goto 4, 3) := by decide +kernel
theorem dX5_in_14 : decode cX5_in 14 = .ok (.iconst 0, 1) := by decide +kernel
theorem dX5_in_15 : decode cX5_in 15 = .ok (.ireturn, 1) := by decide +kernel
theorem dX5_isOn_0 : decode cX5_isOn 0 = .ok (.iload_n 0, 1) := by decide +kernel
theorem dX5_isOn_1 : decode cX5_isOn 1 = .ok (.iconst 0, 1) := by decide +kernel
theorem dX5_isOn_2 : decode cX5_isOn 2 = .ok (.bipush 8, 2) := by decide +kernel
theorem dX5_isOn_4 : decode cX5_isOn 4 = .ok (.invokestatic 94, 3) := by decide +kernel
theorem dX5_isOn_7 : decode cX5_isOn 7 = .ok (.ireturn, 1) := by decide +kernel
theorem dX5_isBus_0 : decode cX5_isBus 0 = .ok (.iload_n 1, 1) := by decide +kernel
theorem dX5_isBus_1 : decode cX5_isBus 1 = .ok (.iconst 0, 1) := by decide +kernel
theorem dX5_isBus_2 : decode cX5_isBus 2 = .ok (.aload_n 0, 1) := by decide +kernel
theorem dX5_isBus_3 : decode cX5_isBus 3 = .ok (.getfield 98, 3) := by decide +kernel
theorem dX5_isBus_6 : decode cX5_isBus 6 = .ok (.iconst 1, 1) := by decide +kernel
theorem dX5_isBus_7 : decode cX5_isBus 7 = .ok (.isub, 1) := by decide +kernel
theorem dX5_isBus_8 : decode cX5_isBus 8 = .ok (.invokestatic 94, 3) := by decide +kernel
theorem dX5_isBus_11 : decode cX5_isBus 11 = .ok (.ireturn, 1) := by decide +kernel
theorem dX5_stop_0 : decode cX5_stop 0 = .ok (.iload_n 1, 1) := by decide +kernel
theorem dX5_stop_1 : decode cX5_stop 1 = .ok (.invokestatic 102, 3) := by decide +kernel
theorem dX5_stop_4 : decode cX5_stop 4 = .ok (.ifCond .ne 5, 3) := by decide +kernel
theorem dX5_stop_7 : decode cX5_stop 7 = .ok (.iconst (-1), 1) := by decide +kernel
theorem dX5_stop_8 : decode cX5_stop 8 = .ok (.ireturn, 1) := by decide +kernel
theorem dX5_stop_9 : decode cX5_stop 9 = .ok (.iload_n 2, 1) := by decide +kernel
theorem dX5_stop_10 : decode cX5_stop 10 = .ok (.ifCond .ne 15, 3) := by decide +kernel
theorem dX5_stop_13 : decode cX5_stop 13 = .ok (.iload_n 3, 1) := by decide +kernel
theorem dX5_stop_14 : decode cX5_stop 14 = .ok (.bipush 10, 2) := by decide +kernel
theorem dX5_stop_16 : decode cX5_stop 16 = .ok (.sipush 900, 3) := by decide +kernel
theorem dX5_stop_19 : decode cX5_stop 19 = .ok (.invokestatic 94, 3) := by decide +kernel
theorem dX5_stop_22 : decode cX5_stop 22 = .ok (.goto 52, 3) := by decide +kernel
theorem dX5_stop_25 : decode cX5_stop 25 = .ok (.iload_n 2, 1) := by decide +kernel
theorem dX5_stop_26 : decode cX5_stop 26 = .ok (.iconst 1, 1) := by decide +kernel
theorem dX5_stop_27 : decode cX5_stop 27 = .ok (.if_icmp .ne 27, 3) := by decide +kernel
theorem dX5_stop_30 : decode cX5_stop 30 = .ok (.iload_n 3, 1) := by decide +kernel
theorem dX5_stop_31 : decode cX5_stop 31 = .ok (.ifCond .eq 15, 3) := by decide +kernel
theorem dX5_stop_34 : decode cX5_stop 34 = .ok (.iload_n 3, 1) := by decide +kernel
theorem dX5_stop_35 : decode cX5_stop 35 = .ok (.bipush 10, 2) := by decide +kernel
theorem dX5_stop_37 : decode cX5_stop 37 = .ok (.sipush 900, 3) := by decide +kernel
theorem dX5_stop_40 : decode cX5_stop 40 = .ok (.invokestatic 94, 3) := by decide +kernel
theorem dX5_stop_43 : decode cX5_stop 43 = .ok (.ifCond .eq 7, 3) := by decide +kernel
theorem dX5_stop_46 : decode cX5_stop 46 = .ok (.iconst 1, 1) := by decide +kernel
theorem dX5_stop_47 : decode cX5_stop 47 = .ok (.goto 27, 3) := by decide +kernel
theorem dX5_stop_50 : decode cX5_stop 50 = .ok (.iconst 0, 1) := by decide +kernel
theorem dX5_stop_51 : decode cX5_stop 51 = .ok (.goto 23, 3) := by decide +kernel
theorem dX5_stop_54 : decode cX5_stop 54 = .ok (.iload_n 2, 1) := by decide +kernel
theorem dX5_stop_55 : decode cX5_stop 55 = .ok (.iconst 2, 1) := by decide +kernel
theorem dX5_stop_56 : decode cX5_stop 56 = .ok (.if_icmp .ne 17, 3) := by decide +kernel
theorem dX5_stop_59 : decode cX5_stop 59 = .ok (.iload_n 3, 1) := by decide +kernel
theorem dX5_stop_60 : decode cX5_stop 60 = .ok (.iconst 1, 1) := by decide +kernel
theorem dX5_stop_61 : decode cX5_stop 61 = .ok (.bipush 9, 2) := by decide +kernel
theorem dX5_stop_63 : decode cX5_stop 63 = .ok (.invokestatic 94, 3) := by decide +kernel
theorem dX5_stop_66 : decode cX5_stop 66 = .ok (.ifCond .eq 7, 3) := by decide +kernel
theorem dX5_stop_69 : decode cX5_stop 69 = .ok (.iconst 1, 1) := by decide +kernel
theorem dX5_stop_70 : decode cX5_stop 70 = .ok (.goto 4, 3) := by decide +kernel
theorem dX5_stop_73 : decode cX5_stop 73 = .ok (.iconst 0, 1) := by decide +kernel
theorem dX5_stop_74 : decode cX5_stop 74 = .ok (.istore 4, 2) := by decide +kernel
theorem dX5_stop_76 : decode cX5_stop 76 = .ok (.iload 4, 2) := by decide +kernel
theorem dX5_stop_78 : decode cX5_stop 78 = .ok (.ifCond .ne 6, 3) := by decide +kernel
theorem dX5_stop_81 : decode cX5_stop 81 = .ok (.bipush (-2), 2) := by decide +kernel
theorem dX5_stop_83 : decode cX5_stop 83 = .ok (.ireturn, 1) := by decide +kernel
theorem dX5_stop_84 : decode cX5_stop 84 = .ok (.iload_n 2, 1) := by decide +kernel
theorem dX5_stop_85 : decode cX5_stop 85 = .ok (.ifCond .ne 12, 3) := by decide +kernel
theorem dX5_stop_88 : decode cX5_stop 88 = .ok (.aload_n 0, 1) := by decide +kernel
theorem dX5_stop_89 : decode cX5_stop 89 = .ok (.getfield 7, 3) := by decide +kernel
theorem dX5_stop_92 : decode cX5_stop 92 = .ok (.iload_n 1, 1) := by decide +kernel
theorem dX5_stop_93 : decode cX5_stop 93 = .ok (.iaload, 1) := by decide +kernel
theorem dX5_stop_94 : decode cX5_stop 94 = .ok (.goto 23, 3) := by decide +kernel
theorem dX5_stop_97 : decode cX5_stop 97 = .ok (.iload_n 2, 1) := by decide +kernel
theorem dX5_stop_98 : decode cX5_stop 98 = .ok (.iconst 1, 1) := by decide +kernel
theorem dX5_stop_99 : decode cX5_stop 99 = .ok (.if_icmp .ne 12, 3) := by decide +kernel
theorem dX5_stop_102 : decode cX5_stop 102 = .ok (.aload_n 0, 1) := by decide +kernel
theorem dX5_stop_103 : decode cX5_stop 103 = .ok (.getfield 13, 3) := by decide +kernel
theorem dX5_stop_106 : decode cX5_stop 106 = .ok (.iload_n 1, 1) := by decide +kernel
theorem dX5_stop_107 : decode cX5_stop 107 = .ok (.iaload, 1) := by decide +kernel
theorem dX5_stop_108 : decode cX5_stop 108 = .ok (.goto 9, 3) := by decide +kernel
theorem dX5_stop_111 : decode cX5_stop 111 = .ok (.aload_n 0, 1) := by decide +kernel
theorem dX5_stop_112 : decode cX5_stop 112 = .ok (.getfield 16, 3) := by decide +kernel
theorem dX5_stop_115 : decode cX5_stop 115 = .ok (.iload_n 1, 1) := by decide +kernel
theorem dX5_stop_116 : decode cX5_stop 116 = .ok (.iaload, 1) := by decide +kernel
theorem dX5_stop_117 : decode cX5_stop 117 = .ok (.istore 5, 2) := by decide +kernel
theorem dX5_stop_119 : decode cX5_stop 119 = .ok (.iload_n 2, 1) := by decide +kernel
theorem dX5_stop_120 : decode cX5_stop 120 = .ok (.ifCond .ne 13, 3) := by decide +kernel
theorem dX5_stop_123 : decode cX5_stop 123 = .ok (.aload_n 0, 1) := by decide +kernel
theorem dX5_stop_124 : decode cX5_stop 124 = .ok (.getfield 7, 3) := by decide +kernel
theorem dX5_stop_127 : decode cX5_stop 127 = .ok (.iload_n 1, 1) := by decide +kernel
theorem dX5_stop_128 : decode cX5_stop 128 = .ok (.iload_n 3, 1) := by decide +kernel
theorem dX5_stop_129 : decode cX5_stop 129 = .ok (.iastore, 1) := by decide +kernel
theorem dX5_stop_130 : decode cX5_stop 130 = .ok (.goto 25, 3) := by decide +kernel
theorem dX5_stop_133 : decode cX5_stop 133 = .ok (.iload_n 2, 1) := by decide +kernel
theorem dX5_stop_134 : decode cX5_stop 134 = .ok (.iconst 1, 1) := by decide +kernel
theorem dX5_stop_135 : decode cX5_stop 135 = .ok (.if_icmp .ne 13, 3) := by decide +kernel
theorem dX5_stop_138 : decode cX5_stop 138 = .ok (.aload_n 0, 1) := by decide +kernel
theorem dX5_stop_139 : decode cX5_stop 139 = .ok (.getfield 13, 3) := by decide +kernel
theorem dX5_stop_142 : decode cX5_stop 142 = .ok (.iload_n 1, 1) := by decide +kernel
theorem dX5_stop_143 : decode cX5_stop 143 = .ok (.iload_n 3, 1) := by decide +kernel
theorem dX5_stop_144 : decode cX5_stop 144 = .ok (.iastore, 1) := by decide +kernel
theorem dX5_stop_145 : decode cX5_stop 145 = .ok (.goto 10, 3) := by decide +kernel
theorem dX5_stop_148 : decode cX5_stop 148 = .ok (.aload_n 0, 1) := by decide +kernel
theorem dX5_stop_149 : decode cX5_stop 149 = .ok (.getfield 16, 3) := by decide +kernel
theorem dX5_stop_152 : decode cX5_stop 152 = .ok (.iload_n 1, 1) := by decide +kernel
theorem dX5_stop_153 : decode cX5_stop 153 = .ok (.iload_n 3, 1) := by decide +kernel
theorem dX5_stop_154 : decode cX5_stop 154 = .ok (.iastore, 1) := by decide +kernel
theorem dX5_stop_155 : decode cX5_stop 155 = .ok (.iload 5, 2) := by decide +kernel
theorem dX5_stop_157 : decode cX5_stop 157 = .ok (.ireturn, 1) := by decide +kernel
theorem dX5_bus_0 : decode cX5_bus 0 = .ok (.iload_n 1, 1) := by decide +kernel
theorem dX5_bus_1 : decode cX5_bus 1 = .ok (.aload_n 0, 1) := by decide +kernel
theorem dX5_bus_2 : decode cX5_bus 2 = .ok (.getfield 98, 3) := by decide +kernel
theorem dX5_bus_5 : decode cX5_bus 5 = .ok (.ifCond .ne 7, 3) := by decide +kernel
theorem dX5_bus_8 : decode cX5_bus 8 = .ok (.iconst 0, 1) := by decide +kernel
theorem dX5_bus_9 : decode cX5_bus 9 = .ok (.goto 14, 3) := by decide +kernel
theorem dX5_bus_12 : decode cX5_bus 12 = .ok (.aload_n 0, 1) := by decide +kernel
theorem dX5_bus_13 : decode cX5_bus 13 = .ok (.getfield 19, 3) := by decide +kernel
theorem dX5_bus_16 : decode cX5_bus 16 = .ok (.aload_n 0, 1) := by decide +kernel
theorem dX5_bus_17 : decode cX5_bus 17 = .ok (.getfield 98, 3) := by decide +kernel
theorem dX5_bus_20 : decode cX5_bus 20 = .ok (.iconst 1, 1) := by decide +kernel
theorem dX5_bus_21 : decode cX5_bus 21 = .ok (.isub, 1) := by decide +kernel
theorem dX5_bus_22 : decode cX5_bus 22 = .ok (.iaload, 1) := by decide +kernel
theorem dX5_bus_23 : decode cX5_bus 23 = .ok (.sipush 7200, 3) := by decide +kernel
theorem dX5_bus_26 : decode cX5_bus 26 = .ok (.invokestatic 94, 3) := by decide +kernel
theorem dX5_bus_29 : decode cX5_bus 29 = .ok (.ifCond .eq 13, 3) := by decide +kernel
theorem dX5_bus_32 : decode cX5_bus 32 = .ok (.iload_n 2, 1) := by decide +kernel
theorem dX5_bus_33 : decode cX5_bus 33 = .ok (.iconst 1, 1) := by decide +kernel
theorem dX5_bus_34 : decode cX5_bus 34 = .ok (.bipush 80, 2) := by decide +kernel
theorem dX5_bus_36 : decode cX5_bus 36 = .ok (.invokestatic 94, 3) := by decide +kernel
theorem dX5_bus_39 : decode cX5_bus 39 = .ok (.ifCond .ne 6, 3) := by decide +kernel
theorem dX5_bus_42 : decode cX5_bus 42 = .ok (.bipush (-2), 2) := by decide +kernel
theorem dX5_bus_44 : decode cX5_bus 44 = .ok (.ireturn, 1) := by decide +kernel
theorem dX5_bus_45 : decode cX5_bus 45 = .ok (.aload_n 0, 1) := by decide +kernel
theorem dX5_bus_46 : decode cX5_bus 46 = .ok (.getfield 98, 3) := by decide +kernel
theorem dX5_bus_49 : decode cX5_bus 49 = .ok (.bipush 8, 2) := by decide +kernel
theorem dX5_bus_51 : decode cX5_bus 51 = .ok (.if_icmp .ne 6, 3) := by decide +kernel
theorem dX5_bus_54 : decode cX5_bus 54 = .ok (.bipush (-4), 2) := by decide +kernel
theorem dX5_bus_56 : decode cX5_bus 56 = .ok (.ireturn, 1) := by decide +kernel
theorem dX5_bus_57 : decode cX5_bus 57 = .ok (.aload_n 0, 1) := by decide +kernel
theorem dX5_bus_58 : decode cX5_bus 58 = .ok (.getfield 19, 3) := by decide +kernel
theorem dX5_bus_61 : decode cX5_bus 61 = .ok (.aload_n 0, 1) := by decide +kernel
theorem dX5_bus_62 : decode cX5_bus 62 = .ok (.getfield 98, 3) := by decide +kernel
theorem dX5_bus_65 : decode cX5_bus 65 = .ok (.iload_n 1, 1) := by decide +kernel
theorem dX5_bus_66 : decode cX5_bus 66 = .ok (.iastore, 1) := by decide +kernel
theorem dX5_bus_67 : decode cX5_bus 67 = .ok (.aload_n 0, 1) := by decide +kernel
theorem dX5_bus_68 : decode cX5_bus 68 = .ok (.getfield 22, 3) := by decide +kernel
theorem dX5_bus_71 : decode cX5_bus 71 = .ok (.aload_n 0, 1) := by decide +kernel
theorem dX5_bus_72 : decode cX5_bus 72 = .ok (.getfield 98, 3) := by decide +kernel
theorem dX5_bus_75 : decode cX5_bus 75 = .ok (.iload_n 2, 1) := by decide +kernel
theorem dX5_bus_76 : decode cX5_bus 76 = .ok (.iastore, 1) := by decide +kernel
theorem dX5_bus_77 : decode cX5_bus 77 = .ok (.aload_n 0, 1) := by decide +kernel
theorem dX5_bus_78 : decode cX5_bus 78 = .ok (.getfield 25, 3) := by decide +kernel
theorem dX5_bus_81 : decode cX5_bus 81 = .ok (.aload_n 0, 1) := by decide +kernel
theorem dX5_bus_82 : decode cX5_bus 82 = .ok (.getfield 98, 3) := by decide +kernel
theorem dX5_bus_85 : decode cX5_bus 85 = .ok (.bipush 9, 2) := by decide +kernel
theorem dX5_bus_87 : decode cX5_bus 87 = .ok (.iastore, 1) := by decide +kernel
theorem dX5_bus_88 : decode cX5_bus 88 = .ok (.aload_n 0, 1) := by decide +kernel
theorem dX5_bus_89 : decode cX5_bus 89 = .ok (.dup, 1) := by decide +kernel
theorem dX5_bus_90 : decode cX5_bus 90 = .ok (.getfield 98, 3) := by decide +kernel
theorem dX5_bus_93 : decode cX5_bus 93 = .ok (.iconst 1, 1) := by decide +kernel
theorem dX5_bus_94 : decode cX5_bus 94 = .ok (.iadd, 1) := by decide +kernel
theorem dX5_bus_95 : decode cX5_bus 95 = .ok (.putfield 98, 3) := by decide +kernel
theorem dX5_bus_98 : decode cX5_bus 98 = .ok (.aload_n 0, 1) := by decide +kernel
theorem dX5_bus_99 : decode cX5_bus 99 = .ok (.getfield 98, 3) := by decide +kernel
theorem dX5_bus_102 : decode cX5_bus 102 = .ok (.iconst 1, 1) := by decide +kernel
theorem dX5_bus_103 : decode cX5_bus 103 = .ok (.isub, 1) := by decide +kernel
theorem dX5_bus_104 : decode cX5_bus 104 = .ok (.ireturn, 1) := by decide +kernel
theorem dX5_set_0 : decode cX5_set 0 = .ok (.iload_n 1, 1) := by decide +kernel
theorem dX5_set_1 : decode cX5_set 1 = .ok (.iconst 0, 1) := by decide +kernel
theorem dX5_set_2 : decode cX5_set 2 = .ok (.iconst 4, 1) := by decide +kernel
theorem dX5_set_3 : decode cX5_set 3 = .ok (.invokestatic 94, 3) := by decide +kernel
theorem dX5_set_6 : decode cX5_set 6 = .ok (.ifCond .ne 6, 3) := by decide +kernel
theorem dX5_set_9 : decode cX5_set 9 = .ok (.bipush (-2), 2) := by decide +kernel
theorem dX5_set_11 : decode cX5_set 11 = .ok (.ireturn, 1) := by decide +kernel
theorem dX5_set_12 : decode cX5_set 12 = .ok (.iload_n 2, 1) := by decide +kernel
theorem dX5_set_13 : decode cX5_set 13 = .ok (.iconst 0, 1) := by decide +kernel
theorem dX5_set_14 : decode cX5_set 14 = .ok (.iload_n 1, 1) := by decide +kernel
theorem dX5_set_15 : decode cX5_set 15 = .ok (.ifCond .ne 8, 3) := by decide +kernel
theorem dX5_set_18 : decode cX5_set 18 = .ok (.bipush 60, 2) := by decide +kernel
theorem dX5_set_20 : decode cX5_set 20 = .ok (.goto 25, 3) := by decide +kernel
theorem dX5_set_23 : decode cX5_set 23 = .ok (.iload_n 1, 1) := by decide +kernel
theorem dX5_set_24 : decode cX5_set 24 = .ok (.iconst 3, 1) := by decide +kernel
theorem dX5_set_25 : decode cX5_set 25 = .ok (.if_icmp .ge 8, 3) := by decide +kernel
theorem dX5_set_28 : decode cX5_set 28 = .ok (.bipush 10, 2) := by decide +kernel
theorem dX5_set_30 : decode cX5_set 30 = .ok (.goto 15, 3) := by decide +kernel
theorem dX5_set_33 : decode cX5_set 33 = .ok (.iload_n 1, 1) := by decide +kernel
theorem dX5_set_34 : decode cX5_set 34 = .ok (.iconst 3, 1) := by decide +kernel
theorem dX5_set_35 : decode cX5_set 35 = .ok (.if_icmp .ne 7, 3) := by decide +kernel
theorem dX5_set_38 : decode cX5_set 38 = .ok (.iconst 1, 1) := by decide +kernel
theorem dX5_set_39 : decode cX5_set 39 = .ok (.goto 6, 3) := by decide +kernel
theorem dX5_set_42 : decode cX5_set 42 = .ok (.sipush 600, 3) := by decide +kernel
theorem dX5_set_45 : decode cX5_set 45 = .ok (.invokestatic 94, 3) := by decide +kernel
theorem dX5_set_48 : decode cX5_set 48 = .ok (.ifCond .ne 6, 3) := by decide +kernel
theorem dX5_set_51 : decode cX5_set 51 = .ok (.bipush (-2), 2) := by decide +kernel
theorem dX5_set_53 : decode cX5_set 53 = .ok (.ireturn, 1) := by decide +kernel
theorem dX5_set_54 : decode cX5_set 54 = .ok (.aload_n 0, 1) := by decide +kernel
theorem dX5_set_55 : decode cX5_set 55 = .ok (.getfield 28, 3) := by decide +kernel
theorem dX5_set_58 : decode cX5_set 58 = .ok (.iload_n 1, 1) := by decide +kernel
theorem dX5_set_59 : decode cX5_set 59 = .ok (.iaload, 1) := by decide +kernel
theorem dX5_set_60 : decode cX5_set 60 = .ok (.istore_n 3, 1) := by decide +kernel
theorem dX5_set_61 : decode cX5_set 61 = .ok (.aload_n 0, 1) := by decide +kernel
theorem dX5_set_62 : decode cX5_set 62 = .ok (.getfield 28, 3) := by decide +kernel
theorem dX5_set_65 : decode cX5_set 65 = .ok (.iload_n 1, 1) := by decide +kernel
theorem dX5_set_66 : decode cX5_set 66 = .ok (.iload_n 2, 1) := by decide +kernel
theorem dX5_set_67 : decode cX5_set 67 = .ok (.iastore, 1) := by decide +kernel
theorem dX5_set_68 : decode cX5_set 68 = .ok (.iload_n 3, 1) := by decide +kernel
theorem dX5_set_69 : decode cX5_set 69 = .ok (.ireturn, 1) := by decide +kernel
theorem dX5_late_0 : decode cX5_late 0 = .ok (.aload_n 0, 1) := by decide +kernel
theorem dX5_late_1 : decode cX5_late 1 = .ok (.iload_n 1, 1) := by decide +kernel
theorem dX5_late_2 : decode cX5_late 2 = .ok (.invokevirtual 106, 3) := by decide +kernel
theorem dX5_late_5 : decode cX5_late 5 = .ok (.ifCond .eq 10, 3) := by decide +kernel
theorem dX5_late_8 : decode cX5_late 8 = .ok (.iload_n 2, 1) := by decide +kernel
theorem dX5_late_9 : decode cX5_late 9 = .ok (.invokestatic 102, 3) := by decide +kernel
theorem dX5_late_12 : decode cX5_late 12 = .ok (.ifCond .ne 5, 3) := by decide +kernel
theorem dX5_late_15 : decode cX5_late 15 = .ok (.iconst (-1), 1) := by decide +kernel
theorem dX5_late_16 : decode cX5_late 16 = .ok (.ireturn, 1) := by decide +kernel
theorem dX5_late_17 : decode cX5_late 17 = .ok (.iload_n 3, 1) := by decide +kernel
theorem dX5_late_18 : decode cX5_late 18 = .ok (.iconst 1, 1) := by decide +kernel
theorem dX5_late_19 : decode cX5_late 19 = .ok (.sipush 900, 3) := by decide +kernel
theorem dX5_late_22 : decode cX5_late 22 = .ok (.invokestatic 94, 3) := by decide +kernel
theorem dX5_late_25 : decode cX5_late 25 = .ok (.ifCond .ne 6, 3) := by decide +kernel
theorem dX5_late_28 : decode cX5_late 28 = .ok (.bipush (-2), 2) := by decide +kernel
theorem dX5_late_30 : decode cX5_late 30 = .ok (.ireturn, 1) := by decide +kernel
theorem dX5_late_31 : decode cX5_late 31 = .ok (.aload_n 0, 1) := by decide +kernel
theorem dX5_late_32 : decode cX5_late 32 = .ok (.getfield 109, 3) := by decide +kernel
theorem dX5_late_35 : decode cX5_late 35 = .ok (.bipush 10, 2) := by decide +kernel
theorem dX5_late_37 : decode cX5_late 37 = .ok (.if_icmp .ne 6, 3) := by decide +kernel
theorem dX5_late_40 : decode cX5_late 40 = .ok (.bipush (-4), 2) := by decide +kernel
theorem dX5_late_42 : decode cX5_late 42 = .ok (.ireturn, 1) := by decide +kernel
theorem dX5_late_43 : decode cX5_late 43 = .ok (.aload_n 0, 1) := by decide +kernel
theorem dX5_late_44 : decode cX5_late 44 = .ok (.getfield 31, 3) := by decide +kernel
theorem dX5_late_47 : decode cX5_late 47 = .ok (.aload_n 0, 1) := by decide +kernel
theorem dX5_late_48 : decode cX5_late 48 = .ok (.getfield 109, 3) := by decide +kernel
theorem dX5_late_51 : decode cX5_late 51 = .ok (.iload_n 1, 1) := by decide +kernel
theorem dX5_late_52 : decode cX5_late 52 = .ok (.iastore, 1) := by decide +kernel
theorem dX5_late_53 : decode cX5_late 53 = .ok (.aload_n 0, 1) := by decide +kernel
theorem dX5_late_54 : decode cX5_late 54 = .ok (.getfield 34, 3) := by decide +kernel
theorem dX5_late_57 : decode cX5_late 57 = .ok (.aload_n 0, 1) := by decide +kernel
theorem dX5_late_58 : decode cX5_late 58 = .ok (.getfield 109, 3) := by decide +kernel
theorem dX5_late_61 : decode cX5_late 61 = .ok (.iload_n 2, 1) := by decide +kernel
theorem dX5_late_62 : decode cX5_late 62 = .ok (.iastore, 1) := by decide +kernel
theorem dX5_late_63 : decode cX5_late 63 = .ok (.aload_n 0, 1) := by decide +kernel
theorem dX5_late_64 : decode cX5_late 64 = .ok (.getfield 37, 3) := by decide +kernel
theorem dX5_late_67 : decode cX5_late 67 = .ok (.aload_n 0, 1) := by decide +kernel
theorem dX5_late_68 : decode cX5_late 68 = .ok (.getfield 109, 3) := by decide +kernel
theorem dX5_late_71 : decode cX5_late 71 = .ok (.iload_n 3, 1) := by decide +kernel
theorem dX5_late_72 : decode cX5_late 72 = .ok (.iastore, 1) := by decide +kernel
theorem dX5_late_73 : decode cX5_late 73 = .ok (.aload_n 0, 1) := by decide +kernel
theorem dX5_late_74 : decode cX5_late 74 = .ok (.dup, 1) := by decide +kernel
theorem dX5_late_75 : decode cX5_late 75 = .ok (.getfield 109, 3) := by decide +kernel
theorem dX5_late_78 : decode cX5_late 78 = .ok (.iconst 1, 1) := by decide +kernel
theorem dX5_late_79 : decode cX5_late 79 = .ok (.iadd, 1) := by decide +kernel
theorem dX5_late_80 : decode cX5_late 80 = .ok (.putfield 109, 3) := by decide +kernel
theorem dX5_late_83 : decode cX5_late 83 = .ok (.aload_n 0, 1) := by decide +kernel
theorem dX5_late_84 : decode cX5_late 84 = .ok (.getfield 109, 3) := by decide +kernel
theorem dX5_late_87 : decode cX5_late 87 = .ok (.iconst 1, 1) := by decide +kernel
theorem dX5_late_88 : decode cX5_late 88 = .ok (.isub, 1) := by decide +kernel
theorem dX5_late_89 : decode cX5_late 89 = .ok (.ireturn, 1) := by decide +kernel
theorem dX5_mend_0 : decode cX5_mend 0 = .ok (.aload_n 0, 1) := by decide +kernel
theorem dX5_mend_1 : decode cX5_mend 1 = .ok (.getfield 109, 3) := by decide +kernel
theorem dX5_mend_4 : decode cX5_mend 4 = .ok (.ifCond .ne 6, 3) := by decide +kernel
theorem dX5_mend_7 : decode cX5_mend 7 = .ok (.bipush (-5), 2) := by decide +kernel
theorem dX5_mend_9 : decode cX5_mend 9 = .ok (.ireturn, 1) := by decide +kernel
theorem dX5_mend_10 : decode cX5_mend 10 = .ok (.aload_n 0, 1) := by decide +kernel
theorem dX5_mend_11 : decode cX5_mend 11 = .ok (.dup, 1) := by decide +kernel
theorem dX5_mend_12 : decode cX5_mend 12 = .ok (.getfield 109, 3) := by decide +kernel
theorem dX5_mend_15 : decode cX5_mend 15 = .ok (.iconst 1, 1) := by decide +kernel
theorem dX5_mend_16 : decode cX5_mend 16 = .ok (.isub, 1) := by decide +kernel
theorem dX5_mend_17 : decode cX5_mend 17 = .ok (.putfield 109, 3) := by decide +kernel
theorem dX5_mend_20 : decode cX5_mend 20 = .ok (.aload_n 0, 1) := by decide +kernel
theorem dX5_mend_21 : decode cX5_mend 21 = .ok (.getfield 109, 3) := by decide +kernel
theorem dX5_mend_24 : decode cX5_mend 24 = .ok (.ireturn, 1) := by decide +kernel
theorem dX5_turn_0 : decode cX5_turn 0 = .ok (.aload_n 0, 1) := by decide +kernel
theorem dX5_turn_1 : decode cX5_turn 1 = .ok (.iload_n 1, 1) := by decide +kernel
theorem dX5_turn_2 : decode cX5_turn 2 = .ok (.invokevirtual 106, 3) := by decide +kernel
theorem dX5_turn_5 : decode cX5_turn 5 = .ok (.ifCond .ne 5, 3) := by decide +kernel
theorem dX5_turn_8 : decode cX5_turn 8 = .ok (.iconst (-1), 1) := by decide +kernel
theorem dX5_turn_9 : decode cX5_turn 9 = .ok (.ireturn, 1) := by decide +kernel
theorem dX5_turn_10 : decode cX5_turn 10 = .ok (.iload_n 2, 1) := by decide +kernel
theorem dX5_turn_11 : decode cX5_turn 11 = .ok (.iconst 1, 1) := by decide +kernel
theorem dX5_turn_12 : decode cX5_turn 12 = .ok (.bipush 9, 2) := by decide +kernel
theorem dX5_turn_14 : decode cX5_turn 14 = .ok (.invokestatic 94, 3) := by decide +kernel
theorem dX5_turn_17 : decode cX5_turn 17 = .ok (.ifCond .ne 6, 3) := by decide +kernel
theorem dX5_turn_20 : decode cX5_turn 20 = .ok (.bipush (-2), 2) := by decide +kernel
theorem dX5_turn_22 : decode cX5_turn 22 = .ok (.ireturn, 1) := by decide +kernel
theorem dX5_turn_23 : decode cX5_turn 23 = .ok (.aload_n 0, 1) := by decide +kernel
theorem dX5_turn_24 : decode cX5_turn 24 = .ok (.getfield 25, 3) := by decide +kernel
theorem dX5_turn_27 : decode cX5_turn 27 = .ok (.iload_n 1, 1) := by decide +kernel
theorem dX5_turn_28 : decode cX5_turn 28 = .ok (.iaload, 1) := by decide +kernel
theorem dX5_turn_29 : decode cX5_turn 29 = .ok (.istore_n 3, 1) := by decide +kernel
theorem dX5_turn_30 : decode cX5_turn 30 = .ok (.aload_n 0, 1) := by decide +kernel
theorem dX5_turn_31 : decode cX5_turn 31 = .ok (.getfield 25, 3) := by decide +kernel
theorem dX5_turn_34 : decode cX5_turn 34 = .ok (.iload_n 1, 1) := by decide +kernel
theorem dX5_turn_35 : decode cX5_turn 35 = .ok (.iload_n 2, 1) := by decide +kernel
theorem dX5_turn_36 : decode cX5_turn 36 = .ok (.iastore, 1) := by decide +kernel
theorem dX5_turn_37 : decode cX5_turn 37 = .ok (.iload_n 3, 1) := by decide +kernel
theorem dX5_turn_38 : decode cX5_turn 38 = .ok (.ireturn, 1) := by decide +kernel
theorem dX5_lateAt_0 : decode cX5_lateAt 0 = .ok (.iconst 0, 1) := by decide +kernel
theorem dX5_lateAt_1 : decode cX5_lateAt 1 = .ok (.istore 4, 2) := by decide +kernel
theorem dX5_lateAt_3 : decode cX5_lateAt 3 = .ok (.iconst 0, 1) := by decide +kernel
theorem dX5_lateAt_4 : decode cX5_lateAt 4 = .ok (.istore 5, 2) := by decide +kernel
theorem dX5_lateAt_6 : decode cX5_lateAt 6 = .ok (.iload 5, 2) := by decide +kernel
theorem dX5_lateAt_8 : decode cX5_lateAt 8 = .ok (.aload_n 0, 1) := by decide +kernel
theorem dX5_lateAt_9 : decode cX5_lateAt 9 = .ok (.getfield 109, 3) := by decide +kernel
theorem dX5_lateAt_12 : decode cX5_lateAt 12 = .ok (.if_icmp .ge 53, 3) := by decide +kernel
theorem dX5_lateAt_15 : decode cX5_lateAt 15 = .ok (.iload 4, 2) := by decide +kernel
theorem dX5_lateAt_17 : decode cX5_lateAt 17 = .ok (.iload 5, 2) := by decide +kernel
theorem dX5_lateAt_19 : decode cX5_lateAt 19 = .ok (.iload_n 3, 1) := by decide +kernel
theorem dX5_lateAt_20 : decode cX5_lateAt 20 = .ok (.if_icmp .eq 35, 3) := by decide +kernel
theorem dX5_lateAt_23 : decode cX5_lateAt 23 = .ok (.aload_n 0, 1) := by decide +kernel
theorem dX5_lateAt_24 : decode cX5_lateAt 24 = .ok (.getfield 31, 3) := by decide +kernel
theorem dX5_lateAt_27 : decode cX5_lateAt 27 = .ok (.iload 5, 2) := by decide +kernel
theorem dX5_lateAt_29 : decode cX5_lateAt 29 = .ok (.iaload, 1) := by decide +kernel
theorem dX5_lateAt_30 : decode cX5_lateAt 30 = .ok (.iload_n 1, 1) := by decide +kernel
theorem dX5_lateAt_31 : decode cX5_lateAt 31 = .ok (.if_icmp .ne 24, 3) := by decide +kernel
theorem dX5_lateAt_34 : decode cX5_lateAt 34 = .ok (.aload_n 0, 1) := by decide +kernel
theorem dX5_lateAt_35 : decode cX5_lateAt 35 = .ok (.getfield 34, 3) := by decide +kernel
theorem dX5_lateAt_38 : decode cX5_lateAt 38 = .ok (.iload 5, 2) := by decide +kernel
theorem dX5_lateAt_40 : decode cX5_lateAt 40 = .ok (.iaload, 1) := by decide +kernel
theorem dX5_lateAt_41 : decode cX5_lateAt 41 = .ok (.iload_n 2, 1) := by decide +kernel
theorem dX5_lateAt_42 : decode cX5_lateAt 42 = .ok (.if_icmp .ne 13, 3) := by decide +kernel
theorem dX5_lateAt_45 : decode cX5_lateAt 45 = .ok (.aload_n 0, 1) := by decide +kernel
theorem dX5_lateAt_46 : decode cX5_lateAt 46 = .ok (.getfield 37, 3) := by decide +kernel
theorem dX5_lateAt_49 : decode cX5_lateAt 49 = .ok (.iload 5, 2) := by decide +kernel
theorem dX5_lateAt_51 : decode cX5_lateAt 51 = .ok (.iaload, 1) := by decide +kernel
theorem dX5_lateAt_52 : decode cX5_lateAt 52 = .ok (.goto 4, 3) := by decide +kernel
theorem dX5_lateAt_55 : decode cX5_lateAt 55 = .ok (.iconst 0, 1) := by decide +kernel
theorem dX5_lateAt_56 : decode cX5_lateAt 56 = .ok (.iadd, 1) := by decide +kernel
theorem dX5_lateAt_57 : decode cX5_lateAt 57 = .ok (.istore 4, 2) := by decide +kernel
theorem dX5_lateAt_59 : decode cX5_lateAt 59 = .ok (.iinc 5 1, 3) := by decide +kernel
theorem dX5_lateAt_62 : decode cX5_lateAt 62 = .ok (.goto (-56), 3) := by decide +kernel
theorem dX5_lateAt_65 : decode cX5_lateAt 65 = .ok (.iload 4, 2) := by decide +kernel
theorem dX5_lateAt_67 : decode cX5_lateAt 67 = .ok (.ireturn, 1) := by decide +kernel
theorem dX5_layOrder_0 : decode cX5_layOrder 0 = .ok (.iconst 0, 1) := by decide +kernel
theorem dX5_layOrder_1 : decode cX5_layOrder 1 = .ok (.istore_n 2, 1) := by decide +kernel
theorem dX5_layOrder_2 : decode cX5_layOrder 2 = .ok (.iconst 0, 1) := by decide +kernel
theorem dX5_layOrder_3 : decode cX5_layOrder 3 = .ok (.istore_n 3, 1) := by decide +kernel
theorem dX5_layOrder_4 : decode cX5_layOrder 4 = .ok (.iload_n 3, 1) := by decide +kernel
theorem dX5_layOrder_5 : decode cX5_layOrder 5 = .ok (.aload_n 0, 1) := by decide +kernel
theorem dX5_layOrder_6 : decode cX5_layOrder 6 = .ok (.getfield 98, 3) := by decide +kernel
theorem dX5_layOrder_9 : decode cX5_layOrder 9 = .ok (.if_icmp .ge 185, 3) := by decide +kernel
theorem dX5_layOrder_12 : decode cX5_layOrder 12 = .ok (.bipush 10, 2) := by decide +kernel
theorem dX5_layOrder_14 : decode cX5_layOrder 14 = .ok (.iload_n 3, 1) := by decide +kernel
theorem dX5_layOrder_15 : decode cX5_layOrder 15 = .ok (.imul, 1) := by decide +kernel
theorem dX5_layOrder_16 : decode cX5_layOrder 16 = .ok (.iload_n 1, 1) := by decide +kernel
theorem dX5_layOrder_17 : decode cX5_layOrder 17 = .ok (.iadd, 1) := by decide +kernel
theorem dX5_layOrder_18 : decode cX5_layOrder 18 = .ok (.istore 4, 2) := by decide +kernel
theorem dX5_layOrder_20 : decode cX5_layOrder 20 = .ok (.iload_n 1, 1) := by decide +kernel
theorem dX5_layOrder_21 : decode cX5_layOrder 21 = .ok (.ifCond .eq 27, 3) := by decide +kernel
theorem dX5_layOrder_24 : decode cX5_layOrder 24 = .ok (.aload_n 0, 1) := by decide +kernel
theorem dX5_layOrder_25 : decode cX5_layOrder 25 = .ok (.getfield 49, 3) := by decide +kernel
theorem dX5_layOrder_28 : decode cX5_layOrder 28 = .ok (.iload 4, 2) := by decide +kernel
theorem dX5_layOrder_30 : decode cX5_layOrder 30 = .ok (.iconst 1, 1) := by decide +kernel
theorem dX5_layOrder_31 : decode cX5_layOrder 31 = .ok (.isub, 1) := by decide +kernel
theorem dX5_layOrder_32 : decode cX5_layOrder 32 = .ok (.iaload, 1) := by decide +kernel
theorem dX5_layOrder_33 : decode cX5_layOrder 33 = .ok (.ifCond .lt 19, 3) := by decide +kernel
theorem dX5_layOrder_36 : decode cX5_layOrder 36 = .ok (.aload_n 0, 1) := by decide +kernel
theorem dX5_layOrder_37 : decode cX5_layOrder 37 = .ok (.getfield 25, 3) := by decide +kernel
theorem dX5_layOrder_40 : decode cX5_layOrder 40 = .ok (.iload_n 3, 1) := by decide +kernel
theorem dX5_layOrder_41 : decode cX5_layOrder 41 = .ok (.iaload, 1) := by decide +kernel
theorem dX5_layOrder_42 : decode cX5_layOrder 42 = .ok (.iload_n 1, 1) := by decide +kernel
theorem dX5_layOrder_43 : decode cX5_layOrder 43 = .ok (.iconst 1, 1) := by decide +kernel
theorem dX5_layOrder_44 : decode cX5_layOrder 44 = .ok (.isub, 1) := by decide +kernel
theorem dX5_layOrder_45 : decode cX5_layOrder 45 = .ok (.if_icmp .le 7, 3) := by decide +kernel
theorem dX5_layOrder_48 : decode cX5_layOrder 48 = .ok (.iconst 1, 1) := by decide +kernel
theorem dX5_layOrder_49 : decode cX5_layOrder 49 = .ok (.goto 4, 3) := by decide +kernel
theorem dX5_layOrder_52 : decode cX5_layOrder 52 = .ok (.iconst 0, 1) := by decide +kernel
theorem dX5_layOrder_53 : decode cX5_layOrder 53 = .ok (.istore 5, 2) := by decide +kernel
theorem dX5_layOrder_55 : decode cX5_layOrder 55 = .ok (.aload_n 0, 1) := by decide +kernel
theorem dX5_layOrder_56 : decode cX5_layOrder 56 = .ok (.getfield 49, 3) := by decide +kernel
theorem dX5_layOrder_59 : decode cX5_layOrder 59 = .ok (.iload 4, 2) := by decide +kernel
theorem dX5_layOrder_61 : decode cX5_layOrder 61 = .ok (.iload 5, 2) := by decide +kernel
theorem dX5_layOrder_63 : decode cX5_layOrder 63 = .ok (.ifCond .eq 37, 3) := by decide +kernel
theorem dX5_layOrder_66 : decode cX5_layOrder 66 = .ok (.iload_n 1, 1) := by decide +kernel
theorem dX5_layOrder_67 : decode cX5_layOrder 67 = .ok (.ifCond .ne 12, 3) := by decide +kernel
theorem dX5_layOrder_70 : decode cX5_layOrder 70 = .ok (.aload_n 0, 1) := by decide +kernel
theorem dX5_layOrder_71 : decode cX5_layOrder 71 = .ok (.getfield 19, 3) := by decide +kernel
theorem dX5_layOrder_74 : decode cX5_layOrder 74 = .ok (.iload_n 3, 1) := by decide +kernel
theorem dX5_layOrder_75 : decode cX5_layOrder 75 = .ok (.iaload, 1) := by decide +kernel
theorem dX5_layOrder_76 : decode cX5_layOrder 76 = .ok (.goto 26, 3) := by decide +kernel
theorem dX5_layOrder_79 : decode cX5_layOrder 79 = .ok (.aload_n 0, 1) := by decide +kernel
theorem dX5_layOrder_80 : decode cX5_layOrder 80 = .ok (.getfield 52, 3) := by decide +kernel
theorem dX5_layOrder_83 : decode cX5_layOrder 83 = .ok (.iload 4, 2) := by decide +kernel
theorem dX5_layOrder_85 : decode cX5_layOrder 85 = .ok (.iconst 1, 1) := by decide +kernel
theorem dX5_layOrder_86 : decode cX5_layOrder 86 = .ok (.isub, 1) := by decide +kernel
theorem dX5_layOrder_87 : decode cX5_layOrder 87 = .ok (.iaload, 1) := by decide +kernel
theorem dX5_layOrder_88 : decode cX5_layOrder 88 = .ok (.aload_n 0, 1) := by decide +kernel
theorem dX5_layOrder_89 : decode cX5_layOrder 89 = .ok (.getfield 7, 3) := by decide +kernel
theorem dX5_layOrder_92 : decode cX5_layOrder 92 = .ok (.iload_n 1, 1) := by decide +kernel
theorem dX5_layOrder_93 : decode cX5_layOrder 93 = .ok (.iconst 1, 1) := by decide +kernel
theorem dX5_layOrder_94 : decode cX5_layOrder 94 = .ok (.isub, 1) := by decide +kernel
theorem dX5_layOrder_95 : decode cX5_layOrder 95 = .ok (.iaload, 1) := by decide +kernel
theorem dX5_layOrder_96 : decode cX5_layOrder 96 = .ok (.iadd, 1) := by decide +kernel
theorem dX5_layOrder_97 : decode cX5_layOrder 97 = .ok (.goto 5, 3) := by decide +kernel
theorem dX5_layOrder_100 : decode cX5_layOrder 100 = .ok (.bipush (-6), 2) := by decide +kernel
theorem dX5_layOrder_102 : decode cX5_layOrder 102 = .ok (.iastore, 1) := by decide +kernel
theorem dX5_layOrder_103 : decode cX5_layOrder 103 = .ok (.iload 5, 2) := by decide +kernel
theorem dX5_layOrder_105 : decode cX5_layOrder 105 = .ok (.ifCond .eq 83, 3) := by decide +kernel
theorem dX5_layOrder_108 : decode cX5_layOrder 108 = .ok (.iload_n 2, 1) := by decide +kernel
theorem dX5_layOrder_109 : decode cX5_layOrder 109 = .ok (.istore 6, 2) := by decide +kernel
theorem dX5_layOrder_111 : decode cX5_layOrder 111 = .ok (.aload_n 0, 1) := by decide +kernel
theorem dX5_layOrder_112 : decode cX5_layOrder 112 = .ok (.getfield 28, 3) := by decide +kernel
theorem dX5_layOrder_115 : decode cX5_layOrder 115 = .ok (.iconst 3, 1) := by decide +kernel
theorem dX5_layOrder_116 : decode cX5_layOrder 116 = .ok (.iaload, 1) := by decide +kernel
theorem dX5_layOrder_117 : decode cX5_layOrder 117 = .ok (.iconst 1, 1) := by decide +kernel
theorem dX5_layOrder_118 : decode cX5_layOrder 118 = .ok (.if_icmp .ne 59, 3) := by decide +kernel
theorem dX5_layOrder_121 : decode cX5_layOrder 121 = .ok (.iload 6, 2) := by decide +kernel
theorem dX5_layOrder_123 : decode cX5_layOrder 123 = .ok (.ifCond .le 54, 3) := by decide +kernel
theorem dX5_layOrder_126 : decode cX5_layOrder 126 = .ok (.aload_n 0, 1) := by decide +kernel
theorem dX5_layOrder_127 : decode cX5_layOrder 127 = .ok (.getfield 49, 3) := by decide +kernel
theorem dX5_layOrder_130 : decode cX5_layOrder 130 = .ok (.bipush 10, 2) := by decide +kernel
theorem dX5_layOrder_132 : decode cX5_layOrder 132 = .ok (.aload_n 0, 1) := by decide +kernel
theorem dX5_layOrder_133 : decode cX5_layOrder 133 = .ok (.getfield 82, 3) := by decide +kernel
theorem dX5_layOrder_136 : decode cX5_layOrder 136 = .ok (.iload 6, 2) := by decide +kernel
theorem dX5_layOrder_138 : decode cX5_layOrder 138 = .ok (.iconst 1, 1) := by decide +kernel
theorem dX5_layOrder_139 : decode cX5_layOrder 139 = .ok (.isub, 1) := by decide +kernel
theorem dX5_layOrder_140 : decode cX5_layOrder 140 = .ok (.iaload, 1) := by decide +kernel
theorem dX5_layOrder_141 : decode cX5_layOrder 141 = .ok (.imul, 1) := by decide +kernel
theorem dX5_layOrder_142 : decode cX5_layOrder 142 = .ok (.iload_n 1, 1) := by decide +kernel
theorem dX5_layOrder_143 : decode cX5_layOrder 143 = .ok (.iadd, 1) := by decide +kernel
theorem dX5_layOrder_144 : decode cX5_layOrder 144 = .ok (.iaload, 1) := by decide +kernel
theorem dX5_layOrder_145 : decode cX5_layOrder 145 = .ok (.aload_n 0, 1) := by decide +kernel
theorem dX5_layOrder_146 : decode cX5_layOrder 146 = .ok (.getfield 49, 3) := by decide +kernel
theorem dX5_layOrder_149 : decode cX5_layOrder 149 = .ok (.iload 4, 2) := by decide +kernel
theorem dX5_layOrder_151 : decode cX5_layOrder 151 = .ok (.iaload, 1) := by decide +kernel
theorem dX5_layOrder_152 : decode cX5_layOrder 152 = .ok (.if_icmp .le 25, 3) := by decide +kernel
theorem dX5_layOrder_155 : decode cX5_layOrder 155 = .ok (.aload_n 0, 1) := by decide +kernel
theorem dX5_layOrder_156 : decode cX5_layOrder 156 = .ok (.getfield 82, 3) := by decide +kernel
theorem dX5_layOrder_159 : decode cX5_layOrder 159 = .ok (.iload 6, 2) := by decide +kernel
theorem dX5_layOrder_161 : decode cX5_layOrder 161 = .ok (.aload_n 0, 1) := by decide +kernel
theorem dX5_layOrder_162 : decode cX5_layOrder 162 = .ok (.getfield 82, 3) := by decide +kernel
theorem dX5_layOrder_165 : decode cX5_layOrder 165 = .ok (.iload 6, 2) := by decide +kernel
theorem dX5_layOrder_167 : decode cX5_layOrder 167 = .ok (.iconst 1, 1) := by decide +kernel
theorem dX5_layOrder_168 : decode cX5_layOrder 168 = .ok (.isub, 1) := by decide +kernel
theorem dX5_layOrder_169 : decode cX5_layOrder 169 = .ok (.iaload, 1) := by decide +kernel
theorem dX5_layOrder_170 : decode cX5_layOrder 170 = .ok (.iastore, 1) := by decide +kernel
theorem dX5_layOrder_171 : decode cX5_layOrder 171 = .ok (.iinc 6 (-1), 3) := by decide +kernel
theorem dX5_layOrder_174 : decode cX5_layOrder 174 = .ok (.goto (-63), 3) := by decide +kernel
theorem dX5_layOrder_177 : decode cX5_layOrder 177 = .ok (.aload_n 0, 1) := by decide +kernel
theorem dX5_layOrder_178 : decode cX5_layOrder 178 = .ok (.getfield 82, 3) := by decide +kernel
theorem dX5_layOrder_181 : decode cX5_layOrder 181 = .ok (.iload 6, 2) := by decide +kernel
theorem dX5_layOrder_183 : decode cX5_layOrder 183 = .ok (.iload_n 3, 1) := by decide +kernel
theorem dX5_layOrder_184 : decode cX5_layOrder 184 = .ok (.iastore, 1) := by decide +kernel
theorem dX5_layOrder_185 : decode cX5_layOrder 185 = .ok (.iinc 2 1, 3) := by decide +kernel
theorem dX5_layOrder_188 : decode cX5_layOrder 188 = .ok (.iinc 3 1, 3) := by decide +kernel
theorem dX5_layOrder_191 : decode cX5_layOrder 191 = .ok (.goto (-187), 3) := by decide +kernel
theorem dX5_layOrder_194 : decode cX5_layOrder 194 = .ok (.iload_n 2, 1) := by decide +kernel
theorem dX5_layOrder_195 : decode cX5_layOrder 195 = .ok (.ireturn, 1) := by decide +kernel
theorem dX5_getOff_0 : decode cX5_getOff 0 = .ok (.bipush 10, 2) := by decide +kernel
theorem dX5_getOff_2 : decode cX5_getOff 2 = .ok (.iload_n 1, 1) := by decide +kernel
theorem dX5_getOff_3 : decode cX5_getOff 3 = .ok (.imul, 1) := by decide +kernel
theorem dX5_getOff_4 : decode cX5_getOff 4 = .ok (.iload_n 2, 1) := by decide +kernel
theorem dX5_getOff_5 : decode cX5_getOff 5 = .ok (.iadd, 1) := by decide +kernel
theorem dX5_getOff_6 : decode cX5_getOff 6 = .ok (.istore 4, 2) := by decide +kernel
theorem dX5_getOff_8 : decode cX5_getOff 8 = .ok (.iconst 0, 1) := by decide +kernel
theorem dX5_getOff_9 : decode cX5_getOff 9 = .ok (.istore 5, 2) := by decide +kernel
theorem dX5_getOff_11 : decode cX5_getOff 11 = .ok (.aload_n 0, 1) := by decide +kernel
theorem dX5_getOff_12 : decode cX5_getOff 12 = .ok (.getfield 58, 3) := by decide +kernel
theorem dX5_getOff_15 : decode cX5_getOff 15 = .ok (.iload 4, 2) := by decide +kernel
theorem dX5_getOff_17 : decode cX5_getOff 17 = .ok (.aload_n 0, 1) := by decide +kernel
theorem dX5_getOff_18 : decode cX5_getOff 18 = .ok (.getfield 67, 3) := by decide +kernel
theorem dX5_getOff_21 : decode cX5_getOff 21 = .ok (.iload 4, 2) := by decide +kernel
theorem dX5_getOff_23 : decode cX5_getOff 23 = .ok (.iaload, 1) := by decide +kernel
theorem dX5_getOff_24 : decode cX5_getOff 24 = .ok (.iastore, 1) := by decide +kernel
theorem dX5_getOff_25 : decode cX5_getOff 25 = .ok (.iload_n 2, 1) := by decide +kernel
theorem dX5_getOff_26 : decode cX5_getOff 26 = .ok (.istore 6, 2) := by decide +kernel
theorem dX5_getOff_28 : decode cX5_getOff 28 = .ok (.iload 6, 2) := by decide +kernel
theorem dX5_getOff_30 : decode cX5_getOff 30 = .ok (.bipush 10, 2) := by decide +kernel
theorem dX5_getOff_32 : decode cX5_getOff 32 = .ok (.if_icmp .ge 114, 3) := by decide +kernel
theorem dX5_getOff_35 : decode cX5_getOff 35 = .ok (.bipush 10, 2) := by decide +kernel
theorem dX5_getOff_37 : decode cX5_getOff 37 = .ok (.iload_n 1, 1) := by decide +kernel
theorem dX5_getOff_38 : decode cX5_getOff 38 = .ok (.imul, 1) := by decide +kernel
theorem dX5_getOff_39 : decode cX5_getOff 39 = .ok (.iload 6, 2) := by decide +kernel
theorem dX5_getOff_41 : decode cX5_getOff 41 = .ok (.iadd, 1) := by decide +kernel
theorem dX5_getOff_42 : decode cX5_getOff 42 = .ok (.istore 7, 2) := by decide +kernel
theorem dX5_getOff_44 : decode cX5_getOff 44 = .ok (.iload 6, 2) := by decide +kernel
theorem dX5_getOff_46 : decode cX5_getOff 46 = .ok (.iload_n 2, 1) := by decide +kernel
theorem dX5_getOff_47 : decode cX5_getOff 47 = .ok (.if_icmp .eq 7, 3) := by decide +kernel
theorem dX5_getOff_50 : decode cX5_getOff 50 = .ok (.iload_n 3, 1) := by decide +kernel
theorem dX5_getOff_51 : decode cX5_getOff 51 = .ok (.ifCond .eq 89, 3) := by decide +kernel
theorem dX5_getOff_54 : decode cX5_getOff 54 = .ok (.iload 5, 2) := by decide +kernel
theorem dX5_getOff_56 : decode cX5_getOff 56 = .ok (.aload_n 0, 1) := by decide +kernel
theorem dX5_getOff_57 : decode cX5_getOff 57 = .ok (.getfield 67, 3) := by decide +kernel
theorem dX5_getOff_60 : decode cX5_getOff 60 = .ok (.iload 7, 2) := by decide +kernel
theorem dX5_getOff_62 : decode cX5_getOff 62 = .ok (.iaload, 1) := by decide +kernel
theorem dX5_getOff_63 : decode cX5_getOff 63 = .ok (.iadd, 1) := by decide +kernel
theorem dX5_getOff_64 : decode cX5_getOff 64 = .ok (.istore 5, 2) := by decide +kernel
theorem dX5_getOff_66 : decode cX5_getOff 66 = .ok (.aload_n 0, 1) := by decide +kernel
theorem dX5_getOff_67 : decode cX5_getOff 67 = .ok (.dup, 1) := by decide +kernel
theorem dX5_getOff_68 : decode cX5_getOff 68 = .ok (.getfield 112, 3) := by decide +kernel
theorem dX5_getOff_71 : decode cX5_getOff 71 = .ok (.aload_n 0, 1) := by decide +kernel
theorem dX5_getOff_72 : decode cX5_getOff 72 = .ok (.getfield 67, 3) := by decide +kernel
theorem dX5_getOff_75 : decode cX5_getOff 75 = .ok (.iload 7, 2) := by decide +kernel
theorem dX5_getOff_77 : decode cX5_getOff 77 = .ok (.iaload, 1) := by decide +kernel
theorem dX5_getOff_78 : decode cX5_getOff 78 = .ok (.aload_n 0, 1) := by decide +kernel
theorem dX5_getOff_79 : decode cX5_getOff 79 = .ok (.getfield 49, 3) := by decide +kernel
theorem dX5_getOff_82 : decode cX5_getOff 82 = .ok (.iload 4, 2) := by decide +kernel
theorem dX5_getOff_84 : decode cX5_getOff 84 = .ok (.iaload, 1) := by decide +kernel
theorem dX5_getOff_85 : decode cX5_getOff 85 = .ok (.imul, 1) := by decide +kernel
theorem dX5_getOff_86 : decode cX5_getOff 86 = .ok (.aload_n 0, 1) := by decide +kernel
theorem dX5_getOff_87 : decode cX5_getOff 87 = .ok (.getfield 70, 3) := by decide +kernel
theorem dX5_getOff_90 : decode cX5_getOff 90 = .ok (.iload 7, 2) := by decide +kernel
theorem dX5_getOff_92 : decode cX5_getOff 92 = .ok (.iaload, 1) := by decide +kernel
theorem dX5_getOff_93 : decode cX5_getOff 93 = .ok (.isub, 1) := by decide +kernel
theorem dX5_getOff_94 : decode cX5_getOff 94 = .ok (.iadd, 1) := by decide +kernel
theorem dX5_getOff_95 : decode cX5_getOff 95 = .ok (.putfield 112, 3) := by decide +kernel
theorem dX5_getOff_98 : decode cX5_getOff 98 = .ok (.aload_n 0, 1) := by decide +kernel
theorem dX5_getOff_99 : decode cX5_getOff 99 = .ok (.dup, 1) := by decide +kernel
theorem dX5_getOff_100 : decode cX5_getOff 100 = .ok (.getfield 115, 3) := by decide +kernel
theorem dX5_getOff_103 : decode cX5_getOff 103 = .ok (.iload 6, 2) := by decide +kernel
theorem dX5_getOff_105 : decode cX5_getOff 105 = .ok (.iload_n 2, 1) := by decide +kernel
theorem dX5_getOff_106 : decode cX5_getOff 106 = .ok (.if_icmp .ne 7, 3) := by decide +kernel
theorem dX5_getOff_109 : decode cX5_getOff 109 = .ok (.iconst 0, 1) := by decide +kernel
theorem dX5_getOff_110 : decode cX5_getOff 110 = .ok (.goto 10, 3) := by decide +kernel
theorem dX5_getOff_113 : decode cX5_getOff 113 = .ok (.aload_n 0, 1) := by decide +kernel
theorem dX5_getOff_114 : decode cX5_getOff 114 = .ok (.getfield 67, 3) := by decide +kernel
theorem dX5_getOff_117 : decode cX5_getOff 117 = .ok (.iload 7, 2) := by decide +kernel
theorem dX5_getOff_119 : decode cX5_getOff 119 = .ok (.iaload, 1) := by decide +kernel
end
section
theorem dX5_getOff_120 : decode cX5_getOff 120 = .ok (.iadd, 1) := by decide +kernel
theorem dX5_getOff_121 : decode cX5_getOff 121 = .ok (.putfield 115, 3) := by decide +kernel
theorem dX5_getOff_124 : decode cX5_getOff 124 = .ok (.aload_n 0, 1) := by decide +kernel
theorem dX5_getOff_125 : decode cX5_getOff 125 = .ok (.getfield 67, 3) := by decide +kernel
theorem dX5_getOff_128 : decode cX5_getOff 128 = .ok (.iload 7, 2) := by decide +kernel
theorem dX5_getOff_130 : decode cX5_getOff 130 = .ok (.iconst 0, 1) := by decide +kernel
theorem dX5_getOff_131 : decode cX5_getOff 131 = .ok (.iastore, 1) := by decide +kernel
theorem dX5_getOff_132 : decode cX5_getOff 132 = .ok (.aload_n 0, 1) := by decide +kernel
theorem dX5_getOff_133 : decode cX5_getOff 133 = .ok (.getfield 70, 3) := by decide +kernel
theorem dX5_getOff_136 : decode cX5_getOff 136 = .ok (.iload 7, 2) := by decide +kernel
theorem dX5_getOff_138 : decode cX5_getOff 138 = .ok (.iconst 0, 1) := by decide +kernel
theorem dX5_getOff_139 : decode cX5_getOff 139 = .ok (.iastore, 1) := by decide +kernel
theorem dX5_getOff_140 : decode cX5_getOff 140 = .ok (.iinc 6 1, 3) := by decide +kernel
theorem dX5_getOff_143 : decode cX5_getOff 143 = .ok (.goto (-115), 3) := by decide +kernel
theorem dX5_getOff_146 : decode cX5_getOff 146 = .ok (.iload 5, 2) := by decide +kernel
theorem dX5_getOff_148 : decode cX5_getOff 148 = .ok (.ireturn, 1) := by decide +kernel
theorem dX5_getOn_0 : decode cX5_getOn 0 = .ok (.bipush 10, 2) := by decide +kernel
theorem dX5_getOn_2 : decode cX5_getOn 2 = .ok (.iload_n 1, 1) := by decide +kernel
theorem dX5_getOn_3 : decode cX5_getOn 3 = .ok (.imul, 1) := by decide +kernel
theorem dX5_getOn_4 : decode cX5_getOn 4 = .ok (.iload_n 2, 1) := by decide +kernel
theorem dX5_getOn_5 : decode cX5_getOn 5 = .ok (.iadd, 1) := by decide +kernel
theorem dX5_getOn_6 : decode cX5_getOn 6 = .ok (.istore 4, 2) := by decide +kernel
theorem dX5_getOn_8 : decode cX5_getOn 8 = .ok (.iload_n 2, 1) := by decide +kernel
theorem dX5_getOn_9 : decode cX5_getOn 9 = .ok (.bipush 9, 2) := by decide +kernel
theorem dX5_getOn_11 : decode cX5_getOn 11 = .ok (.if_icmp .eq 12, 3) := by decide +kernel
theorem dX5_getOn_14 : decode cX5_getOn 14 = .ok (.aload_n 0, 1) := by decide +kernel
theorem dX5_getOn_15 : decode cX5_getOn 15 = .ok (.getfield 13, 3) := by decide +kernel
theorem dX5_getOn_18 : decode cX5_getOn 18 = .ok (.iload_n 2, 1) := by decide +kernel
theorem dX5_getOn_19 : decode cX5_getOn 19 = .ok (.iaload, 1) := by decide +kernel
theorem dX5_getOn_20 : decode cX5_getOn 20 = .ok (.ifCond .ne 7, 3) := by decide +kernel
theorem dX5_getOn_23 : decode cX5_getOn 23 = .ok (.iconst 0, 1) := by decide +kernel
theorem dX5_getOn_24 : decode cX5_getOn 24 = .ok (.goto 22, 3) := by decide +kernel
theorem dX5_getOn_27 : decode cX5_getOn 27 = .ok (.aload_n 0, 1) := by decide +kernel
theorem dX5_getOn_28 : decode cX5_getOn 28 = .ok (.getfield 49, 3) := by decide +kernel
theorem dX5_getOn_31 : decode cX5_getOn 31 = .ok (.iload 4, 2) := by decide +kernel
theorem dX5_getOn_33 : decode cX5_getOn 33 = .ok (.iaload, 1) := by decide +kernel
theorem dX5_getOn_34 : decode cX5_getOn 34 = .ok (.aload_n 0, 1) := by decide +kernel
theorem dX5_getOn_35 : decode cX5_getOn 35 = .ok (.getfield 13, 3) := by decide +kernel
theorem dX5_getOn_38 : decode cX5_getOn 38 = .ok (.iload_n 2, 1) := by decide +kernel
theorem dX5_getOn_39 : decode cX5_getOn 39 = .ok (.iaload, 1) := by decide +kernel
theorem dX5_getOn_40 : decode cX5_getOn 40 = .ok (.idiv, 1) := by decide +kernel
theorem dX5_getOn_41 : decode cX5_getOn 41 = .ok (.aload_n 0, 1) := by decide +kernel
theorem dX5_getOn_42 : decode cX5_getOn 42 = .ok (.getfield 118, 3) := by decide +kernel
theorem dX5_getOn_45 : decode cX5_getOn 45 = .ok (.isub, 1) := by decide +kernel
theorem dX5_getOn_46 : decode cX5_getOn 46 = .ok (.istore 5, 2) := by decide +kernel
theorem dX5_getOn_48 : decode cX5_getOn 48 = .ok (.iload 5, 2) := by decide +kernel
theorem dX5_getOn_50 : decode cX5_getOn 50 = .ok (.iload_n 3, 1) := by decide +kernel
theorem dX5_getOn_51 : decode cX5_getOn 51 = .ok (.if_icmp .ge 8, 3) := by decide +kernel
theorem dX5_getOn_54 : decode cX5_getOn 54 = .ok (.iload 5, 2) := by decide +kernel
theorem dX5_getOn_56 : decode cX5_getOn 56 = .ok (.goto 4, 3) := by decide +kernel
theorem dX5_getOn_59 : decode cX5_getOn 59 = .ok (.iload_n 3, 1) := by decide +kernel
theorem dX5_getOn_60 : decode cX5_getOn 60 = .ok (.istore 6, 2) := by decide +kernel
theorem dX5_getOn_62 : decode cX5_getOn 62 = .ok (.aload_n 0, 1) := by decide +kernel
theorem dX5_getOn_63 : decode cX5_getOn 63 = .ok (.getfield 25, 3) := by decide +kernel
theorem dX5_getOn_66 : decode cX5_getOn 66 = .ok (.iload_n 1, 1) := by decide +kernel
theorem dX5_getOn_67 : decode cX5_getOn 67 = .ok (.iaload, 1) := by decide +kernel
theorem dX5_getOn_68 : decode cX5_getOn 68 = .ok (.iload_n 2, 1) := by decide +kernel
theorem dX5_getOn_69 : decode cX5_getOn 69 = .ok (.if_icmp .eq 9, 3) := by decide +kernel
theorem dX5_getOn_72 : decode cX5_getOn 72 = .ok (.iload_n 2, 1) := by decide +kernel
theorem dX5_getOn_73 : decode cX5_getOn 73 = .ok (.bipush 9, 2) := by decide +kernel
theorem dX5_getOn_75 : decode cX5_getOn 75 = .ok (.if_icmp .ne 7, 3) := by decide +kernel
theorem dX5_getOn_78 : decode cX5_getOn 78 = .ok (.iconst 0, 1) := by decide +kernel
theorem dX5_getOn_79 : decode cX5_getOn 79 = .ok (.goto 5, 3) := by decide +kernel
theorem dX5_getOn_82 : decode cX5_getOn 82 = .ok (.iload 6, 2) := by decide +kernel
theorem dX5_getOn_84 : decode cX5_getOn 84 = .ok (.istore 6, 2) := by decide +kernel
theorem dX5_getOn_86 : decode cX5_getOn 86 = .ok (.aload_n 0, 1) := by decide +kernel
theorem dX5_getOn_87 : decode cX5_getOn 87 = .ok (.getfield 64, 3) := by decide +kernel
theorem dX5_getOn_90 : decode cX5_getOn 90 = .ok (.iload 4, 2) := by decide +kernel
theorem dX5_getOn_92 : decode cX5_getOn 92 = .ok (.iload 5, 2) := by decide +kernel
theorem dX5_getOn_94 : decode cX5_getOn 94 = .ok (.iload 6, 2) := by decide +kernel
theorem dX5_getOn_96 : decode cX5_getOn 96 = .ok (.isub, 1) := by decide +kernel
theorem dX5_getOn_97 : decode cX5_getOn 97 = .ok (.iastore, 1) := by decide +kernel
theorem dX5_getOn_98 : decode cX5_getOn 98 = .ok (.aload_n 0, 1) := by decide +kernel
theorem dX5_getOn_99 : decode cX5_getOn 99 = .ok (.getfield 55, 3) := by decide +kernel
theorem dX5_getOn_102 : decode cX5_getOn 102 = .ok (.iload 4, 2) := by decide +kernel
theorem dX5_getOn_104 : decode cX5_getOn 104 = .ok (.iload 6, 2) := by decide +kernel
theorem dX5_getOn_106 : decode cX5_getOn 106 = .ok (.iastore, 1) := by decide +kernel
theorem dX5_getOn_107 : decode cX5_getOn 107 = .ok (.iload 6, 2) := by decide +kernel
theorem dX5_getOn_109 : decode cX5_getOn 109 = .ok (.ifCond .le 194, 3) := by decide +kernel
theorem dX5_getOn_112 : decode cX5_getOn 112 = .ok (.iload_n 2, 1) := by decide +kernel
theorem dX5_getOn_113 : decode cX5_getOn 113 = .ok (.aload_n 0, 1) := by decide +kernel
theorem dX5_getOn_114 : decode cX5_getOn 114 = .ok (.getfield 16, 3) := by decide +kernel
theorem dX5_getOn_117 : decode cX5_getOn 117 = .ok (.iload_n 2, 1) := by decide +kernel
theorem dX5_getOn_118 : decode cX5_getOn 118 = .ok (.iaload, 1) := by decide +kernel
theorem dX5_getOn_119 : decode cX5_getOn 119 = .ok (.iadd, 1) := by decide +kernel
theorem dX5_getOn_120 : decode cX5_getOn 120 = .ok (.bipush 9, 2) := by decide +kernel
theorem dX5_getOn_122 : decode cX5_getOn 122 = .ok (.if_icmp .le 8, 3) := by decide +kernel
theorem dX5_getOn_125 : decode cX5_getOn 125 = .ok (.bipush 9, 2) := by decide +kernel
theorem dX5_getOn_127 : decode cX5_getOn 127 = .ok (.goto 11, 3) := by decide +kernel
theorem dX5_getOn_130 : decode cX5_getOn 130 = .ok (.iload_n 2, 1) := by decide +kernel
theorem dX5_getOn_131 : decode cX5_getOn 131 = .ok (.aload_n 0, 1) := by decide +kernel
theorem dX5_getOn_132 : decode cX5_getOn 132 = .ok (.getfield 16, 3) := by decide +kernel
theorem dX5_getOn_135 : decode cX5_getOn 135 = .ok (.iload_n 2, 1) := by decide +kernel
theorem dX5_getOn_136 : decode cX5_getOn 136 = .ok (.iaload, 1) := by decide +kernel
theorem dX5_getOn_137 : decode cX5_getOn 137 = .ok (.iadd, 1) := by decide +kernel
theorem dX5_getOn_138 : decode cX5_getOn 138 = .ok (.istore 7, 2) := by decide +kernel
theorem dX5_getOn_140 : decode cX5_getOn 140 = .ok (.aload_n 0, 1) := by decide +kernel
theorem dX5_getOn_141 : decode cX5_getOn 141 = .ok (.getfield 67, 3) := by decide +kernel
theorem dX5_getOn_144 : decode cX5_getOn 144 = .ok (.bipush 10, 2) := by decide +kernel
theorem dX5_getOn_146 : decode cX5_getOn 146 = .ok (.iload_n 1, 1) := by decide +kernel
theorem dX5_getOn_147 : decode cX5_getOn 147 = .ok (.imul, 1) := by decide +kernel
theorem dX5_getOn_148 : decode cX5_getOn 148 = .ok (.iload 7, 2) := by decide +kernel
theorem dX5_getOn_150 : decode cX5_getOn 150 = .ok (.iadd, 1) := by decide +kernel
theorem dX5_getOn_151 : decode cX5_getOn 151 = .ok (.dup2, 1) := by decide +kernel
theorem dX5_getOn_152 : decode cX5_getOn 152 = .ok (.iaload, 1) := by decide +kernel
theorem dX5_getOn_153 : decode cX5_getOn 153 = .ok (.iload 6, 2) := by decide +kernel
theorem dX5_getOn_155 : decode cX5_getOn 155 = .ok (.iadd, 1) := by decide +kernel
theorem dX5_getOn_156 : decode cX5_getOn 156 = .ok (.iastore, 1) := by decide +kernel
theorem dX5_getOn_157 : decode cX5_getOn 157 = .ok (.aload_n 0, 1) := by decide +kernel
theorem dX5_getOn_158 : decode cX5_getOn 158 = .ok (.getfield 70, 3) := by decide +kernel
theorem dX5_getOn_161 : decode cX5_getOn 161 = .ok (.bipush 10, 2) := by decide +kernel
theorem dX5_getOn_163 : decode cX5_getOn 163 = .ok (.iload_n 1, 1) := by decide +kernel
theorem dX5_getOn_164 : decode cX5_getOn 164 = .ok (.imul, 1) := by decide +kernel
theorem dX5_getOn_165 : decode cX5_getOn 165 = .ok (.iload 7, 2) := by decide +kernel
theorem dX5_getOn_167 : decode cX5_getOn 167 = .ok (.iadd, 1) := by decide +kernel
theorem dX5_getOn_168 : decode cX5_getOn 168 = .ok (.dup2, 1) := by decide +kernel
theorem dX5_getOn_169 : decode cX5_getOn 169 = .ok (.iaload, 1) := by decide +kernel
theorem dX5_getOn_170 : decode cX5_getOn 170 = .ok (.iload 6, 2) := by decide +kernel
theorem dX5_getOn_172 : decode cX5_getOn 172 = .ok (.aload_n 0, 1) := by decide +kernel
theorem dX5_getOn_173 : decode cX5_getOn 173 = .ok (.getfield 49, 3) := by decide +kernel
theorem dX5_getOn_176 : decode cX5_getOn 176 = .ok (.iload 4, 2) := by decide +kernel
theorem dX5_getOn_178 : decode cX5_getOn 178 = .ok (.iaload, 1) := by decide +kernel
theorem dX5_getOn_179 : decode cX5_getOn 179 = .ok (.imul, 1) := by decide +kernel
theorem dX5_getOn_180 : decode cX5_getOn 180 = .ok (.iadd, 1) := by decide +kernel
theorem dX5_getOn_181 : decode cX5_getOn 181 = .ok (.iastore, 1) := by decide +kernel
theorem dX5_getOn_182 : decode cX5_getOn 182 = .ok (.iload 6, 2) := by decide +kernel
theorem dX5_getOn_184 : decode cX5_getOn 184 = .ok (.aload_n 0, 1) := by decide +kernel
theorem dX5_getOn_185 : decode cX5_getOn 185 = .ok (.getfield 49, 3) := by decide +kernel
theorem dX5_getOn_188 : decode cX5_getOn 188 = .ok (.iload 4, 2) := by decide +kernel
theorem dX5_getOn_190 : decode cX5_getOn 190 = .ok (.iaload, 1) := by decide +kernel
theorem dX5_getOn_191 : decode cX5_getOn 191 = .ok (.imul, 1) := by decide +kernel
theorem dX5_getOn_192 : decode cX5_getOn 192 = .ok (.aload_n 0, 1) := by decide +kernel
theorem dX5_getOn_193 : decode cX5_getOn 193 = .ok (.getfield 13, 3) := by decide +kernel
theorem dX5_getOn_196 : decode cX5_getOn 196 = .ok (.iload_n 2, 1) := by decide +kernel
theorem dX5_getOn_197 : decode cX5_getOn 197 = .ok (.iaload, 1) := by decide +kernel
theorem dX5_getOn_198 : decode cX5_getOn 198 = .ok (.iload 6, 2) := by decide +kernel
theorem dX5_getOn_200 : decode cX5_getOn 200 = .ok (.aload_n 0, 1) := by decide +kernel
theorem dX5_getOn_201 : decode cX5_getOn 201 = .ok (.getfield 118, 3) := by decide +kernel
theorem dX5_getOn_204 : decode cX5_getOn 204 = .ok (.imul, 1) := by decide +kernel
theorem dX5_getOn_205 : decode cX5_getOn 205 = .ok (.iload 6, 2) := by decide +kernel
theorem dX5_getOn_207 : decode cX5_getOn 207 = .ok (.iload 6, 2) := by decide +kernel
theorem dX5_getOn_209 : decode cX5_getOn 209 = .ok (.iconst 1, 1) := by decide +kernel
theorem dX5_getOn_210 : decode cX5_getOn 210 = .ok (.iadd, 1) := by decide +kernel
theorem dX5_getOn_211 : decode cX5_getOn 211 = .ok (.imul, 1) := by decide +kernel
theorem dX5_getOn_212 : decode cX5_getOn 212 = .ok (.iconst 2, 1) := by decide +kernel
theorem dX5_getOn_213 : decode cX5_getOn 213 = .ok (.idiv, 1) := by decide +kernel
theorem dX5_getOn_214 : decode cX5_getOn 214 = .ok (.iadd, 1) := by decide +kernel
theorem dX5_getOn_215 : decode cX5_getOn 215 = .ok (.imul, 1) := by decide +kernel
theorem dX5_getOn_216 : decode cX5_getOn 216 = .ok (.isub, 1) := by decide +kernel
theorem dX5_getOn_217 : decode cX5_getOn 217 = .ok (.istore 8, 2) := by decide +kernel
theorem dX5_getOn_219 : decode cX5_getOn 219 = .ok (.aload_n 0, 1) := by decide +kernel
theorem dX5_getOn_220 : decode cX5_getOn 220 = .ok (.getfield 73, 3) := by decide +kernel
theorem dX5_getOn_223 : decode cX5_getOn 223 = .ok (.iload_n 2, 1) := by decide +kernel
theorem dX5_getOn_224 : decode cX5_getOn 224 = .ok (.dup2, 1) := by decide +kernel
theorem dX5_getOn_225 : decode cX5_getOn 225 = .ok (.iaload, 1) := by decide +kernel
theorem dX5_getOn_226 : decode cX5_getOn 226 = .ok (.iload 6, 2) := by decide +kernel
theorem dX5_getOn_228 : decode cX5_getOn 228 = .ok (.iadd, 1) := by decide +kernel
theorem dX5_getOn_229 : decode cX5_getOn 229 = .ok (.iastore, 1) := by decide +kernel
theorem dX5_getOn_230 : decode cX5_getOn 230 = .ok (.aload_n 0, 1) := by decide +kernel
theorem dX5_getOn_231 : decode cX5_getOn 231 = .ok (.getfield 76, 3) := by decide +kernel
theorem dX5_getOn_234 : decode cX5_getOn 234 = .ok (.iload_n 2, 1) := by decide +kernel
theorem dX5_getOn_235 : decode cX5_getOn 235 = .ok (.dup2, 1) := by decide +kernel
theorem dX5_getOn_236 : decode cX5_getOn 236 = .ok (.iaload, 1) := by decide +kernel
theorem dX5_getOn_237 : decode cX5_getOn 237 = .ok (.iload 8, 2) := by decide +kernel
theorem dX5_getOn_239 : decode cX5_getOn 239 = .ok (.iadd, 1) := by decide +kernel
theorem dX5_getOn_240 : decode cX5_getOn 240 = .ok (.iastore, 1) := by decide +kernel
theorem dX5_getOn_241 : decode cX5_getOn 241 = .ok (.aload_n 0, 1) := by decide +kernel
theorem dX5_getOn_242 : decode cX5_getOn 242 = .ok (.getfield 49, 3) := by decide +kernel
theorem dX5_getOn_245 : decode cX5_getOn 245 = .ok (.iload 4, 2) := by decide +kernel
theorem dX5_getOn_247 : decode cX5_getOn 247 = .ok (.iaload, 1) := by decide +kernel
theorem dX5_getOn_248 : decode cX5_getOn 248 = .ok (.aload_n 0, 1) := by decide +kernel
theorem dX5_getOn_249 : decode cX5_getOn 249 = .ok (.getfield 13, 3) := by decide +kernel
theorem dX5_getOn_252 : decode cX5_getOn 252 = .ok (.iload_n 2, 1) := by decide +kernel
theorem dX5_getOn_253 : decode cX5_getOn 253 = .ok (.iaload, 1) := by decide +kernel
theorem dX5_getOn_254 : decode cX5_getOn 254 = .ok (.aload_n 0, 1) := by decide +kernel
theorem dX5_getOn_255 : decode cX5_getOn 255 = .ok (.getfield 118, 3) := by decide +kernel
theorem dX5_getOn_258 : decode cX5_getOn 258 = .ok (.iconst 1, 1) := by decide +kernel
theorem dX5_getOn_259 : decode cX5_getOn 259 = .ok (.iadd, 1) := by decide +kernel
theorem dX5_getOn_260 : decode cX5_getOn 260 = .ok (.imul, 1) := by decide +kernel
theorem dX5_getOn_261 : decode cX5_getOn 261 = .ok (.isub, 1) := by decide +kernel
theorem dX5_getOn_262 : decode cX5_getOn 262 = .ok (.istore 9, 2) := by decide +kernel
theorem dX5_getOn_264 : decode cX5_getOn 264 = .ok (.aload_n 0, 1) := by decide +kernel
theorem dX5_getOn_265 : decode cX5_getOn 265 = .ok (.getfield 79, 3) := by decide +kernel
theorem dX5_getOn_268 : decode cX5_getOn 268 = .ok (.iload_n 2, 1) := by decide +kernel
theorem dX5_getOn_269 : decode cX5_getOn 269 = .ok (.iload 9, 2) := by decide +kernel
theorem dX5_getOn_271 : decode cX5_getOn 271 = .ok (.aload_n 0, 1) := by decide +kernel
theorem dX5_getOn_272 : decode cX5_getOn 272 = .ok (.getfield 79, 3) := by decide +kernel
theorem dX5_getOn_275 : decode cX5_getOn 275 = .ok (.iload_n 2, 1) := by decide +kernel
theorem dX5_getOn_276 : decode cX5_getOn 276 = .ok (.iaload, 1) := by decide +kernel
theorem dX5_getOn_277 : decode cX5_getOn 277 = .ok (.if_icmp .le 8, 3) := by decide +kernel
theorem dX5_getOn_280 : decode cX5_getOn 280 = .ok (.iload 9, 2) := by decide +kernel
theorem dX5_getOn_282 : decode cX5_getOn 282 = .ok (.goto 9, 3) := by decide +kernel
theorem dX5_getOn_285 : decode cX5_getOn 285 = .ok (.aload_n 0, 1) := by decide +kernel
theorem dX5_getOn_286 : decode cX5_getOn 286 = .ok (.getfield 79, 3) := by decide +kernel
theorem dX5_getOn_289 : decode cX5_getOn 289 = .ok (.iload_n 2, 1) := by decide +kernel
theorem dX5_getOn_290 : decode cX5_getOn 290 = .ok (.iaload, 1) := by decide +kernel
theorem dX5_getOn_291 : decode cX5_getOn 291 = .ok (.iastore, 1) := by decide +kernel
theorem dX5_getOn_292 : decode cX5_getOn 292 = .ok (.aload_n 0, 1) := by decide +kernel
theorem dX5_getOn_293 : decode cX5_getOn 293 = .ok (.dup, 1) := by decide +kernel
theorem dX5_getOn_294 : decode cX5_getOn 294 = .ok (.getfield 118, 3) := by decide +kernel
theorem dX5_getOn_297 : decode cX5_getOn 297 = .ok (.iload 6, 2) := by decide +kernel
theorem dX5_getOn_299 : decode cX5_getOn 299 = .ok (.iadd, 1) := by decide +kernel
theorem dX5_getOn_300 : decode cX5_getOn 300 = .ok (.putfield 118, 3) := by decide +kernel
theorem dX5_getOn_303 : decode cX5_getOn 303 = .ok (.iload 6, 2) := by decide +kernel
theorem dX5_getOn_305 : decode cX5_getOn 305 = .ok (.ireturn, 1) := by decide +kernel
theorem dX5_atStop_0 : decode cX5_atStop 0 = .ok (.aload_n 0, 1) := by decide +kernel
theorem dX5_atStop_1 : decode cX5_atStop 1 = .ok (.iload_n 1, 1) := by decide +kernel
theorem dX5_atStop_2 : decode cX5_atStop 2 = .ok (.invokevirtual 121, 3) := by decide +kernel
theorem dX5_atStop_5 : decode cX5_atStop 5 = .ok (.istore_n 3, 1) := by decide +kernel
theorem dX5_atStop_6 : decode cX5_atStop 6 = .ok (.bipush (-6), 2) := by decide +kernel
theorem dX5_atStop_8 : decode cX5_atStop 8 = .ok (.istore 4, 2) := by decide +kernel
theorem dX5_atStop_10 : decode cX5_atStop 10 = .ok (.bipush (-6), 2) := by decide +kernel
theorem dX5_atStop_12 : decode cX5_atStop 12 = .ok (.istore 5, 2) := by decide +kernel
theorem dX5_atStop_14 : decode cX5_atStop 14 = .ok (.aload_n 0, 1) := by decide +kernel
theorem dX5_atStop_15 : decode cX5_atStop 15 = .ok (.iconst 0, 1) := by decide +kernel
theorem dX5_atStop_16 : decode cX5_atStop 16 = .ok (.putfield 118, 3) := by decide +kernel
theorem dX5_atStop_19 : decode cX5_atStop 19 = .ok (.iconst 0, 1) := by decide +kernel
theorem dX5_atStop_20 : decode cX5_atStop 20 = .ok (.istore 6, 2) := by decide +kernel
theorem dX5_atStop_22 : decode cX5_atStop 22 = .ok (.iload 6, 2) := by decide +kernel
theorem dX5_atStop_24 : decode cX5_atStop 24 = .ok (.iload_n 3, 1) := by decide +kernel
theorem dX5_atStop_25 : decode cX5_atStop 25 = .ok (.if_icmp .ge 388, 3) := by decide +kernel
theorem dX5_atStop_28 : decode cX5_atStop 28 = .ok (.aload_n 0, 1) := by decide +kernel
theorem dX5_atStop_29 : decode cX5_atStop 29 = .ok (.getfield 82, 3) := by decide +kernel
theorem dX5_atStop_32 : decode cX5_atStop 32 = .ok (.iload 6, 2) := by decide +kernel
theorem dX5_atStop_34 : decode cX5_atStop 34 = .ok (.iaload, 1) := by decide +kernel
theorem dX5_atStop_35 : decode cX5_atStop 35 = .ok (.istore 7, 2) := by decide +kernel
theorem dX5_atStop_37 : decode cX5_atStop 37 = .ok (.bipush 10, 2) := by decide +kernel
theorem dX5_atStop_39 : decode cX5_atStop 39 = .ok (.iload 7, 2) := by decide +kernel
theorem dX5_atStop_41 : decode cX5_atStop 41 = .ok (.imul, 1) := by decide +kernel
theorem dX5_atStop_42 : decode cX5_atStop 42 = .ok (.iload_n 1, 1) := by decide +kernel
theorem dX5_atStop_43 : decode cX5_atStop 43 = .ok (.iadd, 1) := by decide +kernel
theorem dX5_atStop_44 : decode cX5_atStop 44 = .ok (.istore 8, 2) := by decide +kernel
theorem dX5_atStop_46 : decode cX5_atStop 46 = .ok (.iload_n 1, 1) := by decide +kernel
theorem dX5_atStop_47 : decode cX5_atStop 47 = .ok (.bipush 9, 2) := by decide +kernel
theorem dX5_atStop_49 : decode cX5_atStop 49 = .ok (.if_icmp .eq 14, 3) := by decide +kernel
theorem dX5_atStop_52 : decode cX5_atStop 52 = .ok (.aload_n 0, 1) := by decide +kernel
theorem dX5_atStop_53 : decode cX5_atStop 53 = .ok (.getfield 25, 3) := by decide +kernel
theorem dX5_atStop_56 : decode cX5_atStop 56 = .ok (.iload 7, 2) := by decide +kernel
theorem dX5_atStop_58 : decode cX5_atStop 58 = .ok (.iaload, 1) := by decide +kernel
theorem dX5_atStop_59 : decode cX5_atStop 59 = .ok (.iload_n 1, 1) := by decide +kernel
theorem dX5_atStop_60 : decode cX5_atStop 60 = .ok (.if_icmp .ne 7, 3) := by decide +kernel
theorem dX5_atStop_63 : decode cX5_atStop 63 = .ok (.iconst 1, 1) := by decide +kernel
theorem dX5_atStop_64 : decode cX5_atStop 64 = .ok (.goto 4, 3) := by decide +kernel
theorem dX5_atStop_67 : decode cX5_atStop 67 = .ok (.iconst 0, 1) := by decide +kernel
theorem dX5_atStop_68 : decode cX5_atStop 68 = .ok (.istore 9, 2) := by decide +kernel
theorem dX5_atStop_70 : decode cX5_atStop 70 = .ok (.aload_n 0, 1) := by decide +kernel
theorem dX5_atStop_71 : decode cX5_atStop 71 = .ok (.getfield 49, 3) := by decide +kernel
theorem dX5_atStop_74 : decode cX5_atStop 74 = .ok (.iload 8, 2) := by decide +kernel
theorem dX5_atStop_76 : decode cX5_atStop 76 = .ok (.aload_n 0, 1) := by decide +kernel
theorem dX5_atStop_77 : decode cX5_atStop 77 = .ok (.getfield 28, 3) := by decide +kernel
theorem dX5_atStop_80 : decode cX5_atStop 80 = .ok (.iconst 3, 1) := by decide +kernel
theorem dX5_atStop_81 : decode cX5_atStop 81 = .ok (.iaload, 1) := by decide +kernel
theorem dX5_atStop_82 : decode cX5_atStop 82 = .ok (.ifCond .ne 20, 3) := by decide +kernel
theorem dX5_atStop_85 : decode cX5_atStop 85 = .ok (.iload 5, 2) := by decide +kernel
theorem dX5_atStop_87 : decode cX5_atStop 87 = .ok (.aload_n 0, 1) := by decide +kernel
theorem dX5_atStop_88 : decode cX5_atStop 88 = .ok (.getfield 49, 3) := by decide +kernel
theorem dX5_atStop_91 : decode cX5_atStop 91 = .ok (.iload 8, 2) := by decide +kernel
theorem dX5_atStop_93 : decode cX5_atStop 93 = .ok (.iaload, 1) := by decide +kernel
theorem dX5_atStop_94 : decode cX5_atStop 94 = .ok (.if_icmp .le 8, 3) := by decide +kernel
theorem dX5_atStop_97 : decode cX5_atStop 97 = .ok (.iload 5, 2) := by decide +kernel
theorem dX5_atStop_99 : decode cX5_atStop 99 = .ok (.goto 10, 3) := by decide +kernel
theorem dX5_atStop_102 : decode cX5_atStop 102 = .ok (.aload_n 0, 1) := by decide +kernel
theorem dX5_atStop_103 : decode cX5_atStop 103 = .ok (.getfield 49, 3) := by decide +kernel
theorem dX5_atStop_106 : decode cX5_atStop 106 = .ok (.iload 8, 2) := by decide +kernel
theorem dX5_atStop_108 : decode cX5_atStop 108 = .ok (.iaload, 1) := by decide +kernel
theorem dX5_atStop_109 : decode cX5_atStop 109 = .ok (.iastore, 1) := by decide +kernel
theorem dX5_atStop_110 : decode cX5_atStop 110 = .ok (.aload_n 0, 1) := by decide +kernel
theorem dX5_atStop_111 : decode cX5_atStop 111 = .ok (.iload 7, 2) := by decide +kernel
theorem dX5_atStop_113 : decode cX5_atStop 113 = .ok (.iload_n 1, 1) := by decide +kernel
theorem dX5_atStop_114 : decode cX5_atStop 114 = .ok (.iload 9, 2) := by decide +kernel
theorem dX5_atStop_116 : decode cX5_atStop 116 = .ok (.invokevirtual 125, 3) := by decide +kernel
theorem dX5_atStop_119 : decode cX5_atStop 119 = .ok (.istore 10, 2) := by decide +kernel
theorem dX5_atStop_121 : decode cX5_atStop 121 = .ok (.iconst 0, 1) := by decide +kernel
theorem dX5_atStop_122 : decode cX5_atStop 122 = .ok (.istore 11, 2) := by decide +kernel
theorem dX5_atStop_124 : decode cX5_atStop 124 = .ok (.iload_n 1, 1) := by decide +kernel
theorem dX5_atStop_125 : decode cX5_atStop 125 = .ok (.iconst 1, 1) := by decide +kernel
theorem dX5_atStop_126 : decode cX5_atStop 126 = .ok (.iadd, 1) := by decide +kernel
theorem dX5_atStop_127 : decode cX5_atStop 127 = .ok (.istore 12, 2) := by decide +kernel
theorem dX5_atStop_129 : decode cX5_atStop 129 = .ok (.iload 12, 2) := by decide +kernel
theorem dX5_atStop_131 : decode cX5_atStop 131 = .ok (.bipush 10, 2) := by decide +kernel
theorem dX5_atStop_133 : decode cX5_atStop 133 = .ok (.if_icmp .ge 27, 3) := by decide +kernel
theorem dX5_atStop_136 : decode cX5_atStop 136 = .ok (.iload 11, 2) := by decide +kernel
theorem dX5_atStop_138 : decode cX5_atStop 138 = .ok (.aload_n 0, 1) := by decide +kernel
theorem dX5_atStop_139 : decode cX5_atStop 139 = .ok (.getfield 67, 3) := by decide +kernel
theorem dX5_atStop_142 : decode cX5_atStop 142 = .ok (.bipush 10, 2) := by decide +kernel
theorem dX5_atStop_144 : decode cX5_atStop 144 = .ok (.iload 7, 2) := by decide +kernel
theorem dX5_atStop_146 : decode cX5_atStop 146 = .ok (.imul, 1) := by decide +kernel
theorem dX5_atStop_147 : decode cX5_atStop 147 = .ok (.iload 12, 2) := by decide +kernel
theorem dX5_atStop_149 : decode cX5_atStop 149 = .ok (.iadd, 1) := by decide +kernel
theorem dX5_atStop_150 : decode cX5_atStop 150 = .ok (.iaload, 1) := by decide +kernel
theorem dX5_atStop_151 : decode cX5_atStop 151 = .ok (.iadd, 1) := by decide +kernel
theorem dX5_atStop_152 : decode cX5_atStop 152 = .ok (.istore 11, 2) := by decide +kernel
theorem dX5_atStop_154 : decode cX5_atStop 154 = .ok (.iinc 12 1, 3) := by decide +kernel
theorem dX5_atStop_157 : decode cX5_atStop 157 = .ok (.goto (-28), 3) := by decide +kernel
theorem dX5_atStop_160 : decode cX5_atStop 160 = .ok (.aload_n 0, 1) := by decide +kernel
theorem dX5_atStop_161 : decode cX5_atStop 161 = .ok (.iload 7, 2) := by decide +kernel
theorem dX5_atStop_163 : decode cX5_atStop 163 = .ok (.iload_n 1, 1) := by decide +kernel
theorem dX5_atStop_164 : decode cX5_atStop 164 = .ok (.aload_n 0, 1) := by decide +kernel
theorem dX5_atStop_165 : decode cX5_atStop 165 = .ok (.getfield 22, 3) := by decide +kernel
theorem dX5_atStop_168 : decode cX5_atStop 168 = .ok (.iload 7, 2) := by decide +kernel
theorem dX5_atStop_170 : decode cX5_atStop 170 = .ok (.iaload, 1) := by decide +kernel
theorem dX5_atStop_171 : decode cX5_atStop 171 = .ok (.iload 11, 2) := by decide +kernel
theorem dX5_atStop_173 : decode cX5_atStop 173 = .ok (.isub, 1) := by decide +kernel
theorem dX5_atStop_174 : decode cX5_atStop 174 = .ok (.invokevirtual 129, 3) := by decide +kernel
theorem dX5_atStop_177 : decode cX5_atStop 177 = .ok (.istore 12, 2) := by decide +kernel
theorem dX5_atStop_179 : decode cX5_atStop 179 = .ok (.aload_n 0, 1) := by decide +kernel
theorem dX5_atStop_180 : decode cX5_atStop 180 = .ok (.getfield 61, 3) := by decide +kernel
theorem dX5_atStop_183 : decode cX5_atStop 183 = .ok (.iload 8, 2) := by decide +kernel
theorem dX5_atStop_185 : decode cX5_atStop 185 = .ok (.iload 11, 2) := by decide +kernel
theorem dX5_atStop_187 : decode cX5_atStop 187 = .ok (.iload 12, 2) := by decide +kernel
theorem dX5_atStop_189 : decode cX5_atStop 189 = .ok (.iadd, 1) := by decide +kernel
theorem dX5_atStop_190 : decode cX5_atStop 190 = .ok (.iastore, 1) := by decide +kernel
theorem dX5_atStop_191 : decode cX5_atStop 191 = .ok (.aload_n 0, 1) := by decide +kernel
theorem dX5_atStop_192 : decode cX5_atStop 192 = .ok (.getfield 49, 3) := by decide +kernel
theorem dX5_atStop_195 : decode cX5_atStop 195 = .ok (.iload 8, 2) := by decide +kernel
theorem dX5_atStop_197 : decode cX5_atStop 197 = .ok (.iaload, 1) := by decide +kernel
theorem dX5_atStop_198 : decode cX5_atStop 198 = .ok (.iload 10, 2) := by decide +kernel
theorem dX5_atStop_200 : decode cX5_atStop 200 = .ok (.iload 12, 2) := by decide +kernel
theorem dX5_atStop_202 : decode cX5_atStop 202 = .ok (.iadd, 1) := by decide +kernel
theorem dX5_atStop_203 : decode cX5_atStop 203 = .ok (.ifCond .le 32, 3) := by decide +kernel
theorem dX5_atStop_206 : decode cX5_atStop 206 = .ok (.aload_n 0, 1) := by decide +kernel
theorem dX5_atStop_207 : decode cX5_atStop 207 = .ok (.getfield 28, 3) := by decide +kernel
theorem dX5_atStop_210 : decode cX5_atStop 210 = .ok (.iconst 0, 1) := by decide +kernel
theorem dX5_atStop_211 : decode cX5_atStop 211 = .ok (.iaload, 1) := by decide +kernel
theorem dX5_atStop_212 : decode cX5_atStop 212 = .ok (.aload_n 0, 1) := by decide +kernel
theorem dX5_atStop_213 : decode cX5_atStop 213 = .ok (.getfield 28, 3) := by decide +kernel
theorem dX5_atStop_216 : decode cX5_atStop 216 = .ok (.iconst 1, 1) := by decide +kernel
theorem dX5_atStop_217 : decode cX5_atStop 217 = .ok (.iaload, 1) := by decide +kernel
theorem dX5_atStop_218 : decode cX5_atStop 218 = .ok (.iload 12, 2) := by decide +kernel
theorem dX5_atStop_220 : decode cX5_atStop 220 = .ok (.imul, 1) := by decide +kernel
theorem dX5_atStop_221 : decode cX5_atStop 221 = .ok (.iadd, 1) := by decide +kernel
theorem dX5_atStop_222 : decode cX5_atStop 222 = .ok (.aload_n 0, 1) := by decide +kernel
theorem dX5_atStop_223 : decode cX5_atStop 223 = .ok (.getfield 28, 3) := by decide +kernel
theorem dX5_atStop_226 : decode cX5_atStop 226 = .ok (.iconst 2, 1) := by decide +kernel
theorem dX5_atStop_227 : decode cX5_atStop 227 = .ok (.iaload, 1) := by decide +kernel
theorem dX5_atStop_228 : decode cX5_atStop 228 = .ok (.iload 10, 2) := by decide +kernel
theorem dX5_atStop_230 : decode cX5_atStop 230 = .ok (.imul, 1) := by decide +kernel
theorem dX5_atStop_231 : decode cX5_atStop 231 = .ok (.iadd, 1) := by decide +kernel
theorem dX5_atStop_232 : decode cX5_atStop 232 = .ok (.goto 4, 3) := by decide +kernel
theorem dX5_atStop_235 : decode cX5_atStop 235 = .ok (.iconst 0, 1) := by decide +kernel
theorem dX5_atStop_236 : decode cX5_atStop 236 = .ok (.iadd, 1) := by decide +kernel
theorem dX5_atStop_237 : decode cX5_atStop 237 = .ok (.iload_n 1, 1) := by decide +kernel
theorem dX5_atStop_238 : decode cX5_atStop 238 = .ok (.bipush 9, 2) := by decide +kernel
theorem dX5_atStop_240 : decode cX5_atStop 240 = .ok (.if_icmp .ne 7, 3) := by decide +kernel
theorem dX5_atStop_243 : decode cX5_atStop 243 = .ok (.iconst 0, 1) := by decide +kernel
theorem dX5_atStop_244 : decode cX5_atStop 244 = .ok (.goto 11, 3) := by decide +kernel
theorem dX5_atStop_247 : decode cX5_atStop 247 = .ok (.aload_n 0, 1) := by decide +kernel
theorem dX5_atStop_248 : decode cX5_atStop 248 = .ok (.iload 7, 2) := by decide +kernel
theorem dX5_atStop_250 : decode cX5_atStop 250 = .ok (.iload_n 1, 1) := by decide +kernel
theorem dX5_atStop_251 : decode cX5_atStop 251 = .ok (.iload_n 2, 1) := by decide +kernel
theorem dX5_atStop_252 : decode cX5_atStop 252 = .ok (.invokevirtual 133, 3) := by decide +kernel
theorem dX5_atStop_255 : decode cX5_atStop 255 = .ok (.iadd, 1) := by decide +kernel
theorem dX5_atStop_256 : decode cX5_atStop 256 = .ok (.istore 13, 2) := by decide +kernel
theorem dX5_atStop_258 : decode cX5_atStop 258 = .ok (.iload 9, 2) := by decide +kernel
theorem dX5_atStop_260 : decode cX5_atStop 260 = .ok (.ifCond .ne 51, 3) := by decide +kernel
theorem dX5_atStop_263 : decode cX5_atStop 263 = .ok (.aload_n 0, 1) := by decide +kernel
theorem dX5_atStop_264 : decode cX5_atStop 264 = .ok (.getfield 43, 3) := by decide +kernel
theorem dX5_atStop_267 : decode cX5_atStop 267 = .ok (.iload_n 1, 1) := by decide +kernel
theorem dX5_atStop_268 : decode cX5_atStop 268 = .ok (.iaload, 1) := by decide +kernel
theorem dX5_atStop_269 : decode cX5_atStop 269 = .ok (.iconst 1, 1) := by decide +kernel
theorem dX5_atStop_270 : decode cX5_atStop 270 = .ok (.if_icmp .ne 41, 3) := by decide +kernel
theorem dX5_atStop_273 : decode cX5_atStop 273 = .ok (.aload_n 0, 1) := by decide +kernel
theorem dX5_atStop_274 : decode cX5_atStop 274 = .ok (.getfield 49, 3) := by decide +kernel
theorem dX5_atStop_277 : decode cX5_atStop 277 = .ok (.bipush 10, 2) := by decide +kernel
theorem dX5_atStop_279 : decode cX5_atStop 279 = .ok (.iload 7, 2) := by decide +kernel
theorem dX5_atStop_281 : decode cX5_atStop 281 = .ok (.imul, 1) := by decide +kernel
theorem dX5_atStop_282 : decode cX5_atStop 282 = .ok (.iaload, 1) := by decide +kernel
theorem dX5_atStop_283 : decode cX5_atStop 283 = .ok (.bipush 10, 2) := by decide +kernel
theorem dX5_atStop_285 : decode cX5_atStop 285 = .ok (.aload_n 0, 1) := by decide +kernel
theorem dX5_atStop_286 : decode cX5_atStop 286 = .ok (.getfield 46, 3) := by decide +kernel
theorem dX5_atStop_289 : decode cX5_atStop 289 = .ok (.iload_n 1, 1) := by decide +kernel
theorem dX5_atStop_290 : decode cX5_atStop 290 = .ok (.iaload, 1) := by decide +kernel
theorem dX5_atStop_291 : decode cX5_atStop 291 = .ok (.imul, 1) := by decide +kernel
theorem dX5_atStop_292 : decode cX5_atStop 292 = .ok (.iadd, 1) := by decide +kernel
theorem dX5_atStop_293 : decode cX5_atStop 293 = .ok (.istore 14, 2) := by decide +kernel
theorem dX5_atStop_295 : decode cX5_atStop 295 = .ok (.iload 14, 2) := by decide +kernel
theorem dX5_atStop_297 : decode cX5_atStop 297 = .ok (.iload 13, 2) := by decide +kernel
theorem dX5_atStop_299 : decode cX5_atStop 299 = .ok (.if_icmp .le 8, 3) := by decide +kernel
theorem dX5_atStop_302 : decode cX5_atStop 302 = .ok (.iload 14, 2) := by decide +kernel
theorem dX5_atStop_304 : decode cX5_atStop 304 = .ok (.goto 5, 3) := by decide +kernel
theorem dX5_atStop_307 : decode cX5_atStop 307 = .ok (.iload 13, 2) := by decide +kernel
theorem dX5_atStop_309 : decode cX5_atStop 309 = .ok (.istore 13, 2) := by decide +kernel
theorem dX5_atStop_311 : decode cX5_atStop 311 = .ok (.iload 9, 2) := by decide +kernel
theorem dX5_atStop_313 : decode cX5_atStop 313 = .ok (.ifCond .ne 48, 3) := by decide +kernel
theorem dX5_atStop_316 : decode cX5_atStop 316 = .ok (.aload_n 0, 1) := by decide +kernel
theorem dX5_atStop_317 : decode cX5_atStop 317 = .ok (.getfield 43, 3) := by decide +kernel
theorem dX5_atStop_320 : decode cX5_atStop 320 = .ok (.iload_n 1, 1) := by decide +kernel
theorem dX5_atStop_321 : decode cX5_atStop 321 = .ok (.iaload, 1) := by decide +kernel
theorem dX5_atStop_322 : decode cX5_atStop 322 = .ok (.iconst 2, 1) := by decide +kernel
theorem dX5_atStop_323 : decode cX5_atStop 323 = .ok (.if_icmp .ne 38, 3) := by decide +kernel
theorem dX5_atStop_326 : decode cX5_atStop 326 = .ok (.iload 4, 2) := by decide +kernel
theorem dX5_atStop_328 : decode cX5_atStop 328 = .ok (.ifCond .lt 33, 3) := by decide +kernel
theorem dX5_atStop_331 : decode cX5_atStop 331 = .ok (.iload 4, 2) := by decide +kernel
theorem dX5_atStop_333 : decode cX5_atStop 333 = .ok (.aload_n 0, 1) := by decide +kernel
theorem dX5_atStop_334 : decode cX5_atStop 334 = .ok (.getfield 46, 3) := by decide +kernel
theorem dX5_atStop_337 : decode cX5_atStop 337 = .ok (.iload_n 1, 1) := by decide +kernel
theorem dX5_atStop_338 : decode cX5_atStop 338 = .ok (.iaload, 1) := by decide +kernel
theorem dX5_atStop_339 : decode cX5_atStop 339 = .ok (.iadd, 1) := by decide +kernel
theorem dX5_atStop_340 : decode cX5_atStop 340 = .ok (.iload 13, 2) := by decide +kernel
theorem dX5_atStop_342 : decode cX5_atStop 342 = .ok (.if_icmp .le 15, 3) := by decide +kernel
theorem dX5_atStop_345 : decode cX5_atStop 345 = .ok (.iload 4, 2) := by decide +kernel
theorem dX5_atStop_347 : decode cX5_atStop 347 = .ok (.aload_n 0, 1) := by decide +kernel
theorem dX5_atStop_348 : decode cX5_atStop 348 = .ok (.getfield 46, 3) := by decide +kernel
theorem dX5_atStop_351 : decode cX5_atStop 351 = .ok (.iload_n 1, 1) := by decide +kernel
theorem dX5_atStop_352 : decode cX5_atStop 352 = .ok (.iaload, 1) := by decide +kernel
theorem dX5_atStop_353 : decode cX5_atStop 353 = .ok (.iadd, 1) := by decide +kernel
theorem dX5_atStop_354 : decode cX5_atStop 354 = .ok (.goto 5, 3) := by decide +kernel
theorem dX5_atStop_357 : decode cX5_atStop 357 = .ok (.iload 13, 2) := by decide +kernel
theorem dX5_atStop_359 : decode cX5_atStop 359 = .ok (.istore 13, 2) := by decide +kernel
theorem dX5_atStop_361 : decode cX5_atStop 361 = .ok (.aload_n 0, 1) := by decide +kernel
theorem dX5_atStop_362 : decode cX5_atStop 362 = .ok (.getfield 52, 3) := by decide +kernel
theorem dX5_atStop_365 : decode cX5_atStop 365 = .ok (.iload 8, 2) := by decide +kernel
theorem dX5_atStop_367 : decode cX5_atStop 367 = .ok (.iload 13, 2) := by decide +kernel
theorem dX5_atStop_369 : decode cX5_atStop 369 = .ok (.iastore, 1) := by decide +kernel
theorem dX5_atStop_370 : decode cX5_atStop 370 = .ok (.iload 13, 2) := by decide +kernel
theorem dX5_atStop_372 : decode cX5_atStop 372 = .ok (.iload 5, 2) := by decide +kernel
theorem dX5_atStop_374 : decode cX5_atStop 374 = .ok (.if_icmp .le 8, 3) := by decide +kernel
theorem dX5_atStop_377 : decode cX5_atStop 377 = .ok (.iload 13, 2) := by decide +kernel
theorem dX5_atStop_379 : decode cX5_atStop 379 = .ok (.goto 5, 3) := by decide +kernel
theorem dX5_atStop_382 : decode cX5_atStop 382 = .ok (.iload 5, 2) := by decide +kernel
theorem dX5_atStop_384 : decode cX5_atStop 384 = .ok (.istore 5, 2) := by decide +kernel
theorem dX5_atStop_386 : decode cX5_atStop 386 = .ok (.iload 9, 2) := by decide +kernel
theorem dX5_atStop_388 : decode cX5_atStop 388 = .ok (.ifCond .ne 15, 3) := by decide +kernel
theorem dX5_atStop_391 : decode cX5_atStop 391 = .ok (.iload 13, 2) := by decide +kernel
theorem dX5_atStop_393 : decode cX5_atStop 393 = .ok (.iload 4, 2) := by decide +kernel
theorem dX5_atStop_395 : decode cX5_atStop 395 = .ok (.if_icmp .le 8, 3) := by decide +kernel
theorem dX5_atStop_398 : decode cX5_atStop 398 = .ok (.iload 13, 2) := by decide +kernel
theorem dX5_atStop_400 : decode cX5_atStop 400 = .ok (.goto 5, 3) := by decide +kernel
theorem dX5_atStop_403 : decode cX5_atStop 403 = .ok (.iload 4, 2) := by decide +kernel
theorem dX5_atStop_405 : decode cX5_atStop 405 = .ok (.istore 4, 2) := by decide +kernel
theorem dX5_atStop_407 : decode cX5_atStop 407 = .ok (.iinc 6 1, 3) := by decide +kernel
theorem dX5_atStop_410 : decode cX5_atStop 410 = .ok (.goto (-388), 3) := by decide +kernel
theorem dX5_atStop_413 : decode cX5_atStop 413 = .ok (.return_, 1) := by decide +kernel
theorem dX5_lay_0 : decode cX5_lay 0 = .ok (.aload_n 0, 1) := by decide +kernel
theorem dX5_lay_1 : decode cX5_lay 1 = .ok (.iconst 0, 1) := by decide +kernel
theorem dX5_lay_2 : decode cX5_lay 2 = .ok (.putfield 112, 3) := by decide +kernel
theorem dX5_lay_5 : decode cX5_lay 5 = .ok (.aload_n 0, 1) := by decide +kernel
theorem dX5_lay_6 : decode cX5_lay 6 = .ok (.iconst 0, 1) := by decide +kernel
theorem dX5_lay_7 : decode cX5_lay 7 = .ok (.putfield 115, 3) := by decide +kernel
theorem dX5_lay_10 : decode cX5_lay 10 = .ok (.iconst 0, 1) := by decide +kernel
theorem dX5_lay_11 : decode cX5_lay 11 = .ok (.istore_n 2, 1) := by decide +kernel
theorem dX5_lay_12 : decode cX5_lay 12 = .ok (.iload_n 2, 1) := by decide +kernel
theorem dX5_lay_13 : decode cX5_lay 13 = .ok (.bipush 80, 2) := by decide +kernel
theorem dX5_lay_15 : decode cX5_lay 15 = .ok (.if_icmp .ge 39, 3) := by decide +kernel
theorem dX5_lay_18 : decode cX5_lay 18 = .ok (.aload_n 0, 1) := by decide +kernel
theorem dX5_lay_19 : decode cX5_lay 19 = .ok (.getfield 49, 3) := by decide +kernel
theorem dX5_lay_22 : decode cX5_lay 22 = .ok (.iload_n 2, 1) := by decide +kernel
theorem dX5_lay_23 : decode cX5_lay 23 = .ok (.bipush (-6), 2) := by decide +kernel
theorem dX5_lay_25 : decode cX5_lay 25 = .ok (.iastore, 1) := by decide +kernel
theorem dX5_lay_26 : decode cX5_lay 26 = .ok (.aload_n 0, 1) := by decide +kernel
theorem dX5_lay_27 : decode cX5_lay 27 = .ok (.getfield 52, 3) := by decide +kernel
theorem dX5_lay_30 : decode cX5_lay 30 = .ok (.iload_n 2, 1) := by decide +kernel
theorem dX5_lay_31 : decode cX5_lay 31 = .ok (.bipush (-6), 2) := by decide +kernel
theorem dX5_lay_33 : decode cX5_lay 33 = .ok (.iastore, 1) := by decide +kernel
theorem dX5_lay_34 : decode cX5_lay 34 = .ok (.aload_n 0, 1) := by decide +kernel
theorem dX5_lay_35 : decode cX5_lay 35 = .ok (.getfield 67, 3) := by decide +kernel
theorem dX5_lay_38 : decode cX5_lay 38 = .ok (.iload_n 2, 1) := by decide +kernel
theorem dX5_lay_39 : decode cX5_lay 39 = .ok (.iconst 0, 1) := by decide +kernel
theorem dX5_lay_40 : decode cX5_lay 40 = .ok (.iastore, 1) := by decide +kernel
theorem dX5_lay_41 : decode cX5_lay 41 = .ok (.aload_n 0, 1) := by decide +kernel
theorem dX5_lay_42 : decode cX5_lay 42 = .ok (.getfield 70, 3) := by decide +kernel
theorem dX5_lay_45 : decode cX5_lay 45 = .ok (.iload_n 2, 1) := by decide +kernel
theorem dX5_lay_46 : decode cX5_lay 46 = .ok (.iconst 0, 1) := by decide +kernel
theorem dX5_lay_47 : decode cX5_lay 47 = .ok (.iastore, 1) := by decide +kernel
theorem dX5_lay_48 : decode cX5_lay 48 = .ok (.iinc 2 1, 3) := by decide +kernel
theorem dX5_lay_51 : decode cX5_lay 51 = .ok (.goto (-39), 3) := by decide +kernel
theorem dX5_lay_54 : decode cX5_lay 54 = .ok (.iconst 0, 1) := by decide +kernel
theorem dX5_lay_55 : decode cX5_lay 55 = .ok (.istore_n 2, 1) := by decide +kernel
theorem dX5_lay_56 : decode cX5_lay 56 = .ok (.iload_n 2, 1) := by decide +kernel
theorem dX5_lay_57 : decode cX5_lay 57 = .ok (.bipush 9, 2) := by decide +kernel
theorem dX5_lay_59 : decode cX5_lay 59 = .ok (.if_icmp .ge 30, 3) := by decide +kernel
theorem dX5_lay_62 : decode cX5_lay 62 = .ok (.aload_n 0, 1) := by decide +kernel
theorem dX5_lay_63 : decode cX5_lay 63 = .ok (.getfield 73, 3) := by decide +kernel
theorem dX5_lay_66 : decode cX5_lay 66 = .ok (.iload_n 2, 1) := by decide +kernel
theorem dX5_lay_67 : decode cX5_lay 67 = .ok (.iconst 0, 1) := by decide +kernel
theorem dX5_lay_68 : decode cX5_lay 68 = .ok (.iastore, 1) := by decide +kernel
theorem dX5_lay_69 : decode cX5_lay 69 = .ok (.aload_n 0, 1) := by decide +kernel
theorem dX5_lay_70 : decode cX5_lay 70 = .ok (.getfield 76, 3) := by decide +kernel
theorem dX5_lay_73 : decode cX5_lay 73 = .ok (.iload_n 2, 1) := by decide +kernel
theorem dX5_lay_74 : decode cX5_lay 74 = .ok (.iconst 0, 1) := by decide +kernel
theorem dX5_lay_75 : decode cX5_lay 75 = .ok (.iastore, 1) := by decide +kernel
theorem dX5_lay_76 : decode cX5_lay 76 = .ok (.aload_n 0, 1) := by decide +kernel
theorem dX5_lay_77 : decode cX5_lay 77 = .ok (.getfield 79, 3) := by decide +kernel
theorem dX5_lay_80 : decode cX5_lay 80 = .ok (.iload_n 2, 1) := by decide +kernel
theorem dX5_lay_81 : decode cX5_lay 81 = .ok (.iconst 0, 1) := by decide +kernel
theorem dX5_lay_82 : decode cX5_lay 82 = .ok (.iastore, 1) := by decide +kernel
theorem dX5_lay_83 : decode cX5_lay 83 = .ok (.iinc 2 1, 3) := by decide +kernel
theorem dX5_lay_86 : decode cX5_lay 86 = .ok (.goto (-30), 3) := by decide +kernel
theorem dX5_lay_89 : decode cX5_lay 89 = .ok (.iconst 0, 1) := by decide +kernel
theorem dX5_lay_90 : decode cX5_lay 90 = .ok (.istore_n 2, 1) := by decide +kernel
theorem dX5_lay_91 : decode cX5_lay 91 = .ok (.iload_n 2, 1) := by decide +kernel
theorem dX5_lay_92 : decode cX5_lay 92 = .ok (.bipush 10, 2) := by decide +kernel
theorem dX5_lay_94 : decode cX5_lay 94 = .ok (.if_icmp .ge 15, 3) := by decide +kernel
theorem dX5_lay_97 : decode cX5_lay 97 = .ok (.aload_n 0, 1) := by decide +kernel
theorem dX5_lay_98 : decode cX5_lay 98 = .ok (.iload_n 2, 1) := by decide +kernel
theorem dX5_lay_99 : decode cX5_lay 99 = .ok (.iload_n 1, 1) := by decide +kernel
theorem dX5_lay_100 : decode cX5_lay 100 = .ok (.invokevirtual 136, 3) := by decide +kernel
theorem dX5_lay_103 : decode cX5_lay 103 = .ok (.iinc 2 1, 3) := by decide +kernel
theorem dX5_lay_106 : decode cX5_lay 106 = .ok (.goto (-15), 3) := by decide +kernel
theorem dX5_lay_109 : decode cX5_lay 109 = .ok (.return_, 1) := by decide +kernel
theorem dX5_at_0 : decode cX5_at 0 = .ok (.aload_n 0, 1) := by decide +kernel
theorem dX5_at_1 : decode cX5_at 1 = .ok (.iload_n 1, 1) := by decide +kernel
theorem dX5_at_2 : decode cX5_at 2 = .ok (.invokevirtual 106, 3) := by decide +kernel
theorem dX5_at_5 : decode cX5_at 5 = .ok (.ifCond .eq 13, 3) := by decide +kernel
theorem dX5_at_8 : decode cX5_at 8 = .ok (.iload_n 2, 1) := by decide +kernel
theorem dX5_at_9 : decode cX5_at 9 = .ok (.iconst 0, 1) := by decide +kernel
theorem dX5_at_10 : decode cX5_at 10 = .ok (.bipush 9, 2) := by decide +kernel
theorem dX5_at_12 : decode cX5_at 12 = .ok (.invokestatic 94, 3) := by decide +kernel
theorem dX5_at_15 : decode cX5_at 15 = .ok (.ifCond .ne 5, 3) := by decide +kernel
theorem dX5_at_18 : decode cX5_at 18 = .ok (.iconst (-1), 1) := by decide +kernel
theorem dX5_at_19 : decode cX5_at 19 = .ok (.ireturn, 1) := by decide +kernel
theorem dX5_at_20 : decode cX5_at 20 = .ok (.iload_n 3, 1) := by decide +kernel
theorem dX5_at_21 : decode cX5_at 21 = .ok (.iconst 0, 1) := by decide +kernel
theorem dX5_at_22 : decode cX5_at 22 = .ok (.iconst 5, 1) := by decide +kernel
theorem dX5_at_23 : decode cX5_at 23 = .ok (.invokestatic 94, 3) := by decide +kernel
theorem dX5_at_26 : decode cX5_at 26 = .ok (.ifCond .ne 6, 3) := by decide +kernel
theorem dX5_at_29 : decode cX5_at 29 = .ok (.bipush (-2), 2) := by decide +kernel
theorem dX5_at_31 : decode cX5_at 31 = .ok (.ireturn, 1) := by decide +kernel
theorem dX5_at_32 : decode cX5_at 32 = .ok (.aload_n 0, 1) := by decide +kernel
theorem dX5_at_33 : decode cX5_at 33 = .ok (.bipush (-6), 2) := by decide +kernel
theorem dX5_at_35 : decode cX5_at 35 = .ok (.invokevirtual 140, 3) := by decide +kernel
theorem dX5_at_38 : decode cX5_at 38 = .ok (.bipush 10, 2) := by decide +kernel
theorem dX5_at_40 : decode cX5_at 40 = .ok (.iload_n 1, 1) := by decide +kernel
theorem dX5_at_41 : decode cX5_at 41 = .ok (.imul, 1) := by decide +kernel
theorem dX5_at_42 : decode cX5_at 42 = .ok (.iload_n 2, 1) := by decide +kernel
theorem dX5_at_43 : decode cX5_at 43 = .ok (.iadd, 1) := by decide +kernel
theorem dX5_at_44 : decode cX5_at 44 = .ok (.istore 4, 2) := by decide +kernel
theorem dX5_at_46 : decode cX5_at 46 = .ok (.aload_n 0, 1) := by decide +kernel
theorem dX5_at_47 : decode cX5_at 47 = .ok (.getfield 49, 3) := by decide +kernel
theorem dX5_at_50 : decode cX5_at 50 = .ok (.iload 4, 2) := by decide +kernel
theorem dX5_at_52 : decode cX5_at 52 = .ok (.iaload, 1) := by decide +kernel
theorem dX5_at_53 : decode cX5_at 53 = .ok (.ifCond .ge 6, 3) := by decide +kernel
theorem dX5_at_56 : decode cX5_at 56 = .ok (.bipush (-6), 2) := by decide +kernel
theorem dX5_at_58 : decode cX5_at 58 = .ok (.ireturn, 1) := by decide +kernel
theorem dX5_at_59 : decode cX5_at 59 = .ok (.iload_n 3, 1) := by decide +kernel
theorem dX5_at_60 : decode cX5_at 60 = .ok (.ifCond .ne 13, 3) := by decide +kernel
theorem dX5_at_63 : decode cX5_at 63 = .ok (.aload_n 0, 1) := by decide +kernel
theorem dX5_at_64 : decode cX5_at 64 = .ok (.getfield 49, 3) := by decide +kernel
theorem dX5_at_67 : decode cX5_at 67 = .ok (.iload 4, 2) := by decide +kernel
theorem dX5_at_69 : decode cX5_at 69 = .ok (.iaload, 1) := by decide +kernel
theorem dX5_at_70 : decode cX5_at 70 = .ok (.goto 70, 3) := by decide +kernel
theorem dX5_at_73 : decode cX5_at 73 = .ok (.iload_n 3, 1) := by decide +kernel
theorem dX5_at_74 : decode cX5_at 74 = .ok (.iconst 1, 1) := by decide +kernel
theorem dX5_at_75 : decode cX5_at 75 = .ok (.if_icmp .ne 13, 3) := by decide +kernel
theorem dX5_at_78 : decode cX5_at 78 = .ok (.aload_n 0, 1) := by decide +kernel
theorem dX5_at_79 : decode cX5_at 79 = .ok (.getfield 52, 3) := by decide +kernel
theorem dX5_at_82 : decode cX5_at 82 = .ok (.iload 4, 2) := by decide +kernel
theorem dX5_at_84 : decode cX5_at 84 = .ok (.iaload, 1) := by decide +kernel
theorem dX5_at_85 : decode cX5_at 85 = .ok (.goto 55, 3) := by decide +kernel
theorem dX5_at_88 : decode cX5_at 88 = .ok (.iload_n 3, 1) := by decide +kernel
theorem dX5_at_89 : decode cX5_at 89 = .ok (.iconst 2, 1) := by decide +kernel
theorem dX5_at_90 : decode cX5_at 90 = .ok (.if_icmp .ne 13, 3) := by decide +kernel
theorem dX5_at_93 : decode cX5_at 93 = .ok (.aload_n 0, 1) := by decide +kernel
theorem dX5_at_94 : decode cX5_at 94 = .ok (.getfield 55, 3) := by decide +kernel
theorem dX5_at_97 : decode cX5_at 97 = .ok (.iload 4, 2) := by decide +kernel
theorem dX5_at_99 : decode cX5_at 99 = .ok (.iaload, 1) := by decide +kernel
theorem dX5_at_100 : decode cX5_at 100 = .ok (.goto 40, 3) := by decide +kernel
theorem dX5_at_103 : decode cX5_at 103 = .ok (.iload_n 3, 1) := by decide +kernel
theorem dX5_at_104 : decode cX5_at 104 = .ok (.iconst 3, 1) := by decide +kernel
theorem dX5_at_105 : decode cX5_at 105 = .ok (.if_icmp .ne 13, 3) := by decide +kernel
theorem dX5_at_108 : decode cX5_at 108 = .ok (.aload_n 0, 1) := by decide +kernel
theorem dX5_at_109 : decode cX5_at 109 = .ok (.getfield 58, 3) := by decide +kernel
theorem dX5_at_112 : decode cX5_at 112 = .ok (.iload 4, 2) := by decide +kernel
theorem dX5_at_114 : decode cX5_at 114 = .ok (.iaload, 1) := by decide +kernel
theorem dX5_at_115 : decode cX5_at 115 = .ok (.goto 25, 3) := by decide +kernel
theorem dX5_at_118 : decode cX5_at 118 = .ok (.iload_n 3, 1) := by decide +kernel
theorem dX5_at_119 : decode cX5_at 119 = .ok (.iconst 4, 1) := by decide +kernel
theorem dX5_at_120 : decode cX5_at 120 = .ok (.if_icmp .ne 13, 3) := by decide +kernel
theorem dX5_at_123 : decode cX5_at 123 = .ok (.aload_n 0, 1) := by decide +kernel
theorem dX5_at_124 : decode cX5_at 124 = .ok (.getfield 61, 3) := by decide +kernel
theorem dX5_at_127 : decode cX5_at 127 = .ok (.iload 4, 2) := by decide +kernel
theorem dX5_at_129 : decode cX5_at 129 = .ok (.iaload, 1) := by decide +kernel
theorem dX5_at_130 : decode cX5_at 130 = .ok (.goto 10, 3) := by decide +kernel
theorem dX5_at_133 : decode cX5_at 133 = .ok (.aload_n 0, 1) := by decide +kernel
theorem dX5_at_134 : decode cX5_at 134 = .ok (.getfield 64, 3) := by decide +kernel
theorem dX5_at_137 : decode cX5_at 137 = .ok (.iload 4, 2) := by decide +kernel
theorem dX5_at_139 : decode cX5_at 139 = .ok (.iaload, 1) := by decide +kernel
theorem dX5_at_140 : decode cX5_at 140 = .ok (.ireturn, 1) := by decide +kernel
theorem dX5_say_0 : decode cX5_say 0 = .ok (.iload_n 1, 1) := by decide +kernel
theorem dX5_say_1 : decode cX5_say 1 = .ok (.bipush 33, 2) := by decide +kernel
theorem dX5_say_3 : decode cX5_say 3 = .ok (.bipush 126, 2) := by decide +kernel
theorem dX5_say_5 : decode cX5_say 5 = .ok (.invokestatic 94, 3) := by decide +kernel
theorem dX5_say_8 : decode cX5_say 8 = .ok (.ifCond .ne 6, 3) := by decide +kernel
theorem dX5_say_11 : decode cX5_say 11 = .ok (.bipush (-2), 2) := by decide +kernel
theorem dX5_say_13 : decode cX5_say 13 = .ok (.ireturn, 1) := by decide +kernel
theorem dX5_say_14 : decode cX5_say 14 = .ok (.aload_n 0, 1) := by decide +kernel
theorem dX5_say_15 : decode cX5_say 15 = .ok (.getfield 144, 3) := by decide +kernel
theorem dX5_say_18 : decode cX5_say 18 = .ok (.bipush 40, 2) := by decide +kernel
theorem dX5_say_20 : decode cX5_say 20 = .ok (.if_icmp .ne 6, 3) := by decide +kernel
theorem dX5_say_23 : decode cX5_say 23 = .ok (.bipush (-4), 2) := by decide +kernel
theorem dX5_say_25 : decode cX5_say 25 = .ok (.ireturn, 1) := by decide +kernel
theorem dX5_say_26 : decode cX5_say 26 = .ok (.aload_n 0, 1) := by decide +kernel
theorem dX5_say_27 : decode cX5_say 27 = .ok (.getfield 40, 3) := by decide +kernel
theorem dX5_say_30 : decode cX5_say 30 = .ok (.aload_n 0, 1) := by decide +kernel
theorem dX5_say_31 : decode cX5_say 31 = .ok (.getfield 144, 3) := by decide +kernel
theorem dX5_say_34 : decode cX5_say 34 = .ok (.iload_n 1, 1) := by decide +kernel
theorem dX5_say_35 : decode cX5_say 35 = .ok (.iastore, 1) := by decide +kernel
theorem dX5_say_36 : decode cX5_say 36 = .ok (.aload_n 0, 1) := by decide +kernel
theorem dX5_say_37 : decode cX5_say 37 = .ok (.dup, 1) := by decide +kernel
theorem dX5_say_38 : decode cX5_say 38 = .ok (.getfield 144, 3) := by decide +kernel
theorem dX5_say_41 : decode cX5_say 41 = .ok (.iconst 1, 1) := by decide +kernel
theorem dX5_say_42 : decode cX5_say 42 = .ok (.iadd, 1) := by decide +kernel
theorem dX5_say_43 : decode cX5_say 43 = .ok (.putfield 144, 3) := by decide +kernel
theorem dX5_say_46 : decode cX5_say 46 = .ok (.aload_n 0, 1) := by decide +kernel
theorem dX5_say_47 : decode cX5_say 47 = .ok (.getfield 144, 3) := by decide +kernel
theorem dX5_say_50 : decode cX5_say 50 = .ok (.ireturn, 1) := by decide +kernel
theorem dX5_wipe_0 : decode cX5_wipe 0 = .ok (.aload_n 0, 1) := by decide +kernel
theorem dX5_wipe_1 : decode cX5_wipe 1 = .ok (.getfield 144, 3) := by decide +kernel
theorem dX5_wipe_4 : decode cX5_wipe 4 = .ok (.istore_n 1, 1) := by decide +kernel
theorem dX5_wipe_5 : decode cX5_wipe 5 = .ok (.aload_n 0, 1) := by decide +kernel
theorem dX5_wipe_6 : decode cX5_wipe 6 = .ok (.iconst 0, 1) := by decide +kernel
theorem dX5_wipe_7 : decode cX5_wipe 7 = .ok (.putfield 144, 3) := by decide +kernel
theorem dX5_wipe_10 : decode cX5_wipe 10 = .ok (.iload_n 1, 1) := by decide +kernel
theorem dX5_wipe_11 : decode cX5_wipe 11 = .ok (.ireturn, 1) := by decide +kernel
theorem dX5_faultOf_0 : decode cX5_faultOf 0 = .ok (.iconst 0, 1) := by decide +kernel
theorem dX5_faultOf_1 : decode cX5_faultOf 1 = .ok (.istore_n 1, 1) := by decide +kernel
theorem dX5_faultOf_2 : decode cX5_faultOf 2 = .ok (.iconst 0, 1) := by decide +kernel
theorem dX5_faultOf_3 : decode cX5_faultOf 3 = .ok (.istore_n 2, 1) := by decide +kernel
theorem dX5_faultOf_4 : decode cX5_faultOf 4 = .ok (.iconst 0, 1) := by decide +kernel
theorem dX5_faultOf_5 : decode cX5_faultOf 5 = .ok (.istore_n 3, 1) := by decide +kernel
theorem dX5_faultOf_6 : decode cX5_faultOf 6 = .ok (.iload_n 3, 1) := by decide +kernel
theorem dX5_faultOf_7 : decode cX5_faultOf 7 = .ok (.aload_n 0, 1) := by decide +kernel
theorem dX5_faultOf_8 : decode cX5_faultOf 8 = .ok (.getfield 144, 3) := by decide +kernel
theorem dX5_faultOf_11 : decode cX5_faultOf 11 = .ok (.if_icmp .ge 148, 3) := by decide +kernel
theorem dX5_faultOf_14 : decode cX5_faultOf 14 = .ok (.aload_n 0, 1) := by decide +kernel
theorem dX5_faultOf_15 : decode cX5_faultOf 15 = .ok (.getfield 40, 3) := by decide +kernel
theorem dX5_faultOf_18 : decode cX5_faultOf 18 = .ok (.iload_n 3, 1) := by decide +kernel
theorem dX5_faultOf_19 : decode cX5_faultOf 19 = .ok (.iaload, 1) := by decide +kernel
theorem dX5_faultOf_20 : decode cX5_faultOf 20 = .ok (.istore 4, 2) := by decide +kernel
theorem dX5_faultOf_22 : decode cX5_faultOf 22 = .ok (.iload 4, 2) := by decide +kernel
theorem dX5_faultOf_24 : decode cX5_faultOf 24 = .ok (.bipush 48, 2) := by decide +kernel
theorem dX5_faultOf_26 : decode cX5_faultOf 26 = .ok (.bipush 57, 2) := by decide +kernel
theorem dX5_faultOf_28 : decode cX5_faultOf 28 = .ok (.invokestatic 94, 3) := by decide +kernel
theorem dX5_faultOf_31 : decode cX5_faultOf 31 = .ok (.istore 5, 2) := by decide +kernel
theorem dX5_faultOf_33 : decode cX5_faultOf 33 = .ok (.bipush (-6), 2) := by decide +kernel
theorem dX5_faultOf_35 : decode cX5_faultOf 35 = .ok (.istore 6, 2) := by decide +kernel
theorem dX5_faultOf_37 : decode cX5_faultOf 37 = .ok (.iload_n 1, 1) := by decide +kernel
theorem dX5_faultOf_38 : decode cX5_faultOf 38 = .ok (.ifCond .ne 36, 3) := by decide +kernel
theorem dX5_faultOf_41 : decode cX5_faultOf 41 = .ok (.iload 5, 2) := by decide +kernel
theorem dX5_faultOf_43 : decode cX5_faultOf 43 = .ok (.ifCond .eq 31, 3) := by decide +kernel
theorem dX5_faultOf_46 : decode cX5_faultOf 46 = .ok (.iload_n 2, 1) := by decide +kernel
theorem dX5_faultOf_47 : decode cX5_faultOf 47 = .ok (.iload 4, 2) := by decide +kernel
theorem dX5_faultOf_49 : decode cX5_faultOf 49 = .ok (.bipush 48, 2) := by decide +kernel
theorem dX5_faultOf_51 : decode cX5_faultOf 51 = .ok (.isub, 1) := by decide +kernel
theorem dX5_faultOf_52 : decode cX5_faultOf 52 = .ok (.ishr, 1) := by decide +kernel
theorem dX5_faultOf_53 : decode cX5_faultOf 53 = .ok (.iconst 1, 1) := by decide +kernel
theorem dX5_faultOf_54 : decode cX5_faultOf 54 = .ok (.iand, 1) := by decide +kernel
theorem dX5_faultOf_55 : decode cX5_faultOf 55 = .ok (.ifCond .ne 19, 3) := by decide +kernel
theorem dX5_faultOf_58 : decode cX5_faultOf 58 = .ok (.iload_n 2, 1) := by decide +kernel
theorem dX5_faultOf_59 : decode cX5_faultOf 59 = .ok (.iconst 1, 1) := by decide +kernel
theorem dX5_faultOf_60 : decode cX5_faultOf 60 = .ok (.iload 4, 2) := by decide +kernel
theorem dX5_faultOf_62 : decode cX5_faultOf 62 = .ok (.bipush 48, 2) := by decide +kernel
theorem dX5_faultOf_64 : decode cX5_faultOf 64 = .ok (.isub, 1) := by decide +kernel
theorem dX5_faultOf_65 : decode cX5_faultOf 65 = .ok (.ishl, 1) := by decide +kernel
theorem dX5_faultOf_66 : decode cX5_faultOf 66 = .ok (.ior, 1) := by decide +kernel
theorem dX5_faultOf_67 : decode cX5_faultOf 67 = .ok (.istore_n 2, 1) := by decide +kernel
theorem dX5_faultOf_68 : decode cX5_faultOf 68 = .ok (.iconst 1, 1) := by decide +kernel
theorem dX5_faultOf_69 : decode cX5_faultOf 69 = .ok (.istore 6, 2) := by decide +kernel
theorem dX5_faultOf_71 : decode cX5_faultOf 71 = .ok (.goto 72, 3) := by decide +kernel
theorem dX5_faultOf_74 : decode cX5_faultOf 74 = .ok (.iload_n 1, 1) := by decide +kernel
theorem dX5_faultOf_75 : decode cX5_faultOf 75 = .ok (.iconst 1, 1) := by decide +kernel
theorem dX5_faultOf_76 : decode cX5_faultOf 76 = .ok (.if_icmp .ne 23, 3) := by decide +kernel
theorem dX5_faultOf_79 : decode cX5_faultOf 79 = .ok (.iload 4, 2) := by decide +kernel
theorem dX5_faultOf_81 : decode cX5_faultOf 81 = .ok (.bipush 99, 2) := by decide +kernel
theorem dX5_faultOf_83 : decode cX5_faultOf 83 = .ok (.if_icmp .eq 10, 3) := by decide +kernel
theorem dX5_faultOf_86 : decode cX5_faultOf 86 = .ok (.iload 4, 2) := by decide +kernel
theorem dX5_faultOf_88 : decode cX5_faultOf 88 = .ok (.bipush 103, 2) := by decide +kernel
theorem dX5_faultOf_90 : decode cX5_faultOf 90 = .ok (.if_icmp .ne 9, 3) := by decide +kernel
theorem dX5_faultOf_93 : decode cX5_faultOf 93 = .ok (.iconst 2, 1) := by decide +kernel
theorem dX5_faultOf_94 : decode cX5_faultOf 94 = .ok (.istore 6, 2) := by decide +kernel
theorem dX5_faultOf_96 : decode cX5_faultOf 96 = .ok (.goto 47, 3) := by decide +kernel
theorem dX5_faultOf_99 : decode cX5_faultOf 99 = .ok (.iload_n 1, 1) := by decide +kernel
theorem dX5_faultOf_100 : decode cX5_faultOf 100 = .ok (.iconst 2, 1) := by decide +kernel
theorem dX5_faultOf_101 : decode cX5_faultOf 101 = .ok (.iconst 4, 1) := by decide +kernel
theorem dX5_faultOf_102 : decode cX5_faultOf 102 = .ok (.invokestatic 94, 3) := by decide +kernel
theorem dX5_faultOf_105 : decode cX5_faultOf 105 = .ok (.ifCond .eq 16, 3) := by decide +kernel
theorem dX5_faultOf_108 : decode cX5_faultOf 108 = .ok (.iload 5, 2) := by decide +kernel
theorem dX5_faultOf_110 : decode cX5_faultOf 110 = .ok (.ifCond .eq 11, 3) := by decide +kernel
theorem dX5_faultOf_113 : decode cX5_faultOf 113 = .ok (.iload_n 1, 1) := by decide +kernel
theorem dX5_faultOf_114 : decode cX5_faultOf 114 = .ok (.iconst 1, 1) := by decide +kernel
theorem dX5_faultOf_115 : decode cX5_faultOf 115 = .ok (.iadd, 1) := by decide +kernel
theorem dX5_faultOf_116 : decode cX5_faultOf 116 = .ok (.istore 6, 2) := by decide +kernel
theorem dX5_faultOf_118 : decode cX5_faultOf 118 = .ok (.goto 25, 3) := by decide +kernel
theorem dX5_faultOf_121 : decode cX5_faultOf 121 = .ok (.iload_n 1, 1) := by decide +kernel
theorem dX5_faultOf_122 : decode cX5_faultOf 122 = .ok (.iconst 2, 1) := by decide +kernel
theorem dX5_faultOf_123 : decode cX5_faultOf 123 = .ok (.if_icmp .le 20, 3) := by decide +kernel
theorem dX5_faultOf_126 : decode cX5_faultOf 126 = .ok (.iload 4, 2) := by decide +kernel
theorem dX5_faultOf_128 : decode cX5_faultOf 128 = .ok (.bipush 59, 2) := by decide +kernel
theorem dX5_faultOf_130 : decode cX5_faultOf 130 = .ok (.if_icmp .ne 13, 3) := by decide +kernel
theorem dX5_faultOf_133 : decode cX5_faultOf 133 = .ok (.iload_n 2, 1) := by decide +kernel
theorem dX5_faultOf_134 : decode cX5_faultOf 134 = .ok (.sipush 1023, 3) := by decide +kernel
theorem dX5_faultOf_137 : decode cX5_faultOf 137 = .ok (.if_icmp .eq 6, 3) := by decide +kernel
theorem dX5_faultOf_140 : decode cX5_faultOf 140 = .ok (.iconst 0, 1) := by decide +kernel
theorem dX5_faultOf_141 : decode cX5_faultOf 141 = .ok (.istore 6, 2) := by decide +kernel
theorem dX5_faultOf_143 : decode cX5_faultOf 143 = .ok (.iload 6, 2) := by decide +kernel
theorem dX5_faultOf_145 : decode cX5_faultOf 145 = .ok (.ifCond .ge 5, 3) := by decide +kernel
theorem dX5_faultOf_148 : decode cX5_faultOf 148 = .ok (.iload_n 3, 1) := by decide +kernel
theorem dX5_faultOf_149 : decode cX5_faultOf 149 = .ok (.ireturn, 1) := by decide +kernel
theorem dX5_faultOf_150 : decode cX5_faultOf 150 = .ok (.iload 6, 2) := by decide +kernel
theorem dX5_faultOf_152 : decode cX5_faultOf 152 = .ok (.istore_n 1, 1) := by decide +kernel
theorem dX5_faultOf_153 : decode cX5_faultOf 153 = .ok (.iinc 3 1, 3) := by decide +kernel
theorem dX5_faultOf_156 : decode cX5_faultOf 156 = .ok (.goto (-150), 3) := by decide +kernel
theorem dX5_faultOf_159 : decode cX5_faultOf 159 = .ok (.iload_n 1, 1) := by decide +kernel
theorem dX5_faultOf_160 : decode cX5_faultOf 160 = .ok (.iconst 2, 1) := by decide +kernel
theorem dX5_faultOf_161 : decode cX5_faultOf 161 = .ok (.if_icmp .le 8, 3) := by decide +kernel
theorem dX5_faultOf_164 : decode cX5_faultOf 164 = .ok (.bipush (-6), 2) := by decide +kernel
theorem dX5_faultOf_166 : decode cX5_faultOf 166 = .ok (.goto 7, 3) := by decide +kernel
theorem dX5_faultOf_169 : decode cX5_faultOf 169 = .ok (.aload_n 0, 1) := by decide +kernel
theorem dX5_faultOf_170 : decode cX5_faultOf 170 = .ok (.getfield 144, 3) := by decide +kernel
theorem dX5_faultOf_173 : decode cX5_faultOf 173 = .ok (.ireturn, 1) := by decide +kernel
theorem dX5_fault_0 : decode cX5_fault 0 = .ok (.aload_n 0, 1) := by decide +kernel
theorem dX5_fault_1 : decode cX5_fault 1 = .ok (.invokevirtual 147, 3) := by decide +kernel
theorem dX5_fault_4 : decode cX5_fault 4 = .ok (.ireturn, 1) := by decide +kernel
theorem dX5_clearRule_0 : decode cX5_clearRule 0 = .ok (.aload_n 0, 1) := by decide +kernel
theorem dX5_clearRule_1 : decode cX5_clearRule 1 = .ok (.iconst 0, 1) := by decide +kernel
theorem dX5_clearRule_2 : decode cX5_clearRule 2 = .ok (.putfield 151, 3) := by decide +kernel
theorem dX5_clearRule_5 : decode cX5_clearRule 5 = .ok (.iconst 0, 1) := by decide +kernel
theorem dX5_clearRule_6 : decode cX5_clearRule 6 = .ok (.istore_n 1, 1) := by decide +kernel
theorem dX5_clearRule_7 : decode cX5_clearRule 7 = .ok (.iload_n 1, 1) := by decide +kernel
theorem dX5_clearRule_8 : decode cX5_clearRule 8 = .ok (.bipush 10, 2) := by decide +kernel
theorem dX5_clearRule_10 : decode cX5_clearRule 10 = .ok (.if_icmp .ge 23, 3) := by decide +kernel
theorem dX5_clearRule_13 : decode cX5_clearRule 13 = .ok (.aload_n 0, 1) := by decide +kernel
theorem dX5_clearRule_14 : decode cX5_clearRule 14 = .ok (.getfield 43, 3) := by decide +kernel
theorem dX5_clearRule_17 : decode cX5_clearRule 17 = .ok (.iload_n 1, 1) := by decide +kernel
theorem dX5_clearRule_18 : decode cX5_clearRule 18 = .ok (.iconst 0, 1) := by decide +kernel
theorem dX5_clearRule_19 : decode cX5_clearRule 19 = .ok (.iastore, 1) := by decide +kernel
theorem dX5_clearRule_20 : decode cX5_clearRule 20 = .ok (.aload_n 0, 1) := by decide +kernel
theorem dX5_clearRule_21 : decode cX5_clearRule 21 = .ok (.getfield 46, 3) := by decide +kernel
theorem dX5_clearRule_24 : decode cX5_clearRule 24 = .ok (.iload_n 1, 1) := by decide +kernel
theorem dX5_clearRule_25 : decode cX5_clearRule 25 = .ok (.iconst 0, 1) := by decide +kernel
theorem dX5_clearRule_26 : decode cX5_clearRule 26 = .ok (.iastore, 1) := by decide +kernel
theorem dX5_clearRule_27 : decode cX5_clearRule 27 = .ok (.iinc 1 1, 3) := by decide +kernel
theorem dX5_clearRule_30 : decode cX5_clearRule 30 = .ok (.goto (-23), 3) := by decide +kernel
theorem dX5_clearRule_33 : decode cX5_clearRule 33 = .ok (.return_, 1) := by decide +kernel
theorem dX5_rule_0 : decode cX5_rule 0 = .ok (.aload_n 0, 1) := by decide +kernel
theorem dX5_rule_1 : decode cX5_rule 1 = .ok (.invokevirtual 147, 3) := by decide +kernel
theorem dX5_rule_4 : decode cX5_rule 4 = .ok (.ifCond .lt 6, 3) := by decide +kernel
theorem dX5_rule_7 : decode cX5_rule 7 = .ok (.bipush (-5), 2) := by decide +kernel
theorem dX5_rule_9 : decode cX5_rule 9 = .ok (.ireturn, 1) := by decide +kernel
theorem dX5_rule_10 : decode cX5_rule 10 = .ok (.aload_n 0, 1) := by decide +kernel
theorem dX5_rule_11 : decode cX5_rule 11 = .ok (.invokevirtual 154, 3) := by decide +kernel
theorem dX5_rule_14 : decode cX5_rule 14 = .ok (.iconst 0, 1) := by decide +kernel
theorem dX5_rule_15 : decode cX5_rule 15 = .ok (.istore_n 1, 1) := by decide +kernel
theorem dX5_rule_16 : decode cX5_rule 16 = .ok (.iload_n 1, 1) := by decide +kernel
theorem dX5_rule_17 : decode cX5_rule 17 = .ok (.aload_n 0, 1) := by decide +kernel
theorem dX5_rule_18 : decode cX5_rule 18 = .ok (.getfield 144, 3) := by decide +kernel
theorem dX5_rule_21 : decode cX5_rule 21 = .ok (.if_icmp .ge 106, 3) := by decide +kernel
theorem dX5_rule_24 : decode cX5_rule 24 = .ok (.aload_n 0, 1) := by decide +kernel
theorem dX5_rule_25 : decode cX5_rule 25 = .ok (.getfield 40, 3) := by decide +kernel
theorem dX5_rule_28 : decode cX5_rule 28 = .ok (.iload_n 1, 1) := by decide +kernel
theorem dX5_rule_29 : decode cX5_rule 29 = .ok (.iaload, 1) := by decide +kernel
theorem dX5_rule_30 : decode cX5_rule 30 = .ok (.bipush 48, 2) := by decide +kernel
theorem dX5_rule_32 : decode cX5_rule 32 = .ok (.isub, 1) := by decide +kernel
theorem dX5_rule_33 : decode cX5_rule 33 = .ok (.istore_n 2, 1) := by decide +kernel
theorem dX5_rule_34 : decode cX5_rule 34 = .ok (.aload_n 0, 1) := by decide +kernel
theorem dX5_rule_35 : decode cX5_rule 35 = .ok (.getfield 43, 3) := by decide +kernel
theorem dX5_rule_38 : decode cX5_rule 38 = .ok (.iload_n 2, 1) := by decide +kernel
theorem dX5_rule_39 : decode cX5_rule 39 = .ok (.aload_n 0, 1) := by decide +kernel
end
section
theorem dX5_rule_40 : decode cX5_rule 40 = .ok (.getfield 40, 3) := by decide +kernel
theorem dX5_rule_43 : decode cX5_rule 43 = .ok (.iload_n 1, 1) := by decide +kernel
theorem dX5_rule_44 : decode cX5_rule 44 = .ok (.iconst 1, 1) := by decide +kernel
theorem dX5_rule_45 : decode cX5_rule 45 = .ok (.iadd, 1) := by decide +kernel
theorem dX5_rule_46 : decode cX5_rule 46 = .ok (.iaload, 1) := by decide +kernel
theorem dX5_rule_47 : decode cX5_rule 47 = .ok (.bipush 99, 2) := by decide +kernel
theorem dX5_rule_49 : decode cX5_rule 49 = .ok (.if_icmp .ne 7, 3) := by decide +kernel
theorem dX5_rule_52 : decode cX5_rule 52 = .ok (.iconst 1, 1) := by decide +kernel
theorem dX5_rule_53 : decode cX5_rule 53 = .ok (.goto 4, 3) := by decide +kernel
theorem dX5_rule_56 : decode cX5_rule 56 = .ok (.iconst 2, 1) := by decide +kernel
theorem dX5_rule_57 : decode cX5_rule 57 = .ok (.iastore, 1) := by decide +kernel
theorem dX5_rule_58 : decode cX5_rule 58 = .ok (.iinc 1 2, 3) := by decide +kernel
theorem dX5_rule_61 : decode cX5_rule 61 = .ok (.iload_n 1, 1) := by decide +kernel
theorem dX5_rule_62 : decode cX5_rule 62 = .ok (.aload_n 0, 1) := by decide +kernel
theorem dX5_rule_63 : decode cX5_rule 63 = .ok (.getfield 144, 3) := by decide +kernel
theorem dX5_rule_66 : decode cX5_rule 66 = .ok (.if_icmp .ge 45, 3) := by decide +kernel
theorem dX5_rule_69 : decode cX5_rule 69 = .ok (.aload_n 0, 1) := by decide +kernel
theorem dX5_rule_70 : decode cX5_rule 70 = .ok (.getfield 40, 3) := by decide +kernel
theorem dX5_rule_73 : decode cX5_rule 73 = .ok (.iload_n 1, 1) := by decide +kernel
theorem dX5_rule_74 : decode cX5_rule 74 = .ok (.iaload, 1) := by decide +kernel
theorem dX5_rule_75 : decode cX5_rule 75 = .ok (.bipush 59, 2) := by decide +kernel
theorem dX5_rule_77 : decode cX5_rule 77 = .ok (.if_icmp .eq 34, 3) := by decide +kernel
theorem dX5_rule_80 : decode cX5_rule 80 = .ok (.aload_n 0, 1) := by decide +kernel
theorem dX5_rule_81 : decode cX5_rule 81 = .ok (.getfield 46, 3) := by decide +kernel
theorem dX5_rule_84 : decode cX5_rule 84 = .ok (.iload_n 2, 1) := by decide +kernel
theorem dX5_rule_85 : decode cX5_rule 85 = .ok (.bipush 10, 2) := by decide +kernel
theorem dX5_rule_87 : decode cX5_rule 87 = .ok (.aload_n 0, 1) := by decide +kernel
theorem dX5_rule_88 : decode cX5_rule 88 = .ok (.getfield 46, 3) := by decide +kernel
theorem dX5_rule_91 : decode cX5_rule 91 = .ok (.iload_n 2, 1) := by decide +kernel
theorem dX5_rule_92 : decode cX5_rule 92 = .ok (.iaload, 1) := by decide +kernel
theorem dX5_rule_93 : decode cX5_rule 93 = .ok (.imul, 1) := by decide +kernel
theorem dX5_rule_94 : decode cX5_rule 94 = .ok (.aload_n 0, 1) := by decide +kernel
theorem dX5_rule_95 : decode cX5_rule 95 = .ok (.getfield 40, 3) := by decide +kernel
theorem dX5_rule_98 : decode cX5_rule 98 = .ok (.iload_n 1, 1) := by decide +kernel
theorem dX5_rule_99 : decode cX5_rule 99 = .ok (.iaload, 1) := by decide +kernel
theorem dX5_rule_100 : decode cX5_rule 100 = .ok (.iadd, 1) := by decide +kernel
theorem dX5_rule_101 : decode cX5_rule 101 = .ok (.bipush 48, 2) := by decide +kernel
theorem dX5_rule_103 : decode cX5_rule 103 = .ok (.isub, 1) := by decide +kernel
theorem dX5_rule_104 : decode cX5_rule 104 = .ok (.iastore, 1) := by decide +kernel
theorem dX5_rule_105 : decode cX5_rule 105 = .ok (.iinc 1 1, 3) := by decide +kernel
theorem dX5_rule_108 : decode cX5_rule 108 = .ok (.goto (-47), 3) := by decide +kernel
theorem dX5_rule_111 : decode cX5_rule 111 = .ok (.iinc 1 1, 3) := by decide +kernel
theorem dX5_rule_114 : decode cX5_rule 114 = .ok (.aload_n 0, 1) := by decide +kernel
theorem dX5_rule_115 : decode cX5_rule 115 = .ok (.dup, 1) := by decide +kernel
theorem dX5_rule_116 : decode cX5_rule 116 = .ok (.getfield 151, 3) := by decide +kernel
theorem dX5_rule_119 : decode cX5_rule 119 = .ok (.iconst 1, 1) := by decide +kernel
theorem dX5_rule_120 : decode cX5_rule 120 = .ok (.iadd, 1) := by decide +kernel
theorem dX5_rule_121 : decode cX5_rule 121 = .ok (.putfield 151, 3) := by decide +kernel
theorem dX5_rule_124 : decode cX5_rule 124 = .ok (.goto (-108), 3) := by decide +kernel
theorem dX5_rule_127 : decode cX5_rule 127 = .ok (.aload_n 0, 1) := by decide +kernel
theorem dX5_rule_128 : decode cX5_rule 128 = .ok (.iconst 0, 1) := by decide +kernel
theorem dX5_rule_129 : decode cX5_rule 129 = .ok (.putfield 144, 3) := by decide +kernel
theorem dX5_rule_132 : decode cX5_rule 132 = .ok (.aload_n 0, 1) := by decide +kernel
theorem dX5_rule_133 : decode cX5_rule 133 = .ok (.getfield 151, 3) := by decide +kernel
theorem dX5_rule_136 : decode cX5_rule 136 = .ok (.ireturn, 1) := by decide +kernel
theorem dX5_free_0 : decode cX5_free 0 = .ok (.aload_n 0, 1) := by decide +kernel
theorem dX5_free_1 : decode cX5_free 1 = .ok (.getfield 151, 3) := by decide +kernel
theorem dX5_free_4 : decode cX5_free 4 = .ok (.istore_n 1, 1) := by decide +kernel
theorem dX5_free_5 : decode cX5_free 5 = .ok (.aload_n 0, 1) := by decide +kernel
theorem dX5_free_6 : decode cX5_free 6 = .ok (.invokevirtual 154, 3) := by decide +kernel
theorem dX5_free_9 : decode cX5_free 9 = .ok (.iload_n 1, 1) := by decide +kernel
theorem dX5_free_10 : decode cX5_free 10 = .ok (.ireturn, 1) := by decide +kernel
theorem dX5_layGoing_0 : decode cX5_layGoing 0 = .ok (.aload_n 0, 1) := by decide +kernel
theorem dX5_layGoing_1 : decode cX5_layGoing 1 = .ok (.iconst 0, 1) := by decide +kernel
theorem dX5_layGoing_2 : decode cX5_layGoing 2 = .ok (.putfield 157, 3) := by decide +kernel
theorem dX5_layGoing_5 : decode cX5_layGoing 5 = .ok (.iconst 0, 1) := by decide +kernel
theorem dX5_layGoing_6 : decode cX5_layGoing 6 = .ok (.istore_n 2, 1) := by decide +kernel
theorem dX5_layGoing_7 : decode cX5_layGoing 7 = .ok (.iload_n 2, 1) := by decide +kernel
theorem dX5_layGoing_8 : decode cX5_layGoing 8 = .ok (.aload_n 0, 1) := by decide +kernel
theorem dX5_layGoing_9 : decode cX5_layGoing 9 = .ok (.getfield 98, 3) := by decide +kernel
theorem dX5_layGoing_12 : decode cX5_layGoing 12 = .ok (.if_icmp .ge 111, 3) := by decide +kernel
theorem dX5_layGoing_15 : decode cX5_layGoing 15 = .ok (.aload_n 0, 1) := by decide +kernel
theorem dX5_layGoing_16 : decode cX5_layGoing 16 = .ok (.getfield 49, 3) := by decide +kernel
theorem dX5_layGoing_19 : decode cX5_layGoing 19 = .ok (.bipush 10, 2) := by decide +kernel
theorem dX5_layGoing_21 : decode cX5_layGoing 21 = .ok (.iload_n 2, 1) := by decide +kernel
theorem dX5_layGoing_22 : decode cX5_layGoing 22 = .ok (.imul, 1) := by decide +kernel
theorem dX5_layGoing_23 : decode cX5_layGoing 23 = .ok (.iload_n 1, 1) := by decide +kernel
theorem dX5_layGoing_24 : decode cX5_layGoing 24 = .ok (.iadd, 1) := by decide +kernel
theorem dX5_layGoing_25 : decode cX5_layGoing 25 = .ok (.iaload, 1) := by decide +kernel
theorem dX5_layGoing_26 : decode cX5_layGoing 26 = .ok (.ifCond .lt 91, 3) := by decide +kernel
theorem dX5_layGoing_29 : decode cX5_layGoing 29 = .ok (.aload_n 0, 1) := by decide +kernel
theorem dX5_layGoing_30 : decode cX5_layGoing 30 = .ok (.getfield 25, 3) := by decide +kernel
theorem dX5_layGoing_33 : decode cX5_layGoing 33 = .ok (.iload_n 2, 1) := by decide +kernel
theorem dX5_layGoing_34 : decode cX5_layGoing 34 = .ok (.iaload, 1) := by decide +kernel
theorem dX5_layGoing_35 : decode cX5_layGoing 35 = .ok (.iload_n 1, 1) := by decide +kernel
theorem dX5_layGoing_36 : decode cX5_layGoing 36 = .ok (.if_icmp .eq 81, 3) := by decide +kernel
theorem dX5_layGoing_39 : decode cX5_layGoing 39 = .ok (.aload_n 0, 1) := by decide +kernel
theorem dX5_layGoing_40 : decode cX5_layGoing 40 = .ok (.getfield 157, 3) := by decide +kernel
theorem dX5_layGoing_43 : decode cX5_layGoing 43 = .ok (.istore_n 3, 1) := by decide +kernel
theorem dX5_layGoing_44 : decode cX5_layGoing 44 = .ok (.iload_n 3, 1) := by decide +kernel
theorem dX5_layGoing_45 : decode cX5_layGoing 45 = .ok (.ifCond .le 55, 3) := by decide +kernel
theorem dX5_layGoing_48 : decode cX5_layGoing 48 = .ok (.aload_n 0, 1) := by decide +kernel
theorem dX5_layGoing_49 : decode cX5_layGoing 49 = .ok (.getfield 52, 3) := by decide +kernel
theorem dX5_layGoing_52 : decode cX5_layGoing 52 = .ok (.bipush 10, 2) := by decide +kernel
theorem dX5_layGoing_54 : decode cX5_layGoing 54 = .ok (.aload_n 0, 1) := by decide +kernel
theorem dX5_layGoing_55 : decode cX5_layGoing 55 = .ok (.getfield 85, 3) := by decide +kernel
theorem dX5_layGoing_58 : decode cX5_layGoing 58 = .ok (.iload_n 3, 1) := by decide +kernel
theorem dX5_layGoing_59 : decode cX5_layGoing 59 = .ok (.iconst 1, 1) := by decide +kernel
theorem dX5_layGoing_60 : decode cX5_layGoing 60 = .ok (.isub, 1) := by decide +kernel
theorem dX5_layGoing_61 : decode cX5_layGoing 61 = .ok (.iaload, 1) := by decide +kernel
theorem dX5_layGoing_62 : decode cX5_layGoing 62 = .ok (.imul, 1) := by decide +kernel
theorem dX5_layGoing_63 : decode cX5_layGoing 63 = .ok (.iload_n 1, 1) := by decide +kernel
theorem dX5_layGoing_64 : decode cX5_layGoing 64 = .ok (.iadd, 1) := by decide +kernel
theorem dX5_layGoing_65 : decode cX5_layGoing 65 = .ok (.iaload, 1) := by decide +kernel
theorem dX5_layGoing_66 : decode cX5_layGoing 66 = .ok (.aload_n 0, 1) := by decide +kernel
theorem dX5_layGoing_67 : decode cX5_layGoing 67 = .ok (.getfield 52, 3) := by decide +kernel
theorem dX5_layGoing_70 : decode cX5_layGoing 70 = .ok (.bipush 10, 2) := by decide +kernel
theorem dX5_layGoing_72 : decode cX5_layGoing 72 = .ok (.iload_n 2, 1) := by decide +kernel
theorem dX5_layGoing_73 : decode cX5_layGoing 73 = .ok (.imul, 1) := by decide +kernel
theorem dX5_layGoing_74 : decode cX5_layGoing 74 = .ok (.iload_n 1, 1) := by decide +kernel
theorem dX5_layGoing_75 : decode cX5_layGoing 75 = .ok (.iadd, 1) := by decide +kernel
theorem dX5_layGoing_76 : decode cX5_layGoing 76 = .ok (.iaload, 1) := by decide +kernel
theorem dX5_layGoing_77 : decode cX5_layGoing 77 = .ok (.if_icmp .le 23, 3) := by decide +kernel
theorem dX5_layGoing_80 : decode cX5_layGoing 80 = .ok (.aload_n 0, 1) := by decide +kernel
theorem dX5_layGoing_81 : decode cX5_layGoing 81 = .ok (.getfield 85, 3) := by decide +kernel
theorem dX5_layGoing_84 : decode cX5_layGoing 84 = .ok (.iload_n 3, 1) := by decide +kernel
theorem dX5_layGoing_85 : decode cX5_layGoing 85 = .ok (.aload_n 0, 1) := by decide +kernel
theorem dX5_layGoing_86 : decode cX5_layGoing 86 = .ok (.getfield 85, 3) := by decide +kernel
theorem dX5_layGoing_89 : decode cX5_layGoing 89 = .ok (.iload_n 3, 1) := by decide +kernel
theorem dX5_layGoing_90 : decode cX5_layGoing 90 = .ok (.iconst 1, 1) := by decide +kernel
theorem dX5_layGoing_91 : decode cX5_layGoing 91 = .ok (.isub, 1) := by decide +kernel
theorem dX5_layGoing_92 : decode cX5_layGoing 92 = .ok (.iaload, 1) := by decide +kernel
theorem dX5_layGoing_93 : decode cX5_layGoing 93 = .ok (.iastore, 1) := by decide +kernel
theorem dX5_layGoing_94 : decode cX5_layGoing 94 = .ok (.iinc 3 (-1), 3) := by decide +kernel
theorem dX5_layGoing_97 : decode cX5_layGoing 97 = .ok (.goto (-53), 3) := by decide +kernel
theorem dX5_layGoing_100 : decode cX5_layGoing 100 = .ok (.aload_n 0, 1) := by decide +kernel
theorem dX5_layGoing_101 : decode cX5_layGoing 101 = .ok (.getfield 85, 3) := by decide +kernel
theorem dX5_layGoing_104 : decode cX5_layGoing 104 = .ok (.iload_n 3, 1) := by decide +kernel
theorem dX5_layGoing_105 : decode cX5_layGoing 105 = .ok (.iload_n 2, 1) := by decide +kernel
theorem dX5_layGoing_106 : decode cX5_layGoing 106 = .ok (.iastore, 1) := by decide +kernel
theorem dX5_layGoing_107 : decode cX5_layGoing 107 = .ok (.aload_n 0, 1) := by decide +kernel
theorem dX5_layGoing_108 : decode cX5_layGoing 108 = .ok (.dup, 1) := by decide +kernel
theorem dX5_layGoing_109 : decode cX5_layGoing 109 = .ok (.getfield 157, 3) := by decide +kernel
theorem dX5_layGoing_112 : decode cX5_layGoing 112 = .ok (.iconst 1, 1) := by decide +kernel
theorem dX5_layGoing_113 : decode cX5_layGoing 113 = .ok (.iadd, 1) := by decide +kernel
theorem dX5_layGoing_114 : decode cX5_layGoing 114 = .ok (.putfield 157, 3) := by decide +kernel
theorem dX5_layGoing_117 : decode cX5_layGoing 117 = .ok (.iinc 2 1, 3) := by decide +kernel
theorem dX5_layGoing_120 : decode cX5_layGoing 120 = .ok (.goto (-113), 3) := by decide +kernel
theorem dX5_layGoing_123 : decode cX5_layGoing 123 = .ok (.return_, 1) := by decide +kernel
theorem dX5_followOf_0 : decode cX5_followOf 0 = .ok (.aload_n 0, 1) := by decide +kernel
theorem dX5_followOf_1 : decode cX5_followOf 1 = .ok (.getfield 52, 3) := by decide +kernel
theorem dX5_followOf_4 : decode cX5_followOf 4 = .ok (.bipush 10, 2) := by decide +kernel
theorem dX5_followOf_6 : decode cX5_followOf 6 = .ok (.aload_n 0, 1) := by decide +kernel
theorem dX5_followOf_7 : decode cX5_followOf 7 = .ok (.getfield 85, 3) := by decide +kernel
theorem dX5_followOf_10 : decode cX5_followOf 10 = .ok (.iload_n 2, 1) := by decide +kernel
theorem dX5_followOf_11 : decode cX5_followOf 11 = .ok (.iaload, 1) := by decide +kernel
theorem dX5_followOf_12 : decode cX5_followOf 12 = .ok (.imul, 1) := by decide +kernel
theorem dX5_followOf_13 : decode cX5_followOf 13 = .ok (.iload_n 1, 1) := by decide +kernel
theorem dX5_followOf_14 : decode cX5_followOf 14 = .ok (.iadd, 1) := by decide +kernel
theorem dX5_followOf_15 : decode cX5_followOf 15 = .ok (.iaload, 1) := by decide +kernel
theorem dX5_followOf_16 : decode cX5_followOf 16 = .ok (.aload_n 0, 1) := by decide +kernel
theorem dX5_followOf_17 : decode cX5_followOf 17 = .ok (.getfield 52, 3) := by decide +kernel
theorem dX5_followOf_20 : decode cX5_followOf 20 = .ok (.bipush 10, 2) := by decide +kernel
theorem dX5_followOf_22 : decode cX5_followOf 22 = .ok (.aload_n 0, 1) := by decide +kernel
theorem dX5_followOf_23 : decode cX5_followOf 23 = .ok (.getfield 85, 3) := by decide +kernel
theorem dX5_followOf_26 : decode cX5_followOf 26 = .ok (.iload_n 2, 1) := by decide +kernel
theorem dX5_followOf_27 : decode cX5_followOf 27 = .ok (.iconst 1, 1) := by decide +kernel
theorem dX5_followOf_28 : decode cX5_followOf 28 = .ok (.isub, 1) := by decide +kernel
theorem dX5_followOf_29 : decode cX5_followOf 29 = .ok (.iaload, 1) := by decide +kernel
theorem dX5_followOf_30 : decode cX5_followOf 30 = .ok (.imul, 1) := by decide +kernel
theorem dX5_followOf_31 : decode cX5_followOf 31 = .ok (.iload_n 1, 1) := by decide +kernel
theorem dX5_followOf_32 : decode cX5_followOf 32 = .ok (.iadd, 1) := by decide +kernel
theorem dX5_followOf_33 : decode cX5_followOf 33 = .ok (.iaload, 1) := by decide +kernel
theorem dX5_followOf_34 : decode cX5_followOf 34 = .ok (.isub, 1) := by decide +kernel
theorem dX5_followOf_35 : decode cX5_followOf 35 = .ok (.ireturn, 1) := by decide +kernel
theorem dX5_follow_0 : decode cX5_follow 0 = .ok (.iload_n 1, 1) := by decide +kernel
theorem dX5_follow_1 : decode cX5_follow 1 = .ok (.invokestatic 102, 3) := by decide +kernel
theorem dX5_follow_4 : decode cX5_follow 4 = .ok (.ifCond .ne 5, 3) := by decide +kernel
theorem dX5_follow_7 : decode cX5_follow 7 = .ok (.iconst (-1), 1) := by decide +kernel
theorem dX5_follow_8 : decode cX5_follow 8 = .ok (.ireturn, 1) := by decide +kernel
theorem dX5_follow_9 : decode cX5_follow 9 = .ok (.aload_n 0, 1) := by decide +kernel
theorem dX5_follow_10 : decode cX5_follow 10 = .ok (.bipush (-6), 2) := by decide +kernel
theorem dX5_follow_12 : decode cX5_follow 12 = .ok (.invokevirtual 140, 3) := by decide +kernel
theorem dX5_follow_15 : decode cX5_follow 15 = .ok (.aload_n 0, 1) := by decide +kernel
theorem dX5_follow_16 : decode cX5_follow 16 = .ok (.iload_n 1, 1) := by decide +kernel
theorem dX5_follow_17 : decode cX5_follow 17 = .ok (.invokevirtual 160, 3) := by decide +kernel
theorem dX5_follow_20 : decode cX5_follow 20 = .ok (.aload_n 0, 1) := by decide +kernel
theorem dX5_follow_21 : decode cX5_follow 21 = .ok (.getfield 157, 3) := by decide +kernel
theorem dX5_follow_24 : decode cX5_follow 24 = .ok (.ifCond .ne 7, 3) := by decide +kernel
theorem dX5_follow_27 : decode cX5_follow 27 = .ok (.iconst 0, 1) := by decide +kernel
theorem dX5_follow_28 : decode cX5_follow 28 = .ok (.goto 9, 3) := by decide +kernel
theorem dX5_follow_31 : decode cX5_follow 31 = .ok (.aload_n 0, 1) := by decide +kernel
theorem dX5_follow_32 : decode cX5_follow 32 = .ok (.getfield 157, 3) := by decide +kernel
theorem dX5_follow_35 : decode cX5_follow 35 = .ok (.iconst 1, 1) := by decide +kernel
theorem dX5_follow_36 : decode cX5_follow 36 = .ok (.isub, 1) := by decide +kernel
theorem dX5_follow_37 : decode cX5_follow 37 = .ok (.istore_n 3, 1) := by decide +kernel
theorem dX5_follow_38 : decode cX5_follow 38 = .ok (.iload_n 2, 1) := by decide +kernel
theorem dX5_follow_39 : decode cX5_follow 39 = .ok (.ifCond .ne 7, 3) := by decide +kernel
theorem dX5_follow_42 : decode cX5_follow 42 = .ok (.iload_n 3, 1) := by decide +kernel
theorem dX5_follow_43 : decode cX5_follow 43 = .ok (.goto 23, 3) := by decide +kernel
theorem dX5_follow_46 : decode cX5_follow 46 = .ok (.iload_n 2, 1) := by decide +kernel
theorem dX5_follow_47 : decode cX5_follow 47 = .ok (.iconst 1, 1) := by decide +kernel
theorem dX5_follow_48 : decode cX5_follow 48 = .ok (.iload_n 3, 1) := by decide +kernel
theorem dX5_follow_49 : decode cX5_follow 49 = .ok (.invokestatic 94, 3) := by decide +kernel
theorem dX5_follow_52 : decode cX5_follow 52 = .ok (.ifCond .eq 12, 3) := by decide +kernel
theorem dX5_follow_55 : decode cX5_follow 55 = .ok (.aload_n 0, 1) := by decide +kernel
theorem dX5_follow_56 : decode cX5_follow 56 = .ok (.iload_n 1, 1) := by decide +kernel
theorem dX5_follow_57 : decode cX5_follow 57 = .ok (.iload_n 2, 1) := by decide +kernel
theorem dX5_follow_58 : decode cX5_follow 58 = .ok (.invokevirtual 163, 3) := by decide +kernel
theorem dX5_follow_61 : decode cX5_follow 61 = .ok (.goto 5, 3) := by decide +kernel
theorem dX5_follow_64 : decode cX5_follow 64 = .ok (.bipush (-6), 2) := by decide +kernel
theorem dX5_follow_66 : decode cX5_follow 66 = .ok (.ireturn, 1) := by decide +kernel
theorem dX5_oneOf_0 : decode cX5_oneOf 0 = .ok (.iconst 0, 1) := by decide +kernel
theorem dX5_oneOf_1 : decode cX5_oneOf 1 = .ok (.istore_n 1, 1) := by decide +kernel
theorem dX5_oneOf_2 : decode cX5_oneOf 2 = .ok (.iload_n 1, 1) := by decide +kernel
theorem dX5_oneOf_3 : decode cX5_oneOf 3 = .ok (.bipush 9, 2) := by decide +kernel
theorem dX5_oneOf_5 : decode cX5_oneOf 5 = .ok (.if_icmp .ge 57, 3) := by decide +kernel
theorem dX5_oneOf_8 : decode cX5_oneOf 8 = .ok (.aload_n 0, 1) := by decide +kernel
theorem dX5_oneOf_9 : decode cX5_oneOf 9 = .ok (.iload_n 1, 1) := by decide +kernel
theorem dX5_oneOf_10 : decode cX5_oneOf 10 = .ok (.invokevirtual 160, 3) := by decide +kernel
theorem dX5_oneOf_13 : decode cX5_oneOf 13 = .ok (.iconst 1, 1) := by decide +kernel
theorem dX5_oneOf_14 : decode cX5_oneOf 14 = .ok (.istore_n 2, 1) := by decide +kernel
theorem dX5_oneOf_15 : decode cX5_oneOf 15 = .ok (.iload_n 2, 1) := by decide +kernel
theorem dX5_oneOf_16 : decode cX5_oneOf 16 = .ok (.aload_n 0, 1) := by decide +kernel
theorem dX5_oneOf_17 : decode cX5_oneOf 17 = .ok (.getfield 157, 3) := by decide +kernel
theorem dX5_oneOf_20 : decode cX5_oneOf 20 = .ok (.if_icmp .ge 36, 3) := by decide +kernel
theorem dX5_oneOf_23 : decode cX5_oneOf 23 = .ok (.aload_n 0, 1) := by decide +kernel
theorem dX5_oneOf_24 : decode cX5_oneOf 24 = .ok (.iload_n 1, 1) := by decide +kernel
theorem dX5_oneOf_25 : decode cX5_oneOf 25 = .ok (.iload_n 2, 1) := by decide +kernel
theorem dX5_oneOf_26 : decode cX5_oneOf 26 = .ok (.invokevirtual 163, 3) := by decide +kernel
theorem dX5_oneOf_29 : decode cX5_oneOf 29 = .ok (.aload_n 0, 1) := by decide +kernel
theorem dX5_oneOf_30 : decode cX5_oneOf 30 = .ok (.getfield 28, 3) := by decide +kernel
theorem dX5_oneOf_33 : decode cX5_oneOf 33 = .ok (.iconst 4, 1) := by decide +kernel
theorem dX5_oneOf_34 : decode cX5_oneOf 34 = .ok (.iaload, 1) := by decide +kernel
theorem dX5_oneOf_35 : decode cX5_oneOf 35 = .ok (.if_icmp .gt 15, 3) := by decide +kernel
theorem dX5_oneOf_38 : decode cX5_oneOf 38 = .ok (.aload_n 0, 1) := by decide +kernel
theorem dX5_oneOf_39 : decode cX5_oneOf 39 = .ok (.aload_n 0, 1) := by decide +kernel
theorem dX5_oneOf_40 : decode cX5_oneOf 40 = .ok (.getfield 85, 3) := by decide +kernel
theorem dX5_oneOf_43 : decode cX5_oneOf 43 = .ok (.iload_n 2, 1) := by decide +kernel
theorem dX5_oneOf_44 : decode cX5_oneOf 44 = .ok (.iaload, 1) := by decide +kernel
theorem dX5_oneOf_45 : decode cX5_oneOf 45 = .ok (.putfield 167, 3) := by decide +kernel
theorem dX5_oneOf_48 : decode cX5_oneOf 48 = .ok (.iload_n 1, 1) := by decide +kernel
theorem dX5_oneOf_49 : decode cX5_oneOf 49 = .ok (.ireturn, 1) := by decide +kernel
theorem dX5_oneOf_50 : decode cX5_oneOf 50 = .ok (.iinc 2 1, 3) := by decide +kernel
theorem dX5_oneOf_53 : decode cX5_oneOf 53 = .ok (.goto (-38), 3) := by decide +kernel
theorem dX5_oneOf_56 : decode cX5_oneOf 56 = .ok (.iinc 1 1, 3) := by decide +kernel
theorem dX5_oneOf_59 : decode cX5_oneOf 59 = .ok (.goto (-57), 3) := by decide +kernel
theorem dX5_oneOf_62 : decode cX5_oneOf 62 = .ok (.aload_n 0, 1) := by decide +kernel
theorem dX5_oneOf_63 : decode cX5_oneOf 63 = .ok (.bipush (-6), 2) := by decide +kernel
theorem dX5_oneOf_65 : decode cX5_oneOf 65 = .ok (.putfield 167, 3) := by decide +kernel
theorem dX5_oneOf_68 : decode cX5_oneOf 68 = .ok (.bipush (-6), 2) := by decide +kernel
theorem dX5_oneOf_70 : decode cX5_oneOf 70 = .ok (.ireturn, 1) := by decide +kernel
theorem dX5_one_0 : decode cX5_one 0 = .ok (.iload_n 1, 1) := by decide +kernel
theorem dX5_one_1 : decode cX5_one 1 = .ok (.iconst 0, 1) := by decide +kernel
theorem dX5_one_2 : decode cX5_one 2 = .ok (.iconst 1, 1) := by decide +kernel
theorem dX5_one_3 : decode cX5_one 3 = .ok (.invokestatic 94, 3) := by decide +kernel
theorem dX5_one_6 : decode cX5_one 6 = .ok (.ifCond .ne 6, 3) := by decide +kernel
theorem dX5_one_9 : decode cX5_one 9 = .ok (.bipush (-2), 2) := by decide +kernel
theorem dX5_one_11 : decode cX5_one 11 = .ok (.ireturn, 1) := by decide +kernel
theorem dX5_one_12 : decode cX5_one 12 = .ok (.aload_n 0, 1) := by decide +kernel
theorem dX5_one_13 : decode cX5_one 13 = .ok (.bipush (-6), 2) := by decide +kernel
theorem dX5_one_15 : decode cX5_one 15 = .ok (.invokevirtual 140, 3) := by decide +kernel
theorem dX5_one_18 : decode cX5_one 18 = .ok (.aload_n 0, 1) := by decide +kernel
theorem dX5_one_19 : decode cX5_one 19 = .ok (.invokevirtual 170, 3) := by decide +kernel
theorem dX5_one_22 : decode cX5_one 22 = .ok (.istore_n 2, 1) := by decide +kernel
theorem dX5_one_23 : decode cX5_one 23 = .ok (.iload_n 1, 1) := by decide +kernel
theorem dX5_one_24 : decode cX5_one 24 = .ok (.ifCond .ne 7, 3) := by decide +kernel
theorem dX5_one_27 : decode cX5_one 27 = .ok (.iload_n 2, 1) := by decide +kernel
theorem dX5_one_28 : decode cX5_one 28 = .ok (.goto 7, 3) := by decide +kernel
theorem dX5_one_31 : decode cX5_one 31 = .ok (.aload_n 0, 1) := by decide +kernel
theorem dX5_one_32 : decode cX5_one 32 = .ok (.getfield 167, 3) := by decide +kernel
theorem dX5_one_35 : decode cX5_one 35 = .ok (.ireturn, 1) := by decide +kernel
theorem dX5_began_0 : decode cX5_began 0 = .ok (.aload_n 0, 1) := by decide +kernel
theorem dX5_began_1 : decode cX5_began 1 = .ok (.bipush (-6), 2) := by decide +kernel
theorem dX5_began_3 : decode cX5_began 3 = .ok (.invokevirtual 140, 3) := by decide +kernel
theorem dX5_began_6 : decode cX5_began 6 = .ok (.aload_n 0, 1) := by decide +kernel
theorem dX5_began_7 : decode cX5_began 7 = .ok (.invokevirtual 170, 3) := by decide +kernel
theorem dX5_began_10 : decode cX5_began 10 = .ok (.ifCond .ge 5, 3) := by decide +kernel
theorem dX5_began_13 : decode cX5_began 13 = .ok (.iconst 0, 1) := by decide +kernel
theorem dX5_began_14 : decode cX5_began 14 = .ok (.ireturn, 1) := by decide +kernel
theorem dX5_began_15 : decode cX5_began 15 = .ok (.iconst 0, 1) := by decide +kernel
theorem dX5_began_16 : decode cX5_began 16 = .ok (.istore_n 1, 1) := by decide +kernel
theorem dX5_began_17 : decode cX5_began 17 = .ok (.iconst 0, 1) := by decide +kernel
theorem dX5_began_18 : decode cX5_began 18 = .ok (.istore_n 2, 1) := by decide +kernel
theorem dX5_began_19 : decode cX5_began 19 = .ok (.iload_n 2, 1) := by decide +kernel
theorem dX5_began_20 : decode cX5_began 20 = .ok (.aload_n 0, 1) := by decide +kernel
theorem dX5_began_21 : decode cX5_began 21 = .ok (.getfield 109, 3) := by decide +kernel
theorem dX5_began_24 : decode cX5_began 24 = .ok (.if_icmp .ge 31, 3) := by decide +kernel
theorem dX5_began_27 : decode cX5_began 27 = .ok (.aload_n 0, 1) := by decide +kernel
theorem dX5_began_28 : decode cX5_began 28 = .ok (.iload_n 2, 1) := by decide +kernel
theorem dX5_began_29 : decode cX5_began 29 = .ok (.invokevirtual 140, 3) := by decide +kernel
theorem dX5_began_32 : decode cX5_began 32 = .ok (.iload_n 1, 1) := by decide +kernel
theorem dX5_began_33 : decode cX5_began 33 = .ok (.aload_n 0, 1) := by decide +kernel
theorem dX5_began_34 : decode cX5_began 34 = .ok (.invokevirtual 170, 3) := by decide +kernel
theorem dX5_began_37 : decode cX5_began 37 = .ok (.ifCond .ge 9, 3) := by decide +kernel
theorem dX5_began_40 : decode cX5_began 40 = .ok (.iconst 1, 1) := by decide +kernel
theorem dX5_began_41 : decode cX5_began 41 = .ok (.iload_n 2, 1) := by decide +kernel
theorem dX5_began_42 : decode cX5_began 42 = .ok (.ishl, 1) := by decide +kernel
theorem dX5_began_43 : decode cX5_began 43 = .ok (.goto 4, 3) := by decide +kernel
theorem dX5_began_46 : decode cX5_began 46 = .ok (.iconst 0, 1) := by decide +kernel
theorem dX5_began_47 : decode cX5_began 47 = .ok (.ior, 1) := by decide +kernel
theorem dX5_began_48 : decode cX5_began 48 = .ok (.istore_n 1, 1) := by decide +kernel
theorem dX5_began_49 : decode cX5_began 49 = .ok (.iinc 2 1, 3) := by decide +kernel
theorem dX5_began_52 : decode cX5_began 52 = .ok (.goto (-33), 3) := by decide +kernel
theorem dX5_began_55 : decode cX5_began 55 = .ok (.iload_n 1, 1) := by decide +kernel
theorem dX5_began_56 : decode cX5_began 56 = .ok (.ireturn, 1) := by decide +kernel
theorem dX5_spread_0 : decode cX5_spread 0 = .ok (.iload_n 1, 1) := by decide +kernel
theorem dX5_spread_1 : decode cX5_spread 1 = .ok (.invokestatic 102, 3) := by decide +kernel
theorem dX5_spread_4 : decode cX5_spread 4 = .ok (.ifCond .ne 5, 3) := by decide +kernel
theorem dX5_spread_7 : decode cX5_spread 7 = .ok (.iconst (-1), 1) := by decide +kernel
theorem dX5_spread_8 : decode cX5_spread 8 = .ok (.ireturn, 1) := by decide +kernel
theorem dX5_spread_9 : decode cX5_spread 9 = .ok (.aload_n 0, 1) := by decide +kernel
theorem dX5_spread_10 : decode cX5_spread 10 = .ok (.bipush (-6), 2) := by decide +kernel
theorem dX5_spread_12 : decode cX5_spread 12 = .ok (.invokevirtual 140, 3) := by decide +kernel
theorem dX5_spread_15 : decode cX5_spread 15 = .ok (.aload_n 0, 1) := by decide +kernel
theorem dX5_spread_16 : decode cX5_spread 16 = .ok (.iload_n 1, 1) := by decide +kernel
theorem dX5_spread_17 : decode cX5_spread 17 = .ok (.invokevirtual 160, 3) := by decide +kernel
theorem dX5_spread_20 : decode cX5_spread 20 = .ok (.aload_n 0, 1) := by decide +kernel
theorem dX5_spread_21 : decode cX5_spread 21 = .ok (.getfield 157, 3) := by decide +kernel
theorem dX5_spread_24 : decode cX5_spread 24 = .ok (.iconst 2, 1) := by decide +kernel
theorem dX5_spread_25 : decode cX5_spread 25 = .ok (.if_icmp .ge 6, 3) := by decide +kernel
theorem dX5_spread_28 : decode cX5_spread 28 = .ok (.bipush (-6), 2) := by decide +kernel
theorem dX5_spread_30 : decode cX5_spread 30 = .ok (.ireturn, 1) := by decide +kernel
theorem dX5_spread_31 : decode cX5_spread 31 = .ok (.aload_n 0, 1) := by decide +kernel
theorem dX5_spread_32 : decode cX5_spread 32 = .ok (.iload_n 1, 1) := by decide +kernel
theorem dX5_spread_33 : decode cX5_spread 33 = .ok (.iconst 1, 1) := by decide +kernel
theorem dX5_spread_34 : decode cX5_spread 34 = .ok (.invokevirtual 163, 3) := by decide +kernel
theorem dX5_spread_37 : decode cX5_spread 37 = .ok (.istore_n 2, 1) := by decide +kernel
theorem dX5_spread_38 : decode cX5_spread 38 = .ok (.iload_n 2, 1) := by decide +kernel
theorem dX5_spread_39 : decode cX5_spread 39 = .ok (.istore_n 3, 1) := by decide +kernel
theorem dX5_spread_40 : decode cX5_spread 40 = .ok (.iconst 2, 1) := by decide +kernel
theorem dX5_spread_41 : decode cX5_spread 41 = .ok (.istore 4, 2) := by decide +kernel
theorem dX5_spread_43 : decode cX5_spread 43 = .ok (.iload 4, 2) := by decide +kernel
theorem dX5_spread_45 : decode cX5_spread 45 = .ok (.aload_n 0, 1) := by decide +kernel
theorem dX5_spread_46 : decode cX5_spread 46 = .ok (.getfield 157, 3) := by decide +kernel
theorem dX5_spread_49 : decode cX5_spread 49 = .ok (.if_icmp .ge 44, 3) := by decide +kernel
theorem dX5_spread_52 : decode cX5_spread 52 = .ok (.aload_n 0, 1) := by decide +kernel
theorem dX5_spread_53 : decode cX5_spread 53 = .ok (.iload_n 1, 1) := by decide +kernel
theorem dX5_spread_54 : decode cX5_spread 54 = .ok (.iload 4, 2) := by decide +kernel
theorem dX5_spread_56 : decode cX5_spread 56 = .ok (.invokevirtual 163, 3) := by decide +kernel
theorem dX5_spread_59 : decode cX5_spread 59 = .ok (.istore 5, 2) := by decide +kernel
theorem dX5_spread_61 : decode cX5_spread 61 = .ok (.iload 5, 2) := by decide +kernel
theorem dX5_spread_63 : decode cX5_spread 63 = .ok (.iload_n 2, 1) := by decide +kernel
theorem dX5_spread_64 : decode cX5_spread 64 = .ok (.if_icmp .ge 8, 3) := by decide +kernel
theorem dX5_spread_67 : decode cX5_spread 67 = .ok (.iload 5, 2) := by decide +kernel
theorem dX5_spread_69 : decode cX5_spread 69 = .ok (.goto 4, 3) := by decide +kernel
theorem dX5_spread_72 : decode cX5_spread 72 = .ok (.iload_n 2, 1) := by decide +kernel
theorem dX5_spread_73 : decode cX5_spread 73 = .ok (.istore_n 2, 1) := by decide +kernel
theorem dX5_spread_74 : decode cX5_spread 74 = .ok (.iload 5, 2) := by decide +kernel
theorem dX5_spread_76 : decode cX5_spread 76 = .ok (.iload_n 3, 1) := by decide +kernel
theorem dX5_spread_77 : decode cX5_spread 77 = .ok (.if_icmp .le 8, 3) := by decide +kernel
theorem dX5_spread_80 : decode cX5_spread 80 = .ok (.iload 5, 2) := by decide +kernel
theorem dX5_spread_82 : decode cX5_spread 82 = .ok (.goto 4, 3) := by decide +kernel
theorem dX5_spread_85 : decode cX5_spread 85 = .ok (.iload_n 3, 1) := by decide +kernel
theorem dX5_spread_86 : decode cX5_spread 86 = .ok (.istore_n 3, 1) := by decide +kernel
theorem dX5_spread_87 : decode cX5_spread 87 = .ok (.iinc 4 1, 3) := by decide +kernel
theorem dX5_spread_90 : decode cX5_spread 90 = .ok (.goto (-47), 3) := by decide +kernel
theorem dX5_spread_93 : decode cX5_spread 93 = .ok (.iload_n 3, 1) := by decide +kernel
theorem dX5_spread_94 : decode cX5_spread 94 = .ok (.iload_n 2, 1) := by decide +kernel
theorem dX5_spread_95 : decode cX5_spread 95 = .ok (.isub, 1) := by decide +kernel
theorem dX5_spread_96 : decode cX5_spread 96 = .ok (.ireturn, 1) := by decide +kernel
theorem dX5_waited_0 : decode cX5_waited 0 = .ok (.iload_n 1, 1) := by decide +kernel
theorem dX5_waited_1 : decode cX5_waited 1 = .ok (.invokestatic 102, 3) := by decide +kernel
theorem dX5_waited_4 : decode cX5_waited 4 = .ok (.ifCond .ne 5, 3) := by decide +kernel
theorem dX5_waited_7 : decode cX5_waited 7 = .ok (.iconst (-1), 1) := by decide +kernel
theorem dX5_waited_8 : decode cX5_waited 8 = .ok (.ireturn, 1) := by decide +kernel
theorem dX5_waited_9 : decode cX5_waited 9 = .ok (.iload_n 2, 1) := by decide +kernel
theorem dX5_waited_10 : decode cX5_waited 10 = .ok (.iconst 0, 1) := by decide +kernel
theorem dX5_waited_11 : decode cX5_waited 11 = .ok (.iconst 2, 1) := by decide +kernel
theorem dX5_waited_12 : decode cX5_waited 12 = .ok (.invokestatic 94, 3) := by decide +kernel
theorem dX5_waited_15 : decode cX5_waited 15 = .ok (.ifCond .ne 6, 3) := by decide +kernel
theorem dX5_waited_18 : decode cX5_waited 18 = .ok (.bipush (-2), 2) := by decide +kernel
theorem dX5_waited_20 : decode cX5_waited 20 = .ok (.ireturn, 1) := by decide +kernel
theorem dX5_waited_21 : decode cX5_waited 21 = .ok (.aload_n 0, 1) := by decide +kernel
theorem dX5_waited_22 : decode cX5_waited 22 = .ok (.bipush (-6), 2) := by decide +kernel
theorem dX5_waited_24 : decode cX5_waited 24 = .ok (.invokevirtual 140, 3) := by decide +kernel
theorem dX5_waited_27 : decode cX5_waited 27 = .ok (.iload_n 2, 1) := by decide +kernel
theorem dX5_waited_28 : decode cX5_waited 28 = .ok (.ifCond .ne 12, 3) := by decide +kernel
theorem dX5_waited_31 : decode cX5_waited 31 = .ok (.aload_n 0, 1) := by decide +kernel
theorem dX5_waited_32 : decode cX5_waited 32 = .ok (.getfield 73, 3) := by decide +kernel
theorem dX5_waited_35 : decode cX5_waited 35 = .ok (.iload_n 1, 1) := by decide +kernel
theorem dX5_waited_36 : decode cX5_waited 36 = .ok (.iaload, 1) := by decide +kernel
theorem dX5_waited_37 : decode cX5_waited 37 = .ok (.goto 23, 3) := by decide +kernel
theorem dX5_waited_40 : decode cX5_waited 40 = .ok (.iload_n 2, 1) := by decide +kernel
theorem dX5_waited_41 : decode cX5_waited 41 = .ok (.iconst 1, 1) := by decide +kernel
theorem dX5_waited_42 : decode cX5_waited 42 = .ok (.if_icmp .ne 12, 3) := by decide +kernel
theorem dX5_waited_45 : decode cX5_waited 45 = .ok (.aload_n 0, 1) := by decide +kernel
theorem dX5_waited_46 : decode cX5_waited 46 = .ok (.getfield 76, 3) := by decide +kernel
theorem dX5_waited_49 : decode cX5_waited 49 = .ok (.iload_n 1, 1) := by decide +kernel
theorem dX5_waited_50 : decode cX5_waited 50 = .ok (.iaload, 1) := by decide +kernel
theorem dX5_waited_51 : decode cX5_waited 51 = .ok (.goto 9, 3) := by decide +kernel
theorem dX5_waited_54 : decode cX5_waited 54 = .ok (.aload_n 0, 1) := by decide +kernel
theorem dX5_waited_55 : decode cX5_waited 55 = .ok (.getfield 79, 3) := by decide +kernel
theorem dX5_waited_58 : decode cX5_waited 58 = .ok (.iload_n 1, 1) := by decide +kernel
theorem dX5_waited_59 : decode cX5_waited 59 = .ok (.iaload, 1) := by decide +kernel
theorem dX5_waited_60 : decode cX5_waited 60 = .ok (.ireturn, 1) := by decide +kernel
theorem dX5_term_0 : decode cX5_term 0 = .ok (.lload_n 2, 1) := by decide +kernel
theorem dX5_term_1 : decode cX5_term 1 = .ok (.lconst 0, 1) := by decide +kernel
theorem dX5_term_2 : decode cX5_term 2 = .ok (.lcmp, 1) := by decide +kernel
theorem dX5_term_3 : decode cX5_term 3 = .ok (.ifCond .ne 7, 3) := by decide +kernel
theorem dX5_term_6 : decode cX5_term 6 = .ok (.iload 4, 2) := by decide +kernel
theorem dX5_term_8 : decode cX5_term 8 = .ok (.i2l, 1) := by decide +kernel
theorem dX5_term_9 : decode cX5_term 9 = .ok (.lreturn, 1) := by decide +kernel
theorem dX5_term_10 : decode cX5_term 10 = .ok (.lload_n 0, 1) := by decide +kernel
theorem dX5_term_11 : decode cX5_term 11 = .ok (.lstore 5, 2) := by decide +kernel
theorem dX5_term_13 : decode cX5_term 13 = .ok (.lload_n 2, 1) := by decide +kernel
theorem dX5_term_14 : decode cX5_term 14 = .ok (.lstore 7, 2) := by decide +kernel
theorem dX5_term_16 : decode cX5_term 16 = .ok (.lload 7, 2) := by decide +kernel
theorem dX5_term_18 : decode cX5_term 18 = .ok (.lconst 0, 1) := by decide +kernel
theorem dX5_term_19 : decode cX5_term 19 = .ok (.lcmp, 1) := by decide +kernel
theorem dX5_term_20 : decode cX5_term 20 = .ok (.ifCond .eq 21, 3) := by decide +kernel
theorem dX5_term_23 : decode cX5_term 23 = .ok (.lload 5, 2) := by decide +kernel
theorem dX5_term_25 : decode cX5_term 25 = .ok (.lload 7, 2) := by decide +kernel
theorem dX5_term_27 : decode cX5_term 27 = .ok (.lrem, 1) := by decide +kernel
theorem dX5_term_28 : decode cX5_term 28 = .ok (.lstore 9, 2) := by decide +kernel
theorem dX5_term_30 : decode cX5_term 30 = .ok (.lload 7, 2) := by decide +kernel
theorem dX5_term_32 : decode cX5_term 32 = .ok (.lstore 5, 2) := by decide +kernel
theorem dX5_term_34 : decode cX5_term 34 = .ok (.lload 9, 2) := by decide +kernel
theorem dX5_term_36 : decode cX5_term 36 = .ok (.lstore 7, 2) := by decide +kernel
theorem dX5_term_38 : decode cX5_term 38 = .ok (.goto (-22), 3) := by decide +kernel
theorem dX5_term_41 : decode cX5_term 41 = .ok (.iload 4, 2) := by decide +kernel
theorem dX5_term_43 : decode cX5_term 43 = .ok (.ifCond .ne 10, 3) := by decide +kernel
theorem dX5_term_46 : decode cX5_term 46 = .ok (.lload_n 0, 1) := by decide +kernel
theorem dX5_term_47 : decode cX5_term 47 = .ok (.lload 5, 2) := by decide +kernel
theorem dX5_term_49 : decode cX5_term 49 = .ok (.ldiv, 1) := by decide +kernel
theorem dX5_term_50 : decode cX5_term 50 = .ok (.goto 7, 3) := by decide +kernel
theorem dX5_term_53 : decode cX5_term 53 = .ok (.lload_n 2, 1) := by decide +kernel
theorem dX5_term_54 : decode cX5_term 54 = .ok (.lload 5, 2) := by decide +kernel
theorem dX5_term_56 : decode cX5_term 56 = .ok (.ldiv, 1) := by decide +kernel
theorem dX5_term_57 : decode cX5_term 57 = .ok (.lreturn, 1) := by decide +kernel
theorem dX5_mean_0 : decode cX5_mean 0 = .ok (.iload_n 1, 1) := by decide +kernel
theorem dX5_mean_1 : decode cX5_mean 1 = .ok (.invokestatic 102, 3) := by decide +kernel
theorem dX5_mean_4 : decode cX5_mean 4 = .ok (.ifCond .ne 7, 3) := by decide +kernel
theorem dX5_mean_7 : decode cX5_mean 7 = .ok (.ldc2_w 173, 3) := by decide +kernel
theorem dX5_mean_10 : decode cX5_mean 10 = .ok (.lreturn, 1) := by decide +kernel
theorem dX5_mean_11 : decode cX5_mean 11 = .ok (.iload_n 2, 1) := by decide +kernel
theorem dX5_mean_12 : decode cX5_mean 12 = .ok (.iconst 0, 1) := by decide +kernel
theorem dX5_mean_13 : decode cX5_mean 13 = .ok (.iconst 1, 1) := by decide +kernel
theorem dX5_mean_14 : decode cX5_mean 14 = .ok (.invokestatic 94, 3) := by decide +kernel
theorem dX5_mean_17 : decode cX5_mean 17 = .ok (.ifCond .eq 12, 3) := by decide +kernel
theorem dX5_mean_20 : decode cX5_mean 20 = .ok (.iload_n 3, 1) := by decide +kernel
theorem dX5_mean_21 : decode cX5_mean 21 = .ok (.iconst 0, 1) := by decide +kernel
theorem dX5_mean_22 : decode cX5_mean 22 = .ok (.iconst 1, 1) := by decide +kernel
theorem dX5_mean_23 : decode cX5_mean 23 = .ok (.invokestatic 94, 3) := by decide +kernel
theorem dX5_mean_26 : decode cX5_mean 26 = .ok (.ifCond .ne 7, 3) := by decide +kernel
theorem dX5_mean_29 : decode cX5_mean 29 = .ok (.ldc2_w 175, 3) := by decide +kernel
theorem dX5_mean_32 : decode cX5_mean 32 = .ok (.lreturn, 1) := by decide +kernel
theorem dX5_mean_33 : decode cX5_mean 33 = .ok (.aload_n 0, 1) := by decide +kernel
theorem dX5_mean_34 : decode cX5_mean 34 = .ok (.bipush (-6), 2) := by decide +kernel
theorem dX5_mean_36 : decode cX5_mean 36 = .ok (.invokevirtual 140, 3) := by decide +kernel
theorem dX5_mean_39 : decode cX5_mean 39 = .ok (.iload_n 2, 1) := by decide +kernel
theorem dX5_mean_40 : decode cX5_mean 40 = .ok (.ifCond .ne 22, 3) := by decide +kernel
theorem dX5_mean_43 : decode cX5_mean 43 = .ok (.aload_n 0, 1) := by decide +kernel
theorem dX5_mean_44 : decode cX5_mean 44 = .ok (.getfield 76, 3) := by decide +kernel
theorem dX5_mean_47 : decode cX5_mean 47 = .ok (.iload_n 1, 1) := by decide +kernel
theorem dX5_mean_48 : decode cX5_mean 48 = .ok (.iaload, 1) := by decide +kernel
theorem dX5_mean_49 : decode cX5_mean 49 = .ok (.i2l, 1) := by decide +kernel
theorem dX5_mean_50 : decode cX5_mean 50 = .ok (.aload_n 0, 1) := by decide +kernel
theorem dX5_mean_51 : decode cX5_mean 51 = .ok (.getfield 73, 3) := by decide +kernel
theorem dX5_mean_54 : decode cX5_mean 54 = .ok (.iload_n 1, 1) := by decide +kernel
theorem dX5_mean_55 : decode cX5_mean 55 = .ok (.iaload, 1) := by decide +kernel
theorem dX5_mean_56 : decode cX5_mean 56 = .ok (.i2l, 1) := by decide +kernel
theorem dX5_mean_57 : decode cX5_mean 57 = .ok (.iload_n 3, 1) := by decide +kernel
theorem dX5_mean_58 : decode cX5_mean 58 = .ok (.invokestatic 177, 3) := by decide +kernel
theorem dX5_mean_61 : decode cX5_mean 61 = .ok (.lreturn, 1) := by decide +kernel
theorem dX5_mean_62 : decode cX5_mean 62 = .ok (.aload_n 0, 1) := by decide +kernel
theorem dX5_mean_63 : decode cX5_mean 63 = .ok (.iload_n 1, 1) := by decide +kernel
theorem dX5_mean_64 : decode cX5_mean 64 = .ok (.invokevirtual 160, 3) := by decide +kernel
theorem dX5_mean_67 : decode cX5_mean 67 = .ok (.aload_n 0, 1) := by decide +kernel
theorem dX5_mean_68 : decode cX5_mean 68 = .ok (.getfield 157, 3) := by decide +kernel
theorem dX5_mean_71 : decode cX5_mean 71 = .ok (.iconst 2, 1) := by decide +kernel
theorem dX5_mean_72 : decode cX5_mean 72 = .ok (.if_icmp .ge 6, 3) := by decide +kernel
theorem dX5_mean_75 : decode cX5_mean 75 = .ok (.iload_n 3, 1) := by decide +kernel
theorem dX5_mean_76 : decode cX5_mean 76 = .ok (.i2l, 1) := by decide +kernel
theorem dX5_mean_77 : decode cX5_mean 77 = .ok (.lreturn, 1) := by decide +kernel
theorem dX5_mean_78 : decode cX5_mean 78 = .ok (.aload_n 0, 1) := by decide +kernel
theorem dX5_mean_79 : decode cX5_mean 79 = .ok (.getfield 52, 3) := by decide +kernel
theorem dX5_mean_82 : decode cX5_mean 82 = .ok (.bipush 10, 2) := by decide +kernel
theorem dX5_mean_84 : decode cX5_mean 84 = .ok (.aload_n 0, 1) := by decide +kernel
theorem dX5_mean_85 : decode cX5_mean 85 = .ok (.getfield 85, 3) := by decide +kernel
theorem dX5_mean_88 : decode cX5_mean 88 = .ok (.aload_n 0, 1) := by decide +kernel
theorem dX5_mean_89 : decode cX5_mean 89 = .ok (.getfield 157, 3) := by decide +kernel
theorem dX5_mean_92 : decode cX5_mean 92 = .ok (.iconst 1, 1) := by decide +kernel
theorem dX5_mean_93 : decode cX5_mean 93 = .ok (.isub, 1) := by decide +kernel
theorem dX5_mean_94 : decode cX5_mean 94 = .ok (.iaload, 1) := by decide +kernel
theorem dX5_mean_95 : decode cX5_mean 95 = .ok (.imul, 1) := by decide +kernel
theorem dX5_mean_96 : decode cX5_mean 96 = .ok (.iload_n 1, 1) := by decide +kernel
theorem dX5_mean_97 : decode cX5_mean 97 = .ok (.iadd, 1) := by decide +kernel
theorem dX5_mean_98 : decode cX5_mean 98 = .ok (.iaload, 1) := by decide +kernel
theorem dX5_mean_99 : decode cX5_mean 99 = .ok (.aload_n 0, 1) := by decide +kernel
theorem dX5_mean_100 : decode cX5_mean 100 = .ok (.getfield 52, 3) := by decide +kernel
theorem dX5_mean_103 : decode cX5_mean 103 = .ok (.bipush 10, 2) := by decide +kernel
theorem dX5_mean_105 : decode cX5_mean 105 = .ok (.aload_n 0, 1) := by decide +kernel
theorem dX5_mean_106 : decode cX5_mean 106 = .ok (.getfield 85, 3) := by decide +kernel
theorem dX5_mean_109 : decode cX5_mean 109 = .ok (.iconst 0, 1) := by decide +kernel
theorem dX5_mean_110 : decode cX5_mean 110 = .ok (.iaload, 1) := by decide +kernel
theorem dX5_mean_111 : decode cX5_mean 111 = .ok (.imul, 1) := by decide +kernel
theorem dX5_mean_112 : decode cX5_mean 112 = .ok (.iload_n 1, 1) := by decide +kernel
theorem dX5_mean_113 : decode cX5_mean 113 = .ok (.iadd, 1) := by decide +kernel
theorem dX5_mean_114 : decode cX5_mean 114 = .ok (.iaload, 1) := by decide +kernel
theorem dX5_mean_115 : decode cX5_mean 115 = .ok (.isub, 1) := by decide +kernel
theorem dX5_mean_116 : decode cX5_mean 116 = .ok (.i2l, 1) := by decide +kernel
theorem dX5_mean_117 : decode cX5_mean 117 = .ok (.lstore 4, 2) := by decide +kernel
theorem dX5_mean_119 : decode cX5_mean 119 = .ok (.lload 4, 2) := by decide +kernel
theorem dX5_mean_121 : decode cX5_mean 121 = .ok (.ldc2_w 181, 3) := by decide +kernel
theorem dX5_mean_124 : decode cX5_mean 124 = .ok (.aload_n 0, 1) := by decide +kernel
theorem dX5_mean_125 : decode cX5_mean 125 = .ok (.getfield 157, 3) := by decide +kernel
theorem dX5_mean_128 : decode cX5_mean 128 = .ok (.iconst 1, 1) := by decide +kernel
theorem dX5_mean_129 : decode cX5_mean 129 = .ok (.isub, 1) := by decide +kernel
theorem dX5_mean_130 : decode cX5_mean 130 = .ok (.i2l, 1) := by decide +kernel
theorem dX5_mean_131 : decode cX5_mean 131 = .ok (.lmul, 1) := by decide +kernel
theorem dX5_mean_132 : decode cX5_mean 132 = .ok (.iload_n 3, 1) := by decide +kernel
theorem dX5_mean_133 : decode cX5_mean 133 = .ok (.invokestatic 177, 3) := by decide +kernel
theorem dX5_mean_136 : decode cX5_mean 136 = .ok (.lreturn, 1) := by decide +kernel
theorem dX5_allWaited_0 : decode cX5_allWaited 0 = .ok (.iconst 0, 1) := by decide +kernel
theorem dX5_allWaited_1 : decode cX5_allWaited 1 = .ok (.istore_n 1, 1) := by decide +kernel
theorem dX5_allWaited_2 : decode cX5_allWaited 2 = .ok (.iconst 0, 1) := by decide +kernel
theorem dX5_allWaited_3 : decode cX5_allWaited 3 = .ok (.istore_n 2, 1) := by decide +kernel
theorem dX5_allWaited_4 : decode cX5_allWaited 4 = .ok (.iload_n 2, 1) := by decide +kernel
theorem dX5_allWaited_5 : decode cX5_allWaited 5 = .ok (.bipush 9, 2) := by decide +kernel
theorem dX5_allWaited_7 : decode cX5_allWaited 7 = .ok (.if_icmp .ge 18, 3) := by decide +kernel
theorem dX5_allWaited_10 : decode cX5_allWaited 10 = .ok (.iload_n 1, 1) := by decide +kernel
theorem dX5_allWaited_11 : decode cX5_allWaited 11 = .ok (.aload_n 0, 1) := by decide +kernel
theorem dX5_allWaited_12 : decode cX5_allWaited 12 = .ok (.getfield 76, 3) := by decide +kernel
theorem dX5_allWaited_15 : decode cX5_allWaited 15 = .ok (.iload_n 2, 1) := by decide +kernel
theorem dX5_allWaited_16 : decode cX5_allWaited 16 = .ok (.iaload, 1) := by decide +kernel
theorem dX5_allWaited_17 : decode cX5_allWaited 17 = .ok (.iadd, 1) := by decide +kernel
theorem dX5_allWaited_18 : decode cX5_allWaited 18 = .ok (.istore_n 1, 1) := by decide +kernel
theorem dX5_allWaited_19 : decode cX5_allWaited 19 = .ok (.iinc 2 1, 3) := by decide +kernel
theorem dX5_allWaited_22 : decode cX5_allWaited 22 = .ok (.goto (-18), 3) := by decide +kernel
theorem dX5_allWaited_25 : decode cX5_allWaited 25 = .ok (.iload_n 1, 1) := by decide +kernel
theorem dX5_allWaited_26 : decode cX5_allWaited 26 = .ok (.ireturn, 1) := by decide +kernel
theorem dX5_all_0 : decode cX5_all 0 = .ok (.iload_n 1, 1) := by decide +kernel
theorem dX5_all_1 : decode cX5_all 1 = .ok (.iconst 0, 1) := by decide +kernel
theorem dX5_all_2 : decode cX5_all 2 = .ok (.iconst 2, 1) := by decide +kernel
theorem dX5_all_3 : decode cX5_all 3 = .ok (.invokestatic 94, 3) := by decide +kernel
theorem dX5_all_6 : decode cX5_all 6 = .ok (.ifCond .ne 6, 3) := by decide +kernel
theorem dX5_all_9 : decode cX5_all 9 = .ok (.bipush (-2), 2) := by decide +kernel
theorem dX5_all_11 : decode cX5_all 11 = .ok (.ireturn, 1) := by decide +kernel
theorem dX5_all_12 : decode cX5_all 12 = .ok (.aload_n 0, 1) := by decide +kernel
theorem dX5_all_13 : decode cX5_all 13 = .ok (.bipush (-6), 2) := by decide +kernel
theorem dX5_all_15 : decode cX5_all 15 = .ok (.invokevirtual 140, 3) := by decide +kernel
theorem dX5_all_18 : decode cX5_all 18 = .ok (.iload_n 1, 1) := by decide +kernel
theorem dX5_all_19 : decode cX5_all 19 = .ok (.ifCond .ne 10, 3) := by decide +kernel
theorem dX5_all_22 : decode cX5_all 22 = .ok (.aload_n 0, 1) := by decide +kernel
theorem dX5_all_23 : decode cX5_all 23 = .ok (.invokevirtual 183, 3) := by decide +kernel
theorem dX5_all_26 : decode cX5_all 26 = .ok (.goto 19, 3) := by decide +kernel
theorem dX5_all_29 : decode cX5_all 29 = .ok (.iload_n 1, 1) := by decide +kernel
theorem dX5_all_30 : decode cX5_all 30 = .ok (.iconst 1, 1) := by decide +kernel
theorem dX5_all_31 : decode cX5_all 31 = .ok (.if_icmp .ne 10, 3) := by decide +kernel
theorem dX5_all_34 : decode cX5_all 34 = .ok (.aload_n 0, 1) := by decide +kernel
theorem dX5_all_35 : decode cX5_all 35 = .ok (.getfield 112, 3) := by decide +kernel
theorem dX5_all_38 : decode cX5_all 38 = .ok (.goto 7, 3) := by decide +kernel
theorem dX5_all_41 : decode cX5_all 41 = .ok (.aload_n 0, 1) := by decide +kernel
theorem dX5_all_42 : decode cX5_all 42 = .ok (.getfield 115, 3) := by decide +kernel
theorem dX5_all_45 : decode cX5_all 45 = .ok (.ireturn, 1) := by decide +kernel
theorem dX5_held_0 : decode cX5_held 0 = .ok (.aload_n 0, 1) := by decide +kernel
theorem dX5_held_1 : decode cX5_held 1 = .ok (.iload_n 1, 1) := by decide +kernel
theorem dX5_held_2 : decode cX5_held 2 = .ok (.invokevirtual 106, 3) := by decide +kernel
theorem dX5_held_5 : decode cX5_held 5 = .ok (.ifCond .eq 21, 3) := by decide +kernel
theorem dX5_held_8 : decode cX5_held 8 = .ok (.iload_n 2, 1) := by decide +kernel
theorem dX5_held_9 : decode cX5_held 9 = .ok (.invokestatic 102, 3) := by decide +kernel
theorem dX5_held_12 : decode cX5_held 12 = .ok (.ifCond .eq 14, 3) := by decide +kernel
theorem dX5_held_15 : decode cX5_held 15 = .ok (.iload_n 3, 1) := by decide +kernel
theorem dX5_held_16 : decode cX5_held 16 = .ok (.iconst 1, 1) := by decide +kernel
theorem dX5_held_17 : decode cX5_held 17 = .ok (.sipush 900, 3) := by decide +kernel
theorem dX5_held_20 : decode cX5_held 20 = .ok (.invokestatic 94, 3) := by decide +kernel
theorem dX5_held_23 : decode cX5_held 23 = .ok (.ifCond .ne 6, 3) := by decide +kernel
theorem dX5_held_26 : decode cX5_held 26 = .ok (.ldc 186, 2) := by decide +kernel
theorem dX5_held_28 : decode cX5_held 28 = .ok (.ireturn, 1) := by decide +kernel
theorem dX5_held_29 : decode cX5_held 29 = .ok (.aload_n 0, 1) := by decide +kernel
theorem dX5_held_30 : decode cX5_held 30 = .ok (.bipush (-6), 2) := by decide +kernel
theorem dX5_held_32 : decode cX5_held 32 = .ok (.invokevirtual 140, 3) := by decide +kernel
theorem dX5_held_35 : decode cX5_held 35 = .ok (.aload_n 0, 1) := by decide +kernel
theorem dX5_held_36 : decode cX5_held 36 = .ok (.getfield 49, 3) := by decide +kernel
theorem dX5_held_39 : decode cX5_held 39 = .ok (.bipush 10, 2) := by decide +kernel
theorem dX5_held_41 : decode cX5_held 41 = .ok (.iload_n 1, 1) := by decide +kernel
theorem dX5_held_42 : decode cX5_held 42 = .ok (.imul, 1) := by decide +kernel
theorem dX5_held_43 : decode cX5_held 43 = .ok (.iload_n 2, 1) := by decide +kernel
theorem dX5_held_44 : decode cX5_held 44 = .ok (.iadd, 1) := by decide +kernel
theorem dX5_held_45 : decode cX5_held 45 = .ok (.iaload, 1) := by decide +kernel
theorem dX5_held_46 : decode cX5_held 46 = .ok (.ifCond .ge 6, 3) := by decide +kernel
theorem dX5_held_49 : decode cX5_held 49 = .ok (.ldc 186, 2) := by decide +kernel
theorem dX5_held_51 : decode cX5_held 51 = .ok (.ireturn, 1) := by decide +kernel
theorem dX5_held_52 : decode cX5_held 52 = .ok (.aload_n 0, 1) := by decide +kernel
theorem dX5_held_53 : decode cX5_held 53 = .ok (.invokevirtual 183, 3) := by decide +kernel
theorem dX5_held_56 : decode cX5_held 56 = .ok (.aload_n 0, 1) := by decide +kernel
theorem dX5_held_57 : decode cX5_held 57 = .ok (.getfield 112, 3) := by decide +kernel
theorem dX5_held_60 : decode cX5_held 60 = .ok (.iadd, 1) := by decide +kernel
theorem dX5_held_61 : decode cX5_held 61 = .ok (.istore 4, 2) := by decide +kernel
theorem dX5_held_63 : decode cX5_held 63 = .ok (.aload_n 0, 1) := by decide +kernel
theorem dX5_held_64 : decode cX5_held 64 = .ok (.getfield 31, 3) := by decide +kernel
theorem dX5_held_67 : decode cX5_held 67 = .ok (.aload_n 0, 1) := by decide +kernel
theorem dX5_held_68 : decode cX5_held 68 = .ok (.getfield 109, 3) := by decide +kernel
theorem dX5_held_71 : decode cX5_held 71 = .ok (.iload_n 1, 1) := by decide +kernel
theorem dX5_held_72 : decode cX5_held 72 = .ok (.iastore, 1) := by decide +kernel
theorem dX5_held_73 : decode cX5_held 73 = .ok (.aload_n 0, 1) := by decide +kernel
theorem dX5_held_74 : decode cX5_held 74 = .ok (.getfield 34, 3) := by decide +kernel
theorem dX5_held_77 : decode cX5_held 77 = .ok (.aload_n 0, 1) := by decide +kernel
theorem dX5_held_78 : decode cX5_held 78 = .ok (.getfield 109, 3) := by decide +kernel
theorem dX5_held_81 : decode cX5_held 81 = .ok (.iload_n 2, 1) := by decide +kernel
theorem dX5_held_82 : decode cX5_held 82 = .ok (.iastore, 1) := by decide +kernel
theorem dX5_held_83 : decode cX5_held 83 = .ok (.aload_n 0, 1) := by decide +kernel
theorem dX5_held_84 : decode cX5_held 84 = .ok (.getfield 37, 3) := by decide +kernel
theorem dX5_held_87 : decode cX5_held 87 = .ok (.aload_n 0, 1) := by decide +kernel
theorem dX5_held_88 : decode cX5_held 88 = .ok (.getfield 109, 3) := by decide +kernel
theorem dX5_held_91 : decode cX5_held 91 = .ok (.iload_n 3, 1) := by decide +kernel
theorem dX5_held_92 : decode cX5_held 92 = .ok (.iastore, 1) := by decide +kernel
theorem dX5_held_93 : decode cX5_held 93 = .ok (.aload_n 0, 1) := by decide +kernel
theorem dX5_held_94 : decode cX5_held 94 = .ok (.dup, 1) := by decide +kernel
theorem dX5_held_95 : decode cX5_held 95 = .ok (.getfield 109, 3) := by decide +kernel
theorem dX5_held_98 : decode cX5_held 98 = .ok (.iconst 1, 1) := by decide +kernel
theorem dX5_held_99 : decode cX5_held 99 = .ok (.iadd, 1) := by decide +kernel
theorem dX5_held_100 : decode cX5_held 100 = .ok (.putfield 109, 3) := by decide +kernel
theorem dX5_held_103 : decode cX5_held 103 = .ok (.aload_n 0, 1) := by decide +kernel
theorem dX5_held_104 : decode cX5_held 104 = .ok (.bipush (-6), 2) := by decide +kernel
theorem dX5_held_106 : decode cX5_held 106 = .ok (.invokevirtual 140, 3) := by decide +kernel
theorem dX5_held_109 : decode cX5_held 109 = .ok (.aload_n 0, 1) := by decide +kernel
theorem dX5_held_110 : decode cX5_held 110 = .ok (.dup, 1) := by decide +kernel
theorem dX5_held_111 : decode cX5_held 111 = .ok (.getfield 109, 3) := by decide +kernel
theorem dX5_held_114 : decode cX5_held 114 = .ok (.iconst 1, 1) := by decide +kernel
theorem dX5_held_115 : decode cX5_held 115 = .ok (.isub, 1) := by decide +kernel
theorem dX5_held_116 : decode cX5_held 116 = .ok (.putfield 109, 3) := by decide +kernel
theorem dX5_held_119 : decode cX5_held 119 = .ok (.aload_n 0, 1) := by decide +kernel
theorem dX5_held_120 : decode cX5_held 120 = .ok (.invokevirtual 183, 3) := by decide +kernel
theorem dX5_held_123 : decode cX5_held 123 = .ok (.aload_n 0, 1) := by decide +kernel
theorem dX5_held_124 : decode cX5_held 124 = .ok (.getfield 112, 3) := by decide +kernel
theorem dX5_held_127 : decode cX5_held 127 = .ok (.iadd, 1) := by decide +kernel
theorem dX5_held_128 : decode cX5_held 128 = .ok (.iload 4, 2) := by decide +kernel
theorem dX5_held_130 : decode cX5_held 130 = .ok (.isub, 1) := by decide +kernel
theorem dX5_held_131 : decode cX5_held 131 = .ok (.ireturn, 1) := by decide +kernel
theorem dX5_board_0 : decode cX5_board 0 = .ok (.iload_n 1, 1) := by decide +kernel
theorem dX5_board_1 : decode cX5_board 1 = .ok (.iconst 1, 1) := by decide +kernel
theorem dX5_board_2 : decode cX5_board 2 = .ok (.bipush 9, 2) := by decide +kernel
theorem dX5_board_4 : decode cX5_board 4 = .ok (.invokestatic 94, 3) := by decide +kernel
theorem dX5_board_7 : decode cX5_board 7 = .ok (.ifCond .ne 5, 3) := by decide +kernel
theorem dX5_board_10 : decode cX5_board 10 = .ok (.iconst (-1), 1) := by decide +kernel
theorem dX5_board_11 : decode cX5_board 11 = .ok (.ireturn, 1) := by decide +kernel
theorem dX5_board_12 : decode cX5_board 12 = .ok (.iload_n 2, 1) := by decide +kernel
theorem dX5_board_13 : decode cX5_board 13 = .ok (.iconst 0, 1) := by decide +kernel
theorem dX5_board_14 : decode cX5_board 14 = .ok (.sipush 20000, 3) := by decide +kernel
theorem dX5_board_17 : decode cX5_board 17 = .ok (.invokestatic 94, 3) := by decide +kernel
theorem dX5_board_20 : decode cX5_board 20 = .ok (.ifCond .eq 12, 3) := by decide +kernel
theorem dX5_board_23 : decode cX5_board 23 = .ok (.iload_n 3, 1) := by decide +kernel
theorem dX5_board_24 : decode cX5_board 24 = .ok (.iconst 0, 1) := by decide +kernel
theorem dX5_board_25 : decode cX5_board 25 = .ok (.iconst 2, 1) := by decide +kernel
theorem dX5_board_26 : decode cX5_board 26 = .ok (.invokestatic 94, 3) := by decide +kernel
theorem dX5_board_29 : decode cX5_board 29 = .ok (.ifCond .ne 6, 3) := by decide +kernel
theorem dX5_board_32 : decode cX5_board 32 = .ok (.bipush (-2), 2) := by decide +kernel
theorem dX5_board_34 : decode cX5_board 34 = .ok (.ireturn, 1) := by decide +kernel
theorem dX5_board_35 : decode cX5_board 35 = .ok (.aload_n 0, 1) := by decide +kernel
theorem dX5_board_36 : decode cX5_board 36 = .ok (.bipush (-6), 2) := by decide +kernel
theorem dX5_board_38 : decode cX5_board 38 = .ok (.invokevirtual 140, 3) := by decide +kernel
theorem dX5_board_41 : decode cX5_board 41 = .ok (.bipush (-6), 2) := by decide +kernel
theorem dX5_board_43 : decode cX5_board 43 = .ok (.istore 4, 2) := by decide +kernel
theorem dX5_board_45 : decode cX5_board 45 = .ok (.iconst 0, 1) := by decide +kernel
theorem dX5_board_46 : decode cX5_board 46 = .ok (.istore 5, 2) := by decide +kernel
theorem dX5_board_48 : decode cX5_board 48 = .ok (.iconst 0, 1) := by decide +kernel
theorem dX5_board_49 : decode cX5_board 49 = .ok (.istore 6, 2) := by decide +kernel
theorem dX5_board_51 : decode cX5_board 51 = .ok (.iload 6, 2) := by decide +kernel
theorem dX5_board_53 : decode cX5_board 53 = .ok (.aload_n 0, 1) := by decide +kernel
theorem dX5_board_54 : decode cX5_board 54 = .ok (.getfield 98, 3) := by decide +kernel
theorem dX5_board_57 : decode cX5_board 57 = .ok (.if_icmp .ge 101, 3) := by decide +kernel
theorem dX5_board_60 : decode cX5_board 60 = .ok (.iconst 0, 1) := by decide +kernel
theorem dX5_board_61 : decode cX5_board 61 = .ok (.istore 7, 2) := by decide +kernel
theorem dX5_board_63 : decode cX5_board 63 = .ok (.iconst 0, 1) := by decide +kernel
theorem dX5_board_64 : decode cX5_board 64 = .ok (.istore 8, 2) := by decide +kernel
theorem dX5_board_66 : decode cX5_board 66 = .ok (.iload 8, 2) := by decide +kernel
theorem dX5_board_68 : decode cX5_board 68 = .ok (.iload_n 1, 1) := by decide +kernel
theorem dX5_board_69 : decode cX5_board 69 = .ok (.if_icmp .ge 52, 3) := by decide +kernel
theorem dX5_board_72 : decode cX5_board 72 = .ok (.iload 7, 2) := by decide +kernel
theorem dX5_board_74 : decode cX5_board 74 = .ok (.aload_n 0, 1) := by decide +kernel
theorem dX5_board_75 : decode cX5_board 75 = .ok (.getfield 52, 3) := by decide +kernel
theorem dX5_board_78 : decode cX5_board 78 = .ok (.bipush 10, 2) := by decide +kernel
theorem dX5_board_80 : decode cX5_board 80 = .ok (.iload 6, 2) := by decide +kernel
theorem dX5_board_82 : decode cX5_board 82 = .ok (.imul, 1) := by decide +kernel
theorem dX5_board_83 : decode cX5_board 83 = .ok (.iload 8, 2) := by decide +kernel
theorem dX5_board_85 : decode cX5_board 85 = .ok (.iadd, 1) := by decide +kernel
theorem dX5_board_86 : decode cX5_board 86 = .ok (.iaload, 1) := by decide +kernel
theorem dX5_board_87 : decode cX5_board 87 = .ok (.ifCond .lt 24, 3) := by decide +kernel
theorem dX5_board_90 : decode cX5_board 90 = .ok (.aload_n 0, 1) := by decide +kernel
theorem dX5_board_91 : decode cX5_board 91 = .ok (.getfield 52, 3) := by decide +kernel
theorem dX5_board_94 : decode cX5_board 94 = .ok (.bipush 10, 2) := by decide +kernel
theorem dX5_board_96 : decode cX5_board 96 = .ok (.iload 6, 2) := by decide +kernel
theorem dX5_board_98 : decode cX5_board 98 = .ok (.imul, 1) := by decide +kernel
theorem dX5_board_99 : decode cX5_board 99 = .ok (.iload 8, 2) := by decide +kernel
theorem dX5_board_101 : decode cX5_board 101 = .ok (.iadd, 1) := by decide +kernel
theorem dX5_board_102 : decode cX5_board 102 = .ok (.iaload, 1) := by decide +kernel
theorem dX5_board_103 : decode cX5_board 103 = .ok (.iload_n 2, 1) := by decide +kernel
theorem dX5_board_104 : decode cX5_board 104 = .ok (.if_icmp .gt 7, 3) := by decide +kernel
theorem dX5_board_107 : decode cX5_board 107 = .ok (.iconst 1, 1) := by decide +kernel
theorem dX5_board_108 : decode cX5_board 108 = .ok (.goto 4, 3) := by decide +kernel
theorem dX5_board_111 : decode cX5_board 111 = .ok (.iconst 0, 1) := by decide +kernel
theorem dX5_board_112 : decode cX5_board 112 = .ok (.iadd, 1) := by decide +kernel
theorem dX5_board_113 : decode cX5_board 113 = .ok (.istore 7, 2) := by decide +kernel
theorem dX5_board_115 : decode cX5_board 115 = .ok (.iinc 8 1, 3) := by decide +kernel
theorem dX5_board_118 : decode cX5_board 118 = .ok (.goto (-52), 3) := by decide +kernel
theorem dX5_board_121 : decode cX5_board 121 = .ok (.aload_n 0, 1) := by decide +kernel
theorem dX5_board_122 : decode cX5_board 122 = .ok (.getfield 49, 3) := by decide +kernel
theorem dX5_board_125 : decode cX5_board 125 = .ok (.bipush 10, 2) := by decide +kernel
theorem dX5_board_127 : decode cX5_board 127 = .ok (.iload 6, 2) := by decide +kernel
theorem dX5_board_129 : decode cX5_board 129 = .ok (.imul, 1) := by decide +kernel
theorem dX5_board_130 : decode cX5_board 130 = .ok (.iload_n 1, 1) := by decide +kernel
theorem dX5_board_131 : decode cX5_board 131 = .ok (.iadd, 1) := by decide +kernel
theorem dX5_board_132 : decode cX5_board 132 = .ok (.iaload, 1) := by decide +kernel
theorem dX5_board_133 : decode cX5_board 133 = .ok (.iload_n 2, 1) := by decide +kernel
theorem dX5_board_134 : decode cX5_board 134 = .ok (.if_icmp .le 18, 3) := by decide +kernel
theorem dX5_board_137 : decode cX5_board 137 = .ok (.iload 7, 2) := by decide +kernel
theorem dX5_board_139 : decode cX5_board 139 = .ok (.iload 5, 2) := by decide +kernel
theorem dX5_board_141 : decode cX5_board 141 = .ok (.if_icmp .le 11, 3) := by decide +kernel
theorem dX5_board_144 : decode cX5_board 144 = .ok (.iload 6, 2) := by decide +kernel
theorem dX5_board_146 : decode cX5_board 146 = .ok (.istore 4, 2) := by decide +kernel
theorem dX5_board_148 : decode cX5_board 148 = .ok (.iload 7, 2) := by decide +kernel
theorem dX5_board_150 : decode cX5_board 150 = .ok (.istore 5, 2) := by decide +kernel
theorem dX5_board_152 : decode cX5_board 152 = .ok (.iinc 6 1, 3) := by decide +kernel
theorem dX5_board_155 : decode cX5_board 155 = .ok (.goto (-104), 3) := by decide +kernel
theorem dX5_board_158 : decode cX5_board 158 = .ok (.iload 4, 2) := by decide +kernel
theorem dX5_board_160 : decode cX5_board 160 = .ok (.ifCond .ge 16, 3) := by decide +kernel
theorem dX5_board_163 : decode cX5_board 163 = .ok (.iload_n 3, 1) := by decide +kernel
theorem dX5_board_164 : decode cX5_board 164 = .ok (.iconst 2, 1) := by decide +kernel
theorem dX5_board_165 : decode cX5_board 165 = .ok (.if_icmp .ne 8, 3) := by decide +kernel
theorem dX5_board_168 : decode cX5_board 168 = .ok (.ldc 186, 2) := by decide +kernel
theorem dX5_board_170 : decode cX5_board 170 = .ok (.goto 5, 3) := by decide +kernel
theorem dX5_board_173 : decode cX5_board 173 = .ok (.bipush (-6), 2) := by decide +kernel
theorem dX5_board_175 : decode cX5_board 175 = .ok (.ireturn, 1) := by decide +kernel
theorem dX5_board_176 : decode cX5_board 176 = .ok (.aload_n 0, 1) := by decide +kernel
theorem dX5_board_177 : decode cX5_board 177 = .ok (.getfield 52, 3) := by decide +kernel
theorem dX5_board_180 : decode cX5_board 180 = .ok (.bipush 10, 2) := by decide +kernel
theorem dX5_board_182 : decode cX5_board 182 = .ok (.iload 4, 2) := by decide +kernel
theorem dX5_board_184 : decode cX5_board 184 = .ok (.imul, 1) := by decide +kernel
theorem dX5_board_185 : decode cX5_board 185 = .ok (.iload 5, 2) := by decide +kernel
theorem dX5_board_187 : decode cX5_board 187 = .ok (.iadd, 1) := by decide +kernel
theorem dX5_board_188 : decode cX5_board 188 = .ok (.iconst 1, 1) := by decide +kernel
theorem dX5_board_189 : decode cX5_board 189 = .ok (.isub, 1) := by decide +kernel
theorem dX5_board_190 : decode cX5_board 190 = .ok (.iaload, 1) := by decide +kernel
theorem dX5_board_191 : decode cX5_board 191 = .ok (.iload_n 2, 1) := by decide +kernel
theorem dX5_board_192 : decode cX5_board 192 = .ok (.isub, 1) := by decide +kernel
theorem dX5_board_193 : decode cX5_board 193 = .ok (.istore 6, 2) := by decide +kernel
theorem dX5_board_195 : decode cX5_board 195 = .ok (.iload 5, 2) := by decide +kernel
theorem dX5_board_197 : decode cX5_board 197 = .ok (.iconst 1, 1) := by decide +kernel
theorem dX5_board_198 : decode cX5_board 198 = .ok (.isub, 1) := by decide +kernel
theorem dX5_board_199 : decode cX5_board 199 = .ok (.istore 7, 2) := by decide +kernel
theorem dX5_board_201 : decode cX5_board 201 = .ok (.iload 7, 2) := by decide +kernel
theorem dX5_board_203 : decode cX5_board 203 = .ok (.iload_n 1, 1) := by decide +kernel
theorem dX5_board_204 : decode cX5_board 204 = .ok (.if_icmp .ge 21, 3) := by decide +kernel
theorem dX5_board_207 : decode cX5_board 207 = .ok (.iload 6, 2) := by decide +kernel
theorem dX5_board_209 : decode cX5_board 209 = .ok (.aload_n 0, 1) := by decide +kernel
theorem dX5_board_210 : decode cX5_board 210 = .ok (.getfield 7, 3) := by decide +kernel
theorem dX5_board_213 : decode cX5_board 213 = .ok (.iload 7, 2) := by decide +kernel
theorem dX5_board_215 : decode cX5_board 215 = .ok (.iaload, 1) := by decide +kernel
theorem dX5_board_216 : decode cX5_board 216 = .ok (.iadd, 1) := by decide +kernel
theorem dX5_board_217 : decode cX5_board 217 = .ok (.istore 6, 2) := by decide +kernel
theorem dX5_board_219 : decode cX5_board 219 = .ok (.iinc 7 1, 3) := by decide +kernel
theorem dX5_board_222 : decode cX5_board 222 = .ok (.goto (-21), 3) := by decide +kernel
theorem dX5_board_225 : decode cX5_board 225 = .ok (.iload 6, 2) := by decide +kernel
theorem dX5_board_227 : decode cX5_board 227 = .ok (.ifCond .ge 7, 3) := by decide +kernel
theorem dX5_board_230 : decode cX5_board 230 = .ok (.iconst 0, 1) := by decide +kernel
theorem dX5_board_231 : decode cX5_board 231 = .ok (.goto 5, 3) := by decide +kernel
theorem dX5_board_234 : decode cX5_board 234 = .ok (.iload 6, 2) := by decide +kernel
theorem dX5_board_236 : decode cX5_board 236 = .ok (.istore 6, 2) := by decide +kernel
theorem dX5_board_238 : decode cX5_board 238 = .ok (.iload_n 3, 1) := by decide +kernel
theorem dX5_board_239 : decode cX5_board 239 = .ok (.ifCond .ne 8, 3) := by decide +kernel
theorem dX5_board_242 : decode cX5_board 242 = .ok (.iload 6, 2) := by decide +kernel
theorem dX5_board_244 : decode cX5_board 244 = .ok (.goto 30, 3) := by decide +kernel
theorem dX5_board_247 : decode cX5_board 247 = .ok (.iload_n 3, 1) := by decide +kernel
theorem dX5_board_248 : decode cX5_board 248 = .ok (.iconst 1, 1) := by decide +kernel
theorem dX5_board_249 : decode cX5_board 249 = .ok (.if_icmp .ne 8, 3) := by decide +kernel
theorem dX5_board_252 : decode cX5_board 252 = .ok (.iload 4, 2) := by decide +kernel
end
section
theorem dX5_board_254 : decode cX5_board 254 = .ok (.goto 20, 3) := by decide +kernel
theorem dX5_board_257 : decode cX5_board 257 = .ok (.aload_n 0, 1) := by decide +kernel
theorem dX5_board_258 : decode cX5_board 258 = .ok (.getfield 49, 3) := by decide +kernel
theorem dX5_board_261 : decode cX5_board 261 = .ok (.bipush 10, 2) := by decide +kernel
theorem dX5_board_263 : decode cX5_board 263 = .ok (.iload 4, 2) := by decide +kernel
theorem dX5_board_265 : decode cX5_board 265 = .ok (.imul, 1) := by decide +kernel
theorem dX5_board_266 : decode cX5_board 266 = .ok (.iload_n 1, 1) := by decide +kernel
theorem dX5_board_267 : decode cX5_board 267 = .ok (.iadd, 1) := by decide +kernel
theorem dX5_board_268 : decode cX5_board 268 = .ok (.iaload, 1) := by decide +kernel
theorem dX5_board_269 : decode cX5_board 269 = .ok (.iload_n 2, 1) := by decide +kernel
theorem dX5_board_270 : decode cX5_board 270 = .ok (.isub, 1) := by decide +kernel
theorem dX5_board_271 : decode cX5_board 271 = .ok (.iload 6, 2) := by decide +kernel
theorem dX5_board_273 : decode cX5_board 273 = .ok (.isub, 1) := by decide +kernel
theorem dX5_board_274 : decode cX5_board 274 = .ok (.ireturn, 1) := by decide +kernel
theorem dX5_best_0 : decode cX5_best 0 = .ok (.iload_n 1, 1) := by decide +kernel
theorem dX5_best_1 : decode cX5_best 1 = .ok (.iconst 0, 1) := by decide +kernel
theorem dX5_best_2 : decode cX5_best 2 = .ok (.iconst 1, 1) := by decide +kernel
theorem dX5_best_3 : decode cX5_best 3 = .ok (.invokestatic 94, 3) := by decide +kernel
theorem dX5_best_6 : decode cX5_best 6 = .ok (.ifCond .ne 6, 3) := by decide +kernel
theorem dX5_best_9 : decode cX5_best 9 = .ok (.bipush (-2), 2) := by decide +kernel
theorem dX5_best_11 : decode cX5_best 11 = .ok (.ireturn, 1) := by decide +kernel
theorem dX5_best_12 : decode cX5_best 12 = .ok (.aload_n 0, 1) := by decide +kernel
theorem dX5_best_13 : decode cX5_best 13 = .ok (.getfield 98, 3) := by decide +kernel
theorem dX5_best_16 : decode cX5_best 16 = .ok (.ifCond .ne 6, 3) := by decide +kernel
theorem dX5_best_19 : decode cX5_best 19 = .ok (.bipush (-3), 2) := by decide +kernel
theorem dX5_best_21 : decode cX5_best 21 = .ok (.ireturn, 1) := by decide +kernel
theorem dX5_best_22 : decode cX5_best 22 = .ok (.iconst 0, 1) := by decide +kernel
theorem dX5_best_23 : decode cX5_best 23 = .ok (.istore_n 2, 1) := by decide +kernel
theorem dX5_best_24 : decode cX5_best 24 = .ok (.iload_n 2, 1) := by decide +kernel
theorem dX5_best_25 : decode cX5_best 25 = .ok (.bipush 10, 2) := by decide +kernel
theorem dX5_best_27 : decode cX5_best 27 = .ok (.if_icmp .ge 40, 3) := by decide +kernel
theorem dX5_best_30 : decode cX5_best 30 = .ok (.aload_n 0, 1) := by decide +kernel
theorem dX5_best_31 : decode cX5_best 31 = .ok (.getfield 88, 3) := by decide +kernel
theorem dX5_best_34 : decode cX5_best 34 = .ok (.iload_n 2, 1) := by decide +kernel
theorem dX5_best_35 : decode cX5_best 35 = .ok (.aload_n 0, 1) := by decide +kernel
theorem dX5_best_36 : decode cX5_best 36 = .ok (.getfield 43, 3) := by decide +kernel
theorem dX5_best_39 : decode cX5_best 39 = .ok (.iload_n 2, 1) := by decide +kernel
theorem dX5_best_40 : decode cX5_best 40 = .ok (.iaload, 1) := by decide +kernel
theorem dX5_best_41 : decode cX5_best 41 = .ok (.iastore, 1) := by decide +kernel
theorem dX5_best_42 : decode cX5_best 42 = .ok (.aload_n 0, 1) := by decide +kernel
theorem dX5_best_43 : decode cX5_best 43 = .ok (.getfield 91, 3) := by decide +kernel
theorem dX5_best_46 : decode cX5_best 46 = .ok (.iload_n 2, 1) := by decide +kernel
theorem dX5_best_47 : decode cX5_best 47 = .ok (.aload_n 0, 1) := by decide +kernel
theorem dX5_best_48 : decode cX5_best 48 = .ok (.getfield 46, 3) := by decide +kernel
theorem dX5_best_51 : decode cX5_best 51 = .ok (.iload_n 2, 1) := by decide +kernel
theorem dX5_best_52 : decode cX5_best 52 = .ok (.iaload, 1) := by decide +kernel
theorem dX5_best_53 : decode cX5_best 53 = .ok (.iastore, 1) := by decide +kernel
theorem dX5_best_54 : decode cX5_best 54 = .ok (.aload_n 0, 1) := by decide +kernel
theorem dX5_best_55 : decode cX5_best 55 = .ok (.getfield 43, 3) := by decide +kernel
theorem dX5_best_58 : decode cX5_best 58 = .ok (.iload_n 2, 1) := by decide +kernel
theorem dX5_best_59 : decode cX5_best 59 = .ok (.iconst 0, 1) := by decide +kernel
theorem dX5_best_60 : decode cX5_best 60 = .ok (.iastore, 1) := by decide +kernel
theorem dX5_best_61 : decode cX5_best 61 = .ok (.iinc 2 1, 3) := by decide +kernel
theorem dX5_best_64 : decode cX5_best 64 = .ok (.goto (-40), 3) := by decide +kernel
theorem dX5_best_67 : decode cX5_best 67 = .ok (.bipush (-6), 2) := by decide +kernel
theorem dX5_best_69 : decode cX5_best 69 = .ok (.istore_n 2, 1) := by decide +kernel
theorem dX5_best_70 : decode cX5_best 70 = .ok (.iconst 0, 1) := by decide +kernel
theorem dX5_best_71 : decode cX5_best 71 = .ok (.istore_n 3, 1) := by decide +kernel
theorem dX5_best_72 : decode cX5_best 72 = .ok (.iconst 0, 1) := by decide +kernel
theorem dX5_best_73 : decode cX5_best 73 = .ok (.istore 4, 2) := by decide +kernel
theorem dX5_best_75 : decode cX5_best 75 = .ok (.iload 4, 2) := by decide +kernel
theorem dX5_best_77 : decode cX5_best 77 = .ok (.bipush 9, 2) := by decide +kernel
theorem dX5_best_79 : decode cX5_best 79 = .ok (.if_icmp .ge 100, 3) := by decide +kernel
theorem dX5_best_82 : decode cX5_best 82 = .ok (.iconst 0, 1) := by decide +kernel
theorem dX5_best_83 : decode cX5_best 83 = .ok (.istore 5, 2) := by decide +kernel
theorem dX5_best_85 : decode cX5_best 85 = .ok (.iload 5, 2) := by decide +kernel
theorem dX5_best_87 : decode cX5_best 87 = .ok (.sipush 600, 3) := by decide +kernel
theorem dX5_best_90 : decode cX5_best 90 = .ok (.if_icmp .gt 75, 3) := by decide +kernel
theorem dX5_best_93 : decode cX5_best 93 = .ok (.aload_n 0, 1) := by decide +kernel
theorem dX5_best_94 : decode cX5_best 94 = .ok (.getfield 43, 3) := by decide +kernel
theorem dX5_best_97 : decode cX5_best 97 = .ok (.iload 4, 2) := by decide +kernel
theorem dX5_best_99 : decode cX5_best 99 = .ok (.iconst 2, 1) := by decide +kernel
theorem dX5_best_100 : decode cX5_best 100 = .ok (.iastore, 1) := by decide +kernel
theorem dX5_best_101 : decode cX5_best 101 = .ok (.aload_n 0, 1) := by decide +kernel
theorem dX5_best_102 : decode cX5_best 102 = .ok (.getfield 46, 3) := by decide +kernel
theorem dX5_best_105 : decode cX5_best 105 = .ok (.iload 4, 2) := by decide +kernel
theorem dX5_best_107 : decode cX5_best 107 = .ok (.iload 5, 2) := by decide +kernel
theorem dX5_best_109 : decode cX5_best 109 = .ok (.iastore, 1) := by decide +kernel
theorem dX5_best_110 : decode cX5_best 110 = .ok (.aload_n 0, 1) := by decide +kernel
theorem dX5_best_111 : decode cX5_best 111 = .ok (.bipush (-6), 2) := by decide +kernel
theorem dX5_best_113 : decode cX5_best 113 = .ok (.invokevirtual 140, 3) := by decide +kernel
theorem dX5_best_116 : decode cX5_best 116 = .ok (.aload_n 0, 1) := by decide +kernel
theorem dX5_best_117 : decode cX5_best 117 = .ok (.invokevirtual 183, 3) := by decide +kernel
theorem dX5_best_120 : decode cX5_best 120 = .ok (.aload_n 0, 1) := by decide +kernel
theorem dX5_best_121 : decode cX5_best 121 = .ok (.getfield 112, 3) := by decide +kernel
theorem dX5_best_124 : decode cX5_best 124 = .ok (.iadd, 1) := by decide +kernel
theorem dX5_best_125 : decode cX5_best 125 = .ok (.sipush 1000, 3) := by decide +kernel
theorem dX5_best_128 : decode cX5_best 128 = .ok (.aload_n 0, 1) := by decide +kernel
theorem dX5_best_129 : decode cX5_best 129 = .ok (.getfield 115, 3) := by decide +kernel
theorem dX5_best_132 : decode cX5_best 132 = .ok (.imul, 1) := by decide +kernel
theorem dX5_best_133 : decode cX5_best 133 = .ok (.iadd, 1) := by decide +kernel
theorem dX5_best_134 : decode cX5_best 134 = .ok (.istore 6, 2) := by decide +kernel
theorem dX5_best_136 : decode cX5_best 136 = .ok (.iload_n 2, 1) := by decide +kernel
theorem dX5_best_137 : decode cX5_best 137 = .ok (.ifCond .lt 9, 3) := by decide +kernel
theorem dX5_best_140 : decode cX5_best 140 = .ok (.iload 6, 2) := by decide +kernel
theorem dX5_best_142 : decode cX5_best 142 = .ok (.iload_n 3, 1) := by decide +kernel
theorem dX5_best_143 : decode cX5_best 143 = .ok (.if_icmp .ge 16, 3) := by decide +kernel
theorem dX5_best_146 : decode cX5_best 146 = .ok (.sipush 1000, 3) := by decide +kernel
theorem dX5_best_149 : decode cX5_best 149 = .ok (.iload 4, 2) := by decide +kernel
theorem dX5_best_151 : decode cX5_best 151 = .ok (.imul, 1) := by decide +kernel
theorem dX5_best_152 : decode cX5_best 152 = .ok (.iload 5, 2) := by decide +kernel
theorem dX5_best_154 : decode cX5_best 154 = .ok (.iadd, 1) := by decide +kernel
theorem dX5_best_155 : decode cX5_best 155 = .ok (.istore_n 2, 1) := by decide +kernel
theorem dX5_best_156 : decode cX5_best 156 = .ok (.iload 6, 2) := by decide +kernel
theorem dX5_best_158 : decode cX5_best 158 = .ok (.istore_n 3, 1) := by decide +kernel
theorem dX5_best_159 : decode cX5_best 159 = .ok (.iinc 5 60, 3) := by decide +kernel
theorem dX5_best_162 : decode cX5_best 162 = .ok (.goto (-77), 3) := by decide +kernel
theorem dX5_best_165 : decode cX5_best 165 = .ok (.aload_n 0, 1) := by decide +kernel
theorem dX5_best_166 : decode cX5_best 166 = .ok (.getfield 43, 3) := by decide +kernel
theorem dX5_best_169 : decode cX5_best 169 = .ok (.iload 4, 2) := by decide +kernel
theorem dX5_best_171 : decode cX5_best 171 = .ok (.iconst 0, 1) := by decide +kernel
theorem dX5_best_172 : decode cX5_best 172 = .ok (.iastore, 1) := by decide +kernel
theorem dX5_best_173 : decode cX5_best 173 = .ok (.iinc 4 1, 3) := by decide +kernel
theorem dX5_best_176 : decode cX5_best 176 = .ok (.goto (-101), 3) := by decide +kernel
theorem dX5_best_179 : decode cX5_best 179 = .ok (.iconst 0, 1) := by decide +kernel
theorem dX5_best_180 : decode cX5_best 180 = .ok (.istore 4, 2) := by decide +kernel
theorem dX5_best_182 : decode cX5_best 182 = .ok (.iload 4, 2) := by decide +kernel
theorem dX5_best_184 : decode cX5_best 184 = .ok (.bipush 10, 2) := by decide +kernel
theorem dX5_best_186 : decode cX5_best 186 = .ok (.if_icmp .ge 37, 3) := by decide +kernel
theorem dX5_best_189 : decode cX5_best 189 = .ok (.aload_n 0, 1) := by decide +kernel
theorem dX5_best_190 : decode cX5_best 190 = .ok (.getfield 43, 3) := by decide +kernel
theorem dX5_best_193 : decode cX5_best 193 = .ok (.iload 4, 2) := by decide +kernel
theorem dX5_best_195 : decode cX5_best 195 = .ok (.aload_n 0, 1) := by decide +kernel
theorem dX5_best_196 : decode cX5_best 196 = .ok (.getfield 88, 3) := by decide +kernel
theorem dX5_best_199 : decode cX5_best 199 = .ok (.iload 4, 2) := by decide +kernel
theorem dX5_best_201 : decode cX5_best 201 = .ok (.iaload, 1) := by decide +kernel
theorem dX5_best_202 : decode cX5_best 202 = .ok (.iastore, 1) := by decide +kernel
theorem dX5_best_203 : decode cX5_best 203 = .ok (.aload_n 0, 1) := by decide +kernel
theorem dX5_best_204 : decode cX5_best 204 = .ok (.getfield 46, 3) := by decide +kernel
theorem dX5_best_207 : decode cX5_best 207 = .ok (.iload 4, 2) := by decide +kernel
theorem dX5_best_209 : decode cX5_best 209 = .ok (.aload_n 0, 1) := by decide +kernel
theorem dX5_best_210 : decode cX5_best 210 = .ok (.getfield 91, 3) := by decide +kernel
theorem dX5_best_213 : decode cX5_best 213 = .ok (.iload 4, 2) := by decide +kernel
theorem dX5_best_215 : decode cX5_best 215 = .ok (.iaload, 1) := by decide +kernel
theorem dX5_best_216 : decode cX5_best 216 = .ok (.iastore, 1) := by decide +kernel
theorem dX5_best_217 : decode cX5_best 217 = .ok (.iinc 4 1, 3) := by decide +kernel
theorem dX5_best_220 : decode cX5_best 220 = .ok (.goto (-38), 3) := by decide +kernel
theorem dX5_best_223 : decode cX5_best 223 = .ok (.iload_n 1, 1) := by decide +kernel
theorem dX5_best_224 : decode cX5_best 224 = .ok (.ifCond .ne 11, 3) := by decide +kernel
theorem dX5_best_227 : decode cX5_best 227 = .ok (.iload_n 2, 1) := by decide +kernel
theorem dX5_best_228 : decode cX5_best 228 = .ok (.sipush 1000, 3) := by decide +kernel
theorem dX5_best_231 : decode cX5_best 231 = .ok (.idiv, 1) := by decide +kernel
theorem dX5_best_232 : decode cX5_best 232 = .ok (.goto 8, 3) := by decide +kernel
theorem dX5_best_235 : decode cX5_best 235 = .ok (.iload_n 2, 1) := by decide +kernel
theorem dX5_best_236 : decode cX5_best 236 = .ok (.sipush 1000, 3) := by decide +kernel
theorem dX5_best_239 : decode cX5_best 239 = .ok (.irem, 1) := by decide +kernel
theorem dX5_best_240 : decode cX5_best 240 = .ok (.ireturn, 1) := by decide +kernel
theorem dX5_told_0 : decode cX5_told 0 = .ok (.iload_n 1, 1) := by decide +kernel
theorem dX5_told_1 : decode cX5_told 1 = .ok (.ifCond .ne 10, 3) := by decide +kernel
theorem dX5_told_4 : decode cX5_told 4 = .ok (.aload_n 0, 1) := by decide +kernel
theorem dX5_told_5 : decode cX5_told 5 = .ok (.getfield 98, 3) := by decide +kernel
theorem dX5_told_8 : decode cX5_told 8 = .ok (.goto 62, 3) := by decide +kernel
theorem dX5_told_11 : decode cX5_told 11 = .ok (.iload_n 1, 1) := by decide +kernel
theorem dX5_told_12 : decode cX5_told 12 = .ok (.iconst 1, 1) := by decide +kernel
theorem dX5_told_13 : decode cX5_told 13 = .ok (.if_icmp .ne 10, 3) := by decide +kernel
theorem dX5_told_16 : decode cX5_told 16 = .ok (.aload_n 0, 1) := by decide +kernel
theorem dX5_told_17 : decode cX5_told 17 = .ok (.getfield 109, 3) := by decide +kernel
theorem dX5_told_20 : decode cX5_told 20 = .ok (.goto 50, 3) := by decide +kernel
theorem dX5_told_23 : decode cX5_told 23 = .ok (.iload_n 1, 1) := by decide +kernel
theorem dX5_told_24 : decode cX5_told 24 = .ok (.iconst 2, 1) := by decide +kernel
theorem dX5_told_25 : decode cX5_told 25 = .ok (.if_icmp .ne 10, 3) := by decide +kernel
theorem dX5_told_28 : decode cX5_told 28 = .ok (.aload_n 0, 1) := by decide +kernel
theorem dX5_told_29 : decode cX5_told 29 = .ok (.getfield 144, 3) := by decide +kernel
theorem dX5_told_32 : decode cX5_told 32 = .ok (.goto 38, 3) := by decide +kernel
theorem dX5_told_35 : decode cX5_told 35 = .ok (.iload_n 1, 1) := by decide +kernel
theorem dX5_told_36 : decode cX5_told 36 = .ok (.iconst 3, 1) := by decide +kernel
theorem dX5_told_37 : decode cX5_told 37 = .ok (.if_icmp .ne 10, 3) := by decide +kernel
theorem dX5_told_40 : decode cX5_told 40 = .ok (.aload_n 0, 1) := by decide +kernel
theorem dX5_told_41 : decode cX5_told 41 = .ok (.getfield 151, 3) := by decide +kernel
theorem dX5_told_44 : decode cX5_told 44 = .ok (.goto 26, 3) := by decide +kernel
theorem dX5_told_47 : decode cX5_told 47 = .ok (.iload_n 1, 1) := by decide +kernel
theorem dX5_told_48 : decode cX5_told 48 = .ok (.iconst 4, 1) := by decide +kernel
theorem dX5_told_49 : decode cX5_told 49 = .ok (.bipush 8, 2) := by decide +kernel
theorem dX5_told_51 : decode cX5_told 51 = .ok (.invokestatic 94, 3) := by decide +kernel
theorem dX5_told_54 : decode cX5_told 54 = .ok (.ifCond .eq 14, 3) := by decide +kernel
theorem dX5_told_57 : decode cX5_told 57 = .ok (.aload_n 0, 1) := by decide +kernel
theorem dX5_told_58 : decode cX5_told 58 = .ok (.getfield 28, 3) := by decide +kernel
theorem dX5_told_61 : decode cX5_told 61 = .ok (.iload_n 1, 1) := by decide +kernel
theorem dX5_told_62 : decode cX5_told 62 = .ok (.iconst 4, 1) := by decide +kernel
theorem dX5_told_63 : decode cX5_told 63 = .ok (.isub, 1) := by decide +kernel
theorem dX5_told_64 : decode cX5_told 64 = .ok (.iaload, 1) := by decide +kernel
theorem dX5_told_65 : decode cX5_told 65 = .ok (.goto 5, 3) := by decide +kernel
theorem dX5_told_68 : decode cX5_told 68 = .ok (.bipush (-2), 2) := by decide +kernel
theorem dX5_told_70 : decode cX5_told 70 = .ok (.ireturn, 1) := by decide +kernel
theorem dJ9_max_7cf53_0 : decode cJ9_max_7cf53 0 = .ok (.iload_n 0, 1) := by decide +kernel
theorem dJ9_max_7cf53_1 : decode cJ9_max_7cf53 1 = .ok (.iload_n 1, 1) := by decide +kernel
theorem dJ9_max_7cf53_2 : decode cJ9_max_7cf53 2 = .ok (.if_icmp .lt 7, 3) := by decide +kernel
theorem dJ9_max_7cf53_5 : decode cJ9_max_7cf53 5 = .ok (.iload_n 0, 1) := by decide +kernel
theorem dJ9_max_7cf53_6 : decode cJ9_max_7cf53 6 = .ok (.goto 4, 3) := by decide +kernel
theorem dJ9_max_7cf53_9 : decode cJ9_max_7cf53 9 = .ok (.iload_n 1, 1) := by decide +kernel
theorem dJ9_max_7cf53_10 : decode cJ9_max_7cf53 10 = .ok (.ireturn, 1) := by decide +kernel
theorem dJ9_min_7cf53_0 : decode cJ9_min_7cf53 0 = .ok (.iload_n 0, 1) := by decide +kernel
theorem dJ9_min_7cf53_1 : decode cJ9_min_7cf53 1 = .ok (.iload_n 1, 1) := by decide +kernel
theorem dJ9_min_7cf53_2 : decode cJ9_min_7cf53 2 = .ok (.if_icmp .gt 7, 3) := by decide +kernel
theorem dJ9_min_7cf53_5 : decode cJ9_min_7cf53 5 = .ok (.iload_n 0, 1) := by decide +kernel
theorem dJ9_min_7cf53_6 : decode cJ9_min_7cf53 6 = .ok (.goto 4, 3) := by decide +kernel
theorem dJ9_min_7cf53_9 : decode cJ9_min_7cf53 9 = .ok (.iload_n 1, 1) := by decide +kernel
theorem dJ9_min_7cf53_10 : decode cJ9_min_7cf53 10 = .ok (.ireturn, 1) := by decide +kernel
theorem dJ7_fill_d0a16_0 : decode cJ7_fill_d0a16 0 = .ok (.iconst 0, 1) := by decide +kernel
theorem dJ7_fill_d0a16_1 : decode cJ7_fill_d0a16 1 = .ok (.istore_n 3, 1) := by decide +kernel
theorem dJ7_fill_d0a16_2 : decode cJ7_fill_d0a16 2 = .ok (.aload_n 0, 1) := by decide +kernel
theorem dJ7_fill_d0a16_3 : decode cJ7_fill_d0a16 3 = .ok (.arraylength, 1) := by decide +kernel
theorem dJ7_fill_d0a16_4 : decode cJ7_fill_d0a16 4 = .ok (.istore 4, 2) := by decide +kernel
theorem dJ7_fill_d0a16_6 : decode cJ7_fill_d0a16 6 = .ok (.iload_n 3, 1) := by decide +kernel
theorem dJ7_fill_d0a16_7 : decode cJ7_fill_d0a16 7 = .ok (.iload 4, 2) := by decide +kernel
theorem dJ7_fill_d0a16_9 : decode cJ7_fill_d0a16 9 = .ok (.if_icmp .ge 13, 3) := by decide +kernel
theorem dJ7_fill_d0a16_12 : decode cJ7_fill_d0a16 12 = .ok (.aload_n 0, 1) := by decide +kernel
theorem dJ7_fill_d0a16_13 : decode cJ7_fill_d0a16 13 = .ok (.iload_n 3, 1) := by decide +kernel
theorem dJ7_fill_d0a16_14 : decode cJ7_fill_d0a16 14 = .ok (.lload_n 1, 1) := by decide +kernel
theorem dJ7_fill_d0a16_15 : decode cJ7_fill_d0a16 15 = .ok (.lastore, 1) := by decide +kernel
theorem dJ7_fill_d0a16_16 : decode cJ7_fill_d0a16 16 = .ok (.iinc 3 1, 3) := by decide +kernel
theorem dJ7_fill_d0a16_19 : decode cJ7_fill_d0a16 19 = .ok (.goto (-13), 3) := by decide +kernel
theorem dJ7_fill_d0a16_22 : decode cJ7_fill_d0a16 22 = .ok (.return_, 1) := by decide +kernel
theorem dJ7_fill_53178_0 : decode cJ7_fill_53178 0 = .ok (.iconst 0, 1) := by decide +kernel
theorem dJ7_fill_53178_1 : decode cJ7_fill_53178 1 = .ok (.istore_n 2, 1) := by decide +kernel
theorem dJ7_fill_53178_2 : decode cJ7_fill_53178 2 = .ok (.aload_n 0, 1) := by decide +kernel
theorem dJ7_fill_53178_3 : decode cJ7_fill_53178 3 = .ok (.arraylength, 1) := by decide +kernel
theorem dJ7_fill_53178_4 : decode cJ7_fill_53178 4 = .ok (.istore_n 3, 1) := by decide +kernel
theorem dJ7_fill_53178_5 : decode cJ7_fill_53178 5 = .ok (.iload_n 2, 1) := by decide +kernel
theorem dJ7_fill_53178_6 : decode cJ7_fill_53178 6 = .ok (.iload_n 3, 1) := by decide +kernel
theorem dJ7_fill_53178_7 : decode cJ7_fill_53178 7 = .ok (.if_icmp .ge 13, 3) := by decide +kernel
theorem dJ7_fill_53178_10 : decode cJ7_fill_53178 10 = .ok (.aload_n 0, 1) := by decide +kernel
theorem dJ7_fill_53178_11 : decode cJ7_fill_53178 11 = .ok (.iload_n 2, 1) := by decide +kernel
theorem dJ7_fill_53178_12 : decode cJ7_fill_53178 12 = .ok (.iload_n 1, 1) := by decide +kernel
theorem dJ7_fill_53178_13 : decode cJ7_fill_53178 13 = .ok (.iastore, 1) := by decide +kernel
theorem dJ7_fill_53178_14 : decode cJ7_fill_53178 14 = .ok (.iinc 2 1, 3) := by decide +kernel
theorem dJ7_fill_53178_17 : decode cJ7_fill_53178 17 = .ok (.goto (-12), 3) := by decide +kernel
theorem dJ7_fill_53178_20 : decode cJ7_fill_53178 20 = .ok (.return_, 1) := by decide +kernel
theorem dL_law_0 : decode cL_law 0 = .ok (.new 7, 3) := by decide +kernel
theorem dL_law_3 : decode cL_law 3 = .ok (.dup, 1) := by decide +kernel
theorem dL_law_4 : decode cL_law 4 = .ok (.invokespecial 9, 3) := by decide +kernel
theorem dL_law_7 : decode cL_law 7 = .ok (.astore_n 1, 1) := by decide +kernel
theorem dL_law_8 : decode cL_law 8 = .ok (.new 10, 3) := by decide +kernel
theorem dL_law_11 : decode cL_law 11 = .ok (.dup, 1) := by decide +kernel
theorem dL_law_12 : decode cL_law 12 = .ok (.invokespecial 12, 3) := by decide +kernel
theorem dL_law_15 : decode cL_law 15 = .ok (.astore_n 2, 1) := by decide +kernel
theorem dL_law_16 : decode cL_law 16 = .ok (.iconst 0, 1) := by decide +kernel
theorem dL_law_17 : decode cL_law 17 = .ok (.istore_n 3, 1) := by decide +kernel
theorem dL_law_18 : decode cL_law 18 = .ok (.iload_n 3, 1) := by decide +kernel
theorem dL_law_19 : decode cL_law 19 = .ok (.aload_n 0, 1) := by decide +kernel
theorem dL_law_20 : decode cL_law 20 = .ok (.arraylength, 1) := by decide +kernel
theorem dL_law_21 : decode cL_law 21 = .ok (.iconst 4, 1) := by decide +kernel
theorem dL_law_22 : decode cL_law 22 = .ok (.isub, 1) := by decide +kernel
theorem dL_law_23 : decode cL_law 23 = .ok (.if_icmp .gt 763, 3) := by decide +kernel
theorem dL_law_26 : decode cL_law 26 = .ok (.aload_n 0, 1) := by decide +kernel
theorem dL_law_27 : decode cL_law 27 = .ok (.iload_n 3, 1) := by decide +kernel
theorem dL_law_28 : decode cL_law 28 = .ok (.iaload, 1) := by decide +kernel
theorem dL_law_29 : decode cL_law 29 = .ok (.bipush 31, 2) := by decide +kernel
theorem dL_law_31 : decode cL_law 31 = .ok (.iand, 1) := by decide +kernel
theorem dL_law_32 : decode cL_law 32 = .ok (.tableswitch 748 0 22 #[108, 151, 184, 217, 260, 273, 306, 349, 372, 385, 398, 411, 424, 457, 480, 493, 516, 549, 593, 616, 659, 702, 725], 108) := by decide +kernel
theorem dL_law_140 : decode cL_law 140 = .ok (.aload_n 1, 1) := by decide +kernel
theorem dL_law_141 : decode cL_law 141 = .ok (.aload_n 0, 1) := by decide +kernel
theorem dL_law_142 : decode cL_law 142 = .ok (.iload_n 3, 1) := by decide +kernel
theorem dL_law_143 : decode cL_law 143 = .ok (.iconst 1, 1) := by decide +kernel
theorem dL_law_144 : decode cL_law 144 = .ok (.iadd, 1) := by decide +kernel
theorem dL_law_145 : decode cL_law 145 = .ok (.iaload, 1) := by decide +kernel
theorem dL_law_146 : decode cL_law 146 = .ok (.aload_n 0, 1) := by decide +kernel
theorem dL_law_147 : decode cL_law 147 = .ok (.iload_n 3, 1) := by decide +kernel
theorem dL_law_148 : decode cL_law 148 = .ok (.iconst 2, 1) := by decide +kernel
theorem dL_law_149 : decode cL_law 149 = .ok (.iadd, 1) := by decide +kernel
theorem dL_law_150 : decode cL_law 150 = .ok (.iaload, 1) := by decide +kernel
theorem dL_law_151 : decode cL_law 151 = .ok (.aload_n 0, 1) := by decide +kernel
theorem dL_law_152 : decode cL_law 152 = .ok (.iload_n 3, 1) := by decide +kernel
theorem dL_law_153 : decode cL_law 153 = .ok (.iconst 3, 1) := by decide +kernel
theorem dL_law_154 : decode cL_law 154 = .ok (.iadd, 1) := by decide +kernel
theorem dL_law_155 : decode cL_law 155 = .ok (.iaload, 1) := by decide +kernel
theorem dL_law_156 : decode cL_law 156 = .ok (.invokevirtual 13, 3) := by decide +kernel
theorem dL_law_159 : decode cL_law 159 = .ok (.aload_n 2, 1) := by decide +kernel
theorem dL_law_160 : decode cL_law 160 = .ok (.aload_n 0, 1) := by decide +kernel
theorem dL_law_161 : decode cL_law 161 = .ok (.iload_n 3, 1) := by decide +kernel
theorem dL_law_162 : decode cL_law 162 = .ok (.iconst 1, 1) := by decide +kernel
theorem dL_law_163 : decode cL_law 163 = .ok (.iadd, 1) := by decide +kernel
theorem dL_law_164 : decode cL_law 164 = .ok (.iaload, 1) := by decide +kernel
theorem dL_law_165 : decode cL_law 165 = .ok (.aload_n 0, 1) := by decide +kernel
theorem dL_law_166 : decode cL_law 166 = .ok (.iload_n 3, 1) := by decide +kernel
theorem dL_law_167 : decode cL_law 167 = .ok (.iconst 2, 1) := by decide +kernel
theorem dL_law_168 : decode cL_law 168 = .ok (.iadd, 1) := by decide +kernel
theorem dL_law_169 : decode cL_law 169 = .ok (.iaload, 1) := by decide +kernel
theorem dL_law_170 : decode cL_law 170 = .ok (.aload_n 0, 1) := by decide +kernel
theorem dL_law_171 : decode cL_law 171 = .ok (.iload_n 3, 1) := by decide +kernel
theorem dL_law_172 : decode cL_law 172 = .ok (.iconst 3, 1) := by decide +kernel
theorem dL_law_173 : decode cL_law 173 = .ok (.iadd, 1) := by decide +kernel
theorem dL_law_174 : decode cL_law 174 = .ok (.iaload, 1) := by decide +kernel
theorem dL_law_175 : decode cL_law 175 = .ok (.invokevirtual 17, 3) := by decide +kernel
theorem dL_law_178 : decode cL_law 178 = .ok (.if_icmp .eq 602, 3) := by decide +kernel
theorem dL_law_181 : decode cL_law 181 = .ok (.iconst 0, 1) := by decide +kernel
theorem dL_law_182 : decode cL_law 182 = .ok (.ireturn, 1) := by decide +kernel
theorem dL_law_183 : decode cL_law 183 = .ok (.aload_n 1, 1) := by decide +kernel
theorem dL_law_184 : decode cL_law 184 = .ok (.aload_n 0, 1) := by decide +kernel
theorem dL_law_185 : decode cL_law 185 = .ok (.iload_n 3, 1) := by decide +kernel
theorem dL_law_186 : decode cL_law 186 = .ok (.iconst 1, 1) := by decide +kernel
theorem dL_law_187 : decode cL_law 187 = .ok (.iadd, 1) := by decide +kernel
theorem dL_law_188 : decode cL_law 188 = .ok (.iaload, 1) := by decide +kernel
theorem dL_law_189 : decode cL_law 189 = .ok (.aload_n 0, 1) := by decide +kernel
theorem dL_law_190 : decode cL_law 190 = .ok (.iload_n 3, 1) := by decide +kernel
theorem dL_law_191 : decode cL_law 191 = .ok (.iconst 2, 1) := by decide +kernel
theorem dL_law_192 : decode cL_law 192 = .ok (.iadd, 1) := by decide +kernel
theorem dL_law_193 : decode cL_law 193 = .ok (.iaload, 1) := by decide +kernel
theorem dL_law_194 : decode cL_law 194 = .ok (.invokevirtual 18, 3) := by decide +kernel
theorem dL_law_197 : decode cL_law 197 = .ok (.aload_n 2, 1) := by decide +kernel
theorem dL_law_198 : decode cL_law 198 = .ok (.aload_n 0, 1) := by decide +kernel
theorem dL_law_199 : decode cL_law 199 = .ok (.iload_n 3, 1) := by decide +kernel
theorem dL_law_200 : decode cL_law 200 = .ok (.iconst 1, 1) := by decide +kernel
theorem dL_law_201 : decode cL_law 201 = .ok (.iadd, 1) := by decide +kernel
theorem dL_law_202 : decode cL_law 202 = .ok (.iaload, 1) := by decide +kernel
theorem dL_law_203 : decode cL_law 203 = .ok (.aload_n 0, 1) := by decide +kernel
theorem dL_law_204 : decode cL_law 204 = .ok (.iload_n 3, 1) := by decide +kernel
theorem dL_law_205 : decode cL_law 205 = .ok (.iconst 2, 1) := by decide +kernel
theorem dL_law_206 : decode cL_law 206 = .ok (.iadd, 1) := by decide +kernel
theorem dL_law_207 : decode cL_law 207 = .ok (.iaload, 1) := by decide +kernel
theorem dL_law_208 : decode cL_law 208 = .ok (.invokevirtual 22, 3) := by decide +kernel
theorem dL_law_211 : decode cL_law 211 = .ok (.if_icmp .eq 569, 3) := by decide +kernel
theorem dL_law_214 : decode cL_law 214 = .ok (.iconst 0, 1) := by decide +kernel
theorem dL_law_215 : decode cL_law 215 = .ok (.ireturn, 1) := by decide +kernel
theorem dL_law_216 : decode cL_law 216 = .ok (.aload_n 1, 1) := by decide +kernel
theorem dL_law_217 : decode cL_law 217 = .ok (.aload_n 0, 1) := by decide +kernel
theorem dL_law_218 : decode cL_law 218 = .ok (.iload_n 3, 1) := by decide +kernel
theorem dL_law_219 : decode cL_law 219 = .ok (.iconst 1, 1) := by decide +kernel
theorem dL_law_220 : decode cL_law 220 = .ok (.iadd, 1) := by decide +kernel
theorem dL_law_221 : decode cL_law 221 = .ok (.iaload, 1) := by decide +kernel
theorem dL_law_222 : decode cL_law 222 = .ok (.aload_n 0, 1) := by decide +kernel
theorem dL_law_223 : decode cL_law 223 = .ok (.iload_n 3, 1) := by decide +kernel
theorem dL_law_224 : decode cL_law 224 = .ok (.iconst 2, 1) := by decide +kernel
theorem dL_law_225 : decode cL_law 225 = .ok (.iadd, 1) := by decide +kernel
theorem dL_law_226 : decode cL_law 226 = .ok (.iaload, 1) := by decide +kernel
theorem dL_law_227 : decode cL_law 227 = .ok (.invokevirtual 23, 3) := by decide +kernel
theorem dL_law_230 : decode cL_law 230 = .ok (.aload_n 2, 1) := by decide +kernel
theorem dL_law_231 : decode cL_law 231 = .ok (.aload_n 0, 1) := by decide +kernel
theorem dL_law_232 : decode cL_law 232 = .ok (.iload_n 3, 1) := by decide +kernel
theorem dL_law_233 : decode cL_law 233 = .ok (.iconst 1, 1) := by decide +kernel
theorem dL_law_234 : decode cL_law 234 = .ok (.iadd, 1) := by decide +kernel
theorem dL_law_235 : decode cL_law 235 = .ok (.iaload, 1) := by decide +kernel
theorem dL_law_236 : decode cL_law 236 = .ok (.aload_n 0, 1) := by decide +kernel
theorem dL_law_237 : decode cL_law 237 = .ok (.iload_n 3, 1) := by decide +kernel
theorem dL_law_238 : decode cL_law 238 = .ok (.iconst 2, 1) := by decide +kernel
theorem dL_law_239 : decode cL_law 239 = .ok (.iadd, 1) := by decide +kernel
theorem dL_law_240 : decode cL_law 240 = .ok (.iaload, 1) := by decide +kernel
theorem dL_law_241 : decode cL_law 241 = .ok (.invokevirtual 26, 3) := by decide +kernel
theorem dL_law_244 : decode cL_law 244 = .ok (.if_icmp .eq 536, 3) := by decide +kernel
theorem dL_law_247 : decode cL_law 247 = .ok (.iconst 0, 1) := by decide +kernel
theorem dL_law_248 : decode cL_law 248 = .ok (.ireturn, 1) := by decide +kernel
theorem dL_law_249 : decode cL_law 249 = .ok (.aload_n 1, 1) := by decide +kernel
theorem dL_law_250 : decode cL_law 250 = .ok (.aload_n 0, 1) := by decide +kernel
theorem dL_law_251 : decode cL_law 251 = .ok (.iload_n 3, 1) := by decide +kernel
theorem dL_law_252 : decode cL_law 252 = .ok (.iconst 1, 1) := by decide +kernel
theorem dL_law_253 : decode cL_law 253 = .ok (.iadd, 1) := by decide +kernel
theorem dL_law_254 : decode cL_law 254 = .ok (.iaload, 1) := by decide +kernel
theorem dL_law_255 : decode cL_law 255 = .ok (.aload_n 0, 1) := by decide +kernel
theorem dL_law_256 : decode cL_law 256 = .ok (.iload_n 3, 1) := by decide +kernel
theorem dL_law_257 : decode cL_law 257 = .ok (.iconst 2, 1) := by decide +kernel
theorem dL_law_258 : decode cL_law 258 = .ok (.iadd, 1) := by decide +kernel
theorem dL_law_259 : decode cL_law 259 = .ok (.iaload, 1) := by decide +kernel
theorem dL_law_260 : decode cL_law 260 = .ok (.aload_n 0, 1) := by decide +kernel
theorem dL_law_261 : decode cL_law 261 = .ok (.iload_n 3, 1) := by decide +kernel
theorem dL_law_262 : decode cL_law 262 = .ok (.iconst 3, 1) := by decide +kernel
theorem dL_law_263 : decode cL_law 263 = .ok (.iadd, 1) := by decide +kernel
theorem dL_law_264 : decode cL_law 264 = .ok (.iaload, 1) := by decide +kernel
theorem dL_law_265 : decode cL_law 265 = .ok (.invokevirtual 27, 3) := by decide +kernel
theorem dL_law_268 : decode cL_law 268 = .ok (.aload_n 2, 1) := by decide +kernel
theorem dL_law_269 : decode cL_law 269 = .ok (.aload_n 0, 1) := by decide +kernel
theorem dL_law_270 : decode cL_law 270 = .ok (.iload_n 3, 1) := by decide +kernel
theorem dL_law_271 : decode cL_law 271 = .ok (.iconst 1, 1) := by decide +kernel
theorem dL_law_272 : decode cL_law 272 = .ok (.iadd, 1) := by decide +kernel
theorem dL_law_273 : decode cL_law 273 = .ok (.iaload, 1) := by decide +kernel
theorem dL_law_274 : decode cL_law 274 = .ok (.aload_n 0, 1) := by decide +kernel
theorem dL_law_275 : decode cL_law 275 = .ok (.iload_n 3, 1) := by decide +kernel
theorem dL_law_276 : decode cL_law 276 = .ok (.iconst 2, 1) := by decide +kernel
theorem dL_law_277 : decode cL_law 277 = .ok (.iadd, 1) := by decide +kernel
theorem dL_law_278 : decode cL_law 278 = .ok (.iaload, 1) := by decide +kernel
theorem dL_law_279 : decode cL_law 279 = .ok (.aload_n 0, 1) := by decide +kernel
theorem dL_law_280 : decode cL_law 280 = .ok (.iload_n 3, 1) := by decide +kernel
theorem dL_law_281 : decode cL_law 281 = .ok (.iconst 3, 1) := by decide +kernel
theorem dL_law_282 : decode cL_law 282 = .ok (.iadd, 1) := by decide +kernel
theorem dL_law_283 : decode cL_law 283 = .ok (.iaload, 1) := by decide +kernel
theorem dL_law_284 : decode cL_law 284 = .ok (.invokevirtual 30, 3) := by decide +kernel
theorem dL_law_287 : decode cL_law 287 = .ok (.if_icmp .eq 493, 3) := by decide +kernel
theorem dL_law_290 : decode cL_law 290 = .ok (.iconst 0, 1) := by decide +kernel
theorem dL_law_291 : decode cL_law 291 = .ok (.ireturn, 1) := by decide +kernel
theorem dL_law_292 : decode cL_law 292 = .ok (.aload_n 1, 1) := by decide +kernel
theorem dL_law_293 : decode cL_law 293 = .ok (.invokevirtual 31, 3) := by decide +kernel
theorem dL_law_296 : decode cL_law 296 = .ok (.aload_n 2, 1) := by decide +kernel
theorem dL_law_297 : decode cL_law 297 = .ok (.invokevirtual 35, 3) := by decide +kernel
theorem dL_law_300 : decode cL_law 300 = .ok (.if_icmp .eq 480, 3) := by decide +kernel
theorem dL_law_303 : decode cL_law 303 = .ok (.iconst 0, 1) := by decide +kernel
theorem dL_law_304 : decode cL_law 304 = .ok (.ireturn, 1) := by decide +kernel
theorem dL_law_305 : decode cL_law 305 = .ok (.aload_n 1, 1) := by decide +kernel
theorem dL_law_306 : decode cL_law 306 = .ok (.aload_n 0, 1) := by decide +kernel
theorem dL_law_307 : decode cL_law 307 = .ok (.iload_n 3, 1) := by decide +kernel
theorem dL_law_308 : decode cL_law 308 = .ok (.iconst 1, 1) := by decide +kernel
theorem dL_law_309 : decode cL_law 309 = .ok (.iadd, 1) := by decide +kernel
theorem dL_law_310 : decode cL_law 310 = .ok (.iaload, 1) := by decide +kernel
theorem dL_law_311 : decode cL_law 311 = .ok (.aload_n 0, 1) := by decide +kernel
theorem dL_law_312 : decode cL_law 312 = .ok (.iload_n 3, 1) := by decide +kernel
theorem dL_law_313 : decode cL_law 313 = .ok (.iconst 2, 1) := by decide +kernel
theorem dL_law_314 : decode cL_law 314 = .ok (.iadd, 1) := by decide +kernel
theorem dL_law_315 : decode cL_law 315 = .ok (.iaload, 1) := by decide +kernel
theorem dL_law_316 : decode cL_law 316 = .ok (.invokevirtual 36, 3) := by decide +kernel
theorem dL_law_319 : decode cL_law 319 = .ok (.aload_n 2, 1) := by decide +kernel
theorem dL_law_320 : decode cL_law 320 = .ok (.aload_n 0, 1) := by decide +kernel
theorem dL_law_321 : decode cL_law 321 = .ok (.iload_n 3, 1) := by decide +kernel
theorem dL_law_322 : decode cL_law 322 = .ok (.iconst 1, 1) := by decide +kernel
theorem dL_law_323 : decode cL_law 323 = .ok (.iadd, 1) := by decide +kernel
theorem dL_law_324 : decode cL_law 324 = .ok (.iaload, 1) := by decide +kernel
theorem dL_law_325 : decode cL_law 325 = .ok (.aload_n 0, 1) := by decide +kernel
theorem dL_law_326 : decode cL_law 326 = .ok (.iload_n 3, 1) := by decide +kernel
theorem dL_law_327 : decode cL_law 327 = .ok (.iconst 2, 1) := by decide +kernel
theorem dL_law_328 : decode cL_law 328 = .ok (.iadd, 1) := by decide +kernel
theorem dL_law_329 : decode cL_law 329 = .ok (.iaload, 1) := by decide +kernel
theorem dL_law_330 : decode cL_law 330 = .ok (.invokevirtual 39, 3) := by decide +kernel
theorem dL_law_333 : decode cL_law 333 = .ok (.if_icmp .eq 447, 3) := by decide +kernel
theorem dL_law_336 : decode cL_law 336 = .ok (.iconst 0, 1) := by decide +kernel
theorem dL_law_337 : decode cL_law 337 = .ok (.ireturn, 1) := by decide +kernel
theorem dL_law_338 : decode cL_law 338 = .ok (.aload_n 1, 1) := by decide +kernel
theorem dL_law_339 : decode cL_law 339 = .ok (.aload_n 0, 1) := by decide +kernel
theorem dL_law_340 : decode cL_law 340 = .ok (.iload_n 3, 1) := by decide +kernel
theorem dL_law_341 : decode cL_law 341 = .ok (.iconst 1, 1) := by decide +kernel
theorem dL_law_342 : decode cL_law 342 = .ok (.iadd, 1) := by decide +kernel
theorem dL_law_343 : decode cL_law 343 = .ok (.iaload, 1) := by decide +kernel
theorem dL_law_344 : decode cL_law 344 = .ok (.aload_n 0, 1) := by decide +kernel
theorem dL_law_345 : decode cL_law 345 = .ok (.iload_n 3, 1) := by decide +kernel
theorem dL_law_346 : decode cL_law 346 = .ok (.iconst 2, 1) := by decide +kernel
theorem dL_law_347 : decode cL_law 347 = .ok (.iadd, 1) := by decide +kernel
theorem dL_law_348 : decode cL_law 348 = .ok (.iaload, 1) := by decide +kernel
theorem dL_law_349 : decode cL_law 349 = .ok (.aload_n 0, 1) := by decide +kernel
theorem dL_law_350 : decode cL_law 350 = .ok (.iload_n 3, 1) := by decide +kernel
theorem dL_law_351 : decode cL_law 351 = .ok (.iconst 3, 1) := by decide +kernel
theorem dL_law_352 : decode cL_law 352 = .ok (.iadd, 1) := by decide +kernel
theorem dL_law_353 : decode cL_law 353 = .ok (.iaload, 1) := by decide +kernel
theorem dL_law_354 : decode cL_law 354 = .ok (.invokevirtual 40, 3) := by decide +kernel
theorem dL_law_357 : decode cL_law 357 = .ok (.aload_n 2, 1) := by decide +kernel
theorem dL_law_358 : decode cL_law 358 = .ok (.aload_n 0, 1) := by decide +kernel
theorem dL_law_359 : decode cL_law 359 = .ok (.iload_n 3, 1) := by decide +kernel
theorem dL_law_360 : decode cL_law 360 = .ok (.iconst 1, 1) := by decide +kernel
theorem dL_law_361 : decode cL_law 361 = .ok (.iadd, 1) := by decide +kernel
theorem dL_law_362 : decode cL_law 362 = .ok (.iaload, 1) := by decide +kernel
theorem dL_law_363 : decode cL_law 363 = .ok (.aload_n 0, 1) := by decide +kernel
theorem dL_law_364 : decode cL_law 364 = .ok (.iload_n 3, 1) := by decide +kernel
theorem dL_law_365 : decode cL_law 365 = .ok (.iconst 2, 1) := by decide +kernel
theorem dL_law_366 : decode cL_law 366 = .ok (.iadd, 1) := by decide +kernel
theorem dL_law_367 : decode cL_law 367 = .ok (.iaload, 1) := by decide +kernel
theorem dL_law_368 : decode cL_law 368 = .ok (.aload_n 0, 1) := by decide +kernel
theorem dL_law_369 : decode cL_law 369 = .ok (.iload_n 3, 1) := by decide +kernel
theorem dL_law_370 : decode cL_law 370 = .ok (.iconst 3, 1) := by decide +kernel
theorem dL_law_371 : decode cL_law 371 = .ok (.iadd, 1) := by decide +kernel
theorem dL_law_372 : decode cL_law 372 = .ok (.iaload, 1) := by decide +kernel
theorem dL_law_373 : decode cL_law 373 = .ok (.invokevirtual 43, 3) := by decide +kernel
theorem dL_law_376 : decode cL_law 376 = .ok (.if_icmp .eq 404, 3) := by decide +kernel
theorem dL_law_379 : decode cL_law 379 = .ok (.iconst 0, 1) := by decide +kernel
theorem dL_law_380 : decode cL_law 380 = .ok (.ireturn, 1) := by decide +kernel
theorem dL_law_381 : decode cL_law 381 = .ok (.aload_n 1, 1) := by decide +kernel
theorem dL_law_382 : decode cL_law 382 = .ok (.aload_n 0, 1) := by decide +kernel
theorem dL_law_383 : decode cL_law 383 = .ok (.iload_n 3, 1) := by decide +kernel
theorem dL_law_384 : decode cL_law 384 = .ok (.iconst 1, 1) := by decide +kernel
theorem dL_law_385 : decode cL_law 385 = .ok (.iadd, 1) := by decide +kernel
theorem dL_law_386 : decode cL_law 386 = .ok (.iaload, 1) := by decide +kernel
theorem dL_law_387 : decode cL_law 387 = .ok (.invokevirtual 44, 3) := by decide +kernel
theorem dL_law_390 : decode cL_law 390 = .ok (.aload_n 2, 1) := by decide +kernel
theorem dL_law_391 : decode cL_law 391 = .ok (.aload_n 0, 1) := by decide +kernel
theorem dL_law_392 : decode cL_law 392 = .ok (.iload_n 3, 1) := by decide +kernel
theorem dL_law_393 : decode cL_law 393 = .ok (.iconst 1, 1) := by decide +kernel
theorem dL_law_394 : decode cL_law 394 = .ok (.iadd, 1) := by decide +kernel
theorem dL_law_395 : decode cL_law 395 = .ok (.iaload, 1) := by decide +kernel
theorem dL_law_396 : decode cL_law 396 = .ok (.invokevirtual 48, 3) := by decide +kernel
theorem dL_law_399 : decode cL_law 399 = .ok (.if_icmp .eq 381, 3) := by decide +kernel
theorem dL_law_402 : decode cL_law 402 = .ok (.iconst 0, 1) := by decide +kernel
theorem dL_law_403 : decode cL_law 403 = .ok (.ireturn, 1) := by decide +kernel
theorem dL_law_404 : decode cL_law 404 = .ok (.aload_n 1, 1) := by decide +kernel
theorem dL_law_405 : decode cL_law 405 = .ok (.invokevirtual 49, 3) := by decide +kernel
theorem dL_law_408 : decode cL_law 408 = .ok (.aload_n 2, 1) := by decide +kernel
theorem dL_law_409 : decode cL_law 409 = .ok (.invokevirtual 52, 3) := by decide +kernel
theorem dL_law_412 : decode cL_law 412 = .ok (.if_icmp .eq 368, 3) := by decide +kernel
theorem dL_law_415 : decode cL_law 415 = .ok (.iconst 0, 1) := by decide +kernel
theorem dL_law_416 : decode cL_law 416 = .ok (.ireturn, 1) := by decide +kernel
theorem dL_law_417 : decode cL_law 417 = .ok (.aload_n 1, 1) := by decide +kernel
theorem dL_law_418 : decode cL_law 418 = .ok (.invokevirtual 53, 3) := by decide +kernel
theorem dL_law_421 : decode cL_law 421 = .ok (.aload_n 2, 1) := by decide +kernel
theorem dL_law_422 : decode cL_law 422 = .ok (.invokevirtual 56, 3) := by decide +kernel
theorem dL_law_425 : decode cL_law 425 = .ok (.if_icmp .eq 355, 3) := by decide +kernel
theorem dL_law_428 : decode cL_law 428 = .ok (.iconst 0, 1) := by decide +kernel
theorem dL_law_429 : decode cL_law 429 = .ok (.ireturn, 1) := by decide +kernel
theorem dL_law_430 : decode cL_law 430 = .ok (.aload_n 1, 1) := by decide +kernel
theorem dL_law_431 : decode cL_law 431 = .ok (.invokevirtual 57, 3) := by decide +kernel
theorem dL_law_434 : decode cL_law 434 = .ok (.aload_n 2, 1) := by decide +kernel
theorem dL_law_435 : decode cL_law 435 = .ok (.invokevirtual 60, 3) := by decide +kernel
theorem dL_law_438 : decode cL_law 438 = .ok (.if_icmp .eq 342, 3) := by decide +kernel
theorem dL_law_441 : decode cL_law 441 = .ok (.iconst 0, 1) := by decide +kernel
theorem dL_law_442 : decode cL_law 442 = .ok (.ireturn, 1) := by decide +kernel
theorem dL_law_443 : decode cL_law 443 = .ok (.aload_n 1, 1) := by decide +kernel
theorem dL_law_444 : decode cL_law 444 = .ok (.invokevirtual 61, 3) := by decide +kernel
theorem dL_law_447 : decode cL_law 447 = .ok (.aload_n 2, 1) := by decide +kernel
theorem dL_law_448 : decode cL_law 448 = .ok (.invokevirtual 64, 3) := by decide +kernel
theorem dL_law_451 : decode cL_law 451 = .ok (.if_icmp .eq 329, 3) := by decide +kernel
theorem dL_law_454 : decode cL_law 454 = .ok (.iconst 0, 1) := by decide +kernel
theorem dL_law_455 : decode cL_law 455 = .ok (.ireturn, 1) := by decide +kernel
theorem dL_law_456 : decode cL_law 456 = .ok (.aload_n 1, 1) := by decide +kernel
theorem dL_law_457 : decode cL_law 457 = .ok (.aload_n 0, 1) := by decide +kernel
theorem dL_law_458 : decode cL_law 458 = .ok (.iload_n 3, 1) := by decide +kernel
theorem dL_law_459 : decode cL_law 459 = .ok (.iconst 1, 1) := by decide +kernel
theorem dL_law_460 : decode cL_law 460 = .ok (.iadd, 1) := by decide +kernel
theorem dL_law_461 : decode cL_law 461 = .ok (.iaload, 1) := by decide +kernel
theorem dL_law_462 : decode cL_law 462 = .ok (.aload_n 0, 1) := by decide +kernel
theorem dL_law_463 : decode cL_law 463 = .ok (.iload_n 3, 1) := by decide +kernel
theorem dL_law_464 : decode cL_law 464 = .ok (.iconst 2, 1) := by decide +kernel
theorem dL_law_465 : decode cL_law 465 = .ok (.iadd, 1) := by decide +kernel
theorem dL_law_466 : decode cL_law 466 = .ok (.iaload, 1) := by decide +kernel
theorem dL_law_467 : decode cL_law 467 = .ok (.invokevirtual 65, 3) := by decide +kernel
theorem dL_law_470 : decode cL_law 470 = .ok (.aload_n 2, 1) := by decide +kernel
theorem dL_law_471 : decode cL_law 471 = .ok (.aload_n 0, 1) := by decide +kernel
theorem dL_law_472 : decode cL_law 472 = .ok (.iload_n 3, 1) := by decide +kernel
theorem dL_law_473 : decode cL_law 473 = .ok (.iconst 1, 1) := by decide +kernel
theorem dL_law_474 : decode cL_law 474 = .ok (.iadd, 1) := by decide +kernel
theorem dL_law_475 : decode cL_law 475 = .ok (.iaload, 1) := by decide +kernel
theorem dL_law_476 : decode cL_law 476 = .ok (.aload_n 0, 1) := by decide +kernel
theorem dL_law_477 : decode cL_law 477 = .ok (.iload_n 3, 1) := by decide +kernel
theorem dL_law_478 : decode cL_law 478 = .ok (.iconst 2, 1) := by decide +kernel
theorem dL_law_479 : decode cL_law 479 = .ok (.iadd, 1) := by decide +kernel
theorem dL_law_480 : decode cL_law 480 = .ok (.iaload, 1) := by decide +kernel
theorem dL_law_481 : decode cL_law 481 = .ok (.invokevirtual 68, 3) := by decide +kernel
theorem dL_law_484 : decode cL_law 484 = .ok (.if_icmp .eq 296, 3) := by decide +kernel
theorem dL_law_487 : decode cL_law 487 = .ok (.iconst 0, 1) := by decide +kernel
theorem dL_law_488 : decode cL_law 488 = .ok (.ireturn, 1) := by decide +kernel
theorem dL_law_489 : decode cL_law 489 = .ok (.aload_n 1, 1) := by decide +kernel
theorem dL_law_490 : decode cL_law 490 = .ok (.aload_n 0, 1) := by decide +kernel
theorem dL_law_491 : decode cL_law 491 = .ok (.iload_n 3, 1) := by decide +kernel
theorem dL_law_492 : decode cL_law 492 = .ok (.iconst 1, 1) := by decide +kernel
theorem dL_law_493 : decode cL_law 493 = .ok (.iadd, 1) := by decide +kernel
theorem dL_law_494 : decode cL_law 494 = .ok (.iaload, 1) := by decide +kernel
theorem dL_law_495 : decode cL_law 495 = .ok (.invokevirtual 69, 3) := by decide +kernel
theorem dL_law_498 : decode cL_law 498 = .ok (.aload_n 2, 1) := by decide +kernel
theorem dL_law_499 : decode cL_law 499 = .ok (.aload_n 0, 1) := by decide +kernel
theorem dL_law_500 : decode cL_law 500 = .ok (.iload_n 3, 1) := by decide +kernel
theorem dL_law_501 : decode cL_law 501 = .ok (.iconst 1, 1) := by decide +kernel
theorem dL_law_502 : decode cL_law 502 = .ok (.iadd, 1) := by decide +kernel
theorem dL_law_503 : decode cL_law 503 = .ok (.iaload, 1) := by decide +kernel
theorem dL_law_504 : decode cL_law 504 = .ok (.invokevirtual 72, 3) := by decide +kernel
theorem dL_law_507 : decode cL_law 507 = .ok (.if_icmp .eq 273, 3) := by decide +kernel
theorem dL_law_510 : decode cL_law 510 = .ok (.iconst 0, 1) := by decide +kernel
theorem dL_law_511 : decode cL_law 511 = .ok (.ireturn, 1) := by decide +kernel
theorem dL_law_512 : decode cL_law 512 = .ok (.aload_n 1, 1) := by decide +kernel
theorem dL_law_513 : decode cL_law 513 = .ok (.invokevirtual 73, 3) := by decide +kernel
theorem dL_law_516 : decode cL_law 516 = .ok (.aload_n 2, 1) := by decide +kernel
theorem dL_law_517 : decode cL_law 517 = .ok (.invokevirtual 76, 3) := by decide +kernel
theorem dL_law_520 : decode cL_law 520 = .ok (.if_icmp .eq 260, 3) := by decide +kernel
theorem dL_law_523 : decode cL_law 523 = .ok (.iconst 0, 1) := by decide +kernel
theorem dL_law_524 : decode cL_law 524 = .ok (.ireturn, 1) := by decide +kernel
theorem dL_law_525 : decode cL_law 525 = .ok (.aload_n 1, 1) := by decide +kernel
theorem dL_law_526 : decode cL_law 526 = .ok (.aload_n 0, 1) := by decide +kernel
theorem dL_law_527 : decode cL_law 527 = .ok (.iload_n 3, 1) := by decide +kernel
theorem dL_law_528 : decode cL_law 528 = .ok (.iconst 1, 1) := by decide +kernel
theorem dL_law_529 : decode cL_law 529 = .ok (.iadd, 1) := by decide +kernel
theorem dL_law_530 : decode cL_law 530 = .ok (.iaload, 1) := by decide +kernel
theorem dL_law_531 : decode cL_law 531 = .ok (.invokevirtual 77, 3) := by decide +kernel
theorem dL_law_534 : decode cL_law 534 = .ok (.aload_n 2, 1) := by decide +kernel
theorem dL_law_535 : decode cL_law 535 = .ok (.aload_n 0, 1) := by decide +kernel
theorem dL_law_536 : decode cL_law 536 = .ok (.iload_n 3, 1) := by decide +kernel
theorem dL_law_537 : decode cL_law 537 = .ok (.iconst 1, 1) := by decide +kernel
theorem dL_law_538 : decode cL_law 538 = .ok (.iadd, 1) := by decide +kernel
theorem dL_law_539 : decode cL_law 539 = .ok (.iaload, 1) := by decide +kernel
theorem dL_law_540 : decode cL_law 540 = .ok (.invokevirtual 80, 3) := by decide +kernel
theorem dL_law_543 : decode cL_law 543 = .ok (.if_icmp .eq 237, 3) := by decide +kernel
theorem dL_law_546 : decode cL_law 546 = .ok (.iconst 0, 1) := by decide +kernel
theorem dL_law_547 : decode cL_law 547 = .ok (.ireturn, 1) := by decide +kernel
theorem dL_law_548 : decode cL_law 548 = .ok (.aload_n 1, 1) := by decide +kernel
theorem dL_law_549 : decode cL_law 549 = .ok (.aload_n 0, 1) := by decide +kernel
theorem dL_law_550 : decode cL_law 550 = .ok (.iload_n 3, 1) := by decide +kernel
theorem dL_law_551 : decode cL_law 551 = .ok (.iconst 1, 1) := by decide +kernel
theorem dL_law_552 : decode cL_law 552 = .ok (.iadd, 1) := by decide +kernel
theorem dL_law_553 : decode cL_law 553 = .ok (.iaload, 1) := by decide +kernel
theorem dL_law_554 : decode cL_law 554 = .ok (.aload_n 0, 1) := by decide +kernel
theorem dL_law_555 : decode cL_law 555 = .ok (.iload_n 3, 1) := by decide +kernel
theorem dL_law_556 : decode cL_law 556 = .ok (.iconst 2, 1) := by decide +kernel
theorem dL_law_557 : decode cL_law 557 = .ok (.iadd, 1) := by decide +kernel
theorem dL_law_558 : decode cL_law 558 = .ok (.iaload, 1) := by decide +kernel
theorem dL_law_559 : decode cL_law 559 = .ok (.invokevirtual 81, 3) := by decide +kernel
theorem dL_law_562 : decode cL_law 562 = .ok (.aload_n 2, 1) := by decide +kernel
theorem dL_law_563 : decode cL_law 563 = .ok (.aload_n 0, 1) := by decide +kernel
theorem dL_law_564 : decode cL_law 564 = .ok (.iload_n 3, 1) := by decide +kernel
theorem dL_law_565 : decode cL_law 565 = .ok (.iconst 1, 1) := by decide +kernel
theorem dL_law_566 : decode cL_law 566 = .ok (.iadd, 1) := by decide +kernel
theorem dL_law_567 : decode cL_law 567 = .ok (.iaload, 1) := by decide +kernel
theorem dL_law_568 : decode cL_law 568 = .ok (.aload_n 0, 1) := by decide +kernel
theorem dL_law_569 : decode cL_law 569 = .ok (.iload_n 3, 1) := by decide +kernel
theorem dL_law_570 : decode cL_law 570 = .ok (.iconst 2, 1) := by decide +kernel
theorem dL_law_571 : decode cL_law 571 = .ok (.iadd, 1) := by decide +kernel
theorem dL_law_572 : decode cL_law 572 = .ok (.iaload, 1) := by decide +kernel
theorem dL_law_573 : decode cL_law 573 = .ok (.invokevirtual 84, 3) := by decide +kernel
theorem dL_law_576 : decode cL_law 576 = .ok (.if_icmp .eq 204, 3) := by decide +kernel
theorem dL_law_579 : decode cL_law 579 = .ok (.iconst 0, 1) := by decide +kernel
theorem dL_law_580 : decode cL_law 580 = .ok (.ireturn, 1) := by decide +kernel
theorem dL_law_581 : decode cL_law 581 = .ok (.aload_n 1, 1) := by decide +kernel
theorem dL_law_582 : decode cL_law 582 = .ok (.aload_n 0, 1) := by decide +kernel
theorem dL_law_583 : decode cL_law 583 = .ok (.iload_n 3, 1) := by decide +kernel
theorem dL_law_584 : decode cL_law 584 = .ok (.iconst 1, 1) := by decide +kernel
theorem dL_law_585 : decode cL_law 585 = .ok (.iadd, 1) := by decide +kernel
theorem dL_law_586 : decode cL_law 586 = .ok (.iaload, 1) := by decide +kernel
theorem dL_law_587 : decode cL_law 587 = .ok (.aload_n 0, 1) := by decide +kernel
theorem dL_law_588 : decode cL_law 588 = .ok (.iload_n 3, 1) := by decide +kernel
theorem dL_law_589 : decode cL_law 589 = .ok (.iconst 2, 1) := by decide +kernel
theorem dL_law_590 : decode cL_law 590 = .ok (.iadd, 1) := by decide +kernel
theorem dL_law_591 : decode cL_law 591 = .ok (.iaload, 1) := by decide +kernel
theorem dL_law_592 : decode cL_law 592 = .ok (.aload_n 0, 1) := by decide +kernel
theorem dL_law_593 : decode cL_law 593 = .ok (.iload_n 3, 1) := by decide +kernel
theorem dL_law_594 : decode cL_law 594 = .ok (.iconst 3, 1) := by decide +kernel
theorem dL_law_595 : decode cL_law 595 = .ok (.iadd, 1) := by decide +kernel
theorem dL_law_596 : decode cL_law 596 = .ok (.iaload, 1) := by decide +kernel
theorem dL_law_597 : decode cL_law 597 = .ok (.invokevirtual 85, 3) := by decide +kernel
theorem dL_law_600 : decode cL_law 600 = .ok (.aload_n 2, 1) := by decide +kernel
theorem dL_law_601 : decode cL_law 601 = .ok (.aload_n 0, 1) := by decide +kernel
theorem dL_law_602 : decode cL_law 602 = .ok (.iload_n 3, 1) := by decide +kernel
theorem dL_law_603 : decode cL_law 603 = .ok (.iconst 1, 1) := by decide +kernel
theorem dL_law_604 : decode cL_law 604 = .ok (.iadd, 1) := by decide +kernel
theorem dL_law_605 : decode cL_law 605 = .ok (.iaload, 1) := by decide +kernel
theorem dL_law_606 : decode cL_law 606 = .ok (.aload_n 0, 1) := by decide +kernel
theorem dL_law_607 : decode cL_law 607 = .ok (.iload_n 3, 1) := by decide +kernel
theorem dL_law_608 : decode cL_law 608 = .ok (.iconst 2, 1) := by decide +kernel
theorem dL_law_609 : decode cL_law 609 = .ok (.iadd, 1) := by decide +kernel
theorem dL_law_610 : decode cL_law 610 = .ok (.iaload, 1) := by decide +kernel
theorem dL_law_611 : decode cL_law 611 = .ok (.aload_n 0, 1) := by decide +kernel
theorem dL_law_612 : decode cL_law 612 = .ok (.iload_n 3, 1) := by decide +kernel
theorem dL_law_613 : decode cL_law 613 = .ok (.iconst 3, 1) := by decide +kernel
theorem dL_law_614 : decode cL_law 614 = .ok (.iadd, 1) := by decide +kernel
theorem dL_law_615 : decode cL_law 615 = .ok (.iaload, 1) := by decide +kernel
theorem dL_law_616 : decode cL_law 616 = .ok (.invokevirtual 89, 3) := by decide +kernel
theorem dL_law_619 : decode cL_law 619 = .ok (.lcmp, 1) := by decide +kernel
theorem dL_law_620 : decode cL_law 620 = .ok (.ifCond .eq 160, 3) := by decide +kernel
theorem dL_law_623 : decode cL_law 623 = .ok (.iconst 0, 1) := by decide +kernel
theorem dL_law_624 : decode cL_law 624 = .ok (.ireturn, 1) := by decide +kernel
theorem dL_law_625 : decode cL_law 625 = .ok (.aload_n 1, 1) := by decide +kernel
theorem dL_law_626 : decode cL_law 626 = .ok (.aload_n 0, 1) := by decide +kernel
theorem dL_law_627 : decode cL_law 627 = .ok (.iload_n 3, 1) := by decide +kernel
theorem dL_law_628 : decode cL_law 628 = .ok (.iconst 1, 1) := by decide +kernel
theorem dL_law_629 : decode cL_law 629 = .ok (.iadd, 1) := by decide +kernel
theorem dL_law_630 : decode cL_law 630 = .ok (.iaload, 1) := by decide +kernel
theorem dL_law_631 : decode cL_law 631 = .ok (.invokevirtual 90, 3) := by decide +kernel
theorem dL_law_634 : decode cL_law 634 = .ok (.aload_n 2, 1) := by decide +kernel
theorem dL_law_635 : decode cL_law 635 = .ok (.aload_n 0, 1) := by decide +kernel
theorem dL_law_636 : decode cL_law 636 = .ok (.iload_n 3, 1) := by decide +kernel
theorem dL_law_637 : decode cL_law 637 = .ok (.iconst 1, 1) := by decide +kernel
theorem dL_law_638 : decode cL_law 638 = .ok (.iadd, 1) := by decide +kernel
theorem dL_law_639 : decode cL_law 639 = .ok (.iaload, 1) := by decide +kernel
theorem dL_law_640 : decode cL_law 640 = .ok (.invokevirtual 93, 3) := by decide +kernel
theorem dL_law_643 : decode cL_law 643 = .ok (.if_icmp .eq 137, 3) := by decide +kernel
theorem dL_law_646 : decode cL_law 646 = .ok (.iconst 0, 1) := by decide +kernel
theorem dL_law_647 : decode cL_law 647 = .ok (.ireturn, 1) := by decide +kernel
theorem dL_law_648 : decode cL_law 648 = .ok (.aload_n 1, 1) := by decide +kernel
theorem dL_law_649 : decode cL_law 649 = .ok (.aload_n 0, 1) := by decide +kernel
theorem dL_law_650 : decode cL_law 650 = .ok (.iload_n 3, 1) := by decide +kernel
theorem dL_law_651 : decode cL_law 651 = .ok (.iconst 1, 1) := by decide +kernel
theorem dL_law_652 : decode cL_law 652 = .ok (.iadd, 1) := by decide +kernel
theorem dL_law_653 : decode cL_law 653 = .ok (.iaload, 1) := by decide +kernel
theorem dL_law_654 : decode cL_law 654 = .ok (.aload_n 0, 1) := by decide +kernel
theorem dL_law_655 : decode cL_law 655 = .ok (.iload_n 3, 1) := by decide +kernel
theorem dL_law_656 : decode cL_law 656 = .ok (.iconst 2, 1) := by decide +kernel
theorem dL_law_657 : decode cL_law 657 = .ok (.iadd, 1) := by decide +kernel
theorem dL_law_658 : decode cL_law 658 = .ok (.iaload, 1) := by decide +kernel
theorem dL_law_659 : decode cL_law 659 = .ok (.aload_n 0, 1) := by decide +kernel
theorem dL_law_660 : decode cL_law 660 = .ok (.iload_n 3, 1) := by decide +kernel
theorem dL_law_661 : decode cL_law 661 = .ok (.iconst 3, 1) := by decide +kernel
theorem dL_law_662 : decode cL_law 662 = .ok (.iadd, 1) := by decide +kernel
theorem dL_law_663 : decode cL_law 663 = .ok (.iaload, 1) := by decide +kernel
theorem dL_law_664 : decode cL_law 664 = .ok (.invokevirtual 94, 3) := by decide +kernel
theorem dL_law_667 : decode cL_law 667 = .ok (.aload_n 2, 1) := by decide +kernel
theorem dL_law_668 : decode cL_law 668 = .ok (.aload_n 0, 1) := by decide +kernel
theorem dL_law_669 : decode cL_law 669 = .ok (.iload_n 3, 1) := by decide +kernel
theorem dL_law_670 : decode cL_law 670 = .ok (.iconst 1, 1) := by decide +kernel
theorem dL_law_671 : decode cL_law 671 = .ok (.iadd, 1) := by decide +kernel
theorem dL_law_672 : decode cL_law 672 = .ok (.iaload, 1) := by decide +kernel
theorem dL_law_673 : decode cL_law 673 = .ok (.aload_n 0, 1) := by decide +kernel
theorem dL_law_674 : decode cL_law 674 = .ok (.iload_n 3, 1) := by decide +kernel
theorem dL_law_675 : decode cL_law 675 = .ok (.iconst 2, 1) := by decide +kernel
theorem dL_law_676 : decode cL_law 676 = .ok (.iadd, 1) := by decide +kernel
theorem dL_law_677 : decode cL_law 677 = .ok (.iaload, 1) := by decide +kernel
theorem dL_law_678 : decode cL_law 678 = .ok (.aload_n 0, 1) := by decide +kernel
theorem dL_law_679 : decode cL_law 679 = .ok (.iload_n 3, 1) := by decide +kernel
theorem dL_law_680 : decode cL_law 680 = .ok (.iconst 3, 1) := by decide +kernel
theorem dL_law_681 : decode cL_law 681 = .ok (.iadd, 1) := by decide +kernel
theorem dL_law_682 : decode cL_law 682 = .ok (.iaload, 1) := by decide +kernel
theorem dL_law_683 : decode cL_law 683 = .ok (.invokevirtual 97, 3) := by decide +kernel
theorem dL_law_686 : decode cL_law 686 = .ok (.if_icmp .eq 94, 3) := by decide +kernel
theorem dL_law_689 : decode cL_law 689 = .ok (.iconst 0, 1) := by decide +kernel
theorem dL_law_690 : decode cL_law 690 = .ok (.ireturn, 1) := by decide +kernel
theorem dL_law_691 : decode cL_law 691 = .ok (.aload_n 1, 1) := by decide +kernel
theorem dL_law_692 : decode cL_law 692 = .ok (.aload_n 0, 1) := by decide +kernel
theorem dL_law_693 : decode cL_law 693 = .ok (.iload_n 3, 1) := by decide +kernel
theorem dL_law_694 : decode cL_law 694 = .ok (.iconst 1, 1) := by decide +kernel
theorem dL_law_695 : decode cL_law 695 = .ok (.iadd, 1) := by decide +kernel
theorem dL_law_696 : decode cL_law 696 = .ok (.iaload, 1) := by decide +kernel
theorem dL_law_697 : decode cL_law 697 = .ok (.aload_n 0, 1) := by decide +kernel
theorem dL_law_698 : decode cL_law 698 = .ok (.iload_n 3, 1) := by decide +kernel
theorem dL_law_699 : decode cL_law 699 = .ok (.iconst 2, 1) := by decide +kernel
theorem dL_law_700 : decode cL_law 700 = .ok (.iadd, 1) := by decide +kernel
theorem dL_law_701 : decode cL_law 701 = .ok (.iaload, 1) := by decide +kernel
theorem dL_law_702 : decode cL_law 702 = .ok (.aload_n 0, 1) := by decide +kernel
theorem dL_law_703 : decode cL_law 703 = .ok (.iload_n 3, 1) := by decide +kernel
theorem dL_law_704 : decode cL_law 704 = .ok (.iconst 3, 1) := by decide +kernel
theorem dL_law_705 : decode cL_law 705 = .ok (.iadd, 1) := by decide +kernel
theorem dL_law_706 : decode cL_law 706 = .ok (.iaload, 1) := by decide +kernel
theorem dL_law_707 : decode cL_law 707 = .ok (.invokevirtual 98, 3) := by decide +kernel
theorem dL_law_710 : decode cL_law 710 = .ok (.aload_n 2, 1) := by decide +kernel
theorem dL_law_711 : decode cL_law 711 = .ok (.aload_n 0, 1) := by decide +kernel
theorem dL_law_712 : decode cL_law 712 = .ok (.iload_n 3, 1) := by decide +kernel
theorem dL_law_713 : decode cL_law 713 = .ok (.iconst 1, 1) := by decide +kernel
theorem dL_law_714 : decode cL_law 714 = .ok (.iadd, 1) := by decide +kernel
theorem dL_law_715 : decode cL_law 715 = .ok (.iaload, 1) := by decide +kernel
theorem dL_law_716 : decode cL_law 716 = .ok (.aload_n 0, 1) := by decide +kernel
theorem dL_law_717 : decode cL_law 717 = .ok (.iload_n 3, 1) := by decide +kernel
theorem dL_law_718 : decode cL_law 718 = .ok (.iconst 2, 1) := by decide +kernel
theorem dL_law_719 : decode cL_law 719 = .ok (.iadd, 1) := by decide +kernel
theorem dL_law_720 : decode cL_law 720 = .ok (.iaload, 1) := by decide +kernel
theorem dL_law_721 : decode cL_law 721 = .ok (.aload_n 0, 1) := by decide +kernel
theorem dL_law_722 : decode cL_law 722 = .ok (.iload_n 3, 1) := by decide +kernel
theorem dL_law_723 : decode cL_law 723 = .ok (.iconst 3, 1) := by decide +kernel
theorem dL_law_724 : decode cL_law 724 = .ok (.iadd, 1) := by decide +kernel
theorem dL_law_725 : decode cL_law 725 = .ok (.iaload, 1) := by decide +kernel
theorem dL_law_726 : decode cL_law 726 = .ok (.invokevirtual 101, 3) := by decide +kernel
theorem dL_law_729 : decode cL_law 729 = .ok (.if_icmp .eq 51, 3) := by decide +kernel
theorem dL_law_732 : decode cL_law 732 = .ok (.iconst 0, 1) := by decide +kernel
theorem dL_law_733 : decode cL_law 733 = .ok (.ireturn, 1) := by decide +kernel
theorem dL_law_734 : decode cL_law 734 = .ok (.aload_n 1, 1) := by decide +kernel
theorem dL_law_735 : decode cL_law 735 = .ok (.aload_n 0, 1) := by decide +kernel
theorem dL_law_736 : decode cL_law 736 = .ok (.iload_n 3, 1) := by decide +kernel
theorem dL_law_737 : decode cL_law 737 = .ok (.iconst 1, 1) := by decide +kernel
theorem dL_law_738 : decode cL_law 738 = .ok (.iadd, 1) := by decide +kernel
theorem dL_law_739 : decode cL_law 739 = .ok (.iaload, 1) := by decide +kernel
theorem dL_law_740 : decode cL_law 740 = .ok (.invokevirtual 102, 3) := by decide +kernel
theorem dL_law_743 : decode cL_law 743 = .ok (.aload_n 2, 1) := by decide +kernel
theorem dL_law_744 : decode cL_law 744 = .ok (.aload_n 0, 1) := by decide +kernel
theorem dL_law_745 : decode cL_law 745 = .ok (.iload_n 3, 1) := by decide +kernel
theorem dL_law_746 : decode cL_law 746 = .ok (.iconst 1, 1) := by decide +kernel
theorem dL_law_747 : decode cL_law 747 = .ok (.iadd, 1) := by decide +kernel
theorem dL_law_748 : decode cL_law 748 = .ok (.iaload, 1) := by decide +kernel
theorem dL_law_749 : decode cL_law 749 = .ok (.invokevirtual 105, 3) := by decide +kernel
theorem dL_law_752 : decode cL_law 752 = .ok (.if_icmp .eq 28, 3) := by decide +kernel
theorem dL_law_755 : decode cL_law 755 = .ok (.iconst 0, 1) := by decide +kernel
theorem dL_law_756 : decode cL_law 756 = .ok (.ireturn, 1) := by decide +kernel
theorem dL_law_757 : decode cL_law 757 = .ok (.aload_n 1, 1) := by decide +kernel
theorem dL_law_758 : decode cL_law 758 = .ok (.aload_n 0, 1) := by decide +kernel
theorem dL_law_759 : decode cL_law 759 = .ok (.iload_n 3, 1) := by decide +kernel
theorem dL_law_760 : decode cL_law 760 = .ok (.iconst 1, 1) := by decide +kernel
theorem dL_law_761 : decode cL_law 761 = .ok (.iadd, 1) := by decide +kernel
theorem dL_law_762 : decode cL_law 762 = .ok (.iaload, 1) := by decide +kernel
theorem dL_law_763 : decode cL_law 763 = .ok (.invokevirtual 106, 3) := by decide +kernel
theorem dL_law_766 : decode cL_law 766 = .ok (.aload_n 2, 1) := by decide +kernel
theorem dL_law_767 : decode cL_law 767 = .ok (.aload_n 0, 1) := by decide +kernel
theorem dL_law_768 : decode cL_law 768 = .ok (.iload_n 3, 1) := by decide +kernel
theorem dL_law_769 : decode cL_law 769 = .ok (.iconst 1, 1) := by decide +kernel
theorem dL_law_770 : decode cL_law 770 = .ok (.iadd, 1) := by decide +kernel
theorem dL_law_771 : decode cL_law 771 = .ok (.iaload, 1) := by decide +kernel
theorem dL_law_772 : decode cL_law 772 = .ok (.invokevirtual 109, 3) := by decide +kernel
theorem dL_law_775 : decode cL_law 775 = .ok (.if_icmp .eq 5, 3) := by decide +kernel
theorem dL_law_778 : decode cL_law 778 = .ok (.iconst 0, 1) := by decide +kernel
theorem dL_law_779 : decode cL_law 779 = .ok (.ireturn, 1) := by decide +kernel
theorem dL_law_780 : decode cL_law 780 = .ok (.iinc 3 4, 3) := by decide +kernel
theorem dL_law_783 : decode cL_law 783 = .ok (.goto (-765), 3) := by decide +kernel
theorem dL_law_786 : decode cL_law 786 = .ok (.iconst 1, 1) := by decide +kernel
theorem dL_law_787 : decode cL_law 787 = .ok (.ireturn, 1) := by decide +kernel
end
section
/-! THE WORLD: every cell that the law makes, in the order of making, at base, base + 1 ..; its contents are one memory:
    σ = (how many cells, ints by cell and place, longs by cell and place, references by cell and place) -/
abbrev Sg : Type := Nat × (Nat → Nat → Int32) × (Nat → Nat → Int64) × (Nat → Nat → Option Nat)
/-- the kind of each cell: 0 to 5 an object of that number in vwCl, 6 an int[], 7 a long[] -/
def kdL : List Nat := [4, 1, 6, 6, 6, 6, 6, 6, 6, 6, 6, 6, 3, 6, 0, 6, 6, 6, 6, 6, 6, 6, 6, 7, 6, 6, 0, 6, 6, 6, 6, 6, 6, 6, 6, 7, 6, 6, 2, 6, 6, 2, 6, 6, 5, 6, 6, 6, 6, 6, 6, 6, 6, 6, 6, 6, 6, 6, 6, 6, 6, 6, 6, 6, 6, 6, 6, 6, 6, 6, 6, 6, 6]
def lnL : List Nat := [0, 0, 10, 10, 10, 5, 8, 8, 8, 10, 10, 10, 0, 40, 0, 80, 80, 80, 80, 80, 80, 80, 10, 10, 10, 8, 0, 80, 80, 80, 80, 80, 80, 80, 10, 10, 10, 8, 0, 10, 10, 0, 10, 10, 0, 9, 9, 9, 8, 8, 8, 5, 11, 11, 11, 40, 10, 10, 80, 80, 80, 80, 80, 80, 80, 80, 9, 9, 9, 8, 8, 10, 10]
def kd (k : Nat) : Nat := kdL.getD k 9
def ln (k : Nat) : Nat := lnL.getD k 0
/-- a field's kind: 0 a reference, 1 an int or boolean, 2 a long -/
def fkL : List (List Nat) := [[0, 0, 0, 0, 0, 0, 0, 0, 0, 0, 2, 1, 0, 1, 1], [0, 0, 0, 0, 0, 0, 0, 1, 0, 0, 0, 1], [0, 0, 1], [0, 1, 1, 1], [0, 0, 0, 0, 0, 0, 1, 1, 1, 1], [0, 0, 0, 1, 0, 0, 0, 0, 1, 0, 0, 0, 1, 0, 1, 0, 0, 0, 0, 0, 0, 0, 0, 0, 0, 0, 0, 0, 0, 1, 1, 1, 1, 0, 1, 0, 0]]
def fk (ci : Nat) : List Nat := fkL.getD ci []
def fv (base : Nat) (σ : Sg) (k j t : Nat) : Value := if t = 0 then va_rf ((σ.2.2.2 k j).map (fun q => base + q)) else if t = 1 then .int (σ.2.1 k j) else .long (σ.2.2.1 k j)
def fl (base : Nat) (σ : Sg) (k : Nat) : List Value := (fk (kd k)).mapIdx (fun j t => fv base σ k j t)
def ce (cI cJ : ClassId) (base : Nat) (σ : Sg) (k : Nat) : va_E := if kd k = 6 then .inl (cI, ln k, .inl (σ.2.1 k)) else if kd k = 7 then .inl (cJ, ln k, .inr (.inl (σ.2.2.1 k))) else .inr (kd k, fl base σ k)
def wo (cI cJ : ClassId) (base : Nat) (σ : Sg) : va_W := (List.range σ.1).map (fun k => (base + k, ce cI cJ base σ k))
-- the memory's writes
def sI (σ : Sg) (k j : Nat) (v : Int32) : Sg := (σ.1, va_up σ.2.1 k (upd (σ.2.1 k) j v), σ.2.2.1, σ.2.2.2)
def sJ (σ : Sg) (k j : Nat) (v : Int64) : Sg := (σ.1, σ.2.1, va_up σ.2.2.1 k (vp_updL (σ.2.2.1 k) j v), σ.2.2.2)
def sR (σ : Sg) (k j : Nat) (q : Nat) : Sg := (σ.1, σ.2.1, σ.2.2.1, va_up σ.2.2.2 k (va_up (σ.2.2.2 k) j (some q)))
def sN (σ : Sg) : Sg := (σ.1 + 1, va_up σ.2.1 σ.1 (fun _ => 0), va_up σ.2.2.1 σ.1 (fun _ => 0), va_up σ.2.2.2 σ.1 (fun _ => none))
-- what an instruction asks of the memory, and gives: none where the machine could not go on
def ck (ci k : Nat) (σ : Sg) : Option Unit := if kd k = ci ∧ k < σ.1 then some () else none
def gI (ci k j : Nat) (σ : Sg) : Option Int32 := if kd k = ci ∧ k < σ.1 then some (σ.2.1 k j) else none
def gJ (ci k j : Nat) (σ : Sg) : Option Int64 := if kd k = ci ∧ k < σ.1 then some (σ.2.2.1 k j) else none
def gR (ci k j : Nat) (σ : Sg) : Option Nat := if kd k = ci ∧ k < σ.1 then σ.2.2.2 k j else none
def pI (ci k j : Nat) (v : Int32) (σ : Sg) : Option Sg := if kd k = ci ∧ k < σ.1 then some (sI σ k j v) else none
def pJ (ci k j : Nat) (v : Int64) (σ : Sg) : Option Sg := if kd k = ci ∧ k < σ.1 then some (sJ σ k j v) else none
def pR (ci k j : Nat) (q : Nat) (σ : Sg) : Option Sg := if kd k = ci ∧ k < σ.1 then some (sR σ k j q) else none
def aI (k : Nat) (i : Int32) (σ : Sg) : Option Int32 := if kd k = 6 ∧ k < σ.1 ∧ ¬ (i < 0 ∨ ln k ≤ i.toNatClampNeg) then some (σ.2.1 k i.toNatClampNeg) else none
def aJ (k : Nat) (i : Int32) (σ : Sg) : Option Int64 := if kd k = 7 ∧ k < σ.1 ∧ ¬ (i < 0 ∨ ln k ≤ i.toNatClampNeg) then some (σ.2.2.1 k i.toNatClampNeg) else none
def xI (k : Nat) (i : Int32) (v : Int32) (σ : Sg) : Option Sg := if kd k = 6 ∧ k < σ.1 ∧ ¬ (i < 0 ∨ ln k ≤ i.toNatClampNeg) then some (sI σ k i.toNatClampNeg v) else none
def xJ (k : Nat) (i : Int32) (v : Int64) (σ : Sg) : Option Sg := if kd k = 7 ∧ k < σ.1 ∧ ¬ (i < 0 ∨ ln k ≤ i.toNatClampNeg) then some (sJ σ k i.toNatClampNeg v) else none
def al (k : Nat) (σ : Sg) : Option Int32 := if (kd k = 6 ∨ kd k = 7) ∧ k < σ.1 then some (Int32.ofNat (ln k)) else none
def nO (ci : Nat) (σ : Sg) : Option (Nat × Sg) := if kd σ.1 = ci then some (σ.1, sN σ) else none
def nA (t : Nat) (i : Int32) (σ : Sg) : Option (Nat × Sg) := if kd σ.1 = t ∧ ¬ i < 0 ∧ i.toNatClampNeg = ln σ.1 then some (σ.1, sN σ) else none
def mosT (j : Nat) : Int32 := ([60, 10, 10, 1, 600] : List Int32).getD j 0
/-- MOST_OF_SETTING[i] -/
def mo (i : Int32) : Option Int32 := if ¬ (i < 0 ∨ 5 ≤ i.toNatClampNeg) then some (mosT i.toNatClampNeg) else none
/-- the script's own places -/
def sx (L : Nat) (xs : Nat → Int32) (i : Int32) : Option Int32 := if ¬ (i < 0 ∨ L ≤ i.toNatClampNeg) then some (xs i.toNatClampNeg) else none
/-- a boolean's answer -/
def rz (v : Int32) (σ : Sg) : Option (Int32 × Sg) := if v = 0 ∨ v = 1 then some (v, σ) else none
/-- a division's divisor -/
def dv (y : Int32) : Option Unit := if ¬ y = 0 then some () else none
def dvJ (y : Int64) : Option Unit := if ¬ y = 0 then some () else none
theorem obn {α β : Type} {o : Option α} {f : α → Option β} {b : β} (h : o.bind f = some b) : ∃ a, o = some a ∧ f a = some b := by
  cases o with
  | none => cases h
  | some a => exact ⟨a, rfl, h⟩
theorem ifn {α : Type} {c : Prop} [Decidable c] {a b : α} (h : (if c then some a else none) = some b) : c ∧ a = b := by
  by_cases hc : c
  · rw [if_pos hc] at h; exact ⟨hc, Option.some.inj h⟩
  · rw [if_neg hc] at h; cases h
theorem ifo {α : Type} {c : Prop} [Decidable c] {a : Option α} {b : α} (h : (if c then a else none) = some b) : c ∧ a = some b := by
  by_cases hc : c
  · rw [if_pos hc] at h; exact ⟨hc, h⟩
  · rw [if_neg hc] at h; cases h
section
variable {cI cJ : ClassId} {base : Nat} {σ : Sg}
theorem wo_get {k : Nat} (hk : k < σ.1) : (wo cI cJ base σ)[k]? = some (base + k, ce cI cJ base σ k) := by simp [wo, hk]
theorem wo_at {k : Nat} {q : Nat × va_E} (h : (wo cI cJ base σ)[k]? = some q) : k < σ.1 ∧ q = (base + k, ce cI cJ base σ k) := by
  have hk : k < σ.1 := by
    have h1 := (List.getElem?_eq_some_iff.mp h).1
    simpa [wo] using h1
  rw [wo_get hk] at h
  exact ⟨hk, (Option.some.inj h).symm⟩
theorem wo_D : va_D (fun q => base ≤ q) (wo cI cJ base σ) := by
  refine ⟨fun i j p q hi hj e => ?_, fun k q h => ?_⟩
  · obtain ⟨-, rfl⟩ := wo_at hi
    obtain ⟨-, rfl⟩ := wo_at hj
    have e2 : base + i = base + j := e
    omega
  · obtain ⟨-, rfl⟩ := wo_at h
    show base ≤ base + k
    omega
theorem wo_set {τ : Sg} {k : Nat} (h1 : τ.1 = σ.1) (h : ∀ q, q ≠ k → ce cI cJ base τ q = ce cI cJ base σ q) : wo cI cJ base τ = (wo cI cJ base σ).set k (base + k, ce cI cJ base τ k) := by
  apply List.ext_getElem?
  intro q
  rw [List.getElem?_set]
  by_cases hq : q < σ.1
  · rw [wo_get (by rw [h1]; exact hq)]
    by_cases e : k = q
    · subst e
      have hl : k < (wo cI cJ base σ).length := by simpa [wo] using hq
      simp [hl]
    · rw [if_neg e, wo_get hq, h q (fun z => e z.symm)]
  · have hn : (wo cI cJ base τ)[q]? = none := by
      apply List.getElem?_eq_none
      simp [wo, h1]; omega
    have hn2 : (wo cI cJ base σ)[q]? = none := by
      apply List.getElem?_eq_none
      simp [wo]; omega
    rw [hn]
    by_cases e : k = q
    · subst e
      have hl : ¬ k < (wo cI cJ base σ).length := by simpa [wo] using hq
      simp [hl]
    · rw [if_neg e, hn2]
theorem wo_push {τ : Sg} (h1 : τ.1 = σ.1 + 1) (h : ∀ q, q < σ.1 → ce cI cJ base τ q = ce cI cJ base σ q) : wo cI cJ base τ = wo cI cJ base σ ++ [(base + σ.1, ce cI cJ base τ σ.1)] := by
  unfold wo
  rw [h1, List.range_succ, List.map_append]
  congr 1
  apply List.map_congr_left
  intro q hq
  rw [h q (List.mem_range.mp hq)]
theorem ce_o {k ci : Nat} (h : kd k = ci) (hci : ci < 6) : ce cI cJ base σ k = .inr (ci, fl base σ k) := by
  unfold ce
  rw [if_neg (by omega), if_neg (by omega), h]
theorem ce_i {k : Nat} (h : kd k = 6) : ce cI cJ base σ k = .inl (cI, ln k, .inl (σ.2.1 k)) := by
  unfold ce
  rw [if_pos h]
theorem ce_j {k : Nat} (h : kd k = 7) : ce cI cJ base σ k = .inl (cJ, ln k, .inr (.inl (σ.2.2.1 k))) := by
  unfold ce
  rw [if_neg (by omega), if_pos h]
theorem fl_get (k j : Nat) : (fl base σ k)[j]? = ((fk (kd k))[j]?).map (fun t => fv base σ k j t) := by
  unfold fl
  rw [List.getElem?_mapIdx]
theorem fl_len (k : Nat) : (fl base σ k).length = (fk (kd k)).length := by
  unfold fl
  rw [List.length_mapIdx]
theorem fl_set {τ : Sg} {k j t : Nat} (ht : (fk (kd k))[j]? = some t) (h : ∀ i u, i ≠ j → fv base τ k i u = fv base σ k i u) : fl base τ k = (fl base σ k).set j (fv base τ k j t) := by
  apply List.ext_getElem?
  intro i
  rw [List.getElem?_set, fl_get]
  by_cases e : j = i
  · subst e
    have hl : j < (fl base σ k).length := by rw [fl_len]; exact (List.getElem?_eq_some_iff.mp ht).1
    simp [hl, ht]
  · rw [if_neg e, fl_get]
    congr 1
    funext u
    exact h i u (fun z => e z.symm)
theorem ce_ne_I {k j q : Nat} {v : Int32} (h : q ≠ k) : ce cI cJ base (sI σ k j v) q = ce cI cJ base σ q := by
  have e : (sI σ k j v).2.1 q = σ.2.1 q := va_up_ne _ _ h
  have e3 : fl base (sI σ k j v) q = fl base σ q := by
    unfold fl
    congr 1
    funext i t
    unfold fv
    rw [e]
    rfl
  unfold ce
  rw [e, e3]
  rfl
theorem ce_ne_J {k j q : Nat} {v : Int64} (h : q ≠ k) : ce cI cJ base (sJ σ k j v) q = ce cI cJ base σ q := by
  have e : (sJ σ k j v).2.2.1 q = σ.2.2.1 q := va_up_ne _ _ h
  have e3 : fl base (sJ σ k j v) q = fl base σ q := by
    unfold fl
    congr 1
    funext i t
    unfold fv
    rw [e]
    rfl
  unfold ce
  rw [e, e3]
  rfl
theorem ce_ne_R {k j q a : Nat} (h : q ≠ k) : ce cI cJ base (sR σ k j a) q = ce cI cJ base σ q := by
  have e : (sR σ k j a).2.2.2 q = σ.2.2.2 q := va_up_ne _ _ h
  have e3 : fl base (sR σ k j a) q = fl base σ q := by
    unfold fl
    congr 1
    funext i t
    unfold fv
    rw [e]
    rfl
  unfold ce
  rw [e3]
  rfl
theorem ce_ne_N {q : Nat} (h : q < σ.1) : ce cI cJ base (sN σ) q = ce cI cJ base σ q := by
  have h' : q ≠ σ.1 := by omega
  have e : (sN σ).2.1 q = σ.2.1 q := va_up_ne _ _ h'
  have e1 : (sN σ).2.2.1 q = σ.2.2.1 q := va_up_ne _ _ h'
  have e2 : (sN σ).2.2.2 q = σ.2.2.2 q := va_up_ne _ _ h'
  have e3 : fl base (sN σ) q = fl base σ q := by
    unfold fl
    congr 1
    funext i t
    unfold fv
    rw [e, e1, e2]
  unfold ce
  rw [e, e1, e3]
end
/-- the world's dynamic part: what the heap holds -/
def Dy (base : Nat) (D : va_G) (cI cJ : ClassId) (σ : Sg) (H : Heap) : Prop := va_P D vwCl (wo cI cJ base σ) H ∧ H.size = base + σ.1
/-- its fixed part: classes, nest mates, the one static table -/
def St (base : Nat) (D : va_G) (cI cJ : ClassId) (tS : Nat) (U : State) : Prop :=
  va_K D vwCl [(cI, .int), (cJ, .long)] U ∧ (va_Nw (.methodLinkNest RX4 18 yX3_init "BusThrees") U ∧ va_Nw (.methodLinkNest RX4 25 yX0_init "BusThrees") U ∧ va_Nw (.methodLinkNest RX4 35 yX2_init "BusThrees") U ∧ va_Nw (.methodLinkNest RX0 64 yX4_cell "BusThrees") U) ∧
  va_Z "BusThrees" "MOST_OF_SETTING" "[I" (.ref tS) (fun q => base ≤ q) U U.heap ∧ va_T .int tS 5 (fun j => .int (mosT j)) (fun q => base ≤ q) U U.heap
theorem St.to {base : Nat} {D : va_G} {cI cJ : ClassId} {tS : Nat} {s U : State} {locs : List Loc} (h : St base D cI cJ tS s) (hW : s.WarmedH U.vm) (hS : va_S (fun q => base ≤ q) s.heap U.heap locs) : St base D cI cJ tS U :=
  ⟨va_K.moved hW.alike h.1, ⟨va_Nw.warmM hW h.2.1.1, va_Nw.warmM hW h.2.1.2.1, va_Nw.warmM hW h.2.1.2.2.1, va_Nw.warmM hW h.2.1.2.2.2⟩,
    (h.2.2.1.moved hW.alike).kept (fun a h1 h2 => hS.2.1 a h1 h2), (h.2.2.2.moved hW.alike).kept (fun a h1 h2 => hS.2.1 a h1 h2)⟩
theorem St.calling {base : Nat} {D : va_G} {cI cJ : ClassId} {tS : Nat} {U : State} {g : JFrame} {mk : MethodId} {a : Array Value} (h : St base D cI cJ tS U) : St base D cI cJ tS (U.calling g mk a) :=
  ⟨va_K.moved (u := U) (U := U.calling g mk a) (Vm.Alike.refl U.vm) h.1, ⟨va_Nw.same rfl rfl h.2.1.1, va_Nw.same rfl rfl h.2.1.2.1, va_Nw.same rfl rfl h.2.1.2.2.1, va_Nw.same rfl rfl h.2.1.2.2.2⟩,
    va_Z.moved (u := U) (U := U.calling g mk a) (Vm.Alike.refl U.vm) h.2.2.1, va_T.moved (u := U) (U := U.calling g mk a) (Vm.Alike.refl U.vm) h.2.2.2⟩
/-- a method's own fix -/
def Cx (p : Program) (m : MethodId) (c : Code) (cc : ByteArray) (nL : Nat) (s : State) (args : Array Value) (own : String) (base : Nat) (D : va_G) (cI cJ : ClassId) (tS : Nat) : Prop :=
  CallFix p m c cc nL s args wsL_law own ∧ St base D cI cJ tS s
/-- what a contract begins with -/
abbrev Pw (base : Nat) (D : va_G) (cI cJ : ClassId) (tS : Nat) (σ : Sg) (av : List Value) : Array Value → State → Prop := va_Pc av (fun U => St base D cI cJ tS U ∧ Dy base D cI cJ σ U.heap)
abbrev QwI (base : Nat) (D : va_G) (cI cJ : ClassId) (r : Int32) (τ : Sg) : Array Value → State → Outcome → State → Prop := va_Qi (fun (r' : Int32) (_ : Unit) => r' = r) (fun _ t => Dy base D cI cJ τ t.heap) (fun q => base ≤ q)
abbrev QwJ (base : Nat) (D : va_G) (cI cJ : ClassId) (r : Int64) (τ : Sg) : Array Value → State → Outcome → State → Prop := va_Ql (fun (r' : Int64) (_ : Unit) => r' = r) (fun _ t => Dy base D cI cJ τ t.heap) (fun q => base ≤ q)
abbrev QwV (base : Nat) (D : va_G) (cI cJ : ClassId) (τ : Sg) : Array Value → State → Outcome → State → Prop := va_Qv (fun (_ : Unit) => True) (fun _ t => Dy base D cI cJ τ t.heap) (fun q => base ≤ q)
abbrev QwA (base : Nat) (D : va_G) (cI cJ : ClassId) (r : Nat) (τ : Sg) : Array Value → State → Outcome → State → Prop := va_Qr (fun (_ : Unit) => True) (fun _ a t => a = base + r ∧ Dy base D cI cJ τ t.heap) (fun q => base ≤ q)
theorem Pw.blind {base : Nat} {D : va_G} {cI cJ : ClassId} {tS : Nat} {σ : Sg} {av : List Value} : FrameBlind (Pw base D cI cJ tS σ av) := fun _ _ _ _ q => ⟨q.1, q.2.1.calling, q.2.2⟩
section
variable {p : Program} {l : Launch} {e : Env} {R : Room} {s : State} {m : MethodId} {args : Array Value} {below : List Frame} {meth : Method} {c : Code} {H : Heap} {locs : List Loc} {cells slots : Nat} {Q : State → Prop}
variable {cc : ByteArray} {nL pc : Nat} {ls : Array Slot} {rest : List Value} {own : String} {base : Nat} {D : va_G} {cI cJ : ClassId} {tS : Nat} {σ τ : Sg}
theorem w_getI (hC : Cx p m c cc nL s args own base D cI cJ tS) (hP : Dy base D cI cJ σ H) {ci k j N index : Nat} {C : String} {T : u_T} {v : Int32} (hc : vwCl[ci]? = some (C, T, N)) (hin : ∀ w ∈ u_ws C T N, w ∈ wsL_law) (hj : j < N) (hci : ci < 6) (hf : (fk ci)[j]? = some 1) (hg : gI ci k j σ = some v) (hlink : Cond.fieldLink own index (T j).1 (T j).2.1 (T j).2.2.1 ∈ wsL_law) (hdg : decode cc pc = .ok (.getfield index, 3))
    (kk : W p l e R s m args below meth c H locs cells slots Q (F0 m (pc + 3) ls (.int v :: rest))) : W p l e R s m args below meth c H locs cells slots Q (F0 m pc ls (.ref (base + k) :: rest)) := by
  obtain ⟨hk, hv⟩ := ifn hg
  obtain ⟨⟨hx, hb, hml, hown, hts⟩, hSt⟩ := hC
  refine va_get hx hb hts hin hown hSt.1 hP.1 k (by rw [wo_get hk.2, ce_o hk.1 hci]) hc j hj (hts _ hlink) (fun _ h9 => h9) (v := .int v) ?_ hdg kk
  rw [fl_get, hk.1, hf, ← hv]
  rfl
theorem w_getJ (hC : Cx p m c cc nL s args own base D cI cJ tS) (hP : Dy base D cI cJ σ H) {ci k j N index : Nat} {C : String} {T : u_T} {v : Int64} (hc : vwCl[ci]? = some (C, T, N)) (hin : ∀ w ∈ u_ws C T N, w ∈ wsL_law) (hj : j < N) (hci : ci < 6) (hf : (fk ci)[j]? = some 2) (hg : gJ ci k j σ = some v) (hlink : Cond.fieldLink own index (T j).1 (T j).2.1 (T j).2.2.1 ∈ wsL_law) (hdg : decode cc pc = .ok (.getfield index, 3))
    (kk : W p l e R s m args below meth c H locs cells slots Q (F0 m (pc + 3) ls (.long v :: rest))) : W p l e R s m args below meth c H locs cells slots Q (F0 m pc ls (.ref (base + k) :: rest)) := by
  obtain ⟨hk, hv⟩ := ifn hg
  obtain ⟨⟨hx, hb, hml, hown, hts⟩, hSt⟩ := hC
  refine va_get hx hb hts hin hown hSt.1 hP.1 k (by rw [wo_get hk.2, ce_o hk.1 hci]) hc j hj (hts _ hlink) (fun _ h9 => h9) (v := .long v) ?_ hdg kk
  rw [fl_get, hk.1, hf, ← hv]
  rfl
theorem w_getR (hC : Cx p m c cc nL s args own base D cI cJ tS) (hP : Dy base D cI cJ σ H) {ci k j N index : Nat} {C : String} {T : u_T} {v : Nat} (hc : vwCl[ci]? = some (C, T, N)) (hin : ∀ w ∈ u_ws C T N, w ∈ wsL_law) (hj : j < N) (hci : ci < 6) (hf : (fk ci)[j]? = some 0) (hg : gR ci k j σ = some v) (hlink : Cond.fieldLink own index (T j).1 (T j).2.1 (T j).2.2.1 ∈ wsL_law) (hdg : decode cc pc = .ok (.getfield index, 3))
    (kk : W p l e R s m args below meth c H locs cells slots Q (F0 m (pc + 3) ls (.ref (base + v) :: rest))) : W p l e R s m args below meth c H locs cells slots Q (F0 m pc ls (.ref (base + k) :: rest)) := by
  obtain ⟨hk, hv⟩ := ifo hg
  obtain ⟨⟨hx, hb, hml, hown, hts⟩, hSt⟩ := hC
  refine va_get hx hb hts hin hown hSt.1 hP.1 k (by rw [wo_get hk.2, ce_o hk.1 hci]) hc j hj (hts _ hlink) (fun _ h9 => h9) (v := .ref (base + v)) ?_ hdg kk
  rw [fl_get, hk.1, hf]
  show some (fv base σ k j 0) = _
  unfold fv
  rw [if_pos rfl, hv]
  rfl
theorem Dy.set {k : Nat} {H1 : Heap} {ci : Nat} {fs : List Value} (h1 : τ.1 = σ.1) (h : ∀ q, q ≠ k → ce cI cJ base τ q = ce cI cJ base σ q) (hk : ce cI cJ base τ k = .inr (ci, fs)) (hz : H1.size = base + σ.1) (hP : va_P D vwCl ((wo cI cJ base σ).set k (base + k, .inr (ci, fs))) H1) : Dy base D cI cJ τ H1 :=
  ⟨by rw [wo_set h1 h, hk]; exact hP, by rw [h1]; exact hz⟩
theorem Dy.setA {k : Nat} {H1 : Heap} {x : ClassId × vp_A} (h1 : τ.1 = σ.1) (h : ∀ q, q ≠ k → ce cI cJ base τ q = ce cI cJ base σ q) (hk : ce cI cJ base τ k = .inl x) (hz : H1.size = base + σ.1) (hP : va_P D vwCl ((wo cI cJ base σ).set k (base + k, .inl x)) H1) : Dy base D cI cJ τ H1 :=
  ⟨by rw [wo_set h1 h, hk]; exact hP, by rw [h1]; exact hz⟩
theorem w_putI (hC : Cx p m c cc nL s args own base D cI cJ tS) (hP : Dy base D cI cJ σ H) (hS : va_S (fun q => base ≤ q) s.heap H locs) {ci k j N index : Nat} {C : String} {T : u_T} {v : Int32} (hc : vwCl[ci]? = some (C, T, N)) (hin : ∀ w ∈ u_ws C T N, w ∈ wsL_law) (ty : Nat → FieldType) (hty : ∀ k, k < N → parseFieldDescriptor (T k).2.2.1 = some (ty k)) (hnm : ∀ a, a < N → ∀ b, b < N → a ≠ b → (T a).2.1 ≠ (T b).2.1) (hj : j < N) (hci : ci < 6) (hf : (fk ci)[j]? = some 1) (hfin : (T j).2.2.2 = false) (hn : narrow (ty j) (.int v) = .int v) (hfit : fits (ty j) (.int v) = true) (hg : pI ci k j v σ = some τ) (hlink : Cond.fieldLink own index (T j).1 (T j).2.1 (T j).2.2.1 ∈ wsL_law) (hdg : decode cc pc = .ok (.putfield index, 3))
    (kk : ∀ (H1 : Heap) (locs1 : List Loc), Dy base D cI cJ τ H1 → va_S (fun q => base ≤ q) s.heap H1 locs1 → W p l e R s m args below meth c H1 locs1 cells slots Q (F0 m (pc + 3) ls rest)) : W p l e R s m args below meth c H locs cells slots Q (F0 m pc ls (.int v :: .ref (base + k) :: rest)) := by
  obtain ⟨hk, rfl⟩ := ifn hg
  obtain ⟨⟨hx, hb, hml, hown, hts⟩, hSt⟩ := hC
  have he : (wo cI cJ base σ)[k]? = some (base + k, .inr (ci, fl base σ k)) := by rw [wo_get hk.2, ce_o hk.1 hci]
  have hD : va_D (fun q => base ≤ q) (wo cI cJ base σ) := wo_D
  have hap := va_apart (own := own) hts hin ty hty hnm hSt.1 hc
  obtain ⟨r, h1, cell, q1, q2, q3, q4⟩ := hP.1 k _ he
  have hr : r = (C, T, N) := Option.some.inj (h1.symm.trans hc)
  subst hr
  obtain ⟨hSl, hfc, kC, hkC, hkind⟩ := hSt.1.1 ci _ hc
  obtain ⟨cf, kf, fi, f, hi, hsl⟩ := hSl j hj
  have hlay := hts _ (hin _ (u_in_lay hj))
  unfold u_lay at hlay
  rw [if_neg (by rw [hfin]; decide)] at hlay
  have hst := (u_facts hfc hkC (u_lays hts hin hj) hi).1
  have h6 := u_store hfc hkC hkind hlay hi (hty j hj) hn hfit
  have hfl : fl base (sI σ k j v) k = (fl base σ k).set j (.int v) := by
    rw [fl_set (τ := sI σ k j v) (σ := σ) (t := 1) (by rw [hk.1]; exact hf) (fun i u hu => ?_)]
    · show _ = _
      congr 1
      show (if (1 : Nat) = 0 then _ else if (1 : Nat) = 1 then Value.int ((sI σ k j v).2.1 k j) else _) = _
      rw [if_neg (by decide), if_pos rfl]
      simp [sI, va_up, upd]
    · unfold fv
      have e1 : (sI σ k j v).2.1 k i = σ.2.1 k i := by simp [sI, va_up, upd, hu]
      rw [e1]
      rfl
  refine W.putK hx hb (f := f) ⟨hown, hts _ hlink, ⟨_, _, _, hi⟩, hst⟩ (by rw [q2]; exact h6) q1 q3 (by rw [hsl]; exact k2_hasslot (q4 j hj)) rfl rfl hdg fun H' e1 e2 e3 => ?_
  rw [hsl] at e1 ⊢
  have hl : j < (fl base σ k).length := by rw [fl_len, hk.1]; exact (List.getElem?_eq_some_iff.mp hf).1
  refine kk H' _ (Dy.set (σ := σ) (k := k) rfl (fun q hq => ce_ne_I hq) (by rw [ce_o hk.1 hci, hfl]) (by rw [e2]; exact hP.2) (hP.1.set hD he ⟨_, hc, t_OB.to (V := updV (vp_V (fl base σ k)) j (.int v)) ⟨_, e1, q2, q3, t_set q4 hap hj (.int v)⟩ (fun i _ => vp_updV_set hl (.int v) i)⟩ e3)) (hS.put e2 e3 (hD.2 k _ he))
theorem w_putJ (hC : Cx p m c cc nL s args own base D cI cJ tS) (hP : Dy base D cI cJ σ H) (hS : va_S (fun q => base ≤ q) s.heap H locs) {ci k j N index : Nat} {C : String} {T : u_T} {v : Int64} (hc : vwCl[ci]? = some (C, T, N)) (hin : ∀ w ∈ u_ws C T N, w ∈ wsL_law) (ty : Nat → FieldType) (hty : ∀ k, k < N → parseFieldDescriptor (T k).2.2.1 = some (ty k)) (hnm : ∀ a, a < N → ∀ b, b < N → a ≠ b → (T a).2.1 ≠ (T b).2.1) (hj : j < N) (hci : ci < 6) (hf : (fk ci)[j]? = some 2) (hfin : (T j).2.2.2 = false) (hn : narrow (ty j) (.long v) = .long v) (hfit : fits (ty j) (.long v) = true) (hg : pJ ci k j v σ = some τ) (hlink : Cond.fieldLink own index (T j).1 (T j).2.1 (T j).2.2.1 ∈ wsL_law) (hdg : decode cc pc = .ok (.putfield index, 3))
    (kk : ∀ (H1 : Heap) (locs1 : List Loc), Dy base D cI cJ τ H1 → va_S (fun q => base ≤ q) s.heap H1 locs1 → W p l e R s m args below meth c H1 locs1 cells slots Q (F0 m (pc + 3) ls rest)) : W p l e R s m args below meth c H locs cells slots Q (F0 m pc ls (.long v :: .ref (base + k) :: rest)) := by
  obtain ⟨hk, rfl⟩ := ifn hg
  obtain ⟨⟨hx, hb, hml, hown, hts⟩, hSt⟩ := hC
  have he : (wo cI cJ base σ)[k]? = some (base + k, .inr (ci, fl base σ k)) := by rw [wo_get hk.2, ce_o hk.1 hci]
  have hD : va_D (fun q => base ≤ q) (wo cI cJ base σ) := wo_D
  have hap := va_apart (own := own) hts hin ty hty hnm hSt.1 hc
  obtain ⟨r, h1, cell, q1, q2, q3, q4⟩ := hP.1 k _ he
  have hr : r = (C, T, N) := Option.some.inj (h1.symm.trans hc)
  subst hr
  obtain ⟨hSl, hfc, kC, hkC, hkind⟩ := hSt.1.1 ci _ hc
  obtain ⟨cf, kf, fi, f, hi, hsl⟩ := hSl j hj
  have hlay := hts _ (hin _ (u_in_lay hj))
  unfold u_lay at hlay
  rw [if_neg (by rw [hfin]; decide)] at hlay
  have hst := (u_facts hfc hkC (u_lays hts hin hj) hi).1
  have h6 := u_store hfc hkC hkind hlay hi (hty j hj) hn hfit
  have hfl : fl base (sJ σ k j v) k = (fl base σ k).set j (.long v) := by
    rw [fl_set (τ := sJ σ k j v) (σ := σ) (t := 2) (by rw [hk.1]; exact hf) (fun i u hu => ?_)]
    · congr 1
      show (if (2 : Nat) = 0 then _ else if (2 : Nat) = 1 then _ else Value.long ((sJ σ k j v).2.2.1 k j)) = _
      rw [if_neg (by decide), if_neg (by decide)]
      simp [sJ, va_up, vp_updL]
    · unfold fv
      have e1 : (sJ σ k j v).2.2.1 k i = σ.2.2.1 k i := by simp [sJ, va_up, vp_updL, hu]
      rw [e1]
      rfl
  refine W.putK hx hb (f := f) ⟨hown, hts _ hlink, ⟨_, _, _, hi⟩, hst⟩ (by rw [q2]; exact h6) q1 q3 (by rw [hsl]; exact k2_hasslot (q4 j hj)) rfl rfl hdg fun H' e1 e2 e3 => ?_
  rw [hsl] at e1 ⊢
  have hl : j < (fl base σ k).length := by rw [fl_len, hk.1]; exact (List.getElem?_eq_some_iff.mp hf).1
  refine kk H' _ (Dy.set (σ := σ) (k := k) rfl (fun q hq => ce_ne_J hq) (by rw [ce_o hk.1 hci, hfl]) (by rw [e2]; exact hP.2) (hP.1.set hD he ⟨_, hc, t_OB.to (V := updV (vp_V (fl base σ k)) j (.long v)) ⟨_, e1, q2, q3, t_set q4 hap hj (.long v)⟩ (fun i _ => vp_updV_set hl (.long v) i)⟩ e3)) (hS.put e2 e3 (hD.2 k _ he))
theorem fl_R {k j a ci : Nat} (hk : kd k = ci) (hf : (fk ci)[j]? = some 0) : fl base (sR σ k j a) k = (fl base σ k).set j (.ref (base + a)) := by
  rw [fl_set (τ := sR σ k j a) (σ := σ) (t := 0) (by rw [hk]; exact hf) (fun i u hu => ?_)]
  · congr 1
    show (if (0 : Nat) = 0 then va_rf (((sR σ k j a).2.2.2 k j).map (fun q => base + q)) else _) = _
    rw [if_pos rfl]
    simp [sR, va_up, va_rf]
  · unfold fv
    have e1 : (sR σ k j a).2.2.2 k i = σ.2.2.2 k i := by simp [sR, va_up, hu]
    rw [e1]
    rfl
theorem w_putR (hC : Cx p m c cc nL s args own base D cI cJ tS) (hP : Dy base D cI cJ σ H) (hS : va_S (fun q => base ≤ q) s.heap H locs) {ci k j N index a : Nat} {C : String} {T : u_T} (hc : vwCl[ci]? = some (C, T, N)) (hin : ∀ w ∈ u_ws C T N, w ∈ wsL_law) (ty : Nat → FieldType) (hty : ∀ k, k < N → parseFieldDescriptor (T k).2.2.1 = some (ty k)) (hnm : ∀ a, a < N → ∀ b, b < N → a ≠ b → (T a).2.1 ≠ (T b).2.1) (hj : j < N) (hci : ci < 6) (hf : (fk ci)[j]? = some 0) (hfin : (T j).2.2.2 = false) (hn : ∀ z : Nat, narrow (ty j) (.ref z) = .ref z) (hfit : ∀ z : Nat, fits (ty j) (.ref z) = true) (hg : pR ci k j a σ = some τ) (hlink : Cond.fieldLink own index (T j).1 (T j).2.1 (T j).2.2.1 ∈ wsL_law) (hdg : decode cc pc = .ok (.putfield index, 3))
    (kk : ∀ (H1 : Heap) (locs1 : List Loc), Dy base D cI cJ τ H1 → va_S (fun q => base ≤ q) s.heap H1 locs1 → W p l e R s m args below meth c H1 locs1 cells slots Q (F0 m (pc + 3) ls rest)) : W p l e R s m args below meth c H locs cells slots Q (F0 m pc ls (.ref (base + a) :: .ref (base + k) :: rest)) := by
  obtain ⟨hk, rfl⟩ := ifn hg
  obtain ⟨⟨hx, hb, hml, hown, hts⟩, hSt⟩ := hC
  have he : (wo cI cJ base σ)[k]? = some (base + k, .inr (ci, fl base σ k)) := by rw [wo_get hk.2, ce_o hk.1 hci]
  have hD : va_D (fun q => base ≤ q) (wo cI cJ base σ) := wo_D
  have hap := va_apart (own := own) hts hin ty hty hnm hSt.1 hc
  obtain ⟨r, h1, cell, q1, q2, q3, q4⟩ := hP.1 k _ he
  have hr : r = (C, T, N) := Option.some.inj (h1.symm.trans hc)
  subst hr
  obtain ⟨hSl, hfc, kC, hkC, hkind⟩ := hSt.1.1 ci _ hc
  obtain ⟨cf, kf, fi, f, hi, hsl⟩ := hSl j hj
  have hlay := hts _ (hin _ (u_in_lay hj))
  unfold u_lay at hlay
  rw [if_neg (by rw [hfin]; decide)] at hlay
  have hst := (u_facts hfc hkC (u_lays hts hin hj) hi).1
  have h6 := u_store hfc hkC hkind hlay hi (hty j hj) (hn (base + a)) (hfit (base + a))
  refine W.putK hx hb (f := f) ⟨hown, hts _ hlink, ⟨_, _, _, hi⟩, hst⟩ (by rw [q2]; exact h6) q1 q3 (by rw [hsl]; exact k2_hasslot (q4 j hj)) rfl rfl hdg fun H' e1 e2 e3 => ?_
  rw [hsl] at e1 ⊢
  have hl : j < (fl base σ k).length := by rw [fl_len, hk.1]; exact (List.getElem?_eq_some_iff.mp hf).1
  refine kk H' _ (Dy.set (σ := σ) (k := k) rfl (fun q hq => ce_ne_R hq) (by rw [ce_o hk.1 hci, fl_R hk.1 hf]) (by rw [e2]; exact hP.2) (hP.1.set hD he ⟨_, hc, t_OB.to (V := updV (vp_V (fl base σ k)) j (.ref (base + a))) ⟨_, e1, q2, q3, t_set q4 hap hj (.ref (base + a))⟩ (fun i _ => vp_updV_set hl (.ref (base + a)) i)⟩ e3)) (hS.put e2 e3 (hD.2 k _ he))
/-- a final field, in its class's constructor -/
theorem w_putF (hC : Cx p m c cc nL s args own base D cI cJ tS) (hP : Dy base D cI cJ σ H) (hS : va_S (fun q => base ≤ q) s.heap H locs) (hnm0 : meth.name = "<init>") {ci k j N index a : Nat} {C : String} {T : u_T} (hc : vwCl[ci]? = some (C, T, N)) (hin : ∀ w ∈ u_ws C T N, w ∈ wsL_law) (ty : Nat → FieldType) (hty : ∀ k, k < N → parseFieldDescriptor (T k).2.2.1 = some (ty k)) (hnm : ∀ a, a < N → ∀ b, b < N → a ≠ b → (T a).2.1 ≠ (T b).2.1) (hj : j < N) (hci : ci < 6) (hf : (fk ci)[j]? = some 0) (hfin : (T j).2.2.2 = true) (hdecl : (T j).1 = own) (hn : ∀ z : Nat, narrow (ty j) (.ref z) = .ref z) (hfit : ∀ z : Nat, fits (ty j) (.ref z) = true) (hg : pR ci k j a σ = some τ) (hlink : Cond.fieldLink own index (T j).1 (T j).2.1 (T j).2.2.1 ∈ wsL_law) (hdg : decode cc pc = .ok (.putfield index, 3))
    (kk : ∀ (H1 : Heap) (locs1 : List Loc), Dy base D cI cJ τ H1 → va_S (fun q => base ≤ q) s.heap H1 locs1 → W p l e R s m args below meth c H1 locs1 cells slots Q (F0 m (pc + 3) ls rest)) : W p l e R s m args below meth c H locs cells slots Q (F0 m pc ls (.ref (base + a) :: .ref (base + k) :: rest)) := by
  obtain ⟨hk, rfl⟩ := ifn hg
  obtain ⟨⟨hx, hb, hml, hown, hts⟩, hSt⟩ := hC
  have he : (wo cI cJ base σ)[k]? = some (base + k, .inr (ci, fl base σ k)) := by rw [wo_get hk.2, ce_o hk.1 hci]
  have hD : va_D (fun q => base ≤ q) (wo cI cJ base σ) := wo_D
  have hap := va_apart (own := own) hts hin ty hty hnm hSt.1 hc
  obtain ⟨r, h1, cell, q1, q2, q3, q4⟩ := hP.1 k _ he
  have hr : r = (C, T, N) := Option.some.inj (h1.symm.trans hc)
  subst hr
  obtain ⟨hSl, hfc, kC, hkC, hkind⟩ := hSt.1.1 ci _ hc
  obtain ⟨cf, kf, fi, f, hi, hsl⟩ := hSl j hj
  have hlay := hts _ (hin _ (u_in_lay hj))
  unfold u_lay at hlay
  rw [if_pos hfin] at hlay
  have hst := (u_facts hfc hkC (u_lays hts hin hj) hi).1
  have hcf : m.cls = cf := by
    obtain ⟨_, _, c', _, _, _, -, -, hf', -, -, -, hown2, -⟩ := Cond.laysFinal_spec hlay
    have e1 : c' = cf := by have := hi.symm.trans hf'; simp at this; exact this.1.symm
    rw [hdecl] at hown2
    rw [← e1]; exact Option.some.inj (hown.symm.trans hown2)
  have h6 := u_fits hfc hkC hkind (Or.inr hlay) hi (hty j hj) (hn (base + a)) (hfit (base + a))
  refine W.putFinK hx hb hown (hts _ hlink) hi hst hcf hnm0 (by rw [q2]; exact h6) q1 q3 (by rw [hsl]; exact k2_hasslot (q4 j hj)) rfl rfl hdg fun H' e1 e2 e3 => ?_
  rw [hsl] at e1 ⊢
  have hl : j < (fl base σ k).length := by rw [fl_len, hk.1]; exact (List.getElem?_eq_some_iff.mp hf).1
  refine kk H' _ (Dy.set (σ := σ) (k := k) rfl (fun q hq => ce_ne_R hq) (by rw [ce_o hk.1 hci, fl_R hk.1 hf]) (by rw [e2]; exact hP.2) (hP.1.set hD he ⟨_, hc, t_OB.to (V := updV (vp_V (fl base σ k)) j (.ref (base + a))) ⟨_, e1, q2, q3, t_set q4 hap hj (.ref (base + a))⟩ (fun i _ => vp_updV_set hl (.ref (base + a)) i)⟩ e3)) (hS.put e2 e3 (hD.2 k _ he))
theorem w_iald (hC : Cx p m c cc nL s args own base D cI cJ tS) (hP : Dy base D cI cJ σ H) {k : Nat} {i v : Int32} (hg : aI k i σ = some v) (hdg : decode cc pc = .ok (.iaload, 1))
    (kk : W p l e R s m args below meth c H locs cells slots Q (F0 m (pc + 1) ls (.int v :: rest))) : W p l e R s m args below meth c H locs cells slots Q (F0 m pc ls (.int i :: .ref (base + k) :: rest)) := by
  obtain ⟨⟨h1, h2, h3⟩, hv⟩ := ifn hg
  obtain ⟨⟨hx, hb, hml, hown, hts⟩, hSt⟩ := hC
  refine va_iald hx hb hSt.1 hP.1 k 0 (by rw [wo_get h2, ce_i h1]) rfl h3 hdg ?_
  rw [hv]
  exact kk
theorem w_lald (hC : Cx p m c cc nL s args own base D cI cJ tS) (hP : Dy base D cI cJ σ H) {k : Nat} {i : Int32} {v : Int64} (hg : aJ k i σ = some v) (hdg : decode cc pc = .ok (.laload, 1))
    (kk : W p l e R s m args below meth c H locs cells slots Q (F0 m (pc + 1) ls (.long v :: rest))) : W p l e R s m args below meth c H locs cells slots Q (F0 m pc ls (.int i :: .ref (base + k) :: rest)) := by
  obtain ⟨⟨h1, h2, h3⟩, hv⟩ := ifn hg
  obtain ⟨⟨hx, hb, hml, hown, hts⟩, hSt⟩ := hC
  refine va_lald hx hb hSt.1 hP.1 k 1 (by rw [wo_get h2, ce_j h1]) rfl h3 hdg ?_
  rw [hv]
  exact kk
theorem w_alen (hC : Cx p m c cc nL s args own base D cI cJ tS) (hP : Dy base D cI cJ σ H) {k : Nat} {v : Int32} (hg : al k σ = some v) (hdg : decode cc pc = .ok (.arraylength, 1))
    (kk : W p l e R s m args below meth c H locs cells slots Q (F0 m (pc + 1) ls (.int v :: rest))) : W p l e R s m args below meth c H locs cells slots Q (F0 m pc ls (.ref (base + k) :: rest)) := by
  obtain ⟨⟨h1, h2⟩, hv⟩ := ifn hg
  obtain ⟨⟨hx, hb, hml, hown, hts⟩, hSt⟩ := hC
  rcases h1 with h1 | h1
  · exact va_alen hx hb hSt.1 hP.1 k 0 (by rw [wo_get h2, ce_i h1]) rfl hv hdg kk
  · exact va_alen hx hb hSt.1 hP.1 k 1 (by rw [wo_get h2, ce_j h1]) rfl hv hdg kk
theorem w_iast (hC : Cx p m c cc nL s args own base D cI cJ tS) (hP : Dy base D cI cJ σ H) (hS : va_S (fun q => base ≤ q) s.heap H locs) {k : Nat} {i x : Int32} (hg : xI k i x σ = some τ) (hdg : decode cc pc = .ok (.iastore, 1))
    (kk : ∀ (H1 : Heap) (locs1 : List Loc), Dy base D cI cJ τ H1 → va_S (fun q => base ≤ q) s.heap H1 locs1 → W p l e R s m args below meth c H1 locs1 cells slots Q (F0 m (pc + 1) ls rest)) : W p l e R s m args below meth c H locs cells slots Q (F0 m pc ls (.int x :: .int i :: .ref (base + k) :: rest)) := by
  obtain ⟨⟨h1, h2, h3⟩, rfl⟩ := ifn hg
  obtain ⟨⟨hx, hb, hml, hown, hts⟩, hSt⟩ := hC
  have hD : va_D (fun q => base ≤ q) (wo cI cJ base σ) := wo_D
  have ha : (wo cI cJ base σ)[k]? = some (base + k, .inl (cI, ln k, .inl (σ.2.1 k))) := by rw [wo_get h2, ce_i h1]
  refine W.iast hx hb (hP.1 k _ ha) ((hSt.1.2 0 (cI, .int) rfl).1 (ln k) (fun j => .int (σ.2.1 k j))) (fun q => by cases q) (by show ¬ (i < 0 ∨ (arrV _ _ _).slots.size ≤ _); rw [arrV_size]; exact h3) rfl rfl hdg fun H1 e1 z oq => ?_
  refine kk H1 _ (Dy.setA (σ := σ) (k := k) (x := (cI, ln k, .inl (upd (σ.2.1 k) i.toNatClampNeg x))) rfl (fun q hq => ce_ne_I hq) (by rw [ce_i h1]; simp [sI, va_up]) (by rw [z]; exact hP.2) (hP.1.set hD ha ?_ oq)) (hS.put z oq (hD.2 k _ ha))
  show H1[base + k]? = some (vp_cell _ _)
  rw [e1]
  rw [vp_cell_i, vp_cell_i, arrV_store]
  congr 2
  funext q
  by_cases hq : q = i.toNatClampNeg
  · subst hq
    simp [updV, upd]
  · simp [updV, upd, hq]
theorem w_last (hC : Cx p m c cc nL s args own base D cI cJ tS) (hP : Dy base D cI cJ σ H) (hS : va_S (fun q => base ≤ q) s.heap H locs) {k : Nat} {i : Int32} {x : Int64} (hg : xJ k i x σ = some τ) (hdg : decode cc pc = .ok (.lastore, 1))
    (kk : ∀ (H1 : Heap) (locs1 : List Loc), Dy base D cI cJ τ H1 → va_S (fun q => base ≤ q) s.heap H1 locs1 → W p l e R s m args below meth c H1 locs1 cells slots Q (F0 m (pc + 1) ls rest)) : W p l e R s m args below meth c H locs cells slots Q (F0 m pc ls (.long x :: .int i :: .ref (base + k) :: rest)) := by
  obtain ⟨⟨h1, h2, h3⟩, rfl⟩ := ifn hg
  obtain ⟨⟨hx, hb, hml, hown, hts⟩, hSt⟩ := hC
  have hD : va_D (fun q => base ≤ q) (wo cI cJ base σ) := wo_D
  have ha : (wo cI cJ base σ)[k]? = some (base + k, .inl (cJ, ln k, .inr (.inl (σ.2.2.1 k)))) := by rw [wo_get h2, ce_j h1]
  refine W.last hx hb (hP.1 k _ ha) ((hSt.1.2 1 (cJ, .long) rfl).1 (ln k) (fun j => .long (σ.2.2.1 k j))) (fun q => by cases q) (by show ¬ (i < 0 ∨ (arrV _ _ _).slots.size ≤ _); rw [arrV_size]; exact h3) rfl rfl hdg fun H1 e1 z oq => ?_
  refine kk H1 _ (Dy.setA (σ := σ) (k := k) (x := (cJ, ln k, .inr (.inl (vp_updL (σ.2.2.1 k) i.toNatClampNeg x)))) rfl (fun q hq => ce_ne_J hq) (by rw [ce_j h1]; simp [sJ, va_up]) (by rw [z]; exact hP.2) (hP.1.set hD ha ?_ oq)) (hS.put z oq (hD.2 k _ ha))
  show H1[base + k]? = some (vp_cell _ _)
  rw [e1]
  rw [vp_cell_l, vp_cell_l, arrV_store]
  congr 2
  funext q
  by_cases hq : q = i.toNatClampNeg
  · subst hq
    simp [updV, vp_updL]
  · simp [updV, vp_updL, hq]
end
end
section
theorem zz_look : (1 : Nat) = 1 := rfl
end
