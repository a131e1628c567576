section
-- ===== PART A: goes FIRST, ahead of the names: the tables' words, and 'selects' of the private methods out of them =====
/-- a private method of a class that the tables say can be made, by its rows of tables_1 -/
def lw_okq (q : MethodName × Nat) : Prop := (q.1.cls ≠ "java/lang/invoke/MethodHandle" ∧ q.1.cls ≠ "java/lang/invoke/VarHandle") ∧ Cond.instantiable q.1.cls q.2 ∈ tables_1 ∧ Cond.privateMethod q.1 ∈ tables_1 ∧ Cond.instanceMethod q.1 ∈ tables_1
theorem lw_p0 : lw_okq (⟨"LogForward", "writeChange", "(IIJJZ)I"⟩, 6) := ⟨⟨by decide +kernel, by decide +kernel⟩, List.mem_of_getElem? (i := 17) (by decide +kernel), List.mem_of_getElem? (i := 158) (by decide +kernel), List.mem_of_getElem? (i := 159) (by decide +kernel)⟩
theorem lw_p1 : lw_okq (⟨"LogForward", "setCell", "(IJ)V"⟩, 6) := ⟨⟨by decide +kernel, by decide +kernel⟩, List.mem_of_getElem? (i := 17) (by decide +kernel), List.mem_of_getElem? (i := 171) (by decide +kernel), List.mem_of_getElem? (i := 172) (by decide +kernel)⟩
theorem lw_p2 : lw_okq (⟨"LogForward", "writeLastOf", "(IIZ)I"⟩, 6) := ⟨⟨by decide +kernel, by decide +kernel⟩, List.mem_of_getElem? (i := 17) (by decide +kernel), List.mem_of_getElem? (i := 191) (by decide +kernel), List.mem_of_getElem? (i := 192) (by decide +kernel)⟩
theorem lw_p3 : lw_okq (⟨"LogForward", "leastMissing", "(II)I"⟩, 6) := ⟨⟨by decide +kernel, by decide +kernel⟩, List.mem_of_getElem? (i := 17) (by decide +kernel), List.mem_of_getElem? (i := 249) (by decide +kernel), List.mem_of_getElem? (i := 250) (by decide +kernel)⟩
theorem lw_p4 : lw_okq (⟨"LogForward", "isToBeBackedOut", "(I)Z"⟩, 6) := ⟨⟨by decide +kernel, by decide +kernel⟩, List.mem_of_getElem? (i := 17) (by decide +kernel), List.mem_of_getElem? (i := 257) (by decide +kernel), List.mem_of_getElem? (i := 258) (by decide +kernel)⟩
theorem lw_p5 : lw_okq (⟨"LogForward", "rowsOfBackingOut", "(I)I"⟩, 6) := ⟨⟨by decide +kernel, by decide +kernel⟩, List.mem_of_getElem? (i := 17) (by decide +kernel), List.mem_of_getElem? (i := 270) (by decide +kernel), List.mem_of_getElem? (i := 271) (by decide +kernel)⟩
theorem lw_p6 : lw_okq (⟨"LogForward", "bringForward", "(II)V"⟩, 6) := ⟨⟨by decide +kernel, by decide +kernel⟩, List.mem_of_getElem? (i := 17) (by decide +kernel), List.mem_of_getElem? (i := 282) (by decide +kernel), List.mem_of_getElem? (i := 283) (by decide +kernel)⟩
theorem lw_p7 : lw_okq (⟨"LogForward", "dropBehind", "(I)V"⟩, 6) := ⟨⟨by decide +kernel, by decide +kernel⟩, List.mem_of_getElem? (i := 17) (by decide +kernel), List.mem_of_getElem? (i := 296) (by decide +kernel), List.mem_of_getElem? (i := 297) (by decide +kernel)⟩
theorem lw_p8 : lw_okq (⟨"LogForward", "backOutAllOpen", "()V"⟩, 6) := ⟨⟨by decide +kernel, by decide +kernel⟩, List.mem_of_getElem? (i := 17) (by decide +kernel), List.mem_of_getElem? (i := 309) (by decide +kernel), List.mem_of_getElem? (i := 310) (by decide +kernel)⟩
theorem lw_p9 : lw_okq (⟨"LogForward", "writeBackingOut", "(I)V"⟩, 6) := ⟨⟨by decide +kernel, by decide +kernel⟩, List.mem_of_getElem? (i := 17) (by decide +kernel), List.mem_of_getElem? (i := 313) (by decide +kernel), List.mem_of_getElem? (i := 314) (by decide +kernel)⟩
theorem lw_p10 : lw_okq (⟨"LogForward", "latestMissingOf", "(I)I"⟩, 6) := ⟨⟨by decide +kernel, by decide +kernel⟩, List.mem_of_getElem? (i := 17) (by decide +kernel), List.mem_of_getElem? (i := 326) (by decide +kernel), List.mem_of_getElem? (i := 327) (by decide +kernel)⟩
theorem lw_p11 : lw_okq (⟨"LogForward", "changesOf", "(I)I"⟩, 6) := ⟨⟨by decide +kernel, by decide +kernel⟩, List.mem_of_getElem? (i := 17) (by decide +kernel), List.mem_of_getElem? (i := 330) (by decide +kernel), List.mem_of_getElem? (i := 331) (by decide +kernel)⟩
theorem lw_p12 : lw_okq (⟨"java/lang/Throwable", "fillInStackTrace", "(I)Ljava/lang/Throwable;"⟩, 6) := ⟨⟨by decide +kernel, by decide +kernel⟩, List.mem_of_getElem? (i := 429) (by decide +kernel), List.mem_of_getElem? (i := 427) (by decide +kernel), List.mem_of_getElem? (i := 428) (by decide +kernel)⟩
theorem lw_p13 : lw_okq (⟨"LogForwardModel", "stateOf", "(II)I"⟩, 18) := ⟨⟨by decide +kernel, by decide +kernel⟩, List.mem_of_getElem? (i := 497) (by decide +kernel), List.mem_of_getElem? (i := 572) (by decide +kernel), List.mem_of_getElem? (i := 573) (by decide +kernel)⟩
theorem lw_p14 : lw_okq (⟨"LogForwardModel", "isTaken", "(II)Z"⟩, 18) := ⟨⟨by decide +kernel, by decide +kernel⟩, List.mem_of_getElem? (i := 497) (by decide +kernel), List.mem_of_getElem? (i := 576) (by decide +kernel), List.mem_of_getElem? (i := 577) (by decide +kernel)⟩
theorem lw_p15 : lw_okq (⟨"LogForwardModel", "isOpen", "(I)Z"⟩, 18) := ⟨⟨by decide +kernel, by decide +kernel⟩, List.mem_of_getElem? (i := 497) (by decide +kernel), List.mem_of_getElem? (i := 580) (by decide +kernel), List.mem_of_getElem? (i := 581) (by decide +kernel)⟩
def lw_privs_1 : List (MethodName × Nat) := [(⟨"LogForward", "writeChange", "(IIJJZ)I"⟩, 6), (⟨"LogForward", "setCell", "(IJ)V"⟩, 6), (⟨"LogForward", "writeLastOf", "(IIZ)I"⟩, 6), (⟨"LogForward", "leastMissing", "(II)I"⟩, 6), (⟨"LogForward", "isToBeBackedOut", "(I)Z"⟩, 6), (⟨"LogForward", "rowsOfBackingOut", "(I)I"⟩, 6), (⟨"LogForward", "bringForward", "(II)V"⟩, 6), (⟨"LogForward", "dropBehind", "(I)V"⟩, 6), (⟨"LogForward", "backOutAllOpen", "()V"⟩, 6), (⟨"LogForward", "writeBackingOut", "(I)V"⟩, 6), (⟨"LogForward", "latestMissingOf", "(I)I"⟩, 6), (⟨"LogForward", "changesOf", "(I)I"⟩, 6), (⟨"java/lang/Throwable", "fillInStackTrace", "(I)Ljava/lang/Throwable;"⟩, 6), (⟨"LogForwardModel", "stateOf", "(II)I"⟩, 18), (⟨"LogForwardModel", "isTaken", "(II)Z"⟩, 18), (⟨"LogForwardModel", "isOpen", "(I)Z"⟩, 18)]
theorem lw_r1 : ∀ q ∈ lw_privs_1, lw_okq q := List.forall_mem_cons.mpr ⟨lw_p0, List.forall_mem_cons.mpr ⟨lw_p1, List.forall_mem_cons.mpr ⟨lw_p2, List.forall_mem_cons.mpr ⟨lw_p3, List.forall_mem_cons.mpr ⟨lw_p4, List.forall_mem_cons.mpr ⟨lw_p5, List.forall_mem_cons.mpr ⟨lw_p6, List.forall_mem_cons.mpr ⟨lw_p7, List.forall_mem_cons.mpr ⟨lw_p8, List.forall_mem_cons.mpr ⟨lw_p9, List.forall_mem_cons.mpr ⟨lw_p10, List.forall_mem_cons.mpr ⟨lw_p11, List.forall_mem_cons.mpr ⟨lw_p12, List.forall_mem_cons.mpr ⟨lw_p13, List.forall_mem_cons.mpr ⟨lw_p14, List.forall_mem_cons.mpr ⟨lw_p15, fun _ h => absurd h List.not_mem_nil⟩⟩⟩⟩⟩⟩⟩⟩⟩⟩⟩⟩⟩⟩⟩⟩
theorem lw_p16 : lw_okq (⟨"LogForwardModel", "isChange", "(II)Z"⟩, 18) := ⟨⟨by decide +kernel, by decide +kernel⟩, List.mem_of_getElem? (i := 497) (by decide +kernel), List.mem_of_getElem? (i := 584) (by decide +kernel), List.mem_of_getElem? (i := 585) (by decide +kernel)⟩
theorem lw_p17 : lw_okq (⟨"LogForwardModel", "write", "(IIIJJZ)V"⟩, 18) := ⟨⟨by decide +kernel, by decide +kernel⟩, List.mem_of_getElem? (i := 497) (by decide +kernel), List.mem_of_getElem? (i := 588) (by decide +kernel), List.mem_of_getElem? (i := 589) (by decide +kernel)⟩
theorem lw_p18 : lw_okq (⟨"LogForwardModel", "finish", "()V"⟩, 18) := ⟨⟨by decide +kernel, by decide +kernel⟩, List.mem_of_getElem? (i := 497) (by decide +kernel), List.mem_of_getElem? (i := 592) (by decide +kernel), List.mem_of_getElem? (i := 593) (by decide +kernel)⟩
theorem lw_p19 : lw_okq (⟨"LogForwardModel", "isMissing", "(I)Z"⟩, 18) := ⟨⟨by decide +kernel, by decide +kernel⟩, List.mem_of_getElem? (i := 497) (by decide +kernel), List.mem_of_getElem? (i := 604) (by decide +kernel), List.mem_of_getElem? (i := 605) (by decide +kernel)⟩
theorem lw_p20 : lw_okq (⟨"LogForwardModel", "changes", "(II)I"⟩, 18) := ⟨⟨by decide +kernel, by decide +kernel⟩, List.mem_of_getElem? (i := 497) (by decide +kernel), List.mem_of_getElem? (i := 608) (by decide +kernel), List.mem_of_getElem? (i := 609) (by decide +kernel)⟩
theorem lw_p21 : lw_okq (⟨"LogForwardModel", "takeBack", "(I)I"⟩, 18) := ⟨⟨by decide +kernel, by decide +kernel⟩, List.mem_of_getElem? (i := 497) (by decide +kernel), List.mem_of_getElem? (i := 612) (by decide +kernel), List.mem_of_getElem? (i := 613) (by decide +kernel)⟩
theorem lw_p22 : lw_okq (⟨"LogForwardModel", "lacking", "(II)I"⟩, 18) := ⟨⟨by decide +kernel, by decide +kernel⟩, List.mem_of_getElem? (i := 497) (by decide +kernel), List.mem_of_getElem? (i := 624) (by decide +kernel), List.mem_of_getElem? (i := 625) (by decide +kernel)⟩
theorem lw_p23 : lw_okq (⟨"LogForwardModel", "synced", "()I"⟩, 18) := ⟨⟨by decide +kernel, by decide +kernel⟩, List.mem_of_getElem? (i := 497) (by decide +kernel), List.mem_of_getElem? (i := 628) (by decide +kernel), List.mem_of_getElem? (i := 629) (by decide +kernel)⟩
def lw_privs_2 : List (MethodName × Nat) := [(⟨"LogForwardModel", "isChange", "(II)Z"⟩, 18), (⟨"LogForwardModel", "write", "(IIIJJZ)V"⟩, 18), (⟨"LogForwardModel", "finish", "()V"⟩, 18), (⟨"LogForwardModel", "isMissing", "(I)Z"⟩, 18), (⟨"LogForwardModel", "changes", "(II)I"⟩, 18), (⟨"LogForwardModel", "takeBack", "(I)I"⟩, 18), (⟨"LogForwardModel", "lacking", "(II)I"⟩, 18), (⟨"LogForwardModel", "synced", "()I"⟩, 18)]
theorem lw_r2 : ∀ q ∈ lw_privs_2, lw_okq q := List.forall_mem_cons.mpr ⟨lw_p16, List.forall_mem_cons.mpr ⟨lw_p17, List.forall_mem_cons.mpr ⟨lw_p18, List.forall_mem_cons.mpr ⟨lw_p19, List.forall_mem_cons.mpr ⟨lw_p20, List.forall_mem_cons.mpr ⟨lw_p21, List.forall_mem_cons.mpr ⟨lw_p22, List.forall_mem_cons.mpr ⟨lw_p23, fun _ h => absurd h List.not_mem_nil⟩⟩⟩⟩⟩⟩⟩⟩
def lw_privs : List (MethodName × Nat) := lw_privs_1 ++ (lw_privs_2)
def lw_tbl : List Cond := k2_sels lw_privs ++ tables_1
theorem lw_privs_ok : ∀ q ∈ lw_privs, lw_okq q := by
  show ∀ q ∈ lw_privs_1 ++ (lw_privs_2), lw_okq q
  exact List.forall_mem_append.mpr ⟨lw_r1, lw_r2⟩
-- ===== end of PART A; then your names; then what follows =====
end
section
/-! ===== BEGIN words of one list among another's, by their places ===== -/
theorem goodIn_r {big : List Cond} (ws : List Cond) (ps : List Nat) (hp : ws = ps.filterMap (fun i => big[i]?)) (h : ws.all goodWord = true) : GoodIn big ws := by
  intro w hw
  have h1 := List.all_eq_true.mp h w hw
  rw [hp] at hw
  obtain ⟨i, -, hi⟩ := List.mem_filterMap.mp hw
  have hm : w ∈ big := by first | exact List.mem_of_getElem? hi | exact List.getElem?_mem hi
  exact ⟨hm, good_of_word h1⟩
theorem goodIn_app {big a b : List Cond} (ha : GoodIn big a) (hb : GoodIn big b) : GoodIn big (a ++ b) := fun w h => (List.mem_append.mp h).elim (ha w) (hb w)
theorem goodIn_ca {big a b : List Cond} {c : Cond} (ha : GoodIn big (c :: a)) (hb : GoodIn big b) : GoodIn big (c :: (a ++ b)) := fun w h => (List.mem_cons.mp h).elim (fun e => ha w (List.mem_cons.mpr (Or.inl e))) (fun h => (List.mem_append.mp h).elim (fun h => ha w (List.mem_cons.mpr (Or.inr h))) (hb w))
theorem goodIn_sub {big ws : List Cond} (hm : ∀ w ∈ ws, w ∈ big) (h : ws.all goodWord = true) : GoodIn big ws := fun w hw => ⟨hm w hw, good_of_word (List.all_eq_true.mp h w hw)⟩
/-! ===== END ===== -/
def vx_no (w : Cond) : Bool := decide (w ≠ .isRef (.static Bundle.tN "UNASSIGNED_STACK" Bundle.steD)) && decide (w ≠ .isRef (.static Bundle.tN "SUPPRESSED_SENTINEL" Bundle.listD)) && decide (w ≠ .laysStatic Bundle.tN "UNASSIGNED_STACK" Bundle.steD) && decide (w ≠ .laysStatic Bundle.tN "SUPPRESSED_SENTINEL" Bundle.listD)
def vx_at0 (own : String) (ic : Nat) (X : String) (names : List String) : List Cond := (Bundle.ownAtoms0 own ic X names).filter vx_no
def vx_atS (own : String) (ic : Nat) (X : String) (names : List String) : List Cond := (Bundle.ownAtoms own ic X names).filter vx_no
def vx_atN (n : Nat) : List Cond := (Bundle.npeArmAtoms n).filter vx_no
def vx_atM (X : String) (names : List String) : List Cond := (Bundle.messageArmAtoms X names).filter vx_no
end
section
/-! ===== BEGIN printed: names, fields, word lists, decode rows ===== -/
def RX0 : String := "LogForward$Images"
def TX0 : u_T := fun k => match k with
  | 0 => ("LogForward$Images", "start", "[I", true)
  | 1 => ("LogForward$Images", "end", "[I", true)
  | 2 => ("LogForward$Images", "spoiled", "[Z", true)
  | 3 => ("LogForward$Images", "held", "[[J", true)
  | 4 => ("LogForward$Images", "many", "I", false)
  | _ => ("LogForward$Images", "latestIsUnfinished", "Z", false)
def tyX0 : Nat → FieldType := fun k => match k with
  | 0 => .array .int
  | 1 => .array .int
  | 2 => .array .boolean
  | 3 => .array (.array .long)
  | 4 => .int
  | _ => .boolean
abbrev wsX00 : List Cond := u_ws RX0 TX0 6
theorem nmX0 : ∀ a, a < 6 → ∀ b, b < 6 → a ≠ b → (TX0 a).2.1 ≠ (TX0 b).2.1 := by decide +kernel
theorem tyX0_ok : ∀ k, k < 6 → parseFieldDescriptor (TX0 k).2.2.1 = some (tyX0 k) := by decide +kernel
abbrev cX0_init : ByteArray := prog_2_method_1_code
def yX0_init : MethodName := ⟨RX0, "<init>", "()V"⟩
abbrev cX0_howMany : ByteArray := prog_2_method_2_code
def yX0_howMany : MethodName := ⟨RX0, "howMany", "()I"⟩
abbrev cX0_has : ByteArray := prog_2_method_3_code
def yX0_has : MethodName := ⟨RX0, "has", "(I)Z"⟩
abbrev cX0_isGood : ByteArray := prog_2_method_4_code
def yX0_isGood : MethodName := ⟨RX0, "isGood", "(I)Z"⟩
abbrev cX0_startOf : ByteArray := prog_2_method_5_code
def yX0_startOf : MethodName := ⟨RX0, "startOf", "(I)I"⟩
abbrev cX0_endOf : ByteArray := prog_2_method_6_code
def yX0_endOf : MethodName := ⟨RX0, "endOf", "(I)I"⟩
abbrev cX0_take : ByteArray := prog_2_method_7_code
def yX0_take : MethodName := ⟨RX0, "take", "(ZI[J)I"⟩
abbrev cX0_finish : ByteArray := prog_2_method_8_code
def yX0_finish : MethodName := ⟨RX0, "finish", "(I[J)V"⟩
abbrev cX0_finishBehindFifth : ByteArray := prog_2_method_9_code
def yX0_finishBehindFifth : MethodName := ⟨RX0, "finishBehindFifth", "(I[J)V"⟩
abbrev cX0_putBack : ByteArray := prog_2_method_10_code
def yX0_putBack : MethodName := ⟨RX0, "putBack", "(I[J)V"⟩
abbrev cX0_spoilBehind : ByteArray := prog_2_method_11_code
def yX0_spoilBehind : MethodName := ⟨RX0, "spoilBehind", "(I)V"⟩
def RX1 : String := "LogForward$Rows"
def TX1 : u_T := fun k => match k with
  | 0 => ("LogForward$Rows", "kind", "[I", true)
  | 1 => ("LogForward$Rows", "unit", "[I", true)
  | 2 => ("LogForward$Rows", "cell", "[I", true)
  | 3 => ("LogForward$Rows", "before", "[J", true)
  | 4 => ("LogForward$Rows", "after", "[J", true)
  | 5 => ("LogForward$Rows", "tornCopies", "[I", true)
  | 6 => ("LogForward$Rows", "backingOut", "[Z", true)
  | 7 => ("LogForward$Rows", "latest", "I", false)
  | _ => ("LogForward$Rows", "archived", "I", false)
def tyX1 : Nat → FieldType := fun k => match k with
  | 0 => .array .int
  | 1 => .array .int
  | 2 => .array .int
  | 3 => .array .long
  | 4 => .array .long
  | 5 => .array .int
  | 6 => .array .boolean
  | 7 => .int
  | _ => .int
abbrev wsX10 : List Cond := u_ws RX1 TX1 9
theorem nmX1 : ∀ a, a < 9 → ∀ b, b < 9 → a ≠ b → (TX1 a).2.1 ≠ (TX1 b).2.1 := by decide +kernel
theorem tyX1_ok : ∀ k, k < 9 → parseFieldDescriptor (TX1 k).2.2.1 = some (tyX1 k) := by decide +kernel
abbrev cX1_init : ByteArray := prog_3_method_1_code
def yX1_init : MethodName := ⟨RX1, "<init>", "()V"⟩
abbrev cX1_latest : ByteArray := prog_3_method_2_code
def yX1_latest : MethodName := ⟨RX1, "latest", "()I"⟩
abbrev cX1_archived : ByteArray := prog_3_method_3_code
def yX1_archived : MethodName := ⟨RX1, "archived", "()I"⟩
abbrev cX1_has : ByteArray := prog_3_method_4_code
def yX1_has : MethodName := ⟨RX1, "has", "(I)Z"⟩
abbrev cX1_hasRoomFor : ByteArray := prog_3_method_5_code
def yX1_hasRoomFor : MethodName := ⟨RX1, "hasRoomFor", "(I)Z"⟩
abbrev cX1_write : ByteArray := prog_3_method_6_code
def yX1_write : MethodName := ⟨RX1, "write", "(IIIJJZ)I"⟩
abbrev cX1_tear : ByteArray := prog_3_method_7_code
def yX1_tear : MethodName := ⟨RX1, "tear", "(II)Z"⟩
abbrev cX1_putAway : ByteArray := prog_3_method_8_code
def yX1_putAway : MethodName := ⟨RX1, "putAway", "(I)V"⟩
abbrev cX1_dropBehind : ByteArray := prog_3_method_9_code
def yX1_dropBehind : MethodName := ⟨RX1, "dropBehind", "(I)V"⟩
abbrev cX1_isMissing : ByteArray := prog_3_method_10_code
def yX1_isMissing : MethodName := ⟨RX1, "isMissing", "(I)Z"⟩
abbrev cX1_isChange : ByteArray := prog_3_method_11_code
def yX1_isChange : MethodName := ⟨RX1, "isChange", "(I)Z"⟩
abbrev cX1_isBackable : ByteArray := prog_3_method_12_code
def yX1_isBackable : MethodName := ⟨RX1, "isBackable", "(I)Z"⟩
abbrev cX1_kindOf : ByteArray := prog_3_method_13_code
def yX1_kindOf : MethodName := ⟨RX1, "kindOf", "(I)I"⟩
abbrev cX1_unitOf : ByteArray := prog_3_method_14_code
def yX1_unitOf : MethodName := ⟨RX1, "unitOf", "(I)I"⟩
abbrev cX1_cellOf : ByteArray := prog_3_method_15_code
def yX1_cellOf : MethodName := ⟨RX1, "cellOf", "(I)I"⟩
abbrev cX1_beforeOf : ByteArray := prog_3_method_16_code
def yX1_beforeOf : MethodName := ⟨RX1, "beforeOf", "(I)J"⟩
abbrev cX1_afterOf : ByteArray := prog_3_method_17_code
def yX1_afterOf : MethodName := ⟨RX1, "afterOf", "(I)J"⟩
abbrev cX1_tell : ByteArray := prog_3_method_18_code
def yX1_tell : MethodName := ⟨RX1, "tell", "(II)I"⟩
def RX2 : String := "LogForward$Units"
def TX2 : u_T := fun k => match k with
  | 0 => ("LogForward$Units", "latestKind", "[I", true)
  | _ => ("LogForward$Units", "changer", "[I", true)
def tyX2 : Nat → FieldType := fun k => match k with
  | 0 => .array .int
  | _ => .array .int
abbrev wsX20 : List Cond := u_ws RX2 TX2 2
theorem nmX2 : ∀ a, a < 2 → ∀ b, b < 2 → a ≠ b → (TX2 a).2.1 ≠ (TX2 b).2.1 := by decide +kernel
theorem tyX2_ok : ∀ k, k < 2 → parseFieldDescriptor (TX2 k).2.2.1 = some (tyX2 k) := by decide +kernel
abbrev cX2_init : ByteArray := prog_4_method_1_code
def yX2_init : MethodName := ⟨RX2, "<init>", "()V"⟩
abbrev cX2_isOpen : ByteArray := prog_4_method_2_code
def yX2_isOpen : MethodName := ⟨RX2, "isOpen", "(I)Z"⟩
abbrev cX2_isOver : ByteArray := prog_4_method_3_code
def yX2_isOver : MethodName := ⟨RX2, "isOver", "(I)Z"⟩
abbrev cX2_isChangedByAnother : ByteArray := prog_4_method_4_code
def yX2_isChangedByAnother : MethodName := ⟨RX2, "isChangedByAnother", "(II)Z"⟩
abbrev cX2_follow : ByteArray := prog_4_method_5_code
def yX2_follow : MethodName := ⟨RX2, "follow", "(III)V"⟩
abbrev cX2_followAll : ByteArray := prog_4_method_6_code
def yX2_followAll : MethodName := ⟨RX2, "followAll", "(LLogForward$Rows;I)V"⟩
abbrev cX2_howManyOpen : ByteArray := prog_4_method_7_code
def yX2_howManyOpen : MethodName := ⟨RX2, "howManyOpen", "()I"⟩
abbrev cX2_howManyEndedBy : ByteArray := prog_4_method_8_code
def yX2_howManyEndedBy : MethodName := ⟨RX2, "howManyEndedBy", "(I)I"⟩
def RX3 : String := "LogForward"
def TX3 : u_T := fun k => match k with
  | 0 => ("LogForward", "regions", "I", true)
  | 1 => ("LogForward", "cells", "[J", true)
  | 2 => ("LogForward", "rows", "LLogForward$Rows;", true)
  | 3 => ("LogForward", "units", "LLogForward$Units;", true)
  | 4 => ("LogForward", "unitsThen", "LLogForward$Units;", true)
  | _ => ("LogForward", "images", "LLogForward$Images;", true)
def tyX3 : Nat → FieldType := fun k => match k with
  | 0 => .int
  | 1 => .array .long
  | 2 => .object "LogForward$Rows"
  | 3 => .object "LogForward$Units"
  | 4 => .object "LogForward$Units"
  | _ => .object "LogForward$Images"
abbrev wsX30 : List Cond := u_ws RX3 TX3 6
theorem nmX3 : ∀ a, a < 6 → ∀ b, b < 6 → a ≠ b → (TX3 a).2.1 ≠ (TX3 b).2.1 := by decide +kernel
theorem tyX3_ok : ∀ k, k < 6 → parseFieldDescriptor (TX3 k).2.2.1 = some (tyX3 k) := by decide +kernel
abbrev cX3_init : ByteArray := prog_1_method_1_code
def yX3_init : MethodName := ⟨RX3, "<init>", "(I)V"⟩
abbrev cX3_row : ByteArray := prog_1_method_2_code
def yX3_row : MethodName := ⟨RX3, "row", "(IIJJ)I"⟩
abbrev cX3_sync : ByteArray := prog_1_method_3_code
def yX3_sync : MethodName := ⟨RX3, "sync", "(I)I"⟩
abbrev cX3_copy : ByteArray := prog_1_method_4_code
def yX3_copy : MethodName := ⟨RX3, "copy", "(Z)I"⟩
abbrev cX3_recover : ByteArray := prog_1_method_5_code
def yX3_recover : MethodName := ⟨RX3, "recover", "(IJ)I"⟩
abbrev cX3_get : ByteArray := prog_1_method_6_code
def yX3_get : MethodName := ⟨RX3, "get", "(I)J"⟩
abbrev cX3_backout : ByteArray := prog_1_method_7_code
def yX3_backout : MethodName := ⟨RX3, "backout", "(I)I"⟩
abbrev cX3_torn : ByteArray := prog_1_method_8_code
def yX3_torn : MethodName := ⟨RX3, "torn", "(II)I"⟩
abbrev cX3_archive : ByteArray := prog_1_method_9_code
def yX3_archive : MethodName := ⟨RX3, "archive", "(I)I"⟩
abbrev cX3_gap : ByteArray := prog_1_method_10_code
def yX3_gap : MethodName := ⟨RX3, "gap", "(I)I"⟩
abbrev cX3_merge : ByteArray := prog_1_method_11_code
def yX3_merge : MethodName := ⟨RX3, "merge", "(II)I"⟩
abbrev cX3_at : ByteArray := prog_1_method_12_code
def yX3_at : MethodName := ⟨RX3, "at", "(II)I"⟩
abbrev cX3_warm : ByteArray := prog_1_method_13_code
def yX3_warm : MethodName := ⟨RX3, "warm", "()I"⟩
abbrev cX3_ahead : ByteArray := prog_1_method_14_code
def yX3_ahead : MethodName := ⟨RX3, "ahead", "()Z"⟩
abbrev cX3_count : ByteArray := prog_1_method_15_code
def yX3_count : MethodName := ⟨RX3, "count", "(I)I"⟩
abbrev cX3_isUnit : ByteArray := prog_1_method_16_code
def yX3_isUnit : MethodName := ⟨RX3, "isUnit", "(I)Z"⟩
abbrev cX3_isCell : ByteArray := prog_1_method_17_code
def yX3_isCell : MethodName := ⟨RX3, "isCell", "(I)Z"⟩
abbrev cX3_writeChange : ByteArray := prog_1_method_18_code
def yX3_writeChange : MethodName := ⟨RX3, "writeChange", "(IIJJZ)I"⟩
abbrev cX3_writeLastOf : ByteArray := prog_1_method_19_code
def yX3_writeLastOf : MethodName := ⟨RX3, "writeLastOf", "(IIZ)I"⟩
abbrev cX3_setCell : ByteArray := prog_1_method_20_code
def yX3_setCell : MethodName := ⟨RX3, "setCell", "(IJ)V"⟩
abbrev cX3_writeBackingOut : ByteArray := prog_1_method_21_code
def yX3_writeBackingOut : MethodName := ⟨RX3, "writeBackingOut", "(I)V"⟩
abbrev cX3_changesOf : ByteArray := prog_1_method_22_code
def yX3_changesOf : MethodName := ⟨RX3, "changesOf", "(I)I"⟩
abbrev cX3_latestMissingOf : ByteArray := prog_1_method_23_code
def yX3_latestMissingOf : MethodName := ⟨RX3, "latestMissingOf", "(I)I"⟩
abbrev cX3_isToBeBackedOut : ByteArray := prog_1_method_24_code
def yX3_isToBeBackedOut : MethodName := ⟨RX3, "isToBeBackedOut", "(I)Z"⟩
abbrev cX3_leastMissing : ByteArray := prog_1_method_25_code
def yX3_leastMissing : MethodName := ⟨RX3, "leastMissing", "(II)I"⟩
abbrev cX3_rowsOfBackingOut : ByteArray := prog_1_method_26_code
def yX3_rowsOfBackingOut : MethodName := ⟨RX3, "rowsOfBackingOut", "(I)I"⟩
abbrev cX3_bringForward : ByteArray := prog_1_method_27_code
def yX3_bringForward : MethodName := ⟨RX3, "bringForward", "(II)V"⟩
abbrev cX3_dropBehind : ByteArray := prog_1_method_28_code
def yX3_dropBehind : MethodName := ⟨RX3, "dropBehind", "(I)V"⟩
abbrev cX3_backOutAllOpen : ByteArray := prog_1_method_29_code
def yX3_backOutAllOpen : MethodName := ⟨RX3, "backOutAllOpen", "()V"⟩
def RX4 : String := "LogForwardModel"
def TX4 : u_T := fun k => match k with
  | 0 => ("LogForwardModel", "code", "I", false)
  | 1 => ("LogForwardModel", "regions", "I", true)
  | 2 => ("LogForwardModel", "cells", "[J", true)
  | 3 => ("LogForwardModel", "kinds", "[I", true)
  | 4 => ("LogForwardModel", "units", "[I", true)
  | 5 => ("LogForwardModel", "where", "[I", true)
  | 6 => ("LogForwardModel", "torn", "[I", true)
  | 7 => ("LogForwardModel", "befores", "[J", true)
  | 8 => ("LogForwardModel", "afters", "[J", true)
  | 9 => ("LogForwardModel", "back", "[Z", true)
  | 10 => ("LogForwardModel", "rows", "I", false)
  | 11 => ("LogForwardModel", "archived", "I", false)
  | 12 => ("LogForwardModel", "images", "I", false)
  | 13 => ("LogForwardModel", "fuzzy", "I", false)
  | 14 => ("LogForwardModel", "kept", "[J", true)
  | 15 => ("LogForwardModel", "starts", "[I", true)
  | 16 => ("LogForwardModel", "ends", "[I", true)
  | _ => ("LogForwardModel", "bad", "[Z", true)
def tyX4 : Nat → FieldType := fun k => match k with
  | 0 => .int
  | 1 => .int
  | 2 => .array .long
  | 3 => .array .int
  | 4 => .array .int
  | 5 => .array .int
  | 6 => .array .int
  | 7 => .array .long
  | 8 => .array .long
  | 9 => .array .boolean
  | 10 => .int
  | 11 => .int
  | 12 => .int
  | 13 => .int
  | 14 => .array .long
  | 15 => .array .int
  | 16 => .array .int
  | _ => .array .boolean
abbrev wsX40 : List Cond := u_ws RX4 TX4 18
theorem nmX4 : ∀ a, a < 18 → ∀ b, b < 18 → a ≠ b → (TX4 a).2.1 ≠ (TX4 b).2.1 := by decide +kernel
theorem tyX4_ok : ∀ k, k < 18 → parseFieldDescriptor (TX4 k).2.2.1 = some (tyX4 k) := by decide +kernel
abbrev cX4_init : ByteArray := prog_6_method_1_code
def yX4_init : MethodName := ⟨RX4, "<init>", "(I)V"⟩
abbrev cX4_thrown : ByteArray := prog_6_method_2_code
def yX4_thrown : MethodName := ⟨RX4, "thrown", "()I"⟩
abbrev cX4_isUnit : ByteArray := prog_6_method_3_code
def yX4_isUnit : MethodName := ⟨RX4, "isUnit", "(I)Z"⟩
abbrev cX4_isCell : ByteArray := prog_6_method_4_code
def yX4_isCell : MethodName := ⟨RX4, "isCell", "(I)Z"⟩
abbrev cX4_stateOf : ByteArray := prog_6_method_5_code
def yX4_stateOf : MethodName := ⟨RX4, "stateOf", "(II)I"⟩
abbrev cX4_isOpen : ByteArray := prog_6_method_6_code
def yX4_isOpen : MethodName := ⟨RX4, "isOpen", "(I)Z"⟩
abbrev cX4_isMissing : ByteArray := prog_6_method_7_code
def yX4_isMissing : MethodName := ⟨RX4, "isMissing", "(I)Z"⟩
abbrev cX4_isChange : ByteArray := prog_6_method_8_code
def yX4_isChange : MethodName := ⟨RX4, "isChange", "(II)Z"⟩
abbrev cX4_changes : ByteArray := prog_6_method_9_code
def yX4_changes : MethodName := ⟨RX4, "changes", "(II)I"⟩
abbrev cX4_finish : ByteArray := prog_6_method_10_code
def yX4_finish : MethodName := ⟨RX4, "finish", "()V"⟩
abbrev cX4_write : ByteArray := prog_6_method_11_code
def yX4_write : MethodName := ⟨RX4, "write", "(IIIJJZ)V"⟩
abbrev cX4_isTaken : ByteArray := prog_6_method_12_code
def yX4_isTaken : MethodName := ⟨RX4, "isTaken", "(II)Z"⟩
abbrev cX4_row : ByteArray := prog_6_method_13_code
def yX4_row : MethodName := ⟨RX4, "row", "(IIJJ)I"⟩
abbrev cX4_sync : ByteArray := prog_6_method_14_code
def yX4_sync : MethodName := ⟨RX4, "sync", "(I)I"⟩
abbrev cX4_takeBack : ByteArray := prog_6_method_15_code
def yX4_takeBack : MethodName := ⟨RX4, "takeBack", "(I)I"⟩
abbrev cX4_backout : ByteArray := prog_6_method_16_code
def yX4_backout : MethodName := ⟨RX4, "backout", "(I)I"⟩
abbrev cX4_copy : ByteArray := prog_6_method_17_code
def yX4_copy : MethodName := ⟨RX4, "copy", "(Z)I"⟩
abbrev cX4_lacking : ByteArray := prog_6_method_18_code
def yX4_lacking : MethodName := ⟨RX4, "lacking", "(II)I"⟩
abbrev cX4_recover : ByteArray := prog_6_method_19_code
def yX4_recover : MethodName := ⟨RX4, "recover", "(IJ)I"⟩
abbrev cX4_torn : ByteArray := prog_6_method_20_code
def yX4_torn : MethodName := ⟨RX4, "torn", "(II)I"⟩
abbrev cX4_archive : ByteArray := prog_6_method_21_code
def yX4_archive : MethodName := ⟨RX4, "archive", "(I)I"⟩
abbrev cX4_gap : ByteArray := prog_6_method_22_code
def yX4_gap : MethodName := ⟨RX4, "gap", "(I)I"⟩
abbrev cX4_ahead : ByteArray := prog_6_method_23_code
def yX4_ahead : MethodName := ⟨RX4, "ahead", "()Z"⟩
abbrev cX4_merge : ByteArray := prog_6_method_24_code
def yX4_merge : MethodName := ⟨RX4, "merge", "(II)I"⟩
abbrev cX4_get : ByteArray := prog_6_method_25_code
def yX4_get : MethodName := ⟨RX4, "get", "(I)J"⟩
abbrev cX4_at : ByteArray := prog_6_method_26_code
def yX4_at : MethodName := ⟨RX4, "at", "(II)I"⟩
abbrev cX4_warm : ByteArray := prog_6_method_27_code
def yX4_warm : MethodName := ⟨RX4, "warm", "()I"⟩
abbrev cX4_synced : ByteArray := prog_6_method_28_code
def yX4_synced : MethodName := ⟨RX4, "synced", "()I"⟩
abbrev cX4_count : ByteArray := prog_6_method_29_code
def yX4_count : MethodName := ⟨RX4, "count", "(I)I"⟩
def RJx00060 : String := "java/lang/ArrayIndexOutOfBoundsException"
def TJx00060 : u_T := fun k => match k with
  | 0 => ("java/lang/Throwable", "backtrace", "Ljava/lang/Object;", false)
  | 1 => ("java/lang/Throwable", "detailMessage", "Ljava/lang/String;", false)
  | 2 => ("java/lang/Throwable", "cause", "Ljava/lang/Throwable;", false)
  | 3 => ("java/lang/Throwable", "stackTrace", "[Ljava/lang/StackTraceElement;", false)
  | 4 => ("java/lang/Throwable", "depth", "I", false)
  | _ => ("java/lang/Throwable", "suppressedExceptions", "Ljava/util/List;", false)
def tyJx00060 : Nat → FieldType := fun k => match k with
  | 0 => .object "java/lang/Object"
  | 1 => .object "java/lang/String"
  | 2 => .object "java/lang/Throwable"
  | 3 => .array (.object "java/lang/StackTraceElement")
  | 4 => .int
  | _ => .object "java/util/List"
abbrev wsJx000600 : List Cond := u_ws RJx00060 TJx00060 6
theorem nmJx00060 : ∀ a, a < 6 → ∀ b, b < 6 → a ≠ b → (TJx00060 a).2.1 ≠ (TJx00060 b).2.1 := by decide +kernel
theorem tyJx00060_ok : ∀ k, k < 6 → parseFieldDescriptor (TJx00060 k).2.2.1 = some (tyJx00060 k) := by decide +kernel
abbrev cJx00060_init_a7421 : ByteArray := prog_7_method_2_code
def yJx00060_init_a7421 : MethodName := ⟨RJx00060, "<init>", "(Ljava/lang/String;)V"⟩
def RJ9 : String := "java/lang/Math"
def TJ9 : u_T := fun k => match k with
  | _ => ("", "", "", false)
def tyJ9 : Nat → FieldType := fun k => match k with
  | _ => .int
abbrev wsJ90 : List Cond := u_ws RJ9 TJ9 0
theorem nmJ9 : ∀ a, a < 0 → ∀ b, b < 0 → a ≠ b → (TJ9 a).2.1 ≠ (TJ9 b).2.1 := by decide +kernel
theorem tyJ9_ok : ∀ k, k < 0 → parseFieldDescriptor (TJ9 k).2.2.1 = some (tyJ9 k) := by decide +kernel
abbrev cJ9_max_7cf53 : ByteArray := prog_11_method_65_code
def yJ9_max_7cf53 : MethodName := ⟨RJ9, "max", "(II)I"⟩
abbrev cJ9_min_7cf53 : ByteArray := prog_11_method_69_code
def yJ9_min_7cf53 : MethodName := ⟨RJ9, "min", "(II)I"⟩
def RJ0 : String := "java/lang/String"
def TJ0 : u_T := fun k => match k with
  | 0 => ("java/lang/String", "value", "[B", true)
  | _ => ("java/lang/String", "coder", "B", true)
def tyJ0 : Nat → FieldType := fun k => match k with
  | 0 => .array .byte
  | _ => .byte
abbrev wsJ00 : List Cond := u_ws RJ0 TJ0 2
theorem nmJ0 : ∀ a, a < 2 → ∀ b, b < 2 → a ≠ b → (TJ0 a).2.1 ≠ (TJ0 b).2.1 := by decide +kernel
theorem tyJ0_ok : ∀ k, k < 2 → parseFieldDescriptor (TJ0 k).2.2.1 = some (tyJ0 k) := by decide +kernel
def RJ10 : String := "java/lang/System"
def TJ10 : u_T := fun k => match k with
  | _ => ("", "", "", false)
def tyJ10 : Nat → FieldType := fun k => match k with
  | _ => .int
abbrev wsJ100 : List Cond := u_ws RJ10 TJ10 0
theorem nmJ10 : ∀ a, a < 0 → ∀ b, b < 0 → a ≠ b → (TJ10 a).2.1 ≠ (TJ10 b).2.1 := by decide +kernel
theorem tyJ10_ok : ∀ k, k < 0 → parseFieldDescriptor (TJ10 k).2.2.1 = some (tyJ10 k) := by decide +kernel
def RJ7 : String := "java/util/Arrays"
def TJ7 : u_T := fun k => match k with
  | _ => ("", "", "", false)
def tyJ7 : Nat → FieldType := fun k => match k with
  | _ => .int
abbrev wsJ70 : List Cond := u_ws RJ7 TJ7 0
theorem nmJ7 : ∀ a, a < 0 → ∀ b, b < 0 → a ≠ b → (TJ7 a).2.1 ≠ (TJ7 b).2.1 := by decide +kernel
theorem tyJ7_ok : ∀ k, k < 0 → parseFieldDescriptor (TJ7 k).2.2.1 = some (tyJ7 k) := by decide +kernel
abbrev cJ7_fill_53178 : ByteArray := prog_16_method_103_code
def yJ7_fill_53178 : MethodName := ⟨RJ7, "fill", "([II)V"⟩
def RL : String := "LogForwardLaw"
abbrev cL_cell : ByteArray := method_2_code
def yL_cell : MethodName := ⟨RL, "cell", "([II)I"⟩
abbrev cL_get : ByteArray := method_3_code
def yL_get : MethodName := ⟨RL, "get", "(LLogForward;I[J)I"⟩
abbrev cL_at : ByteArray := method_4_code
def yL_at : MethodName := ⟨RL, "at", "(LLogForward;II[J)I"⟩
abbrev cL_law : ByteArray := code
def yL_law : MethodName := ⟨RL, "law", "([I)Z"⟩
def wsX0_init : List Cond := .code yX0_init cX0_init 1 none :: ([.methodLink RX0 3 objectInit, .instanceMethod objectInit, .code objectInit ⟨#[0xb1]⟩ 1 none, .arrayClass .int, .fieldLink RX0 11 "LogForward$Images" "start" "[I", .fieldLink RX0 15 "LogForward$Images" "end" "[I", .arrayClass .boolean, .fieldLink RX0 18 "LogForward$Images" "spoiled" "[Z", .classLink RX0 22 "[[J", .arrayClass .long, .fieldLink RX0 24 "LogForward$Images" "held" "[[J", .fieldLink RX0 27 "LogForward$Images" "many" "I", .fieldLink RX0 31 "LogForward$Images" "latestIsUnfinished" "Z"] ++ wsX00)
def wsX0_howMany : List Cond := .code yX0_howMany cX0_howMany 1 (some .int) :: ([.fieldLink RX0 27 "LogForward$Images" "many" "I"] ++ wsX00)
def wsX0_has : List Cond := .code yX0_has cX0_has 2 (some .boolean) :: ([.fieldLink RX0 27 "LogForward$Images" "many" "I"] ++ wsX00)
def wsX0_isGood : List Cond := .code yX0_isGood cX0_isGood 2 (some .boolean) :: ([.fieldLink RX0 18 "LogForward$Images" "spoiled" "[Z", .methodLink RX0 35 yX0_has, .instanceMethod yX0_has, .selects RX0 yX0_has yX0_has, .initialized RX0, .code yX0_has cX0_has 2 (some .boolean), .fieldLink RX0 27 "LogForward$Images" "many" "I"] ++ wsX00 ++ (vx_atM "java/lang/ArrayIndexOutOfBoundsException" ["java/lang/IndexOutOfBoundsException", "java/lang/RuntimeException", "java/lang/Exception"]).filter goodWord)
def wsX0_startOf : List Cond := .code yX0_startOf cX0_startOf 2 (some .int) :: ([.fieldLink RX0 11 "LogForward$Images" "start" "[I", .methodLink RX0 35 yX0_has, .instanceMethod yX0_has, .selects RX0 yX0_has yX0_has, .initialized RX0, .code yX0_has cX0_has 2 (some .boolean), .fieldLink RX0 27 "LogForward$Images" "many" "I"] ++ wsX00 ++ (vx_atM "java/lang/ArrayIndexOutOfBoundsException" ["java/lang/IndexOutOfBoundsException", "java/lang/RuntimeException", "java/lang/Exception"]).filter goodWord)
def wsX0_endOf : List Cond := .code yX0_endOf cX0_endOf 2 (some .int) :: ([.fieldLink RX0 15 "LogForward$Images" "end" "[I", .methodLink RX0 35 yX0_has, .instanceMethod yX0_has, .selects RX0 yX0_has yX0_has, .initialized RX0, .code yX0_has cX0_has 2 (some .boolean), .fieldLink RX0 27 "LogForward$Images" "many" "I"] ++ wsX00 ++ (vx_atM "java/lang/ArrayIndexOutOfBoundsException" ["java/lang/IndexOutOfBoundsException", "java/lang/RuntimeException", "java/lang/Exception"]).filter goodWord)
def wsX0_take : List Cond := .code yX0_take cX0_take 5 (some .int) :: ([.fieldLink RX0 27 "LogForward$Images" "many" "I", .fieldLink RX0 11 "LogForward$Images" "start" "[I", .fieldLink RX0 15 "LogForward$Images" "end" "[I", .fieldLink RX0 24 "LogForward$Images" "held" "[[J", .methodLink RX0 39 arraycopyName, .native arraycopyName, .static arraycopyName, .initialized "java/lang/System", .fieldLink RX0 31 "LogForward$Images" "latestIsUnfinished" "Z"] ++ wsX00 ++ (vx_atM "java/lang/ArrayIndexOutOfBoundsException" ["java/lang/IndexOutOfBoundsException", "java/lang/RuntimeException", "java/lang/Exception"]).filter goodWord)
def wsX0_finish : List Cond := .code yX0_finish cX0_finish 3 none :: ([.fieldLink RX0 31 "LogForward$Images" "latestIsUnfinished" "Z", .fieldLink RX0 24 "LogForward$Images" "held" "[[J", .fieldLink RX0 27 "LogForward$Images" "many" "I", .methodLink RX0 39 arraycopyName, .native arraycopyName, .static arraycopyName, .initialized "java/lang/System", .fieldLink RX0 15 "LogForward$Images" "end" "[I"] ++ wsX00 ++ (vx_atM "java/lang/ArrayIndexOutOfBoundsException" ["java/lang/IndexOutOfBoundsException", "java/lang/RuntimeException", "java/lang/Exception"]).filter goodWord)
def wsX0_finishBehindFifth : List Cond := .code yX0_finishBehindFifth cX0_finishBehindFifth 3 none :: ([.fieldLink RX0 11 "LogForward$Images" "start" "[I", .fieldLink RX0 27 "LogForward$Images" "many" "I", .methodLink RX0 45 yX0_finish, .instanceMethod yX0_finish, .selects RX0 yX0_finish yX0_finish, .initialized RX0, .code yX0_finish cX0_finish 3 none, .fieldLink RX0 31 "LogForward$Images" "latestIsUnfinished" "Z", .fieldLink RX0 24 "LogForward$Images" "held" "[[J", .methodLink RX0 39 arraycopyName, .native arraycopyName, .static arraycopyName, .initialized "java/lang/System", .fieldLink RX0 15 "LogForward$Images" "end" "[I"] ++ wsX00 ++ (vx_atM "java/lang/ArrayIndexOutOfBoundsException" ["java/lang/IndexOutOfBoundsException", "java/lang/RuntimeException", "java/lang/Exception"]).filter goodWord)
def wsX0_putBack : List Cond := .code yX0_putBack cX0_putBack 3 none :: ([.fieldLink RX0 24 "LogForward$Images" "held" "[[J", .methodLink RX0 39 arraycopyName, .native arraycopyName, .static arraycopyName, .initialized "java/lang/System", .methodLink RX0 35 yX0_has, .instanceMethod yX0_has, .selects RX0 yX0_has yX0_has, .initialized RX0, .code yX0_has cX0_has 2 (some .boolean), .fieldLink RX0 27 "LogForward$Images" "many" "I"] ++ wsX00)
def wsX0_spoilBehind : List Cond := .code yX0_spoilBehind cX0_spoilBehind 3 none :: ([.fieldLink RX0 27 "LogForward$Images" "many" "I", .fieldLink RX0 15 "LogForward$Images" "end" "[I", .fieldLink RX0 18 "LogForward$Images" "spoiled" "[Z"] ++ wsX00 ++ (vx_atM "java/lang/ArrayIndexOutOfBoundsException" ["java/lang/IndexOutOfBoundsException", "java/lang/RuntimeException", "java/lang/Exception"]).filter goodWord)
def wsX1_init : List Cond := .code yX1_init cX1_init 1 none :: ([.methodLink RX1 3 objectInit, .instanceMethod objectInit, .code objectInit ⟨#[0xb1]⟩ 1 none, .arrayClass .int, .fieldLink RX1 9 "LogForward$Rows" "kind" "[I", .fieldLink RX1 15 "LogForward$Rows" "unit" "[I", .fieldLink RX1 18 "LogForward$Rows" "cell" "[I", .arrayClass .long, .fieldLink RX1 21 "LogForward$Rows" "before" "[J", .fieldLink RX1 25 "LogForward$Rows" "after" "[J", .fieldLink RX1 28 "LogForward$Rows" "tornCopies" "[I", .arrayClass .boolean, .fieldLink RX1 31 "LogForward$Rows" "backingOut" "[Z", .fieldLink RX1 35 "LogForward$Rows" "latest" "I", .fieldLink RX1 39 "LogForward$Rows" "archived" "I"] ++ wsX10)
def wsX1_latest : List Cond := .code yX1_latest cX1_latest 1 (some .int) :: ([.fieldLink RX1 35 "LogForward$Rows" "latest" "I"] ++ wsX10)
def wsX1_archived : List Cond := .code yX1_archived cX1_archived 1 (some .int) :: ([.fieldLink RX1 39 "LogForward$Rows" "archived" "I"] ++ wsX10)
def wsX1_has : List Cond := .code yX1_has cX1_has 2 (some .boolean) :: ([.fieldLink RX1 35 "LogForward$Rows" "latest" "I"] ++ wsX10)
def wsX1_hasRoomFor : List Cond := .code yX1_hasRoomFor cX1_hasRoomFor 2 (some .boolean) :: ([.fieldLink RX1 35 "LogForward$Rows" "latest" "I"] ++ wsX10)
def wsX1_write : List Cond := .code yX1_write cX1_write 9 (some .int) :: ([.fieldLink RX1 35 "LogForward$Rows" "latest" "I", .fieldLink RX1 9 "LogForward$Rows" "kind" "[I", .fieldLink RX1 15 "LogForward$Rows" "unit" "[I", .fieldLink RX1 18 "LogForward$Rows" "cell" "[I", .fieldLink RX1 21 "LogForward$Rows" "before" "[J", .fieldLink RX1 25 "LogForward$Rows" "after" "[J", .fieldLink RX1 31 "LogForward$Rows" "backingOut" "[Z", .fieldLink RX1 28 "LogForward$Rows" "tornCopies" "[I", .methodLink RX1 42 yX1_hasRoomFor, .instanceMethod yX1_hasRoomFor, .selects RX1 yX1_hasRoomFor yX1_hasRoomFor, .initialized RX1, .code yX1_hasRoomFor cX1_hasRoomFor 2 (some .boolean)] ++ wsX10 ++ (vx_atM "java/lang/ArrayIndexOutOfBoundsException" ["java/lang/IndexOutOfBoundsException", "java/lang/RuntimeException", "java/lang/Exception"]).filter goodWord)
def wsX1_tear : List Cond := .code yX1_tear cX1_tear 3 (some .boolean) :: ([.fieldLink RX1 28 "LogForward$Rows" "tornCopies" "[I", .methodLink RX1 46 yX1_has, .instanceMethod yX1_has, .selects RX1 yX1_has yX1_has, .initialized RX1, .code yX1_has cX1_has 2 (some .boolean), .fieldLink RX1 35 "LogForward$Rows" "latest" "I"] ++ wsX10 ++ (vx_atM "java/lang/ArrayIndexOutOfBoundsException" ["java/lang/IndexOutOfBoundsException", "java/lang/RuntimeException", "java/lang/Exception"]).filter goodWord)
def wsX1_putAway : List Cond := .code yX1_putAway cX1_putAway 2 none :: ([.fieldLink RX1 39 "LogForward$Rows" "archived" "I", .methodLink RX1 49 Lib.Math.max.name, .static Lib.Math.max.name, .initialized "java/lang/Math", .code Lib.Math.max.name Lib.Math.max.code 2 (some .int)] ++ wsX10)
def wsX1_dropBehind : List Cond := .code yX1_dropBehind cX1_dropBehind 2 none :: ([.fieldLink RX1 35 "LogForward$Rows" "latest" "I", .methodLink RX1 55 Lib.Math.min.name, .static Lib.Math.min.name, .initialized "java/lang/Math", .code Lib.Math.min.name Lib.Math.min.code 2 (some .int), .fieldLink RX1 39 "LogForward$Rows" "archived" "I"] ++ wsX10)
def wsX1_isMissing : List Cond := .code yX1_isMissing cX1_isMissing 2 (some .boolean) :: ([.fieldLink RX1 28 "LogForward$Rows" "tornCopies" "[I", .methodLink RX1 46 yX1_has, .instanceMethod yX1_has, .selects RX1 yX1_has yX1_has, .initialized RX1, .code yX1_has cX1_has 2 (some .boolean), .fieldLink RX1 35 "LogForward$Rows" "latest" "I"] ++ wsX10 ++ (vx_atM "java/lang/ArrayIndexOutOfBoundsException" ["java/lang/IndexOutOfBoundsException", "java/lang/RuntimeException", "java/lang/Exception"]).filter goodWord)
def wsX1_isChange : List Cond := .code yX1_isChange cX1_isChange 2 (some .boolean) :: ([.fieldLink RX1 9 "LogForward$Rows" "kind" "[I", .methodLink RX1 46 yX1_has, .instanceMethod yX1_has, .selects RX1 yX1_has yX1_has, .initialized RX1, .code yX1_has cX1_has 2 (some .boolean), .fieldLink RX1 35 "LogForward$Rows" "latest" "I"] ++ wsX10 ++ (vx_atM "java/lang/ArrayIndexOutOfBoundsException" ["java/lang/IndexOutOfBoundsException", "java/lang/RuntimeException", "java/lang/Exception"]).filter goodWord)
def wsX1_isBackable : List Cond := .code yX1_isBackable cX1_isBackable 2 (some .boolean) :: ([.fieldLink RX1 31 "LogForward$Rows" "backingOut" "[Z", .methodLink RX1 58 yX1_isChange, .instanceMethod yX1_isChange, .selects RX1 yX1_isChange yX1_isChange, .initialized RX1, .code yX1_isChange cX1_isChange 2 (some .boolean), .fieldLink RX1 9 "LogForward$Rows" "kind" "[I", .methodLink RX1 46 yX1_has, .instanceMethod yX1_has, .selects RX1 yX1_has yX1_has, .code yX1_has cX1_has 2 (some .boolean), .fieldLink RX1 35 "LogForward$Rows" "latest" "I"] ++ wsX10 ++ (vx_atM "java/lang/ArrayIndexOutOfBoundsException" ["java/lang/IndexOutOfBoundsException", "java/lang/RuntimeException", "java/lang/Exception"]).filter goodWord)
def wsX1_kindOf : List Cond := .code yX1_kindOf cX1_kindOf 2 (some .int) :: ([.fieldLink RX1 9 "LogForward$Rows" "kind" "[I", .methodLink RX1 46 yX1_has, .instanceMethod yX1_has, .selects RX1 yX1_has yX1_has, .initialized RX1, .code yX1_has cX1_has 2 (some .boolean), .fieldLink RX1 35 "LogForward$Rows" "latest" "I"] ++ wsX10 ++ (vx_atM "java/lang/ArrayIndexOutOfBoundsException" ["java/lang/IndexOutOfBoundsException", "java/lang/RuntimeException", "java/lang/Exception"]).filter goodWord)
def wsX1_unitOf : List Cond := .code yX1_unitOf cX1_unitOf 2 (some .int) :: ([.fieldLink RX1 15 "LogForward$Rows" "unit" "[I", .methodLink RX1 46 yX1_has, .instanceMethod yX1_has, .selects RX1 yX1_has yX1_has, .initialized RX1, .code yX1_has cX1_has 2 (some .boolean), .fieldLink RX1 35 "LogForward$Rows" "latest" "I"] ++ wsX10 ++ (vx_atM "java/lang/ArrayIndexOutOfBoundsException" ["java/lang/IndexOutOfBoundsException", "java/lang/RuntimeException", "java/lang/Exception"]).filter goodWord)
def wsX1_cellOf : List Cond := .code yX1_cellOf cX1_cellOf 2 (some .int) :: ([.fieldLink RX1 18 "LogForward$Rows" "cell" "[I", .methodLink RX1 46 yX1_has, .instanceMethod yX1_has, .selects RX1 yX1_has yX1_has, .initialized RX1, .code yX1_has cX1_has 2 (some .boolean), .fieldLink RX1 35 "LogForward$Rows" "latest" "I"] ++ wsX10 ++ (vx_atM "java/lang/ArrayIndexOutOfBoundsException" ["java/lang/IndexOutOfBoundsException", "java/lang/RuntimeException", "java/lang/Exception"]).filter goodWord)
def wsX1_beforeOf : List Cond := .code yX1_beforeOf cX1_beforeOf 2 (some .long) :: ([.fieldLink RX1 21 "LogForward$Rows" "before" "[J", .methodLink RX1 46 yX1_has, .instanceMethod yX1_has, .selects RX1 yX1_has yX1_has, .initialized RX1, .code yX1_has cX1_has 2 (some .boolean), .fieldLink RX1 35 "LogForward$Rows" "latest" "I"] ++ wsX10 ++ (vx_atM "java/lang/ArrayIndexOutOfBoundsException" ["java/lang/IndexOutOfBoundsException", "java/lang/RuntimeException", "java/lang/Exception"]).filter goodWord)
def wsX1_afterOf : List Cond := .code yX1_afterOf cX1_afterOf 2 (some .long) :: ([.fieldLink RX1 25 "LogForward$Rows" "after" "[J", .methodLink RX1 46 yX1_has, .instanceMethod yX1_has, .selects RX1 yX1_has yX1_has, .initialized RX1, .code yX1_has cX1_has 2 (some .boolean), .fieldLink RX1 35 "LogForward$Rows" "latest" "I"] ++ wsX10 ++ (vx_atM "java/lang/ArrayIndexOutOfBoundsException" ["java/lang/IndexOutOfBoundsException", "java/lang/RuntimeException", "java/lang/Exception"]).filter goodWord)
def wsX1_tell : List Cond := .code yX1_tell cX1_tell 3 (some .int) :: ([.fieldLink RX1 9 "LogForward$Rows" "kind" "[I", .fieldLink RX1 15 "LogForward$Rows" "unit" "[I", .fieldLink RX1 18 "LogForward$Rows" "cell" "[I", .fieldLink RX1 21 "LogForward$Rows" "before" "[J", .fieldLink RX1 25 "LogForward$Rows" "after" "[J", .fieldLink RX1 28 "LogForward$Rows" "tornCopies" "[I", .fieldLink RX1 31 "LogForward$Rows" "backingOut" "[Z", .methodLink RX1 46 yX1_has, .instanceMethod yX1_has, .selects RX1 yX1_has yX1_has, .initialized RX1, .code yX1_has cX1_has 2 (some .boolean), .fieldLink RX1 35 "LogForward$Rows" "latest" "I"] ++ wsX10 ++ (vx_atM "java/lang/ArrayIndexOutOfBoundsException" ["java/lang/IndexOutOfBoundsException", "java/lang/RuntimeException", "java/lang/Exception"]).filter goodWord)
def wsJ7_fill_53178 : List Cond := .code yJ7_fill_53178 cJ7_fill_53178 4 none :: ([])
def wsX2_init : List Cond := .code yX2_init cX2_init 1 none :: ([.methodLink RX2 3 objectInit, .instanceMethod objectInit, .code objectInit ⟨#[0xb1]⟩ 1 none, .arrayClass .int, .fieldLink RX2 9 "LogForward$Units" "latestKind" "[I", .fieldLink RX2 15 "LogForward$Units" "changer" "[I", .methodLink RX2 18 yJ7_fill_53178, .static yJ7_fill_53178, .initialized RJ7, .code yJ7_fill_53178 cJ7_fill_53178 4 none] ++ wsX20)
def wsX3_isUnit : List Cond := .code yX3_isUnit cX3_isUnit 1 (some .boolean) :: ([])
def wsX2_isOpen : List Cond := .code yX2_isOpen cX2_isOpen 2 (some .boolean) :: ([.fieldLink RX2 9 "LogForward$Units" "latestKind" "[I", .static yX3_isUnit, .initialized RX3, .code yX3_isUnit cX3_isUnit 1 (some .boolean)] ++ wsX20 ++ (vx_atM "java/lang/ArrayIndexOutOfBoundsException" ["java/lang/IndexOutOfBoundsException", "java/lang/RuntimeException", "java/lang/Exception"]).filter goodWord)
def wsX2_isOver : List Cond := .code yX2_isOver cX2_isOver 2 (some .boolean) :: ([.fieldLink RX2 9 "LogForward$Units" "latestKind" "[I", .static yX3_isUnit, .initialized RX3, .code yX3_isUnit cX3_isUnit 1 (some .boolean)] ++ wsX20 ++ (vx_atM "java/lang/ArrayIndexOutOfBoundsException" ["java/lang/IndexOutOfBoundsException", "java/lang/RuntimeException", "java/lang/Exception"]).filter goodWord)
def wsX3_isCell : List Cond := .code yX3_isCell cX3_isCell 1 (some .boolean) :: ([])
def wsX2_isChangedByAnother : List Cond := .code yX2_isChangedByAnother cX2_isChangedByAnother 3 (some .boolean) :: ([.fieldLink RX2 15 "LogForward$Units" "changer" "[I", .static yX3_isCell, .initialized RX3, .code yX3_isCell cX3_isCell 1 (some .boolean), .methodLink RX2 31 yX2_isOpen, .instanceMethod yX2_isOpen, .selects RX2 yX2_isOpen yX2_isOpen, .initialized RX2, .code yX2_isOpen cX2_isOpen 2 (some .boolean), .fieldLink RX2 9 "LogForward$Units" "latestKind" "[I", .static yX3_isUnit, .code yX3_isUnit cX3_isUnit 1 (some .boolean)] ++ wsX20 ++ (vx_atM "java/lang/ArrayIndexOutOfBoundsException" ["java/lang/IndexOutOfBoundsException", "java/lang/RuntimeException", "java/lang/Exception"]).filter goodWord)
def wsX2_follow : List Cond := .code yX2_follow cX2_follow 4 none :: ([.fieldLink RX2 9 "LogForward$Units" "latestKind" "[I", .fieldLink RX2 15 "LogForward$Units" "changer" "[I", .static yX3_isUnit, .initialized RX3, .code yX3_isUnit cX3_isUnit 1 (some .boolean), .static yX3_isCell, .code yX3_isCell cX3_isCell 1 (some .boolean)] ++ wsX20 ++ (vx_atM "java/lang/ArrayIndexOutOfBoundsException" ["java/lang/IndexOutOfBoundsException", "java/lang/RuntimeException", "java/lang/Exception"]).filter goodWord)
def wsX2_followAll_r1 : List Cond := [Cond.fieldLink RX2 9 "LogForward$Units" "latestKind" "[I", Cond.fieldLink RX2 15 "LogForward$Units" "changer" "[I", Cond.methodLink RX2 18 yJ7_fill_53178, Cond.static yJ7_fill_53178, Cond.initialized RJ7, Cond.code yJ7_fill_53178 cJ7_fill_53178 4 none, Cond.methodLink RX2 34 yX1_kindOf, Cond.instanceMethod yX1_kindOf, Cond.selects RX1 yX1_kindOf yX1_kindOf, Cond.initialized RX1, Cond.code yX1_kindOf cX1_kindOf 2 (some .int), Cond.fieldLink RX1 9 "LogForward$Rows" "kind" "[I", Cond.methodLink RX1 46 yX1_has, Cond.instanceMethod yX1_has, Cond.selects RX1 yX1_has yX1_has, Cond.code yX1_has cX1_has 2 (some .boolean), Cond.fieldLink RX1 35 "LogForward$Rows" "latest" "I", Cond.methodLink RX2 40 yX1_unitOf, Cond.instanceMethod yX1_unitOf, Cond.selects RX1 yX1_unitOf yX1_unitOf, Cond.code yX1_unitOf cX1_unitOf 2 (some .int), Cond.fieldLink RX1 15 "LogForward$Rows" "unit" "[I", Cond.methodLink RX2 43 yX1_cellOf, Cond.instanceMethod yX1_cellOf]
def wsX2_followAll_r2 : List Cond := [Cond.selects RX1 yX1_cellOf yX1_cellOf, Cond.code yX1_cellOf cX1_cellOf 2 (some .int), Cond.fieldLink RX1 18 "LogForward$Rows" "cell" "[I", Cond.methodLink RX2 46 yX2_follow, Cond.instanceMethod yX2_follow, Cond.selects RX2 yX2_follow yX2_follow, Cond.initialized RX2, Cond.code yX2_follow cX2_follow 4 none, Cond.static yX3_isUnit, Cond.initialized RX3, Cond.code yX3_isUnit cX3_isUnit 1 (some .boolean), Cond.static yX3_isCell, Cond.code yX3_isCell cX3_isCell 1 (some .boolean)]
def wsX2_followAll : List Cond := .code yX2_followAll cX2_followAll 4 none :: ((wsX2_followAll_r1 ++ wsX2_followAll_r2) ++ wsX20 ++ wsX10 ++ (vx_atM "java/lang/ArrayIndexOutOfBoundsException" ["java/lang/IndexOutOfBoundsException", "java/lang/RuntimeException", "java/lang/Exception"]).filter goodWord)
def wsX2_howManyEndedBy : List Cond := .code yX2_howManyEndedBy cX2_howManyEndedBy 4 (some .int) :: ([.fieldLink RX2 9 "LogForward$Units" "latestKind" "[I"] ++ wsX20 ++ (vx_atM "java/lang/ArrayIndexOutOfBoundsException" ["java/lang/IndexOutOfBoundsException", "java/lang/RuntimeException", "java/lang/Exception"]).filter goodWord)
def wsX2_howManyOpen : List Cond := .code yX2_howManyOpen cX2_howManyOpen 1 (some .int) :: ([.methodLink RX2 50 yX2_howManyEndedBy, .instanceMethod yX2_howManyEndedBy, .selects RX2 yX2_howManyEndedBy yX2_howManyEndedBy, .initialized RX2, .code yX2_howManyEndedBy cX2_howManyEndedBy 4 (some .int), .fieldLink RX2 9 "LogForward$Units" "latestKind" "[I"] ++ wsX20 ++ (vx_atM "java/lang/ArrayIndexOutOfBoundsException" ["java/lang/IndexOutOfBoundsException", "java/lang/RuntimeException", "java/lang/Exception"]).filter goodWord)
def wsX3_init_r1 : List Cond := [Cond.methodLink RX3 1 objectInit, Cond.instanceMethod objectInit, Cond.code objectInit ⟨#[0xb1]⟩ 1 none, Cond.arrayClass .long, Cond.fieldLink RX3 9 "LogForward" "cells" "[J", Cond.classLink RX3 13 RX1, Cond.instantiable RX1 9, Cond.initialized RX1, Cond.fieldLink RX3 16 "LogForward" "rows" "LLogForward$Rows;", Cond.classLink RX3 20 RX2, Cond.instantiable RX2 2, Cond.initialized RX2, Cond.fieldLink RX3 23 "LogForward" "units" "LLogForward$Units;", Cond.fieldLink RX3 27 "LogForward" "unitsThen" "LLogForward$Units;", Cond.classLink RX3 30 RX0, Cond.instantiable RX0 6, Cond.initialized RX0, Cond.fieldLink RX3 33 "LogForward" "images" "LLogForward$Images;", Cond.methodLink RX3 37 Lib.Math.min.name, Cond.static Lib.Math.min.name, Cond.initialized "java/lang/Math", Cond.code Lib.Math.min.name Lib.Math.min.code 2 (some .int), Cond.methodLink RX3 43 Lib.Math.max.name, Cond.static Lib.Math.max.name]
def wsX3_init_r2 : List Cond := [Cond.code Lib.Math.max.name Lib.Math.max.code 2 (some .int), Cond.fieldLink RX3 46 "LogForward" "regions" "I", Cond.instanceMethod yX1_init, Cond.code yX1_init cX1_init 1 none, Cond.methodLink RX1 3 objectInit, Cond.arrayClass .int, Cond.fieldLink RX1 9 "LogForward$Rows" "kind" "[I", Cond.fieldLink RX1 15 "LogForward$Rows" "unit" "[I", Cond.fieldLink RX1 18 "LogForward$Rows" "cell" "[I", Cond.fieldLink RX1 21 "LogForward$Rows" "before" "[J", Cond.fieldLink RX1 25 "LogForward$Rows" "after" "[J", Cond.fieldLink RX1 28 "LogForward$Rows" "tornCopies" "[I", Cond.arrayClass .boolean, Cond.fieldLink RX1 31 "LogForward$Rows" "backingOut" "[Z", Cond.fieldLink RX1 35 "LogForward$Rows" "latest" "I", Cond.fieldLink RX1 39 "LogForward$Rows" "archived" "I", Cond.methodLink RX3 22 yX2_init, Cond.instanceMethod yX2_init, Cond.code yX2_init cX2_init 1 none, Cond.methodLink RX2 3 objectInit, Cond.fieldLink RX2 9 "LogForward$Units" "latestKind" "[I", Cond.fieldLink RX2 15 "LogForward$Units" "changer" "[I", Cond.methodLink RX2 18 yJ7_fill_53178, Cond.static yJ7_fill_53178]
def wsX3_init_r3 : List Cond := [Cond.initialized RJ7, Cond.code yJ7_fill_53178 cJ7_fill_53178 4 none, Cond.instanceMethod yX0_init, Cond.code yX0_init cX0_init 1 none, Cond.methodLink RX0 3 objectInit, Cond.fieldLink RX0 11 "LogForward$Images" "start" "[I", Cond.fieldLink RX0 15 "LogForward$Images" "end" "[I", Cond.fieldLink RX0 18 "LogForward$Images" "spoiled" "[Z", Cond.classLink RX0 22 "[[J", Cond.fieldLink RX0 24 "LogForward$Images" "held" "[[J", Cond.fieldLink RX0 27 "LogForward$Images" "many" "I", Cond.fieldLink RX0 31 "LogForward$Images" "latestIsUnfinished" "Z"]
def wsX3_init : List Cond := .code yX3_init cX3_init 2 none :: ((wsX3_init_r1 ++ (wsX3_init_r2 ++ wsX3_init_r3)) ++ wsX30 ++ wsX10 ++ wsX20 ++ wsX00)
def wsX3_setCell : List Cond := .code yX3_setCell cX3_setCell 4 none :: ([.fieldLink RX3 9 "LogForward" "cells" "[J", .methodLink RX3 54 yX3_isCell, .static yX3_isCell, .initialized RX3, .code yX3_isCell cX3_isCell 1 (some .boolean)] ++ wsX30 ++ (vx_atM "java/lang/ArrayIndexOutOfBoundsException" ["java/lang/IndexOutOfBoundsException", "java/lang/RuntimeException", "java/lang/Exception"]).filter goodWord)
def wsX3_writeChange_r1 : List Cond := [Cond.fieldLink RX3 16 "LogForward" "rows" "LLogForward$Rows;", Cond.fieldLink RX3 23 "LogForward" "units" "LLogForward$Units;", Cond.fieldLink RX3 33 "LogForward" "images" "LLogForward$Images;", Cond.fieldLink RX3 9 "LogForward" "cells" "[J", Cond.methodLink RX3 175 yX1_write, Cond.instanceMethod yX1_write, Cond.selects RX1 yX1_write yX1_write, Cond.initialized RX1, Cond.code yX1_write cX1_write 9 (some .int), Cond.fieldLink RX1 35 "LogForward$Rows" "latest" "I", Cond.fieldLink RX1 9 "LogForward$Rows" "kind" "[I", Cond.fieldLink RX1 15 "LogForward$Rows" "unit" "[I", Cond.fieldLink RX1 18 "LogForward$Rows" "cell" "[I", Cond.fieldLink RX1 21 "LogForward$Rows" "before" "[J", Cond.fieldLink RX1 25 "LogForward$Rows" "after" "[J", Cond.fieldLink RX1 31 "LogForward$Rows" "backingOut" "[Z", Cond.fieldLink RX1 28 "LogForward$Rows" "tornCopies" "[I", Cond.methodLink RX1 42 yX1_hasRoomFor, Cond.instanceMethod yX1_hasRoomFor, Cond.selects RX1 yX1_hasRoomFor yX1_hasRoomFor, Cond.code yX1_hasRoomFor cX1_hasRoomFor 2 (some .boolean), Cond.methodLink RX3 179 yX2_follow, Cond.instanceMethod yX2_follow, Cond.selects RX2 yX2_follow yX2_follow]
def wsX3_writeChange_r2 : List Cond := [Cond.initialized RX2, Cond.code yX2_follow cX2_follow 4 none, Cond.fieldLink RX2 9 "LogForward$Units" "latestKind" "[I", Cond.fieldLink RX2 15 "LogForward$Units" "changer" "[I", Cond.static yX3_isUnit, Cond.initialized RX3, Cond.code yX3_isUnit cX3_isUnit 1 (some .boolean), Cond.static yX3_isCell, Cond.code yX3_isCell cX3_isCell 1 (some .boolean), Cond.methodLink RX3 183 yX3_setCell, Cond.instanceMethod yX3_setCell, Cond.selects RX3 yX3_setCell yX3_setCell, Cond.code yX3_setCell cX3_setCell 4 none, Cond.methodLink RX3 54 yX3_isCell, Cond.methodLink RX3 187 yX0_finishBehindFifth, Cond.instanceMethod yX0_finishBehindFifth, Cond.selects RX0 yX0_finishBehindFifth yX0_finishBehindFifth, Cond.initialized RX0, Cond.code yX0_finishBehindFifth cX0_finishBehindFifth 3 none, Cond.fieldLink RX0 11 "LogForward$Images" "start" "[I", Cond.fieldLink RX0 27 "LogForward$Images" "many" "I", Cond.methodLink RX0 45 yX0_finish, Cond.instanceMethod yX0_finish, Cond.selects RX0 yX0_finish yX0_finish]
def wsX3_writeChange_r3 : List Cond := [Cond.code yX0_finish cX0_finish 3 none, Cond.fieldLink RX0 31 "LogForward$Images" "latestIsUnfinished" "Z", Cond.fieldLink RX0 24 "LogForward$Images" "held" "[[J", Cond.methodLink RX0 39 arraycopyName, Cond.native arraycopyName, Cond.static arraycopyName, Cond.initialized "java/lang/System", Cond.fieldLink RX0 15 "LogForward$Images" "end" "[I"]
def wsX3_writeChange : List Cond := .code yX3_writeChange cX3_writeChange 9 (some .int) :: ((wsX3_writeChange_r1 ++ (wsX3_writeChange_r2 ++ wsX3_writeChange_r3)) ++ wsX30 ++ wsX10 ++ wsX20 ++ wsX00 ++ (vx_atM "java/lang/ArrayIndexOutOfBoundsException" ["java/lang/IndexOutOfBoundsException", "java/lang/RuntimeException", "java/lang/Exception"]).filter goodWord)
def wsX3_row_r1 : List Cond := [Cond.fieldLink RX3 23 "LogForward" "units" "LLogForward$Units;", Cond.fieldLink RX3 9 "LogForward" "cells" "[J", Cond.fieldLink RX3 16 "LogForward" "rows" "LLogForward$Rows;", Cond.methodLink RX3 50 yX3_isUnit, Cond.static yX3_isUnit, Cond.initialized RX3, Cond.code yX3_isUnit cX3_isUnit 1 (some .boolean), Cond.methodLink RX3 54 yX3_isCell, Cond.static yX3_isCell, Cond.code yX3_isCell cX3_isCell 1 (some .boolean), Cond.methodLink RX3 57 yX2_isOver, Cond.instanceMethod yX2_isOver, Cond.selects RX2 yX2_isOver yX2_isOver, Cond.initialized RX2, Cond.code yX2_isOver cX2_isOver 2 (some .boolean), Cond.fieldLink RX2 9 "LogForward$Units" "latestKind" "[I", Cond.methodLink RX3 60 yX2_isChangedByAnother, Cond.instanceMethod yX2_isChangedByAnother, Cond.selects RX2 yX2_isChangedByAnother yX2_isChangedByAnother, Cond.code yX2_isChangedByAnother cX2_isChangedByAnother 3 (some .boolean), Cond.fieldLink RX2 15 "LogForward$Units" "changer" "[I", Cond.methodLink RX2 31 yX2_isOpen, Cond.instanceMethod yX2_isOpen, Cond.selects RX2 yX2_isOpen yX2_isOpen]
def wsX3_row_r2 : List Cond := [Cond.code yX2_isOpen cX2_isOpen 2 (some .boolean), Cond.methodLink RX3 64 yX1_hasRoomFor, Cond.instanceMethod yX1_hasRoomFor, Cond.selects RX1 yX1_hasRoomFor yX1_hasRoomFor, Cond.initialized RX1, Cond.code yX1_hasRoomFor cX1_hasRoomFor 2 (some .boolean), Cond.fieldLink RX1 35 "LogForward$Rows" "latest" "I", Cond.methodLink RX3 67 yX3_writeChange, Cond.instanceMethod yX3_writeChange, Cond.selects RX3 yX3_writeChange yX3_writeChange, Cond.code yX3_writeChange cX3_writeChange 9 (some .int), Cond.fieldLink RX3 33 "LogForward" "images" "LLogForward$Images;", Cond.methodLink RX3 175 yX1_write, Cond.instanceMethod yX1_write, Cond.selects RX1 yX1_write yX1_write, Cond.code yX1_write cX1_write 9 (some .int), Cond.fieldLink RX1 9 "LogForward$Rows" "kind" "[I", Cond.fieldLink RX1 15 "LogForward$Rows" "unit" "[I", Cond.fieldLink RX1 18 "LogForward$Rows" "cell" "[I", Cond.fieldLink RX1 21 "LogForward$Rows" "before" "[J", Cond.fieldLink RX1 25 "LogForward$Rows" "after" "[J", Cond.fieldLink RX1 31 "LogForward$Rows" "backingOut" "[Z", Cond.fieldLink RX1 28 "LogForward$Rows" "tornCopies" "[I", Cond.methodLink RX1 42 yX1_hasRoomFor]
def wsX3_row_r3 : List Cond := [Cond.methodLink RX3 179 yX2_follow, Cond.instanceMethod yX2_follow, Cond.selects RX2 yX2_follow yX2_follow, Cond.code yX2_follow cX2_follow 4 none, Cond.methodLink RX3 183 yX3_setCell, Cond.instanceMethod yX3_setCell, Cond.selects RX3 yX3_setCell yX3_setCell, Cond.code yX3_setCell cX3_setCell 4 none, Cond.methodLink RX3 187 yX0_finishBehindFifth, Cond.instanceMethod yX0_finishBehindFifth, Cond.selects RX0 yX0_finishBehindFifth yX0_finishBehindFifth, Cond.initialized RX0, Cond.code yX0_finishBehindFifth cX0_finishBehindFifth 3 none, Cond.fieldLink RX0 11 "LogForward$Images" "start" "[I", Cond.fieldLink RX0 27 "LogForward$Images" "many" "I", Cond.methodLink RX0 45 yX0_finish, Cond.instanceMethod yX0_finish, Cond.selects RX0 yX0_finish yX0_finish, Cond.code yX0_finish cX0_finish 3 none, Cond.fieldLink RX0 31 "LogForward$Images" "latestIsUnfinished" "Z", Cond.fieldLink RX0 24 "LogForward$Images" "held" "[[J", Cond.methodLink RX0 39 arraycopyName, Cond.native arraycopyName, Cond.static arraycopyName]
def wsX3_row_r4 : List Cond := [Cond.initialized "java/lang/System", Cond.fieldLink RX0 15 "LogForward$Images" "end" "[I"]
def wsX3_row : List Cond := .code yX3_row cX3_row 7 (some .int) :: ((wsX3_row_r1 ++ (wsX3_row_r2 ++ (wsX3_row_r3 ++ wsX3_row_r4))) ++ wsX30 ++ wsX20 ++ wsX10 ++ wsX00 ++ (vx_atM "java/lang/ArrayIndexOutOfBoundsException" ["java/lang/IndexOutOfBoundsException", "java/lang/RuntimeException", "java/lang/Exception"]).filter goodWord)
def wsX3_writeLastOf_r1 : List Cond := [Cond.fieldLink RX3 16 "LogForward" "rows" "LLogForward$Rows;", Cond.fieldLink RX3 23 "LogForward" "units" "LLogForward$Units;", Cond.fieldLink RX3 33 "LogForward" "images" "LLogForward$Images;", Cond.fieldLink RX3 9 "LogForward" "cells" "[J", Cond.methodLink RX3 175 yX1_write, Cond.instanceMethod yX1_write, Cond.selects RX1 yX1_write yX1_write, Cond.initialized RX1, Cond.code yX1_write cX1_write 9 (some .int), Cond.fieldLink RX1 35 "LogForward$Rows" "latest" "I", Cond.fieldLink RX1 9 "LogForward$Rows" "kind" "[I", Cond.fieldLink RX1 15 "LogForward$Rows" "unit" "[I", Cond.fieldLink RX1 18 "LogForward$Rows" "cell" "[I", Cond.fieldLink RX1 21 "LogForward$Rows" "before" "[J", Cond.fieldLink RX1 25 "LogForward$Rows" "after" "[J", Cond.fieldLink RX1 31 "LogForward$Rows" "backingOut" "[Z", Cond.fieldLink RX1 28 "LogForward$Rows" "tornCopies" "[I", Cond.methodLink RX1 42 yX1_hasRoomFor, Cond.instanceMethod yX1_hasRoomFor, Cond.selects RX1 yX1_hasRoomFor yX1_hasRoomFor, Cond.code yX1_hasRoomFor cX1_hasRoomFor 2 (some .boolean), Cond.methodLink RX3 179 yX2_follow, Cond.instanceMethod yX2_follow, Cond.selects RX2 yX2_follow yX2_follow]
def wsX3_writeLastOf_r2 : List Cond := [Cond.initialized RX2, Cond.code yX2_follow cX2_follow 4 none, Cond.fieldLink RX2 9 "LogForward$Units" "latestKind" "[I", Cond.fieldLink RX2 15 "LogForward$Units" "changer" "[I", Cond.static yX3_isUnit, Cond.initialized RX3, Cond.code yX3_isUnit cX3_isUnit 1 (some .boolean), Cond.static yX3_isCell, Cond.code yX3_isCell cX3_isCell 1 (some .boolean), Cond.methodLink RX3 187 yX0_finishBehindFifth, Cond.instanceMethod yX0_finishBehindFifth, Cond.selects RX0 yX0_finishBehindFifth yX0_finishBehindFifth, Cond.initialized RX0, Cond.code yX0_finishBehindFifth cX0_finishBehindFifth 3 none, Cond.fieldLink RX0 11 "LogForward$Images" "start" "[I", Cond.fieldLink RX0 27 "LogForward$Images" "many" "I", Cond.methodLink RX0 45 yX0_finish, Cond.instanceMethod yX0_finish, Cond.selects RX0 yX0_finish yX0_finish, Cond.code yX0_finish cX0_finish 3 none, Cond.fieldLink RX0 31 "LogForward$Images" "latestIsUnfinished" "Z", Cond.fieldLink RX0 24 "LogForward$Images" "held" "[[J", Cond.methodLink RX0 39 arraycopyName, Cond.native arraycopyName]
def wsX3_writeLastOf_r3 : List Cond := [Cond.static arraycopyName, Cond.initialized "java/lang/System", Cond.fieldLink RX0 15 "LogForward$Images" "end" "[I"]
def wsX3_writeLastOf : List Cond := .code yX3_writeLastOf cX3_writeLastOf 5 (some .int) :: ((wsX3_writeLastOf_r1 ++ (wsX3_writeLastOf_r2 ++ wsX3_writeLastOf_r3)) ++ wsX30 ++ wsX10 ++ wsX20 ++ wsX00 ++ (vx_atM "java/lang/ArrayIndexOutOfBoundsException" ["java/lang/IndexOutOfBoundsException", "java/lang/RuntimeException", "java/lang/Exception"]).filter goodWord)
def wsX3_sync_r1 : List Cond := [Cond.fieldLink RX3 23 "LogForward" "units" "LLogForward$Units;", Cond.fieldLink RX3 16 "LogForward" "rows" "LLogForward$Rows;", Cond.methodLink RX3 50 yX3_isUnit, Cond.static yX3_isUnit, Cond.initialized RX3, Cond.code yX3_isUnit cX3_isUnit 1 (some .boolean), Cond.methodLink RX3 71 yX2_isOpen, Cond.instanceMethod yX2_isOpen, Cond.selects RX2 yX2_isOpen yX2_isOpen, Cond.initialized RX2, Cond.code yX2_isOpen cX2_isOpen 2 (some .boolean), Cond.fieldLink RX2 9 "LogForward$Units" "latestKind" "[I", Cond.methodLink RX3 64 yX1_hasRoomFor, Cond.instanceMethod yX1_hasRoomFor, Cond.selects RX1 yX1_hasRoomFor yX1_hasRoomFor, Cond.initialized RX1, Cond.code yX1_hasRoomFor cX1_hasRoomFor 2 (some .boolean), Cond.fieldLink RX1 35 "LogForward$Rows" "latest" "I", Cond.methodLink RX3 74 yX3_writeLastOf, Cond.instanceMethod yX3_writeLastOf, Cond.selects RX3 yX3_writeLastOf yX3_writeLastOf, Cond.code yX3_writeLastOf cX3_writeLastOf 5 (some .int), Cond.fieldLink RX3 33 "LogForward" "images" "LLogForward$Images;", Cond.fieldLink RX3 9 "LogForward" "cells" "[J"]
def wsX3_sync_r2 : List Cond := [Cond.methodLink RX3 175 yX1_write, Cond.instanceMethod yX1_write, Cond.selects RX1 yX1_write yX1_write, Cond.code yX1_write cX1_write 9 (some .int), Cond.fieldLink RX1 9 "LogForward$Rows" "kind" "[I", Cond.fieldLink RX1 15 "LogForward$Rows" "unit" "[I", Cond.fieldLink RX1 18 "LogForward$Rows" "cell" "[I", Cond.fieldLink RX1 21 "LogForward$Rows" "before" "[J", Cond.fieldLink RX1 25 "LogForward$Rows" "after" "[J", Cond.fieldLink RX1 31 "LogForward$Rows" "backingOut" "[Z", Cond.fieldLink RX1 28 "LogForward$Rows" "tornCopies" "[I", Cond.methodLink RX1 42 yX1_hasRoomFor, Cond.methodLink RX3 179 yX2_follow, Cond.instanceMethod yX2_follow, Cond.selects RX2 yX2_follow yX2_follow, Cond.code yX2_follow cX2_follow 4 none, Cond.fieldLink RX2 15 "LogForward$Units" "changer" "[I", Cond.static yX3_isCell, Cond.code yX3_isCell cX3_isCell 1 (some .boolean), Cond.methodLink RX3 187 yX0_finishBehindFifth, Cond.instanceMethod yX0_finishBehindFifth, Cond.selects RX0 yX0_finishBehindFifth yX0_finishBehindFifth, Cond.initialized RX0, Cond.code yX0_finishBehindFifth cX0_finishBehindFifth 3 none]
def wsX3_sync_r3 : List Cond := [Cond.fieldLink RX0 11 "LogForward$Images" "start" "[I", Cond.fieldLink RX0 27 "LogForward$Images" "many" "I", Cond.methodLink RX0 45 yX0_finish, Cond.instanceMethod yX0_finish, Cond.selects RX0 yX0_finish yX0_finish, Cond.code yX0_finish cX0_finish 3 none, Cond.fieldLink RX0 31 "LogForward$Images" "latestIsUnfinished" "Z", Cond.fieldLink RX0 24 "LogForward$Images" "held" "[[J", Cond.methodLink RX0 39 arraycopyName, Cond.native arraycopyName, Cond.static arraycopyName, Cond.initialized "java/lang/System", Cond.fieldLink RX0 15 "LogForward$Images" "end" "[I"]
def wsX3_sync : List Cond := .code yX3_sync cX3_sync 2 (some .int) :: ((wsX3_sync_r1 ++ (wsX3_sync_r2 ++ wsX3_sync_r3)) ++ wsX30 ++ wsX20 ++ wsX10 ++ wsX00 ++ (vx_atM "java/lang/ArrayIndexOutOfBoundsException" ["java/lang/IndexOutOfBoundsException", "java/lang/RuntimeException", "java/lang/Exception"]).filter goodWord)
def wsX3_copy_r1 : List Cond := [Cond.fieldLink RX3 33 "LogForward" "images" "LLogForward$Images;", Cond.fieldLink RX3 16 "LogForward" "rows" "LLogForward$Rows;", Cond.fieldLink RX3 9 "LogForward" "cells" "[J", Cond.methodLink RX3 78 yX1_latest, Cond.instanceMethod yX1_latest, Cond.selects RX1 yX1_latest yX1_latest, Cond.initialized RX1, Cond.code yX1_latest cX1_latest 1 (some .int), Cond.fieldLink RX1 35 "LogForward$Rows" "latest" "I", Cond.methodLink RX3 82 yX0_finish, Cond.instanceMethod yX0_finish, Cond.selects RX0 yX0_finish yX0_finish, Cond.initialized RX0, Cond.code yX0_finish cX0_finish 3 none, Cond.fieldLink RX0 31 "LogForward$Images" "latestIsUnfinished" "Z", Cond.fieldLink RX0 24 "LogForward$Images" "held" "[[J", Cond.fieldLink RX0 27 "LogForward$Images" "many" "I", Cond.methodLink RX0 39 arraycopyName, Cond.native arraycopyName, Cond.static arraycopyName, Cond.initialized "java/lang/System", Cond.fieldLink RX0 15 "LogForward$Images" "end" "[I", Cond.methodLink RX3 86 yX0_take, Cond.instanceMethod yX0_take]
def wsX3_copy_r2 : List Cond := [Cond.selects RX0 yX0_take yX0_take, Cond.code yX0_take cX0_take 5 (some .int), Cond.fieldLink RX0 11 "LogForward$Images" "start" "[I"]
def wsX3_copy : List Cond := .code yX3_copy cX3_copy 2 (some .int) :: ((wsX3_copy_r1 ++ wsX3_copy_r2) ++ wsX30 ++ wsX10 ++ wsX00 ++ (vx_atM "java/lang/ArrayIndexOutOfBoundsException" ["java/lang/IndexOutOfBoundsException", "java/lang/RuntimeException", "java/lang/Exception"]).filter goodWord)
def wsX3_isToBeBackedOut_r1 : List Cond := [Cond.fieldLink RX3 16 "LogForward" "rows" "LLogForward$Rows;", Cond.fieldLink RX3 27 "LogForward" "unitsThen" "LLogForward$Units;", Cond.methodLink RX3 190 yX1_isBackable, Cond.instanceMethod yX1_isBackable, Cond.selects RX1 yX1_isBackable yX1_isBackable, Cond.initialized RX1, Cond.code yX1_isBackable cX1_isBackable 2 (some .boolean), Cond.fieldLink RX1 31 "LogForward$Rows" "backingOut" "[Z", Cond.methodLink RX1 58 yX1_isChange, Cond.instanceMethod yX1_isChange, Cond.selects RX1 yX1_isChange yX1_isChange, Cond.code yX1_isChange cX1_isChange 2 (some .boolean), Cond.fieldLink RX1 9 "LogForward$Rows" "kind" "[I", Cond.methodLink RX1 46 yX1_has, Cond.instanceMethod yX1_has, Cond.selects RX1 yX1_has yX1_has, Cond.code yX1_has cX1_has 2 (some .boolean), Cond.fieldLink RX1 35 "LogForward$Rows" "latest" "I", Cond.methodLink RX3 155 yX1_unitOf, Cond.instanceMethod yX1_unitOf, Cond.selects RX1 yX1_unitOf yX1_unitOf, Cond.code yX1_unitOf cX1_unitOf 2 (some .int), Cond.fieldLink RX1 15 "LogForward$Rows" "unit" "[I", Cond.methodLink RX3 71 yX2_isOpen]
def wsX3_isToBeBackedOut_r2 : List Cond := [Cond.instanceMethod yX2_isOpen, Cond.selects RX2 yX2_isOpen yX2_isOpen, Cond.initialized RX2, Cond.code yX2_isOpen cX2_isOpen 2 (some .boolean), Cond.fieldLink RX2 9 "LogForward$Units" "latestKind" "[I", Cond.static yX3_isUnit, Cond.initialized RX3, Cond.code yX3_isUnit cX3_isUnit 1 (some .boolean)]
def wsX3_isToBeBackedOut : List Cond := .code yX3_isToBeBackedOut cX3_isToBeBackedOut 2 (some .boolean) :: ((wsX3_isToBeBackedOut_r1 ++ wsX3_isToBeBackedOut_r2) ++ wsX30 ++ wsX10 ++ wsX20 ++ (vx_atM "java/lang/ArrayIndexOutOfBoundsException" ["java/lang/IndexOutOfBoundsException", "java/lang/RuntimeException", "java/lang/Exception"]).filter goodWord)
def wsX3_leastMissing_r1 : List Cond := [Cond.fieldLink RX3 16 "LogForward" "rows" "LLogForward$Rows;", Cond.methodLink RX3 152 yX1_isMissing, Cond.instanceMethod yX1_isMissing, Cond.selects RX1 yX1_isMissing yX1_isMissing, Cond.initialized RX1, Cond.code yX1_isMissing cX1_isMissing 2 (some .boolean), Cond.fieldLink RX1 28 "LogForward$Rows" "tornCopies" "[I", Cond.methodLink RX1 46 yX1_has, Cond.instanceMethod yX1_has, Cond.selects RX1 yX1_has yX1_has, Cond.code yX1_has cX1_has 2 (some .boolean), Cond.fieldLink RX1 35 "LogForward$Rows" "latest" "I", Cond.methodLink RX3 203 yX3_isToBeBackedOut, Cond.instanceMethod yX3_isToBeBackedOut, Cond.selects RX3 yX3_isToBeBackedOut yX3_isToBeBackedOut, Cond.initialized RX3, Cond.code yX3_isToBeBackedOut cX3_isToBeBackedOut 2 (some .boolean), Cond.fieldLink RX3 27 "LogForward" "unitsThen" "LLogForward$Units;", Cond.methodLink RX3 190 yX1_isBackable, Cond.instanceMethod yX1_isBackable, Cond.selects RX1 yX1_isBackable yX1_isBackable, Cond.code yX1_isBackable cX1_isBackable 2 (some .boolean), Cond.fieldLink RX1 31 "LogForward$Rows" "backingOut" "[Z", Cond.methodLink RX1 58 yX1_isChange]
def wsX3_leastMissing_r2 : List Cond := [Cond.instanceMethod yX1_isChange, Cond.selects RX1 yX1_isChange yX1_isChange, Cond.code yX1_isChange cX1_isChange 2 (some .boolean), Cond.fieldLink RX1 9 "LogForward$Rows" "kind" "[I", Cond.methodLink RX3 155 yX1_unitOf, Cond.instanceMethod yX1_unitOf, Cond.selects RX1 yX1_unitOf yX1_unitOf, Cond.code yX1_unitOf cX1_unitOf 2 (some .int), Cond.fieldLink RX1 15 "LogForward$Rows" "unit" "[I", Cond.methodLink RX3 71 yX2_isOpen, Cond.instanceMethod yX2_isOpen, Cond.selects RX2 yX2_isOpen yX2_isOpen, Cond.initialized RX2, Cond.code yX2_isOpen cX2_isOpen 2 (some .boolean), Cond.fieldLink RX2 9 "LogForward$Units" "latestKind" "[I", Cond.static yX3_isUnit, Cond.code yX3_isUnit cX3_isUnit 1 (some .boolean)]
def wsX3_leastMissing : List Cond := .code yX3_leastMissing cX3_leastMissing 4 (some .int) :: ((wsX3_leastMissing_r1 ++ wsX3_leastMissing_r2) ++ wsX30 ++ wsX10 ++ wsX20 ++ (vx_atM "java/lang/ArrayIndexOutOfBoundsException" ["java/lang/IndexOutOfBoundsException", "java/lang/RuntimeException", "java/lang/Exception"]).filter goodWord)
def wsX3_rowsOfBackingOut_r1 : List Cond := [Cond.fieldLink RX3 27 "LogForward" "unitsThen" "LLogForward$Units;", Cond.methodLink RX3 166 yX2_howManyOpen, Cond.instanceMethod yX2_howManyOpen, Cond.selects RX2 yX2_howManyOpen yX2_howManyOpen, Cond.initialized RX2, Cond.code yX2_howManyOpen cX2_howManyOpen 1 (some .int), Cond.methodLink RX2 50 yX2_howManyEndedBy, Cond.instanceMethod yX2_howManyEndedBy, Cond.selects RX2 yX2_howManyEndedBy yX2_howManyEndedBy, Cond.code yX2_howManyEndedBy cX2_howManyEndedBy 4 (some .int), Cond.fieldLink RX2 9 "LogForward$Units" "latestKind" "[I", Cond.methodLink RX3 203 yX3_isToBeBackedOut, Cond.instanceMethod yX3_isToBeBackedOut, Cond.selects RX3 yX3_isToBeBackedOut yX3_isToBeBackedOut, Cond.initialized RX3, Cond.code yX3_isToBeBackedOut cX3_isToBeBackedOut 2 (some .boolean), Cond.fieldLink RX3 16 "LogForward" "rows" "LLogForward$Rows;", Cond.methodLink RX3 190 yX1_isBackable, Cond.instanceMethod yX1_isBackable, Cond.selects RX1 yX1_isBackable yX1_isBackable, Cond.initialized RX1, Cond.code yX1_isBackable cX1_isBackable 2 (some .boolean), Cond.fieldLink RX1 31 "LogForward$Rows" "backingOut" "[Z", Cond.methodLink RX1 58 yX1_isChange]
def wsX3_rowsOfBackingOut_r2 : List Cond := [Cond.instanceMethod yX1_isChange, Cond.selects RX1 yX1_isChange yX1_isChange, Cond.code yX1_isChange cX1_isChange 2 (some .boolean), Cond.fieldLink RX1 9 "LogForward$Rows" "kind" "[I", Cond.methodLink RX1 46 yX1_has, Cond.instanceMethod yX1_has, Cond.selects RX1 yX1_has yX1_has, Cond.code yX1_has cX1_has 2 (some .boolean), Cond.fieldLink RX1 35 "LogForward$Rows" "latest" "I", Cond.methodLink RX3 155 yX1_unitOf, Cond.instanceMethod yX1_unitOf, Cond.selects RX1 yX1_unitOf yX1_unitOf, Cond.code yX1_unitOf cX1_unitOf 2 (some .int), Cond.fieldLink RX1 15 "LogForward$Rows" "unit" "[I", Cond.methodLink RX3 71 yX2_isOpen, Cond.instanceMethod yX2_isOpen, Cond.selects RX2 yX2_isOpen yX2_isOpen, Cond.code yX2_isOpen cX2_isOpen 2 (some .boolean), Cond.static yX3_isUnit, Cond.code yX3_isUnit cX3_isUnit 1 (some .boolean)]
def wsX3_rowsOfBackingOut : List Cond := .code yX3_rowsOfBackingOut cX3_rowsOfBackingOut 5 (some .int) :: ((wsX3_rowsOfBackingOut_r1 ++ wsX3_rowsOfBackingOut_r2) ++ wsX30 ++ wsX20 ++ wsX10 ++ (vx_atM "java/lang/ArrayIndexOutOfBoundsException" ["java/lang/IndexOutOfBoundsException", "java/lang/RuntimeException", "java/lang/Exception"]).filter goodWord)
def wsX3_bringForward_r1 : List Cond := [Cond.fieldLink RX3 33 "LogForward" "images" "LLogForward$Images;", Cond.fieldLink RX3 9 "LogForward" "cells" "[J", Cond.fieldLink RX3 16 "LogForward" "rows" "LLogForward$Rows;", Cond.methodLink RX3 206 yX0_putBack, Cond.instanceMethod yX0_putBack, Cond.selects RX0 yX0_putBack yX0_putBack, Cond.initialized RX0, Cond.code yX0_putBack cX0_putBack 3 none, Cond.fieldLink RX0 24 "LogForward$Images" "held" "[[J", Cond.methodLink RX0 39 arraycopyName, Cond.native arraycopyName, Cond.static arraycopyName, Cond.initialized "java/lang/System", Cond.methodLink RX0 35 yX0_has, Cond.instanceMethod yX0_has, Cond.selects RX0 yX0_has yX0_has, Cond.code yX0_has cX0_has 2 (some .boolean), Cond.fieldLink RX0 27 "LogForward$Images" "many" "I", Cond.methodLink RX3 101 yX0_startOf, Cond.instanceMethod yX0_startOf, Cond.selects RX0 yX0_startOf yX0_startOf, Cond.code yX0_startOf cX0_startOf 2 (some .int), Cond.fieldLink RX0 11 "LogForward$Images" "start" "[I", Cond.methodLink RX3 209 yX1_isChange]
def wsX3_bringForward_r2 : List Cond := [Cond.instanceMethod yX1_isChange, Cond.selects RX1 yX1_isChange yX1_isChange, Cond.initialized RX1, Cond.code yX1_isChange cX1_isChange 2 (some .boolean), Cond.fieldLink RX1 9 "LogForward$Rows" "kind" "[I", Cond.methodLink RX1 46 yX1_has, Cond.instanceMethod yX1_has, Cond.selects RX1 yX1_has yX1_has, Cond.code yX1_has cX1_has 2 (some .boolean), Cond.fieldLink RX1 35 "LogForward$Rows" "latest" "I", Cond.methodLink RX3 193 yX1_cellOf, Cond.instanceMethod yX1_cellOf, Cond.selects RX1 yX1_cellOf yX1_cellOf, Cond.code yX1_cellOf cX1_cellOf 2 (some .int), Cond.fieldLink RX1 18 "LogForward$Rows" "cell" "[I", Cond.methodLink RX3 196 yX1_afterOf, Cond.instanceMethod yX1_afterOf, Cond.selects RX1 yX1_afterOf yX1_afterOf, Cond.code yX1_afterOf cX1_afterOf 2 (some .long), Cond.fieldLink RX1 25 "LogForward$Rows" "after" "[J", Cond.methodLink RX3 183 yX3_setCell, Cond.instanceMethod yX3_setCell, Cond.selects RX3 yX3_setCell yX3_setCell, Cond.initialized RX3]
def wsX3_bringForward_r3 : List Cond := [Cond.code yX3_setCell cX3_setCell 4 none, Cond.methodLink RX3 54 yX3_isCell, Cond.static yX3_isCell, Cond.code yX3_isCell cX3_isCell 1 (some .boolean)]
def wsX3_bringForward : List Cond := .code yX3_bringForward cX3_bringForward 4 none :: ((wsX3_bringForward_r1 ++ (wsX3_bringForward_r2 ++ wsX3_bringForward_r3)) ++ wsX30 ++ wsX00 ++ wsX10 ++ (vx_atM "java/lang/ArrayIndexOutOfBoundsException" ["java/lang/IndexOutOfBoundsException", "java/lang/RuntimeException", "java/lang/Exception"]).filter goodWord)
def wsX3_dropBehind_r1 : List Cond := [Cond.fieldLink RX3 16 "LogForward" "rows" "LLogForward$Rows;", Cond.fieldLink RX3 33 "LogForward" "images" "LLogForward$Images;", Cond.fieldLink RX3 23 "LogForward" "units" "LLogForward$Units;", Cond.methodLink RX3 212 yX1_dropBehind, Cond.instanceMethod yX1_dropBehind, Cond.selects RX1 yX1_dropBehind yX1_dropBehind, Cond.initialized RX1, Cond.code yX1_dropBehind cX1_dropBehind 2 none, Cond.fieldLink RX1 35 "LogForward$Rows" "latest" "I", Cond.methodLink RX1 55 Lib.Math.min.name, Cond.static Lib.Math.min.name, Cond.initialized "java/lang/Math", Cond.code Lib.Math.min.name Lib.Math.min.code 2 (some .int), Cond.fieldLink RX1 39 "LogForward$Rows" "archived" "I", Cond.methodLink RX3 213 yX0_spoilBehind, Cond.instanceMethod yX0_spoilBehind, Cond.selects RX0 yX0_spoilBehind yX0_spoilBehind, Cond.initialized RX0, Cond.code yX0_spoilBehind cX0_spoilBehind 3 none, Cond.fieldLink RX0 27 "LogForward$Images" "many" "I", Cond.fieldLink RX0 15 "LogForward$Images" "end" "[I", Cond.fieldLink RX0 18 "LogForward$Images" "spoiled" "[Z", Cond.methodLink RX3 97 yX2_followAll, Cond.instanceMethod yX2_followAll]
def wsX3_dropBehind_r2 : List Cond := [Cond.selects RX2 yX2_followAll yX2_followAll, Cond.initialized RX2, Cond.code yX2_followAll cX2_followAll 4 none, Cond.fieldLink RX2 9 "LogForward$Units" "latestKind" "[I", Cond.fieldLink RX2 15 "LogForward$Units" "changer" "[I", Cond.methodLink RX2 18 yJ7_fill_53178, Cond.static yJ7_fill_53178, Cond.initialized RJ7, Cond.code yJ7_fill_53178 cJ7_fill_53178 4 none, Cond.methodLink RX2 34 yX1_kindOf, Cond.instanceMethod yX1_kindOf, Cond.selects RX1 yX1_kindOf yX1_kindOf, Cond.code yX1_kindOf cX1_kindOf 2 (some .int), Cond.fieldLink RX1 9 "LogForward$Rows" "kind" "[I", Cond.methodLink RX1 46 yX1_has, Cond.instanceMethod yX1_has, Cond.selects RX1 yX1_has yX1_has, Cond.code yX1_has cX1_has 2 (some .boolean), Cond.methodLink RX2 40 yX1_unitOf, Cond.instanceMethod yX1_unitOf, Cond.selects RX1 yX1_unitOf yX1_unitOf, Cond.code yX1_unitOf cX1_unitOf 2 (some .int), Cond.fieldLink RX1 15 "LogForward$Rows" "unit" "[I", Cond.methodLink RX2 43 yX1_cellOf]
def wsX3_dropBehind_r3 : List Cond := [Cond.instanceMethod yX1_cellOf, Cond.selects RX1 yX1_cellOf yX1_cellOf, Cond.code yX1_cellOf cX1_cellOf 2 (some .int), Cond.fieldLink RX1 18 "LogForward$Rows" "cell" "[I", Cond.methodLink RX2 46 yX2_follow, Cond.instanceMethod yX2_follow, Cond.selects RX2 yX2_follow yX2_follow, Cond.code yX2_follow cX2_follow 4 none, Cond.static yX3_isUnit, Cond.initialized RX3, Cond.code yX3_isUnit cX3_isUnit 1 (some .boolean), Cond.static yX3_isCell, Cond.code yX3_isCell cX3_isCell 1 (some .boolean)]
def wsX3_dropBehind : List Cond := .code yX3_dropBehind cX3_dropBehind 2 none :: ((wsX3_dropBehind_r1 ++ (wsX3_dropBehind_r2 ++ wsX3_dropBehind_r3)) ++ wsX30 ++ wsX10 ++ wsX00 ++ wsX20 ++ (vx_atM "java/lang/ArrayIndexOutOfBoundsException" ["java/lang/IndexOutOfBoundsException", "java/lang/RuntimeException", "java/lang/Exception"]).filter goodWord)
def wsX3_writeBackingOut_r1 : List Cond := [Cond.fieldLink RX3 16 "LogForward" "rows" "LLogForward$Rows;", Cond.methodLink RX3 78 yX1_latest, Cond.instanceMethod yX1_latest, Cond.selects RX1 yX1_latest yX1_latest, Cond.initialized RX1, Cond.code yX1_latest cX1_latest 1 (some .int), Cond.fieldLink RX1 35 "LogForward$Rows" "latest" "I", Cond.methodLink RX3 190 yX1_isBackable, Cond.instanceMethod yX1_isBackable, Cond.selects RX1 yX1_isBackable yX1_isBackable, Cond.code yX1_isBackable cX1_isBackable 2 (some .boolean), Cond.fieldLink RX1 31 "LogForward$Rows" "backingOut" "[Z", Cond.methodLink RX1 58 yX1_isChange, Cond.instanceMethod yX1_isChange, Cond.selects RX1 yX1_isChange yX1_isChange, Cond.code yX1_isChange cX1_isChange 2 (some .boolean), Cond.fieldLink RX1 9 "LogForward$Rows" "kind" "[I", Cond.methodLink RX1 46 yX1_has, Cond.instanceMethod yX1_has, Cond.selects RX1 yX1_has yX1_has, Cond.code yX1_has cX1_has 2 (some .boolean), Cond.methodLink RX3 155 yX1_unitOf, Cond.instanceMethod yX1_unitOf, Cond.selects RX1 yX1_unitOf yX1_unitOf]
def wsX3_writeBackingOut_r2 : List Cond := [Cond.code yX1_unitOf cX1_unitOf 2 (some .int), Cond.fieldLink RX1 15 "LogForward$Rows" "unit" "[I", Cond.methodLink RX3 193 yX1_cellOf, Cond.instanceMethod yX1_cellOf, Cond.selects RX1 yX1_cellOf yX1_cellOf, Cond.code yX1_cellOf cX1_cellOf 2 (some .int), Cond.fieldLink RX1 18 "LogForward$Rows" "cell" "[I", Cond.methodLink RX3 196 yX1_afterOf, Cond.instanceMethod yX1_afterOf, Cond.selects RX1 yX1_afterOf yX1_afterOf, Cond.code yX1_afterOf cX1_afterOf 2 (some .long), Cond.fieldLink RX1 25 "LogForward$Rows" "after" "[J", Cond.methodLink RX3 200 yX1_beforeOf, Cond.instanceMethod yX1_beforeOf, Cond.selects RX1 yX1_beforeOf yX1_beforeOf, Cond.code yX1_beforeOf cX1_beforeOf 2 (some .long), Cond.fieldLink RX1 21 "LogForward$Rows" "before" "[J", Cond.methodLink RX3 67 yX3_writeChange, Cond.instanceMethod yX3_writeChange, Cond.selects RX3 yX3_writeChange yX3_writeChange, Cond.initialized RX3, Cond.code yX3_writeChange cX3_writeChange 9 (some .int), Cond.fieldLink RX3 23 "LogForward" "units" "LLogForward$Units;", Cond.fieldLink RX3 33 "LogForward" "images" "LLogForward$Images;"]
def wsX3_writeBackingOut_r3 : List Cond := [Cond.fieldLink RX3 9 "LogForward" "cells" "[J", Cond.methodLink RX3 175 yX1_write, Cond.instanceMethod yX1_write, Cond.selects RX1 yX1_write yX1_write, Cond.code yX1_write cX1_write 9 (some .int), Cond.fieldLink RX1 28 "LogForward$Rows" "tornCopies" "[I", Cond.methodLink RX1 42 yX1_hasRoomFor, Cond.instanceMethod yX1_hasRoomFor, Cond.selects RX1 yX1_hasRoomFor yX1_hasRoomFor, Cond.code yX1_hasRoomFor cX1_hasRoomFor 2 (some .boolean), Cond.methodLink RX3 179 yX2_follow, Cond.instanceMethod yX2_follow, Cond.selects RX2 yX2_follow yX2_follow, Cond.initialized RX2, Cond.code yX2_follow cX2_follow 4 none, Cond.fieldLink RX2 9 "LogForward$Units" "latestKind" "[I", Cond.fieldLink RX2 15 "LogForward$Units" "changer" "[I", Cond.static yX3_isUnit, Cond.code yX3_isUnit cX3_isUnit 1 (some .boolean), Cond.static yX3_isCell, Cond.code yX3_isCell cX3_isCell 1 (some .boolean), Cond.methodLink RX3 183 yX3_setCell, Cond.instanceMethod yX3_setCell, Cond.selects RX3 yX3_setCell yX3_setCell]
def wsX3_writeBackingOut_r4 : List Cond := [Cond.code yX3_setCell cX3_setCell 4 none, Cond.methodLink RX3 54 yX3_isCell, Cond.methodLink RX3 187 yX0_finishBehindFifth, Cond.instanceMethod yX0_finishBehindFifth, Cond.selects RX0 yX0_finishBehindFifth yX0_finishBehindFifth, Cond.initialized RX0, Cond.code yX0_finishBehindFifth cX0_finishBehindFifth 3 none, Cond.fieldLink RX0 11 "LogForward$Images" "start" "[I", Cond.fieldLink RX0 27 "LogForward$Images" "many" "I", Cond.methodLink RX0 45 yX0_finish, Cond.instanceMethod yX0_finish, Cond.selects RX0 yX0_finish yX0_finish, Cond.code yX0_finish cX0_finish 3 none, Cond.fieldLink RX0 31 "LogForward$Images" "latestIsUnfinished" "Z", Cond.fieldLink RX0 24 "LogForward$Images" "held" "[[J", Cond.methodLink RX0 39 arraycopyName, Cond.native arraycopyName, Cond.static arraycopyName, Cond.initialized "java/lang/System", Cond.fieldLink RX0 15 "LogForward$Images" "end" "[I", Cond.methodLink RX3 74 yX3_writeLastOf, Cond.instanceMethod yX3_writeLastOf, Cond.selects RX3 yX3_writeLastOf yX3_writeLastOf, Cond.code yX3_writeLastOf cX3_writeLastOf 5 (some .int)]
def wsX3_writeBackingOut : List Cond := .code yX3_writeBackingOut cX3_writeBackingOut 3 none :: ((wsX3_writeBackingOut_r1 ++ (wsX3_writeBackingOut_r2 ++ (wsX3_writeBackingOut_r3 ++ wsX3_writeBackingOut_r4))) ++ wsX30 ++ wsX10 ++ wsX20 ++ wsX00 ++ (vx_atM "java/lang/ArrayIndexOutOfBoundsException" ["java/lang/IndexOutOfBoundsException", "java/lang/RuntimeException", "java/lang/Exception"]).filter goodWord)
def wsX3_backOutAllOpen_r1 : List Cond := [Cond.fieldLink RX3 23 "LogForward" "units" "LLogForward$Units;", Cond.methodLink RX3 71 yX2_isOpen, Cond.instanceMethod yX2_isOpen, Cond.selects RX2 yX2_isOpen yX2_isOpen, Cond.initialized RX2, Cond.code yX2_isOpen cX2_isOpen 2 (some .boolean), Cond.fieldLink RX2 9 "LogForward$Units" "latestKind" "[I", Cond.static yX3_isUnit, Cond.initialized RX3, Cond.code yX3_isUnit cX3_isUnit 1 (some .boolean), Cond.methodLink RX3 137 yX3_writeBackingOut, Cond.instanceMethod yX3_writeBackingOut, Cond.selects RX3 yX3_writeBackingOut yX3_writeBackingOut, Cond.code yX3_writeBackingOut cX3_writeBackingOut 3 none, Cond.fieldLink RX3 16 "LogForward" "rows" "LLogForward$Rows;", Cond.methodLink RX3 78 yX1_latest, Cond.instanceMethod yX1_latest, Cond.selects RX1 yX1_latest yX1_latest, Cond.initialized RX1, Cond.code yX1_latest cX1_latest 1 (some .int), Cond.fieldLink RX1 35 "LogForward$Rows" "latest" "I", Cond.methodLink RX3 190 yX1_isBackable, Cond.instanceMethod yX1_isBackable, Cond.selects RX1 yX1_isBackable yX1_isBackable]
def wsX3_backOutAllOpen_r2 : List Cond := [Cond.code yX1_isBackable cX1_isBackable 2 (some .boolean), Cond.fieldLink RX1 31 "LogForward$Rows" "backingOut" "[Z", Cond.methodLink RX1 58 yX1_isChange, Cond.instanceMethod yX1_isChange, Cond.selects RX1 yX1_isChange yX1_isChange, Cond.code yX1_isChange cX1_isChange 2 (some .boolean), Cond.fieldLink RX1 9 "LogForward$Rows" "kind" "[I", Cond.methodLink RX1 46 yX1_has, Cond.instanceMethod yX1_has, Cond.selects RX1 yX1_has yX1_has, Cond.code yX1_has cX1_has 2 (some .boolean), Cond.methodLink RX3 155 yX1_unitOf, Cond.instanceMethod yX1_unitOf, Cond.selects RX1 yX1_unitOf yX1_unitOf, Cond.code yX1_unitOf cX1_unitOf 2 (some .int), Cond.fieldLink RX1 15 "LogForward$Rows" "unit" "[I", Cond.methodLink RX3 193 yX1_cellOf, Cond.instanceMethod yX1_cellOf, Cond.selects RX1 yX1_cellOf yX1_cellOf, Cond.code yX1_cellOf cX1_cellOf 2 (some .int), Cond.fieldLink RX1 18 "LogForward$Rows" "cell" "[I", Cond.methodLink RX3 196 yX1_afterOf, Cond.instanceMethod yX1_afterOf, Cond.selects RX1 yX1_afterOf yX1_afterOf]
def wsX3_backOutAllOpen_r3 : List Cond := [Cond.code yX1_afterOf cX1_afterOf 2 (some .long), Cond.fieldLink RX1 25 "LogForward$Rows" "after" "[J", Cond.methodLink RX3 200 yX1_beforeOf, Cond.instanceMethod yX1_beforeOf, Cond.selects RX1 yX1_beforeOf yX1_beforeOf, Cond.code yX1_beforeOf cX1_beforeOf 2 (some .long), Cond.fieldLink RX1 21 "LogForward$Rows" "before" "[J", Cond.methodLink RX3 67 yX3_writeChange, Cond.instanceMethod yX3_writeChange, Cond.selects RX3 yX3_writeChange yX3_writeChange, Cond.code yX3_writeChange cX3_writeChange 9 (some .int), Cond.fieldLink RX3 33 "LogForward" "images" "LLogForward$Images;", Cond.fieldLink RX3 9 "LogForward" "cells" "[J", Cond.methodLink RX3 175 yX1_write, Cond.instanceMethod yX1_write, Cond.selects RX1 yX1_write yX1_write, Cond.code yX1_write cX1_write 9 (some .int), Cond.fieldLink RX1 28 "LogForward$Rows" "tornCopies" "[I", Cond.methodLink RX1 42 yX1_hasRoomFor, Cond.instanceMethod yX1_hasRoomFor, Cond.selects RX1 yX1_hasRoomFor yX1_hasRoomFor, Cond.code yX1_hasRoomFor cX1_hasRoomFor 2 (some .boolean), Cond.methodLink RX3 179 yX2_follow, Cond.instanceMethod yX2_follow]
def wsX3_backOutAllOpen_r4 : List Cond := [Cond.selects RX2 yX2_follow yX2_follow, Cond.code yX2_follow cX2_follow 4 none, Cond.fieldLink RX2 15 "LogForward$Units" "changer" "[I", Cond.static yX3_isCell, Cond.code yX3_isCell cX3_isCell 1 (some .boolean), Cond.methodLink RX3 183 yX3_setCell, Cond.instanceMethod yX3_setCell, Cond.selects RX3 yX3_setCell yX3_setCell, Cond.code yX3_setCell cX3_setCell 4 none, Cond.methodLink RX3 54 yX3_isCell, Cond.methodLink RX3 187 yX0_finishBehindFifth, Cond.instanceMethod yX0_finishBehindFifth, Cond.selects RX0 yX0_finishBehindFifth yX0_finishBehindFifth, Cond.initialized RX0, Cond.code yX0_finishBehindFifth cX0_finishBehindFifth 3 none, Cond.fieldLink RX0 11 "LogForward$Images" "start" "[I", Cond.fieldLink RX0 27 "LogForward$Images" "many" "I", Cond.methodLink RX0 45 yX0_finish, Cond.instanceMethod yX0_finish, Cond.selects RX0 yX0_finish yX0_finish, Cond.code yX0_finish cX0_finish 3 none, Cond.fieldLink RX0 31 "LogForward$Images" "latestIsUnfinished" "Z", Cond.fieldLink RX0 24 "LogForward$Images" "held" "[[J", Cond.methodLink RX0 39 arraycopyName]
def wsX3_backOutAllOpen_r5 : List Cond := [Cond.native arraycopyName, Cond.static arraycopyName, Cond.initialized "java/lang/System", Cond.fieldLink RX0 15 "LogForward$Images" "end" "[I", Cond.methodLink RX3 74 yX3_writeLastOf, Cond.instanceMethod yX3_writeLastOf, Cond.selects RX3 yX3_writeLastOf yX3_writeLastOf, Cond.code yX3_writeLastOf cX3_writeLastOf 5 (some .int)]
def wsX3_backOutAllOpen : List Cond := .code yX3_backOutAllOpen cX3_backOutAllOpen 2 none :: ((wsX3_backOutAllOpen_r1 ++ (wsX3_backOutAllOpen_r2 ++ (wsX3_backOutAllOpen_r3 ++ (wsX3_backOutAllOpen_r4 ++ wsX3_backOutAllOpen_r5)))) ++ wsX30 ++ wsX20 ++ wsX10 ++ wsX00 ++ (vx_atM "java/lang/ArrayIndexOutOfBoundsException" ["java/lang/IndexOutOfBoundsException", "java/lang/RuntimeException", "java/lang/Exception"]).filter goodWord)
def wsX3_recover_r1 : List Cond := [Cond.fieldLink RX3 33 "LogForward" "images" "LLogForward$Images;", Cond.fieldLink RX3 16 "LogForward" "rows" "LLogForward$Rows;", Cond.fieldLink RX3 9 "LogForward" "cells" "[J", Cond.fieldLink RX3 27 "LogForward" "unitsThen" "LLogForward$Units;", Cond.fieldLink RX3 23 "LogForward" "units" "LLogForward$Units;", Cond.methodLink RX3 78 yX1_latest, Cond.instanceMethod yX1_latest, Cond.selects RX1 yX1_latest yX1_latest, Cond.initialized RX1, Cond.code yX1_latest cX1_latest 1 (some .int), Cond.fieldLink RX1 35 "LogForward$Rows" "latest" "I", Cond.methodLink RX3 82 yX0_finish, Cond.instanceMethod yX0_finish, Cond.selects RX0 yX0_finish yX0_finish, Cond.initialized RX0, Cond.code yX0_finish cX0_finish 3 none, Cond.fieldLink RX0 31 "LogForward$Images" "latestIsUnfinished" "Z", Cond.fieldLink RX0 24 "LogForward$Images" "held" "[[J", Cond.fieldLink RX0 27 "LogForward$Images" "many" "I", Cond.methodLink RX0 39 arraycopyName, Cond.native arraycopyName, Cond.static arraycopyName, Cond.initialized "java/lang/System", Cond.fieldLink RX0 15 "LogForward$Images" "end" "[I"]
def wsX3_recover_r2 : List Cond := [Cond.methodLink RX3 90 yX0_isGood, Cond.instanceMethod yX0_isGood, Cond.selects RX0 yX0_isGood yX0_isGood, Cond.code yX0_isGood cX0_isGood 2 (some .boolean), Cond.fieldLink RX0 18 "LogForward$Images" "spoiled" "[Z", Cond.methodLink RX0 35 yX0_has, Cond.instanceMethod yX0_has, Cond.selects RX0 yX0_has yX0_has, Cond.code yX0_has cX0_has 2 (some .boolean), Cond.methodLink RX3 93 yX0_endOf, Cond.instanceMethod yX0_endOf, Cond.selects RX0 yX0_endOf yX0_endOf, Cond.code yX0_endOf cX0_endOf 2 (some .int), Cond.methodLink RX3 97 yX2_followAll, Cond.instanceMethod yX2_followAll, Cond.selects RX2 yX2_followAll yX2_followAll, Cond.initialized RX2, Cond.code yX2_followAll cX2_followAll 4 none, Cond.fieldLink RX2 9 "LogForward$Units" "latestKind" "[I", Cond.fieldLink RX2 15 "LogForward$Units" "changer" "[I", Cond.methodLink RX2 18 yJ7_fill_53178, Cond.static yJ7_fill_53178, Cond.initialized RJ7, Cond.code yJ7_fill_53178 cJ7_fill_53178 4 none]
def wsX3_recover_r3 : List Cond := [Cond.methodLink RX2 34 yX1_kindOf, Cond.instanceMethod yX1_kindOf, Cond.selects RX1 yX1_kindOf yX1_kindOf, Cond.code yX1_kindOf cX1_kindOf 2 (some .int), Cond.fieldLink RX1 9 "LogForward$Rows" "kind" "[I", Cond.methodLink RX1 46 yX1_has, Cond.instanceMethod yX1_has, Cond.selects RX1 yX1_has yX1_has, Cond.code yX1_has cX1_has 2 (some .boolean), Cond.methodLink RX2 40 yX1_unitOf, Cond.instanceMethod yX1_unitOf, Cond.selects RX1 yX1_unitOf yX1_unitOf, Cond.code yX1_unitOf cX1_unitOf 2 (some .int), Cond.fieldLink RX1 15 "LogForward$Rows" "unit" "[I", Cond.methodLink RX2 43 yX1_cellOf, Cond.instanceMethod yX1_cellOf, Cond.selects RX1 yX1_cellOf yX1_cellOf, Cond.code yX1_cellOf cX1_cellOf 2 (some .int), Cond.fieldLink RX1 18 "LogForward$Rows" "cell" "[I", Cond.methodLink RX2 46 yX2_follow, Cond.instanceMethod yX2_follow, Cond.selects RX2 yX2_follow yX2_follow, Cond.code yX2_follow cX2_follow 4 none, Cond.static yX3_isUnit]
def wsX3_recover_r4 : List Cond := [Cond.initialized RX3, Cond.code yX3_isUnit cX3_isUnit 1 (some .boolean), Cond.static yX3_isCell, Cond.code yX3_isCell cX3_isCell 1 (some .boolean), Cond.methodLink RX3 101 yX0_startOf, Cond.instanceMethod yX0_startOf, Cond.selects RX0 yX0_startOf yX0_startOf, Cond.code yX0_startOf cX0_startOf 2 (some .int), Cond.fieldLink RX0 11 "LogForward$Images" "start" "[I", Cond.methodLink RX3 104 yX3_leastMissing, Cond.instanceMethod yX3_leastMissing, Cond.selects RX3 yX3_leastMissing yX3_leastMissing, Cond.code yX3_leastMissing cX3_leastMissing 4 (some .int), Cond.methodLink RX3 152 yX1_isMissing, Cond.instanceMethod yX1_isMissing, Cond.selects RX1 yX1_isMissing yX1_isMissing, Cond.code yX1_isMissing cX1_isMissing 2 (some .boolean), Cond.fieldLink RX1 28 "LogForward$Rows" "tornCopies" "[I", Cond.methodLink RX3 203 yX3_isToBeBackedOut, Cond.instanceMethod yX3_isToBeBackedOut, Cond.selects RX3 yX3_isToBeBackedOut yX3_isToBeBackedOut, Cond.code yX3_isToBeBackedOut cX3_isToBeBackedOut 2 (some .boolean), Cond.methodLink RX3 190 yX1_isBackable, Cond.instanceMethod yX1_isBackable]
def wsX3_recover_r5 : List Cond := [Cond.selects RX1 yX1_isBackable yX1_isBackable, Cond.code yX1_isBackable cX1_isBackable 2 (some .boolean), Cond.fieldLink RX1 31 "LogForward$Rows" "backingOut" "[Z", Cond.methodLink RX1 58 yX1_isChange, Cond.instanceMethod yX1_isChange, Cond.selects RX1 yX1_isChange yX1_isChange, Cond.code yX1_isChange cX1_isChange 2 (some .boolean), Cond.methodLink RX3 155 yX1_unitOf, Cond.methodLink RX3 71 yX2_isOpen, Cond.instanceMethod yX2_isOpen, Cond.selects RX2 yX2_isOpen yX2_isOpen, Cond.code yX2_isOpen cX2_isOpen 2 (some .boolean), Cond.methodLink RX3 107 yX3_rowsOfBackingOut, Cond.instanceMethod yX3_rowsOfBackingOut, Cond.selects RX3 yX3_rowsOfBackingOut yX3_rowsOfBackingOut, Cond.code yX3_rowsOfBackingOut cX3_rowsOfBackingOut 5 (some .int), Cond.methodLink RX3 166 yX2_howManyOpen, Cond.instanceMethod yX2_howManyOpen, Cond.selects RX2 yX2_howManyOpen yX2_howManyOpen, Cond.code yX2_howManyOpen cX2_howManyOpen 1 (some .int), Cond.methodLink RX2 50 yX2_howManyEndedBy, Cond.instanceMethod yX2_howManyEndedBy, Cond.selects RX2 yX2_howManyEndedBy yX2_howManyEndedBy, Cond.code yX2_howManyEndedBy cX2_howManyEndedBy 4 (some .int)]
def wsX3_recover_r6 : List Cond := [Cond.methodLink RX3 110 yX3_bringForward, Cond.instanceMethod yX3_bringForward, Cond.selects RX3 yX3_bringForward yX3_bringForward, Cond.code yX3_bringForward cX3_bringForward 4 none, Cond.methodLink RX3 206 yX0_putBack, Cond.instanceMethod yX0_putBack, Cond.selects RX0 yX0_putBack yX0_putBack, Cond.code yX0_putBack cX0_putBack 3 none, Cond.methodLink RX3 209 yX1_isChange, Cond.methodLink RX3 193 yX1_cellOf, Cond.methodLink RX3 196 yX1_afterOf, Cond.instanceMethod yX1_afterOf, Cond.selects RX1 yX1_afterOf yX1_afterOf, Cond.code yX1_afterOf cX1_afterOf 2 (some .long), Cond.fieldLink RX1 25 "LogForward$Rows" "after" "[J", Cond.methodLink RX3 183 yX3_setCell, Cond.instanceMethod yX3_setCell, Cond.selects RX3 yX3_setCell yX3_setCell, Cond.code yX3_setCell cX3_setCell 4 none, Cond.methodLink RX3 54 yX3_isCell, Cond.methodLink RX3 114 yX3_dropBehind, Cond.instanceMethod yX3_dropBehind, Cond.selects RX3 yX3_dropBehind yX3_dropBehind, Cond.code yX3_dropBehind cX3_dropBehind 2 none]
def wsX3_recover_r7 : List Cond := [Cond.methodLink RX3 212 yX1_dropBehind, Cond.instanceMethod yX1_dropBehind, Cond.selects RX1 yX1_dropBehind yX1_dropBehind, Cond.code yX1_dropBehind cX1_dropBehind 2 none, Cond.methodLink RX1 55 Lib.Math.min.name, Cond.static Lib.Math.min.name, Cond.initialized "java/lang/Math", Cond.code Lib.Math.min.name Lib.Math.min.code 2 (some .int), Cond.fieldLink RX1 39 "LogForward$Rows" "archived" "I", Cond.methodLink RX3 213 yX0_spoilBehind, Cond.instanceMethod yX0_spoilBehind, Cond.selects RX0 yX0_spoilBehind yX0_spoilBehind, Cond.code yX0_spoilBehind cX0_spoilBehind 3 none, Cond.methodLink RX3 118 yX3_backOutAllOpen, Cond.instanceMethod yX3_backOutAllOpen, Cond.selects RX3 yX3_backOutAllOpen yX3_backOutAllOpen, Cond.code yX3_backOutAllOpen cX3_backOutAllOpen 2 none, Cond.methodLink RX3 137 yX3_writeBackingOut, Cond.instanceMethod yX3_writeBackingOut, Cond.selects RX3 yX3_writeBackingOut yX3_writeBackingOut, Cond.code yX3_writeBackingOut cX3_writeBackingOut 3 none, Cond.methodLink RX3 200 yX1_beforeOf, Cond.instanceMethod yX1_beforeOf, Cond.selects RX1 yX1_beforeOf yX1_beforeOf]
def wsX3_recover_r8 : List Cond := [Cond.code yX1_beforeOf cX1_beforeOf 2 (some .long), Cond.fieldLink RX1 21 "LogForward$Rows" "before" "[J", Cond.methodLink RX3 67 yX3_writeChange, Cond.instanceMethod yX3_writeChange, Cond.selects RX3 yX3_writeChange yX3_writeChange, Cond.code yX3_writeChange cX3_writeChange 9 (some .int), Cond.methodLink RX3 175 yX1_write, Cond.instanceMethod yX1_write, Cond.selects RX1 yX1_write yX1_write, Cond.code yX1_write cX1_write 9 (some .int), Cond.methodLink RX1 42 yX1_hasRoomFor, Cond.instanceMethod yX1_hasRoomFor, Cond.selects RX1 yX1_hasRoomFor yX1_hasRoomFor, Cond.code yX1_hasRoomFor cX1_hasRoomFor 2 (some .boolean), Cond.methodLink RX3 179 yX2_follow, Cond.methodLink RX3 187 yX0_finishBehindFifth, Cond.instanceMethod yX0_finishBehindFifth, Cond.selects RX0 yX0_finishBehindFifth yX0_finishBehindFifth, Cond.code yX0_finishBehindFifth cX0_finishBehindFifth 3 none, Cond.methodLink RX0 45 yX0_finish, Cond.methodLink RX3 74 yX3_writeLastOf, Cond.instanceMethod yX3_writeLastOf, Cond.selects RX3 yX3_writeLastOf yX3_writeLastOf, Cond.code yX3_writeLastOf cX3_writeLastOf 5 (some .int)]
def wsX3_recover_r9 : List Cond := [Cond.methodLink RX3 121 yX2_howManyEndedBy]
def wsX3_recover : List Cond := .code yX3_recover cX3_recover 6 (some .int) :: ((wsX3_recover_r1 ++ (wsX3_recover_r2 ++ (wsX3_recover_r3 ++ (wsX3_recover_r4 ++ (wsX3_recover_r5 ++ (wsX3_recover_r6 ++ (wsX3_recover_r7 ++ (wsX3_recover_r8 ++ wsX3_recover_r9)))))))) ++ wsX30 ++ wsX10 ++ wsX00 ++ wsX20 ++ (vx_atM "java/lang/ArrayIndexOutOfBoundsException" ["java/lang/IndexOutOfBoundsException", "java/lang/RuntimeException", "java/lang/Exception"]).filter goodWord)
def wsX3_get : List Cond := .code yX3_get cX3_get 2 (some .long) :: ([.classLink RX3 124 "java/lang/IllegalArgumentException", .initialized "java/lang/IllegalArgumentException", .fieldLink RX3 9 "LogForward" "cells" "[J", .methodLink RX3 54 yX3_isCell, .static yX3_isCell, .initialized RX3, .code yX3_isCell cX3_isCell 1 (some .boolean)] ++ wsX30 ++ (vx_atS RX3 128 "java/lang/IllegalArgumentException" ["java/lang/RuntimeException", "java/lang/Exception"]).filter goodWord ++ (vx_atM "java/lang/ArrayIndexOutOfBoundsException" ["java/lang/IndexOutOfBoundsException", "java/lang/RuntimeException", "java/lang/Exception"]).filter goodWord)
def wsX3_latestMissingOf_r1 : List Cond := [Cond.fieldLink RX3 16 "LogForward" "rows" "LLogForward$Rows;", Cond.methodLink RX3 78 yX1_latest, Cond.instanceMethod yX1_latest, Cond.selects RX1 yX1_latest yX1_latest, Cond.initialized RX1, Cond.code yX1_latest cX1_latest 1 (some .int), Cond.fieldLink RX1 35 "LogForward$Rows" "latest" "I", Cond.methodLink RX3 152 yX1_isMissing, Cond.instanceMethod yX1_isMissing, Cond.selects RX1 yX1_isMissing yX1_isMissing, Cond.code yX1_isMissing cX1_isMissing 2 (some .boolean), Cond.fieldLink RX1 28 "LogForward$Rows" "tornCopies" "[I", Cond.methodLink RX1 46 yX1_has, Cond.instanceMethod yX1_has, Cond.selects RX1 yX1_has yX1_has, Cond.code yX1_has cX1_has 2 (some .boolean), Cond.methodLink RX3 190 yX1_isBackable, Cond.instanceMethod yX1_isBackable, Cond.selects RX1 yX1_isBackable yX1_isBackable, Cond.code yX1_isBackable cX1_isBackable 2 (some .boolean), Cond.fieldLink RX1 31 "LogForward$Rows" "backingOut" "[Z", Cond.methodLink RX1 58 yX1_isChange, Cond.instanceMethod yX1_isChange, Cond.selects RX1 yX1_isChange yX1_isChange]
def wsX3_latestMissingOf_r2 : List Cond := [Cond.code yX1_isChange cX1_isChange 2 (some .boolean), Cond.fieldLink RX1 9 "LogForward$Rows" "kind" "[I", Cond.methodLink RX3 155 yX1_unitOf, Cond.instanceMethod yX1_unitOf, Cond.selects RX1 yX1_unitOf yX1_unitOf, Cond.code yX1_unitOf cX1_unitOf 2 (some .int), Cond.fieldLink RX1 15 "LogForward$Rows" "unit" "[I"]
def wsX3_latestMissingOf : List Cond := .code yX3_latestMissingOf cX3_latestMissingOf 3 (some .int) :: ((wsX3_latestMissingOf_r1 ++ wsX3_latestMissingOf_r2) ++ wsX30 ++ wsX10 ++ (vx_atM "java/lang/ArrayIndexOutOfBoundsException" ["java/lang/IndexOutOfBoundsException", "java/lang/RuntimeException", "java/lang/Exception"]).filter goodWord)
def wsX3_changesOf_r1 : List Cond := [Cond.fieldLink RX3 16 "LogForward" "rows" "LLogForward$Rows;", Cond.methodLink RX3 78 yX1_latest, Cond.instanceMethod yX1_latest, Cond.selects RX1 yX1_latest yX1_latest, Cond.initialized RX1, Cond.code yX1_latest cX1_latest 1 (some .int), Cond.fieldLink RX1 35 "LogForward$Rows" "latest" "I", Cond.methodLink RX3 190 yX1_isBackable, Cond.instanceMethod yX1_isBackable, Cond.selects RX1 yX1_isBackable yX1_isBackable, Cond.code yX1_isBackable cX1_isBackable 2 (some .boolean), Cond.fieldLink RX1 31 "LogForward$Rows" "backingOut" "[Z", Cond.methodLink RX1 58 yX1_isChange, Cond.instanceMethod yX1_isChange, Cond.selects RX1 yX1_isChange yX1_isChange, Cond.code yX1_isChange cX1_isChange 2 (some .boolean), Cond.fieldLink RX1 9 "LogForward$Rows" "kind" "[I", Cond.methodLink RX1 46 yX1_has, Cond.instanceMethod yX1_has, Cond.selects RX1 yX1_has yX1_has, Cond.code yX1_has cX1_has 2 (some .boolean), Cond.methodLink RX3 155 yX1_unitOf, Cond.instanceMethod yX1_unitOf, Cond.selects RX1 yX1_unitOf yX1_unitOf]
def wsX3_changesOf_r2 : List Cond := [Cond.code yX1_unitOf cX1_unitOf 2 (some .int), Cond.fieldLink RX1 15 "LogForward$Rows" "unit" "[I"]
def wsX3_changesOf : List Cond := .code yX3_changesOf cX3_changesOf 4 (some .int) :: ((wsX3_changesOf_r1 ++ wsX3_changesOf_r2) ++ wsX30 ++ wsX10 ++ (vx_atM "java/lang/ArrayIndexOutOfBoundsException" ["java/lang/IndexOutOfBoundsException", "java/lang/RuntimeException", "java/lang/Exception"]).filter goodWord)
def wsX3_backout_r1 : List Cond := [Cond.fieldLink RX3 23 "LogForward" "units" "LLogForward$Units;", Cond.fieldLink RX3 16 "LogForward" "rows" "LLogForward$Rows;", Cond.methodLink RX3 50 yX3_isUnit, Cond.static yX3_isUnit, Cond.initialized RX3, Cond.code yX3_isUnit cX3_isUnit 1 (some .boolean), Cond.methodLink RX3 71 yX2_isOpen, Cond.instanceMethod yX2_isOpen, Cond.selects RX2 yX2_isOpen yX2_isOpen, Cond.initialized RX2, Cond.code yX2_isOpen cX2_isOpen 2 (some .boolean), Cond.fieldLink RX2 9 "LogForward$Units" "latestKind" "[I", Cond.methodLink RX3 131 yX3_latestMissingOf, Cond.instanceMethod yX3_latestMissingOf, Cond.selects RX3 yX3_latestMissingOf yX3_latestMissingOf, Cond.code yX3_latestMissingOf cX3_latestMissingOf 3 (some .int), Cond.methodLink RX3 78 yX1_latest, Cond.instanceMethod yX1_latest, Cond.selects RX1 yX1_latest yX1_latest, Cond.initialized RX1, Cond.code yX1_latest cX1_latest 1 (some .int), Cond.fieldLink RX1 35 "LogForward$Rows" "latest" "I", Cond.methodLink RX3 152 yX1_isMissing, Cond.instanceMethod yX1_isMissing]
def wsX3_backout_r2 : List Cond := [Cond.selects RX1 yX1_isMissing yX1_isMissing, Cond.code yX1_isMissing cX1_isMissing 2 (some .boolean), Cond.fieldLink RX1 28 "LogForward$Rows" "tornCopies" "[I", Cond.methodLink RX1 46 yX1_has, Cond.instanceMethod yX1_has, Cond.selects RX1 yX1_has yX1_has, Cond.code yX1_has cX1_has 2 (some .boolean), Cond.methodLink RX3 190 yX1_isBackable, Cond.instanceMethod yX1_isBackable, Cond.selects RX1 yX1_isBackable yX1_isBackable, Cond.code yX1_isBackable cX1_isBackable 2 (some .boolean), Cond.fieldLink RX1 31 "LogForward$Rows" "backingOut" "[Z", Cond.methodLink RX1 58 yX1_isChange, Cond.instanceMethod yX1_isChange, Cond.selects RX1 yX1_isChange yX1_isChange, Cond.code yX1_isChange cX1_isChange 2 (some .boolean), Cond.fieldLink RX1 9 "LogForward$Rows" "kind" "[I", Cond.methodLink RX3 155 yX1_unitOf, Cond.instanceMethod yX1_unitOf, Cond.selects RX1 yX1_unitOf yX1_unitOf, Cond.code yX1_unitOf cX1_unitOf 2 (some .int), Cond.fieldLink RX1 15 "LogForward$Rows" "unit" "[I", Cond.methodLink RX3 134 yX3_changesOf, Cond.instanceMethod yX3_changesOf]
def wsX3_backout_r3 : List Cond := [Cond.selects RX3 yX3_changesOf yX3_changesOf, Cond.code yX3_changesOf cX3_changesOf 4 (some .int), Cond.methodLink RX3 64 yX1_hasRoomFor, Cond.instanceMethod yX1_hasRoomFor, Cond.selects RX1 yX1_hasRoomFor yX1_hasRoomFor, Cond.code yX1_hasRoomFor cX1_hasRoomFor 2 (some .boolean), Cond.methodLink RX3 137 yX3_writeBackingOut, Cond.instanceMethod yX3_writeBackingOut, Cond.selects RX3 yX3_writeBackingOut yX3_writeBackingOut, Cond.code yX3_writeBackingOut cX3_writeBackingOut 3 none, Cond.methodLink RX3 193 yX1_cellOf, Cond.instanceMethod yX1_cellOf, Cond.selects RX1 yX1_cellOf yX1_cellOf, Cond.code yX1_cellOf cX1_cellOf 2 (some .int), Cond.fieldLink RX1 18 "LogForward$Rows" "cell" "[I", Cond.methodLink RX3 196 yX1_afterOf, Cond.instanceMethod yX1_afterOf, Cond.selects RX1 yX1_afterOf yX1_afterOf, Cond.code yX1_afterOf cX1_afterOf 2 (some .long), Cond.fieldLink RX1 25 "LogForward$Rows" "after" "[J", Cond.methodLink RX3 200 yX1_beforeOf, Cond.instanceMethod yX1_beforeOf, Cond.selects RX1 yX1_beforeOf yX1_beforeOf, Cond.code yX1_beforeOf cX1_beforeOf 2 (some .long)]
def wsX3_backout_r4 : List Cond := [Cond.fieldLink RX1 21 "LogForward$Rows" "before" "[J", Cond.methodLink RX3 67 yX3_writeChange, Cond.instanceMethod yX3_writeChange, Cond.selects RX3 yX3_writeChange yX3_writeChange, Cond.code yX3_writeChange cX3_writeChange 9 (some .int), Cond.fieldLink RX3 33 "LogForward" "images" "LLogForward$Images;", Cond.fieldLink RX3 9 "LogForward" "cells" "[J", Cond.methodLink RX3 175 yX1_write, Cond.instanceMethod yX1_write, Cond.selects RX1 yX1_write yX1_write, Cond.code yX1_write cX1_write 9 (some .int), Cond.methodLink RX1 42 yX1_hasRoomFor, Cond.methodLink RX3 179 yX2_follow, Cond.instanceMethod yX2_follow, Cond.selects RX2 yX2_follow yX2_follow, Cond.code yX2_follow cX2_follow 4 none, Cond.fieldLink RX2 15 "LogForward$Units" "changer" "[I", Cond.static yX3_isCell, Cond.code yX3_isCell cX3_isCell 1 (some .boolean), Cond.methodLink RX3 183 yX3_setCell, Cond.instanceMethod yX3_setCell, Cond.selects RX3 yX3_setCell yX3_setCell, Cond.code yX3_setCell cX3_setCell 4 none, Cond.methodLink RX3 54 yX3_isCell]
def wsX3_backout_r5 : List Cond := [Cond.methodLink RX3 187 yX0_finishBehindFifth, Cond.instanceMethod yX0_finishBehindFifth, Cond.selects RX0 yX0_finishBehindFifth yX0_finishBehindFifth, Cond.initialized RX0, Cond.code yX0_finishBehindFifth cX0_finishBehindFifth 3 none, Cond.fieldLink RX0 11 "LogForward$Images" "start" "[I", Cond.fieldLink RX0 27 "LogForward$Images" "many" "I", Cond.methodLink RX0 45 yX0_finish, Cond.instanceMethod yX0_finish, Cond.selects RX0 yX0_finish yX0_finish, Cond.code yX0_finish cX0_finish 3 none, Cond.fieldLink RX0 31 "LogForward$Images" "latestIsUnfinished" "Z", Cond.fieldLink RX0 24 "LogForward$Images" "held" "[[J", Cond.methodLink RX0 39 arraycopyName, Cond.native arraycopyName, Cond.static arraycopyName, Cond.initialized "java/lang/System", Cond.fieldLink RX0 15 "LogForward$Images" "end" "[I", Cond.methodLink RX3 74 yX3_writeLastOf, Cond.instanceMethod yX3_writeLastOf, Cond.selects RX3 yX3_writeLastOf yX3_writeLastOf, Cond.code yX3_writeLastOf cX3_writeLastOf 5 (some .int)]
def wsX3_backout : List Cond := .code yX3_backout cX3_backout 4 (some .int) :: ((wsX3_backout_r1 ++ (wsX3_backout_r2 ++ (wsX3_backout_r3 ++ (wsX3_backout_r4 ++ wsX3_backout_r5)))) ++ wsX30 ++ wsX20 ++ wsX10 ++ wsX00 ++ (vx_atM "java/lang/ArrayIndexOutOfBoundsException" ["java/lang/IndexOutOfBoundsException", "java/lang/RuntimeException", "java/lang/Exception"]).filter goodWord)
def wsX3_torn : List Cond := .code yX3_torn cX3_torn 3 (some .int) :: ([.fieldLink RX3 16 "LogForward" "rows" "LLogForward$Rows;", .methodLink RX3 140 yX1_has, .instanceMethod yX1_has, .selects RX1 yX1_has yX1_has, .initialized RX1, .code yX1_has cX1_has 2 (some .boolean), .fieldLink RX1 35 "LogForward$Rows" "latest" "I", .methodLink RX3 143 yX1_archived, .instanceMethod yX1_archived, .selects RX1 yX1_archived yX1_archived, .code yX1_archived cX1_archived 1 (some .int), .fieldLink RX1 39 "LogForward$Rows" "archived" "I", .methodLink RX3 146 yX1_tear, .instanceMethod yX1_tear, .selects RX1 yX1_tear yX1_tear, .code yX1_tear cX1_tear 3 (some .boolean), .fieldLink RX1 28 "LogForward$Rows" "tornCopies" "[I", .methodLink RX1 46 yX1_has] ++ wsX30 ++ wsX10 ++ (vx_atM "java/lang/ArrayIndexOutOfBoundsException" ["java/lang/IndexOutOfBoundsException", "java/lang/RuntimeException", "java/lang/Exception"]).filter goodWord)
def wsX3_archive : List Cond := .code yX3_archive cX3_archive 2 (some .int) :: ([.fieldLink RX3 16 "LogForward" "rows" "LLogForward$Rows;", .methodLink RX3 78 yX1_latest, .instanceMethod yX1_latest, .selects RX1 yX1_latest yX1_latest, .initialized RX1, .code yX1_latest cX1_latest 1 (some .int), .fieldLink RX1 35 "LogForward$Rows" "latest" "I", .methodLink RX3 149 yX1_putAway, .instanceMethod yX1_putAway, .selects RX1 yX1_putAway yX1_putAway, .code yX1_putAway cX1_putAway 2 none, .fieldLink RX1 39 "LogForward$Rows" "archived" "I", .methodLink RX1 49 Lib.Math.max.name, .static Lib.Math.max.name, .initialized "java/lang/Math", .code Lib.Math.max.name Lib.Math.max.code 2 (some .int), .methodLink RX3 143 yX1_archived, .instanceMethod yX1_archived, .selects RX1 yX1_archived yX1_archived, .code yX1_archived cX1_archived 1 (some .int)] ++ wsX30 ++ wsX10)
def wsX3_gap : List Cond := .code yX3_gap cX3_gap 4 (some .int) :: ([.fieldLink RX3 16 "LogForward" "rows" "LLogForward$Rows;", .methodLink RX3 78 yX1_latest, .instanceMethod yX1_latest, .selects RX1 yX1_latest yX1_latest, .initialized RX1, .code yX1_latest cX1_latest 1 (some .int), .fieldLink RX1 35 "LogForward$Rows" "latest" "I", .methodLink RX3 152 yX1_isMissing, .instanceMethod yX1_isMissing, .selects RX1 yX1_isMissing yX1_isMissing, .code yX1_isMissing cX1_isMissing 2 (some .boolean), .fieldLink RX1 28 "LogForward$Rows" "tornCopies" "[I", .methodLink RX1 46 yX1_has, .instanceMethod yX1_has, .selects RX1 yX1_has yX1_has, .code yX1_has cX1_has 2 (some .boolean)] ++ wsX30 ++ wsX10 ++ (vx_atM "java/lang/ArrayIndexOutOfBoundsException" ["java/lang/IndexOutOfBoundsException", "java/lang/RuntimeException", "java/lang/Exception"]).filter goodWord)
def wsX3_merge : List Cond := .code yX3_merge cX3_merge 5 (some .int) :: ([.fieldLink RX3 16 "LogForward" "rows" "LLogForward$Rows;", .fieldLink RX3 46 "LogForward" "regions" "I", .methodLink RX3 78 yX1_latest, .instanceMethod yX1_latest, .selects RX1 yX1_latest yX1_latest, .initialized RX1, .code yX1_latest cX1_latest 1 (some .int), .fieldLink RX1 35 "LogForward$Rows" "latest" "I", .methodLink RX3 155 yX1_unitOf, .instanceMethod yX1_unitOf, .selects RX1 yX1_unitOf yX1_unitOf, .code yX1_unitOf cX1_unitOf 2 (some .int), .fieldLink RX1 15 "LogForward$Rows" "unit" "[I", .methodLink RX1 46 yX1_has, .instanceMethod yX1_has, .selects RX1 yX1_has yX1_has, .code yX1_has cX1_has 2 (some .boolean)] ++ wsX30 ++ wsX10 ++ (vx_atM "java/lang/ArrayIndexOutOfBoundsException" ["java/lang/IndexOutOfBoundsException", "java/lang/RuntimeException", "java/lang/Exception"]).filter goodWord)
def wsX3_at : List Cond := .code yX3_at cX3_at 3 (some .int) :: ([.fieldLink RX3 16 "LogForward" "rows" "LLogForward$Rows;", .classLink RX3 158 RJx00060, .instantiable RJx00060 6, .initialized RJx00060, .methodLink RX3 140 yX1_has, .instanceMethod yX1_has, .selects RX1 yX1_has yX1_has, .initialized RX1, .code yX1_has cX1_has 2 (some .boolean), .fieldLink RX1 35 "LogForward$Rows" "latest" "I", .methodLink RX3 163 yX1_tell, .instanceMethod yX1_tell, .selects RX1 yX1_tell yX1_tell, .code yX1_tell cX1_tell 3 (some .int), .fieldLink RX1 9 "LogForward$Rows" "kind" "[I", .fieldLink RX1 15 "LogForward$Rows" "unit" "[I", .fieldLink RX1 18 "LogForward$Rows" "cell" "[I", .fieldLink RX1 21 "LogForward$Rows" "before" "[J", .fieldLink RX1 25 "LogForward$Rows" "after" "[J", .fieldLink RX1 28 "LogForward$Rows" "tornCopies" "[I", .fieldLink RX1 31 "LogForward$Rows" "backingOut" "[Z", .methodLink RX1 46 yX1_has] ++ wsX30 ++ wsJx000600 ++ wsX10 ++ (vx_atM "java/lang/ArrayIndexOutOfBoundsException" ["java/lang/IndexOutOfBoundsException", "java/lang/RuntimeException", "java/lang/Exception"]).filter goodWord)
def wsX3_warm : List Cond := .code yX3_warm cX3_warm 1 (some .int) :: ([.fieldLink RX3 23 "LogForward" "units" "LLogForward$Units;", .methodLink RX3 166 yX2_howManyOpen, .instanceMethod yX2_howManyOpen, .selects RX2 yX2_howManyOpen yX2_howManyOpen, .initialized RX2, .code yX2_howManyOpen cX2_howManyOpen 1 (some .int), .methodLink RX2 50 yX2_howManyEndedBy, .instanceMethod yX2_howManyEndedBy, .selects RX2 yX2_howManyEndedBy yX2_howManyEndedBy, .code yX2_howManyEndedBy cX2_howManyEndedBy 4 (some .int), .fieldLink RX2 9 "LogForward$Units" "latestKind" "[I"] ++ wsX30 ++ wsX20 ++ (vx_atM "java/lang/ArrayIndexOutOfBoundsException" ["java/lang/IndexOutOfBoundsException", "java/lang/RuntimeException", "java/lang/Exception"]).filter goodWord)
def wsX3_ahead : List Cond := .code yX3_ahead cX3_ahead 1 (some .boolean) :: ([.methodLink RX3 169 yX3_gap, .instanceMethod yX3_gap, .selects RX3 yX3_gap yX3_gap, .initialized RX3, .code yX3_gap cX3_gap 4 (some .int), .fieldLink RX3 16 "LogForward" "rows" "LLogForward$Rows;", .methodLink RX3 78 yX1_latest, .instanceMethod yX1_latest, .selects RX1 yX1_latest yX1_latest, .initialized RX1, .code yX1_latest cX1_latest 1 (some .int), .fieldLink RX1 35 "LogForward$Rows" "latest" "I", .methodLink RX3 152 yX1_isMissing, .instanceMethod yX1_isMissing, .selects RX1 yX1_isMissing yX1_isMissing, .code yX1_isMissing cX1_isMissing 2 (some .boolean), .fieldLink RX1 28 "LogForward$Rows" "tornCopies" "[I", .methodLink RX1 46 yX1_has, .instanceMethod yX1_has, .selects RX1 yX1_has yX1_has, .code yX1_has cX1_has 2 (some .boolean)] ++ wsX30 ++ wsX10 ++ (vx_atM "java/lang/ArrayIndexOutOfBoundsException" ["java/lang/IndexOutOfBoundsException", "java/lang/RuntimeException", "java/lang/Exception"]).filter goodWord)
def wsX3_count_r1 : List Cond := [Cond.fieldLink RX3 16 "LogForward" "rows" "LLogForward$Rows;", Cond.fieldLink RX3 33 "LogForward" "images" "LLogForward$Images;", Cond.fieldLink RX3 23 "LogForward" "units" "LLogForward$Units;", Cond.methodLink RX3 78 yX1_latest, Cond.instanceMethod yX1_latest, Cond.selects RX1 yX1_latest yX1_latest, Cond.initialized RX1, Cond.code yX1_latest cX1_latest 1 (some .int), Cond.fieldLink RX1 35 "LogForward$Rows" "latest" "I", Cond.methodLink RX3 172 yX0_howMany, Cond.instanceMethod yX0_howMany, Cond.selects RX0 yX0_howMany yX0_howMany, Cond.initialized RX0, Cond.code yX0_howMany cX0_howMany 1 (some .int), Cond.fieldLink RX0 27 "LogForward$Images" "many" "I", Cond.methodLink RX3 143 yX1_archived, Cond.instanceMethod yX1_archived, Cond.selects RX1 yX1_archived yX1_archived, Cond.code yX1_archived cX1_archived 1 (some .int), Cond.fieldLink RX1 39 "LogForward$Rows" "archived" "I", Cond.methodLink RX3 121 yX2_howManyEndedBy, Cond.instanceMethod yX2_howManyEndedBy, Cond.selects RX2 yX2_howManyEndedBy yX2_howManyEndedBy, Cond.initialized RX2]
def wsX3_count_r2 : List Cond := [Cond.code yX2_howManyEndedBy cX2_howManyEndedBy 4 (some .int), Cond.fieldLink RX2 9 "LogForward$Units" "latestKind" "[I"]
def wsX3_count : List Cond := .code yX3_count cX3_count 2 (some .int) :: ((wsX3_count_r1 ++ wsX3_count_r2) ++ wsX30 ++ wsX10 ++ wsX00 ++ wsX20 ++ (vx_atM "java/lang/ArrayIndexOutOfBoundsException" ["java/lang/IndexOutOfBoundsException", "java/lang/RuntimeException", "java/lang/Exception"]).filter goodWord)
def wsX4_init : List Cond := .code yX4_init cX4_init 2 none :: ([.methodLink RX4 1 objectInit, .instanceMethod objectInit, .code objectInit ⟨#[0xb1]⟩ 1 none, .arrayClass .long, .fieldLink RX4 7 "LogForwardModel" "cells" "[J", .arrayClass .int, .fieldLink RX4 13 "LogForwardModel" "kinds" "[I", .fieldLink RX4 17 "LogForwardModel" "units" "[I", .fieldLink RX4 20 "LogForwardModel" "where" "[I", .fieldLink RX4 23 "LogForwardModel" "torn" "[I", .fieldLink RX4 26 "LogForwardModel" "befores" "[J", .fieldLink RX4 29 "LogForwardModel" "afters" "[J", .arrayClass .boolean, .fieldLink RX4 32 "LogForwardModel" "back" "[Z", .fieldLink RX4 36 "LogForwardModel" "kept" "[J", .fieldLink RX4 39 "LogForwardModel" "starts" "[I", .fieldLink RX4 42 "LogForwardModel" "ends" "[I", .fieldLink RX4 45 "LogForwardModel" "bad" "[Z", .fieldLink RX4 48 "LogForwardModel" "regions" "I"] ++ wsX40)
def wsX4_thrown : List Cond := .code yX4_thrown cX4_thrown 1 (some .int) :: ([.fieldLink RX4 52 "LogForwardModel" "code" "I"] ++ wsX40)
def wsX4_isUnit : List Cond := .code yX4_isUnit cX4_isUnit 1 (some .boolean) :: ([])
def wsX4_isCell : List Cond := .code yX4_isCell cX4_isCell 1 (some .boolean) :: ([])
def wsX4_stateOf : List Cond := .code yX4_stateOf cX4_stateOf 5 (some .int) :: ([.fieldLink RX4 17 "LogForwardModel" "units" "[I", .fieldLink RX4 13 "LogForwardModel" "kinds" "[I"] ++ wsX40 ++ (vx_atM "java/lang/ArrayIndexOutOfBoundsException" ["java/lang/IndexOutOfBoundsException", "java/lang/RuntimeException", "java/lang/Exception"]).filter goodWord)
def wsX4_isOpen : List Cond := .code yX4_isOpen cX4_isOpen 2 (some .boolean) :: ([.fieldLink RX4 55 "LogForwardModel" "rows" "I", .methodLink RX4 58 yX4_stateOf, .instanceMethod yX4_stateOf, .selects RX4 yX4_stateOf yX4_stateOf, .initialized RX4, .code yX4_stateOf cX4_stateOf 5 (some .int), .fieldLink RX4 17 "LogForwardModel" "units" "[I", .fieldLink RX4 13 "LogForwardModel" "kinds" "[I"] ++ wsX40 ++ (vx_atM "java/lang/ArrayIndexOutOfBoundsException" ["java/lang/IndexOutOfBoundsException", "java/lang/RuntimeException", "java/lang/Exception"]).filter goodWord)
def wsX4_isMissing : List Cond := .code yX4_isMissing cX4_isMissing 2 (some .boolean) :: ([.fieldLink RX4 23 "LogForwardModel" "torn" "[I"] ++ wsX40 ++ (vx_atM "java/lang/ArrayIndexOutOfBoundsException" ["java/lang/IndexOutOfBoundsException", "java/lang/RuntimeException", "java/lang/Exception"]).filter goodWord)
def wsX4_isChange : List Cond := .code yX4_isChange cX4_isChange 3 (some .boolean) :: ([.fieldLink RX4 13 "LogForwardModel" "kinds" "[I", .fieldLink RX4 17 "LogForwardModel" "units" "[I", .fieldLink RX4 32 "LogForwardModel" "back" "[Z"] ++ wsX40 ++ (vx_atM "java/lang/ArrayIndexOutOfBoundsException" ["java/lang/IndexOutOfBoundsException", "java/lang/RuntimeException", "java/lang/Exception"]).filter goodWord)
def wsX4_changes : List Cond := .code yX4_changes cX4_changes 5 (some .int) :: ([.methodLink RX4 62 yX4_isChange, .instanceMethod yX4_isChange, .selects RX4 yX4_isChange yX4_isChange, .initialized RX4, .code yX4_isChange cX4_isChange 3 (some .boolean), .fieldLink RX4 13 "LogForwardModel" "kinds" "[I", .fieldLink RX4 17 "LogForwardModel" "units" "[I", .fieldLink RX4 32 "LogForwardModel" "back" "[Z"] ++ wsX40 ++ (vx_atM "java/lang/ArrayIndexOutOfBoundsException" ["java/lang/IndexOutOfBoundsException", "java/lang/RuntimeException", "java/lang/Exception"]).filter goodWord)
def wsX4_finish : List Cond := .code yX4_finish cX4_finish 2 none :: ([.fieldLink RX4 66 "LogForwardModel" "fuzzy" "I", .fieldLink RX4 36 "LogForwardModel" "kept" "[J", .fieldLink RX4 7 "LogForwardModel" "cells" "[J", .fieldLink RX4 42 "LogForwardModel" "ends" "[I", .fieldLink RX4 55 "LogForwardModel" "rows" "I"] ++ wsX40 ++ (vx_atM "java/lang/ArrayIndexOutOfBoundsException" ["java/lang/IndexOutOfBoundsException", "java/lang/RuntimeException", "java/lang/Exception"]).filter goodWord)
def wsX4_write : List Cond := .code yX4_write cX4_write 9 none :: ([.fieldLink RX4 55 "LogForwardModel" "rows" "I", .fieldLink RX4 13 "LogForwardModel" "kinds" "[I", .fieldLink RX4 17 "LogForwardModel" "units" "[I", .fieldLink RX4 20 "LogForwardModel" "where" "[I", .fieldLink RX4 26 "LogForwardModel" "befores" "[J", .fieldLink RX4 29 "LogForwardModel" "afters" "[J", .fieldLink RX4 23 "LogForwardModel" "torn" "[I", .fieldLink RX4 32 "LogForwardModel" "back" "[Z", .fieldLink RX4 7 "LogForwardModel" "cells" "[J", .fieldLink RX4 66 "LogForwardModel" "fuzzy" "I", .fieldLink RX4 39 "LogForwardModel" "starts" "[I", .methodLink RX4 69 yX4_finish, .instanceMethod yX4_finish, .selects RX4 yX4_finish yX4_finish, .initialized RX4, .code yX4_finish cX4_finish 2 none, .fieldLink RX4 36 "LogForwardModel" "kept" "[J", .fieldLink RX4 42 "LogForwardModel" "ends" "[I"] ++ wsX40 ++ (vx_atM "java/lang/ArrayIndexOutOfBoundsException" ["java/lang/IndexOutOfBoundsException", "java/lang/RuntimeException", "java/lang/Exception"]).filter goodWord)
def wsX4_isTaken : List Cond := .code yX4_isTaken cX4_isTaken 5 (some .boolean) :: ([.fieldLink RX4 55 "LogForwardModel" "rows" "I", .fieldLink RX4 20 "LogForwardModel" "where" "[I", .methodLink RX4 72 yX4_isOpen, .instanceMethod yX4_isOpen, .selects RX4 yX4_isOpen yX4_isOpen, .initialized RX4, .code yX4_isOpen cX4_isOpen 2 (some .boolean), .methodLink RX4 58 yX4_stateOf, .instanceMethod yX4_stateOf, .selects RX4 yX4_stateOf yX4_stateOf, .code yX4_stateOf cX4_stateOf 5 (some .int), .fieldLink RX4 17 "LogForwardModel" "units" "[I", .fieldLink RX4 13 "LogForwardModel" "kinds" "[I", .methodLink RX4 62 yX4_isChange, .instanceMethod yX4_isChange, .selects RX4 yX4_isChange yX4_isChange, .code yX4_isChange cX4_isChange 3 (some .boolean), .fieldLink RX4 32 "LogForwardModel" "back" "[Z"] ++ wsX40 ++ (vx_atM "java/lang/ArrayIndexOutOfBoundsException" ["java/lang/IndexOutOfBoundsException", "java/lang/RuntimeException", "java/lang/Exception"]).filter goodWord)
def wsX4_row_r1 : List Cond := [Cond.fieldLink RX4 52 "LogForwardModel" "code" "I", Cond.fieldLink RX4 55 "LogForwardModel" "rows" "I", Cond.fieldLink RX4 7 "LogForwardModel" "cells" "[J", Cond.methodLink RX4 76 yX4_isUnit, Cond.static yX4_isUnit, Cond.initialized RX4, Cond.code yX4_isUnit cX4_isUnit 1 (some .boolean), Cond.methodLink RX4 79 yX4_isCell, Cond.static yX4_isCell, Cond.code yX4_isCell cX4_isCell 1 (some .boolean), Cond.methodLink RX4 58 yX4_stateOf, Cond.instanceMethod yX4_stateOf, Cond.selects RX4 yX4_stateOf yX4_stateOf, Cond.code yX4_stateOf cX4_stateOf 5 (some .int), Cond.fieldLink RX4 17 "LogForwardModel" "units" "[I", Cond.fieldLink RX4 13 "LogForwardModel" "kinds" "[I", Cond.methodLink RX4 82 yX4_isTaken, Cond.instanceMethod yX4_isTaken, Cond.selects RX4 yX4_isTaken yX4_isTaken, Cond.code yX4_isTaken cX4_isTaken 5 (some .boolean), Cond.fieldLink RX4 20 "LogForwardModel" "where" "[I", Cond.methodLink RX4 72 yX4_isOpen, Cond.instanceMethod yX4_isOpen, Cond.selects RX4 yX4_isOpen yX4_isOpen]
def wsX4_row_r2 : List Cond := [Cond.code yX4_isOpen cX4_isOpen 2 (some .boolean), Cond.methodLink RX4 62 yX4_isChange, Cond.instanceMethod yX4_isChange, Cond.selects RX4 yX4_isChange yX4_isChange, Cond.code yX4_isChange cX4_isChange 3 (some .boolean), Cond.fieldLink RX4 32 "LogForwardModel" "back" "[Z", Cond.methodLink RX4 85 yX4_write, Cond.instanceMethod yX4_write, Cond.selects RX4 yX4_write yX4_write, Cond.code yX4_write cX4_write 9 none, Cond.fieldLink RX4 26 "LogForwardModel" "befores" "[J", Cond.fieldLink RX4 29 "LogForwardModel" "afters" "[J", Cond.fieldLink RX4 23 "LogForwardModel" "torn" "[I", Cond.fieldLink RX4 66 "LogForwardModel" "fuzzy" "I", Cond.fieldLink RX4 39 "LogForwardModel" "starts" "[I", Cond.methodLink RX4 69 yX4_finish, Cond.instanceMethod yX4_finish, Cond.selects RX4 yX4_finish yX4_finish, Cond.code yX4_finish cX4_finish 2 none, Cond.fieldLink RX4 36 "LogForwardModel" "kept" "[J", Cond.fieldLink RX4 42 "LogForwardModel" "ends" "[I"]
def wsX4_row : List Cond := .code yX4_row cX4_row 7 (some .int) :: ((wsX4_row_r1 ++ wsX4_row_r2) ++ wsX40 ++ (vx_atM "java/lang/ArrayIndexOutOfBoundsException" ["java/lang/IndexOutOfBoundsException", "java/lang/RuntimeException", "java/lang/Exception"]).filter goodWord)
def wsX4_sync_r1 : List Cond := [Cond.fieldLink RX4 52 "LogForwardModel" "code" "I", Cond.fieldLink RX4 55 "LogForwardModel" "rows" "I", Cond.methodLink RX4 76 yX4_isUnit, Cond.static yX4_isUnit, Cond.initialized RX4, Cond.code yX4_isUnit cX4_isUnit 1 (some .boolean), Cond.methodLink RX4 72 yX4_isOpen, Cond.instanceMethod yX4_isOpen, Cond.selects RX4 yX4_isOpen yX4_isOpen, Cond.code yX4_isOpen cX4_isOpen 2 (some .boolean), Cond.methodLink RX4 58 yX4_stateOf, Cond.instanceMethod yX4_stateOf, Cond.selects RX4 yX4_stateOf yX4_stateOf, Cond.code yX4_stateOf cX4_stateOf 5 (some .int), Cond.fieldLink RX4 17 "LogForwardModel" "units" "[I", Cond.fieldLink RX4 13 "LogForwardModel" "kinds" "[I", Cond.methodLink RX4 85 yX4_write, Cond.instanceMethod yX4_write, Cond.selects RX4 yX4_write yX4_write, Cond.code yX4_write cX4_write 9 none, Cond.fieldLink RX4 20 "LogForwardModel" "where" "[I", Cond.fieldLink RX4 26 "LogForwardModel" "befores" "[J", Cond.fieldLink RX4 29 "LogForwardModel" "afters" "[J", Cond.fieldLink RX4 23 "LogForwardModel" "torn" "[I"]
def wsX4_sync_r2 : List Cond := [Cond.fieldLink RX4 32 "LogForwardModel" "back" "[Z", Cond.fieldLink RX4 7 "LogForwardModel" "cells" "[J", Cond.fieldLink RX4 66 "LogForwardModel" "fuzzy" "I", Cond.fieldLink RX4 39 "LogForwardModel" "starts" "[I", Cond.methodLink RX4 69 yX4_finish, Cond.instanceMethod yX4_finish, Cond.selects RX4 yX4_finish yX4_finish, Cond.code yX4_finish cX4_finish 2 none, Cond.fieldLink RX4 36 "LogForwardModel" "kept" "[J", Cond.fieldLink RX4 42 "LogForwardModel" "ends" "[I"]
def wsX4_sync : List Cond := .code yX4_sync cX4_sync 2 (some .int) :: ((wsX4_sync_r1 ++ wsX4_sync_r2) ++ wsX40 ++ (vx_atM "java/lang/ArrayIndexOutOfBoundsException" ["java/lang/IndexOutOfBoundsException", "java/lang/RuntimeException", "java/lang/Exception"]).filter goodWord)
def wsX4_takeBack_r1 : List Cond := [Cond.fieldLink RX4 55 "LogForwardModel" "rows" "I", Cond.fieldLink RX4 20 "LogForwardModel" "where" "[I", Cond.fieldLink RX4 29 "LogForwardModel" "afters" "[J", Cond.fieldLink RX4 26 "LogForwardModel" "befores" "[J", Cond.methodLink RX4 62 yX4_isChange, Cond.instanceMethod yX4_isChange, Cond.selects RX4 yX4_isChange yX4_isChange, Cond.initialized RX4, Cond.code yX4_isChange cX4_isChange 3 (some .boolean), Cond.fieldLink RX4 13 "LogForwardModel" "kinds" "[I", Cond.fieldLink RX4 17 "LogForwardModel" "units" "[I", Cond.fieldLink RX4 32 "LogForwardModel" "back" "[Z", Cond.methodLink RX4 85 yX4_write, Cond.instanceMethod yX4_write, Cond.selects RX4 yX4_write yX4_write, Cond.code yX4_write cX4_write 9 none, Cond.fieldLink RX4 23 "LogForwardModel" "torn" "[I", Cond.fieldLink RX4 7 "LogForwardModel" "cells" "[J", Cond.fieldLink RX4 66 "LogForwardModel" "fuzzy" "I", Cond.fieldLink RX4 39 "LogForwardModel" "starts" "[I", Cond.methodLink RX4 69 yX4_finish, Cond.instanceMethod yX4_finish, Cond.selects RX4 yX4_finish yX4_finish, Cond.code yX4_finish cX4_finish 2 none]
def wsX4_takeBack_r2 : List Cond := [Cond.fieldLink RX4 36 "LogForwardModel" "kept" "[J", Cond.fieldLink RX4 42 "LogForwardModel" "ends" "[I"]
def wsX4_takeBack : List Cond := .code yX4_takeBack cX4_takeBack 4 (some .int) :: ((wsX4_takeBack_r1 ++ wsX4_takeBack_r2) ++ wsX40 ++ (vx_atM "java/lang/ArrayIndexOutOfBoundsException" ["java/lang/IndexOutOfBoundsException", "java/lang/RuntimeException", "java/lang/Exception"]).filter goodWord)
def wsX4_backout_r1 : List Cond := [Cond.fieldLink RX4 52 "LogForwardModel" "code" "I", Cond.fieldLink RX4 55 "LogForwardModel" "rows" "I", Cond.methodLink RX4 76 yX4_isUnit, Cond.static yX4_isUnit, Cond.initialized RX4, Cond.code yX4_isUnit cX4_isUnit 1 (some .boolean), Cond.methodLink RX4 72 yX4_isOpen, Cond.instanceMethod yX4_isOpen, Cond.selects RX4 yX4_isOpen yX4_isOpen, Cond.code yX4_isOpen cX4_isOpen 2 (some .boolean), Cond.methodLink RX4 58 yX4_stateOf, Cond.instanceMethod yX4_stateOf, Cond.selects RX4 yX4_stateOf yX4_stateOf, Cond.code yX4_stateOf cX4_stateOf 5 (some .int), Cond.fieldLink RX4 17 "LogForwardModel" "units" "[I", Cond.fieldLink RX4 13 "LogForwardModel" "kinds" "[I", Cond.methodLink RX4 62 yX4_isChange, Cond.instanceMethod yX4_isChange, Cond.selects RX4 yX4_isChange yX4_isChange, Cond.code yX4_isChange cX4_isChange 3 (some .boolean), Cond.fieldLink RX4 32 "LogForwardModel" "back" "[Z", Cond.methodLink RX4 89 yX4_isMissing, Cond.instanceMethod yX4_isMissing, Cond.selects RX4 yX4_isMissing yX4_isMissing]
def wsX4_backout_r2 : List Cond := [Cond.code yX4_isMissing cX4_isMissing 2 (some .boolean), Cond.fieldLink RX4 23 "LogForwardModel" "torn" "[I", Cond.methodLink RX4 92 yX4_changes, Cond.instanceMethod yX4_changes, Cond.selects RX4 yX4_changes yX4_changes, Cond.code yX4_changes cX4_changes 5 (some .int), Cond.methodLink RX4 95 yX4_takeBack, Cond.instanceMethod yX4_takeBack, Cond.selects RX4 yX4_takeBack yX4_takeBack, Cond.code yX4_takeBack cX4_takeBack 4 (some .int), Cond.fieldLink RX4 20 "LogForwardModel" "where" "[I", Cond.fieldLink RX4 29 "LogForwardModel" "afters" "[J", Cond.fieldLink RX4 26 "LogForwardModel" "befores" "[J", Cond.methodLink RX4 85 yX4_write, Cond.instanceMethod yX4_write, Cond.selects RX4 yX4_write yX4_write, Cond.code yX4_write cX4_write 9 none, Cond.fieldLink RX4 7 "LogForwardModel" "cells" "[J", Cond.fieldLink RX4 66 "LogForwardModel" "fuzzy" "I", Cond.fieldLink RX4 39 "LogForwardModel" "starts" "[I", Cond.methodLink RX4 69 yX4_finish, Cond.instanceMethod yX4_finish, Cond.selects RX4 yX4_finish yX4_finish, Cond.code yX4_finish cX4_finish 2 none]
def wsX4_backout_r3 : List Cond := [Cond.fieldLink RX4 36 "LogForwardModel" "kept" "[J", Cond.fieldLink RX4 42 "LogForwardModel" "ends" "[I"]
def wsX4_backout : List Cond := .code yX4_backout cX4_backout 3 (some .int) :: ((wsX4_backout_r1 ++ (wsX4_backout_r2 ++ wsX4_backout_r3)) ++ wsX40 ++ (vx_atM "java/lang/ArrayIndexOutOfBoundsException" ["java/lang/IndexOutOfBoundsException", "java/lang/RuntimeException", "java/lang/Exception"]).filter goodWord)
def wsX4_copy : List Cond := .code yX4_copy cX4_copy 3 (some .int) :: ([.fieldLink RX4 52 "LogForwardModel" "code" "I", .fieldLink RX4 99 "LogForwardModel" "images" "I", .fieldLink RX4 36 "LogForwardModel" "kept" "[J", .fieldLink RX4 7 "LogForwardModel" "cells" "[J", .fieldLink RX4 39 "LogForwardModel" "starts" "[I", .fieldLink RX4 55 "LogForwardModel" "rows" "I", .fieldLink RX4 42 "LogForwardModel" "ends" "[I", .fieldLink RX4 45 "LogForwardModel" "bad" "[Z", .fieldLink RX4 66 "LogForwardModel" "fuzzy" "I", .methodLink RX4 69 yX4_finish, .instanceMethod yX4_finish, .selects RX4 yX4_finish yX4_finish, .initialized RX4, .code yX4_finish cX4_finish 2 none] ++ wsX40 ++ (vx_atM "java/lang/ArrayIndexOutOfBoundsException" ["java/lang/IndexOutOfBoundsException", "java/lang/RuntimeException", "java/lang/Exception"]).filter goodWord)
def wsX4_lacking : List Cond := .code yX4_lacking cX4_lacking 5 (some .int) :: ([.fieldLink RX4 39 "LogForwardModel" "starts" "[I", .fieldLink RX4 13 "LogForwardModel" "kinds" "[I", .fieldLink RX4 32 "LogForwardModel" "back" "[Z", .fieldLink RX4 17 "LogForwardModel" "units" "[I", .methodLink RX4 89 yX4_isMissing, .instanceMethod yX4_isMissing, .selects RX4 yX4_isMissing yX4_isMissing, .initialized RX4, .code yX4_isMissing cX4_isMissing 2 (some .boolean), .fieldLink RX4 23 "LogForwardModel" "torn" "[I", .methodLink RX4 58 yX4_stateOf, .instanceMethod yX4_stateOf, .selects RX4 yX4_stateOf yX4_stateOf, .code yX4_stateOf cX4_stateOf 5 (some .int)] ++ wsX40 ++ (vx_atM "java/lang/ArrayIndexOutOfBoundsException" ["java/lang/IndexOutOfBoundsException", "java/lang/RuntimeException", "java/lang/Exception"]).filter goodWord)
def wsX4_synced : List Cond := .code yX4_synced cX4_synced 3 (some .int) :: ([.fieldLink RX4 55 "LogForwardModel" "rows" "I", .fieldLink RX4 13 "LogForwardModel" "kinds" "[I"] ++ wsX40 ++ (vx_atM "java/lang/ArrayIndexOutOfBoundsException" ["java/lang/IndexOutOfBoundsException", "java/lang/RuntimeException", "java/lang/Exception"]).filter goodWord)
def wsX4_recover_r1 : List Cond := [Cond.fieldLink RX4 52 "LogForwardModel" "code" "I", Cond.fieldLink RX4 99 "LogForwardModel" "images" "I", Cond.fieldLink RX4 45 "LogForwardModel" "bad" "[Z", Cond.fieldLink RX4 55 "LogForwardModel" "rows" "I", Cond.fieldLink RX4 42 "LogForwardModel" "ends" "[I", Cond.fieldLink RX4 7 "LogForwardModel" "cells" "[J", Cond.fieldLink RX4 36 "LogForwardModel" "kept" "[J", Cond.fieldLink RX4 39 "LogForwardModel" "starts" "[I", Cond.fieldLink RX4 13 "LogForwardModel" "kinds" "[I", Cond.fieldLink RX4 20 "LogForwardModel" "where" "[I", Cond.fieldLink RX4 29 "LogForwardModel" "afters" "[J", Cond.fieldLink RX4 105 "LogForwardModel" "archived" "I", Cond.methodLink RX4 69 yX4_finish, Cond.instanceMethod yX4_finish, Cond.selects RX4 yX4_finish yX4_finish, Cond.initialized RX4, Cond.code yX4_finish cX4_finish 2 none, Cond.fieldLink RX4 66 "LogForwardModel" "fuzzy" "I", Cond.methodLink RX4 102 yX4_lacking, Cond.instanceMethod yX4_lacking, Cond.selects RX4 yX4_lacking yX4_lacking, Cond.code yX4_lacking cX4_lacking 5 (some .int), Cond.fieldLink RX4 32 "LogForwardModel" "back" "[Z", Cond.fieldLink RX4 17 "LogForwardModel" "units" "[I"]
def wsX4_recover_r2 : List Cond := [Cond.methodLink RX4 89 yX4_isMissing, Cond.instanceMethod yX4_isMissing, Cond.selects RX4 yX4_isMissing yX4_isMissing, Cond.code yX4_isMissing cX4_isMissing 2 (some .boolean), Cond.fieldLink RX4 23 "LogForwardModel" "torn" "[I", Cond.methodLink RX4 58 yX4_stateOf, Cond.instanceMethod yX4_stateOf, Cond.selects RX4 yX4_stateOf yX4_stateOf, Cond.code yX4_stateOf cX4_stateOf 5 (some .int), Cond.methodLink RX4 92 yX4_changes, Cond.instanceMethod yX4_changes, Cond.selects RX4 yX4_changes yX4_changes, Cond.code yX4_changes cX4_changes 5 (some .int), Cond.methodLink RX4 62 yX4_isChange, Cond.instanceMethod yX4_isChange, Cond.selects RX4 yX4_isChange yX4_isChange, Cond.code yX4_isChange cX4_isChange 3 (some .boolean), Cond.methodLink RX4 95 yX4_takeBack, Cond.instanceMethod yX4_takeBack, Cond.selects RX4 yX4_takeBack yX4_takeBack, Cond.code yX4_takeBack cX4_takeBack 4 (some .int), Cond.fieldLink RX4 26 "LogForwardModel" "befores" "[J", Cond.methodLink RX4 85 yX4_write, Cond.instanceMethod yX4_write]
def wsX4_recover_r3 : List Cond := [Cond.selects RX4 yX4_write yX4_write, Cond.code yX4_write cX4_write 9 none, Cond.methodLink RX4 108 yX4_synced, Cond.instanceMethod yX4_synced, Cond.selects RX4 yX4_synced yX4_synced, Cond.code yX4_synced cX4_synced 3 (some .int)]
def wsX4_recover : List Cond := .code yX4_recover cX4_recover 8 (some .int) :: ((wsX4_recover_r1 ++ (wsX4_recover_r2 ++ wsX4_recover_r3)) ++ wsX40 ++ (vx_atM "java/lang/ArrayIndexOutOfBoundsException" ["java/lang/IndexOutOfBoundsException", "java/lang/RuntimeException", "java/lang/Exception"]).filter goodWord)
def wsX4_torn : List Cond := .code yX4_torn cX4_torn 3 (some .int) :: ([.fieldLink RX4 52 "LogForwardModel" "code" "I", .fieldLink RX4 55 "LogForwardModel" "rows" "I", .fieldLink RX4 105 "LogForwardModel" "archived" "I", .fieldLink RX4 23 "LogForwardModel" "torn" "[I"] ++ wsX40 ++ (vx_atM "java/lang/ArrayIndexOutOfBoundsException" ["java/lang/IndexOutOfBoundsException", "java/lang/RuntimeException", "java/lang/Exception"]).filter goodWord)
def wsX4_archive : List Cond := .code yX4_archive cX4_archive 2 (some .int) :: ([.fieldLink RX4 52 "LogForwardModel" "code" "I", .fieldLink RX4 55 "LogForwardModel" "rows" "I", .fieldLink RX4 105 "LogForwardModel" "archived" "I"] ++ wsX40)
def wsX4_gap : List Cond := .code yX4_gap cX4_gap 4 (some .int) :: ([.fieldLink RX4 52 "LogForwardModel" "code" "I", .fieldLink RX4 55 "LogForwardModel" "rows" "I", .methodLink RX4 89 yX4_isMissing, .instanceMethod yX4_isMissing, .selects RX4 yX4_isMissing yX4_isMissing, .initialized RX4, .code yX4_isMissing cX4_isMissing 2 (some .boolean), .fieldLink RX4 23 "LogForwardModel" "torn" "[I"] ++ wsX40 ++ (vx_atM "java/lang/ArrayIndexOutOfBoundsException" ["java/lang/IndexOutOfBoundsException", "java/lang/RuntimeException", "java/lang/Exception"]).filter goodWord)
def wsX4_ahead : List Cond := .code yX4_ahead cX4_ahead 1 (some .boolean) :: ([.fieldLink RX4 52 "LogForwardModel" "code" "I", .methodLink RX4 112 yX4_gap, .instanceMethod yX4_gap, .selects RX4 yX4_gap yX4_gap, .initialized RX4, .code yX4_gap cX4_gap 4 (some .int), .fieldLink RX4 55 "LogForwardModel" "rows" "I", .methodLink RX4 89 yX4_isMissing, .instanceMethod yX4_isMissing, .selects RX4 yX4_isMissing yX4_isMissing, .code yX4_isMissing cX4_isMissing 2 (some .boolean), .fieldLink RX4 23 "LogForwardModel" "torn" "[I"] ++ wsX40 ++ (vx_atM "java/lang/ArrayIndexOutOfBoundsException" ["java/lang/IndexOutOfBoundsException", "java/lang/RuntimeException", "java/lang/Exception"]).filter goodWord)
def wsX4_merge : List Cond := .code yX4_merge cX4_merge 5 (some .int) :: ([.fieldLink RX4 52 "LogForwardModel" "code" "I", .fieldLink RX4 55 "LogForwardModel" "rows" "I", .fieldLink RX4 17 "LogForwardModel" "units" "[I", .fieldLink RX4 48 "LogForwardModel" "regions" "I"] ++ wsX40 ++ (vx_atM "java/lang/ArrayIndexOutOfBoundsException" ["java/lang/IndexOutOfBoundsException", "java/lang/RuntimeException", "java/lang/Exception"]).filter goodWord)
def wsX4_get : List Cond := .code yX4_get cX4_get 2 (some .long) :: ([.fieldLink RX4 52 "LogForwardModel" "code" "I", .fieldLink RX4 7 "LogForwardModel" "cells" "[J", .methodLink RX4 79 yX4_isCell, .static yX4_isCell, .initialized RX4, .code yX4_isCell cX4_isCell 1 (some .boolean)] ++ wsX40 ++ (vx_atM "java/lang/ArrayIndexOutOfBoundsException" ["java/lang/IndexOutOfBoundsException", "java/lang/RuntimeException", "java/lang/Exception"]).filter goodWord)
def wsX4_at : List Cond := .code yX4_at cX4_at 4 (some .int) :: ([.fieldLink RX4 55 "LogForwardModel" "rows" "I", .fieldLink RX4 52 "LogForwardModel" "code" "I", .fieldLink RX4 13 "LogForwardModel" "kinds" "[I", .fieldLink RX4 17 "LogForwardModel" "units" "[I", .fieldLink RX4 20 "LogForwardModel" "where" "[I", .fieldLink RX4 26 "LogForwardModel" "befores" "[J", .fieldLink RX4 29 "LogForwardModel" "afters" "[J", .fieldLink RX4 23 "LogForwardModel" "torn" "[I", .fieldLink RX4 32 "LogForwardModel" "back" "[Z"] ++ wsX40 ++ (vx_atM "java/lang/ArrayIndexOutOfBoundsException" ["java/lang/IndexOutOfBoundsException", "java/lang/RuntimeException", "java/lang/Exception"]).filter goodWord)
def wsX4_warm : List Cond := .code yX4_warm cX4_warm 3 (some .int) :: ([.fieldLink RX4 52 "LogForwardModel" "code" "I", .methodLink RX4 72 yX4_isOpen, .instanceMethod yX4_isOpen, .selects RX4 yX4_isOpen yX4_isOpen, .initialized RX4, .code yX4_isOpen cX4_isOpen 2 (some .boolean), .fieldLink RX4 55 "LogForwardModel" "rows" "I", .methodLink RX4 58 yX4_stateOf, .instanceMethod yX4_stateOf, .selects RX4 yX4_stateOf yX4_stateOf, .code yX4_stateOf cX4_stateOf 5 (some .int), .fieldLink RX4 17 "LogForwardModel" "units" "[I", .fieldLink RX4 13 "LogForwardModel" "kinds" "[I"] ++ wsX40 ++ (vx_atM "java/lang/ArrayIndexOutOfBoundsException" ["java/lang/IndexOutOfBoundsException", "java/lang/RuntimeException", "java/lang/Exception"]).filter goodWord)
def wsX4_count : List Cond := .code yX4_count cX4_count 2 (some .int) :: ([.fieldLink RX4 52 "LogForwardModel" "code" "I", .fieldLink RX4 55 "LogForwardModel" "rows" "I", .fieldLink RX4 99 "LogForwardModel" "images" "I", .fieldLink RX4 105 "LogForwardModel" "archived" "I", .methodLink RX4 108 yX4_synced, .instanceMethod yX4_synced, .selects RX4 yX4_synced yX4_synced, .initialized RX4, .code yX4_synced cX4_synced 3 (some .int), .fieldLink RX4 13 "LogForwardModel" "kinds" "[I"] ++ wsX40 ++ (vx_atM "java/lang/ArrayIndexOutOfBoundsException" ["java/lang/IndexOutOfBoundsException", "java/lang/RuntimeException", "java/lang/Exception"]).filter goodWord)
def wsJx00060_init_a7421 : List Cond := .code yJx00060_init_a7421 cJx00060_init_a7421 2 none :: ([])
def wsJ9_max_7cf53 : List Cond := .code yJ9_max_7cf53 cJ9_max_7cf53 2 (some .int) :: ([])
def wsJ9_min_7cf53 : List Cond := .code yJ9_min_7cf53 cJ9_min_7cf53 2 (some .int) :: ([])
def wsL_cell : List Cond := .code yL_cell cL_cell 2 (some .int) :: ([] ++ (vx_atM "java/lang/ArrayIndexOutOfBoundsException" ["java/lang/IndexOutOfBoundsException", "java/lang/RuntimeException", "java/lang/Exception"]).filter goodWord)
def wsL_get : List Cond := .codeWith yL_get cL_get 4 (some .int) [(0, 8, 11, 13)] :: ([.classLink RL 13 "java/lang/IllegalArgumentException", .methodLink RL 7 yX3_get, .instanceMethod yX3_get, .selects RX3 yX3_get yX3_get, .initialized RX3, .code yX3_get cX3_get 2 (some .long), .classLink RX3 124 "java/lang/IllegalArgumentException", .initialized "java/lang/IllegalArgumentException", .fieldLink RX3 9 "LogForward" "cells" "[J", .methodLink RX3 54 yX3_isCell, .static yX3_isCell, .code yX3_isCell cX3_isCell 1 (some .boolean)] ++ wsX30 ++ (vx_atM "java/lang/ArrayIndexOutOfBoundsException" ["java/lang/IndexOutOfBoundsException", "java/lang/RuntimeException", "java/lang/Exception"]).filter goodWord ++ (vx_atS RX3 128 "java/lang/IllegalArgumentException" ["java/lang/RuntimeException", "java/lang/Exception"]).filter goodWord)
def wsL_at_r1 : List Cond := [Cond.classLink RL 19 "java/lang/ArrayIndexOutOfBoundsException", Cond.methodLink RL 15 yX3_at, Cond.instanceMethod yX3_at, Cond.selects RX3 yX3_at yX3_at, Cond.initialized RX3, Cond.code yX3_at cX3_at 3 (some .int), Cond.fieldLink RX3 16 "LogForward" "rows" "LLogForward$Rows;", Cond.classLink RX3 158 RJx00060, Cond.instantiable RJx00060 6, Cond.initialized RJx00060, Cond.methodLink RX3 140 yX1_has, Cond.instanceMethod yX1_has, Cond.selects RX1 yX1_has yX1_has, Cond.initialized RX1, Cond.code yX1_has cX1_has 2 (some .boolean), Cond.fieldLink RX1 35 "LogForward$Rows" "latest" "I", Cond.methodLink RX3 163 yX1_tell, Cond.instanceMethod yX1_tell, Cond.selects RX1 yX1_tell yX1_tell, Cond.code yX1_tell cX1_tell 3 (some .int), Cond.fieldLink RX1 9 "LogForward$Rows" "kind" "[I", Cond.fieldLink RX1 15 "LogForward$Rows" "unit" "[I", Cond.fieldLink RX1 18 "LogForward$Rows" "cell" "[I", Cond.fieldLink RX1 21 "LogForward$Rows" "before" "[J"]
def wsL_at_r2 : List Cond := [Cond.fieldLink RX1 25 "LogForward$Rows" "after" "[J", Cond.fieldLink RX1 28 "LogForward$Rows" "tornCopies" "[I", Cond.fieldLink RX1 31 "LogForward$Rows" "backingOut" "[Z", Cond.methodLink RX1 46 yX1_has]
def wsL_at : List Cond := .codeWith yL_at cL_at 5 (some .int) [(0, 10, 13, 19)] :: ((wsL_at_r1 ++ wsL_at_r2) ++ wsX30 ++ wsJx000600 ++ wsX10 ++ (vx_atM "java/lang/ArrayIndexOutOfBoundsException" ["java/lang/IndexOutOfBoundsException", "java/lang/RuntimeException", "java/lang/Exception"]).filter goodWord)
def wsL_law0_r1 : List Cond := [Cond.classLink RL 8 RX3, Cond.instantiable RX3 6, Cond.initialized RX3, Cond.classLink RL 30 RX4, Cond.instantiable RX4 18, Cond.initialized RX4, Cond.arrayClass .long, Cond.constantLong RL 33 (4294967295), Cond.methodLink RL 21 yL_cell, Cond.static yL_cell, Cond.initialized RL, Cond.code yL_cell cL_cell 2 (some .int), Cond.methodLink RL 27 yX3_init, Cond.instanceMethod yX3_init, Cond.code yX3_init cX3_init 2 none, Cond.methodLink RX3 1 objectInit, Cond.instanceMethod objectInit, Cond.code objectInit ⟨#[0xb1]⟩ 1 none, Cond.fieldLink RX3 9 "LogForward" "cells" "[J", Cond.classLink RX3 13 RX1, Cond.instantiable RX1 9, Cond.initialized RX1, Cond.fieldLink RX3 16 "LogForward" "rows" "LLogForward$Rows;", Cond.classLink RX3 20 RX2]
def wsL_law0_r2 : List Cond := [Cond.instantiable RX2 2, Cond.initialized RX2, Cond.fieldLink RX3 23 "LogForward" "units" "LLogForward$Units;", Cond.fieldLink RX3 27 "LogForward" "unitsThen" "LLogForward$Units;", Cond.classLink RX3 30 RX0, Cond.instantiable RX0 6, Cond.initialized RX0, Cond.fieldLink RX3 33 "LogForward" "images" "LLogForward$Images;", Cond.methodLink RX3 37 Lib.Math.min.name, Cond.static Lib.Math.min.name, Cond.initialized "java/lang/Math", Cond.code Lib.Math.min.name Lib.Math.min.code 2 (some .int), Cond.methodLink RX3 43 Lib.Math.max.name, Cond.static Lib.Math.max.name, Cond.code Lib.Math.max.name Lib.Math.max.code 2 (some .int), Cond.fieldLink RX3 46 "LogForward" "regions" "I", Cond.instanceMethod yX1_init, Cond.code yX1_init cX1_init 1 none, Cond.methodLink RX1 3 objectInit, Cond.arrayClass .int, Cond.fieldLink RX1 9 "LogForward$Rows" "kind" "[I", Cond.fieldLink RX1 15 "LogForward$Rows" "unit" "[I", Cond.fieldLink RX1 18 "LogForward$Rows" "cell" "[I", Cond.fieldLink RX1 21 "LogForward$Rows" "before" "[J"]
def wsL_law0_r3 : List Cond := [Cond.fieldLink RX1 25 "LogForward$Rows" "after" "[J", Cond.fieldLink RX1 28 "LogForward$Rows" "tornCopies" "[I", Cond.arrayClass .boolean, Cond.fieldLink RX1 31 "LogForward$Rows" "backingOut" "[Z", Cond.fieldLink RX1 35 "LogForward$Rows" "latest" "I", Cond.fieldLink RX1 39 "LogForward$Rows" "archived" "I", Cond.methodLink RX3 22 yX2_init, Cond.instanceMethod yX2_init, Cond.code yX2_init cX2_init 1 none, Cond.methodLink RX2 3 objectInit, Cond.fieldLink RX2 9 "LogForward$Units" "latestKind" "[I", Cond.fieldLink RX2 15 "LogForward$Units" "changer" "[I", Cond.methodLink RX2 18 yJ7_fill_53178, Cond.static yJ7_fill_53178, Cond.initialized RJ7, Cond.code yJ7_fill_53178 cJ7_fill_53178 4 none, Cond.instanceMethod yX0_init, Cond.code yX0_init cX0_init 1 none, Cond.methodLink RX0 3 objectInit, Cond.fieldLink RX0 11 "LogForward$Images" "start" "[I", Cond.fieldLink RX0 15 "LogForward$Images" "end" "[I", Cond.fieldLink RX0 18 "LogForward$Images" "spoiled" "[Z", Cond.classLink RX0 22 "[[J", Cond.fieldLink RX0 24 "LogForward$Images" "held" "[[J"]
def wsL_law0_r4 : List Cond := [Cond.fieldLink RX0 27 "LogForward$Images" "many" "I", Cond.fieldLink RX0 31 "LogForward$Images" "latestIsUnfinished" "Z", Cond.methodLink RL 32 yX4_init, Cond.instanceMethod yX4_init, Cond.code yX4_init cX4_init 2 none, Cond.methodLink RX4 1 objectInit, Cond.fieldLink RX4 7 "LogForwardModel" "cells" "[J", Cond.fieldLink RX4 13 "LogForwardModel" "kinds" "[I", Cond.fieldLink RX4 17 "LogForwardModel" "units" "[I", Cond.fieldLink RX4 20 "LogForwardModel" "where" "[I", Cond.fieldLink RX4 23 "LogForwardModel" "torn" "[I", Cond.fieldLink RX4 26 "LogForwardModel" "befores" "[J", Cond.fieldLink RX4 29 "LogForwardModel" "afters" "[J", Cond.fieldLink RX4 32 "LogForwardModel" "back" "[Z", Cond.fieldLink RX4 36 "LogForwardModel" "kept" "[J", Cond.fieldLink RX4 39 "LogForwardModel" "starts" "[I", Cond.fieldLink RX4 42 "LogForwardModel" "ends" "[I", Cond.fieldLink RX4 45 "LogForwardModel" "bad" "[Z", Cond.fieldLink RX4 48 "LogForwardModel" "regions" "I", Cond.methodLink RL 35 yX3_row, Cond.instanceMethod yX3_row, Cond.selects RX3 yX3_row yX3_row, Cond.code yX3_row cX3_row 7 (some .int), Cond.methodLink RX3 50 yX3_isUnit]
def wsL_law0_r5 : List Cond := [Cond.static yX3_isUnit, Cond.code yX3_isUnit cX3_isUnit 1 (some .boolean), Cond.methodLink RX3 54 yX3_isCell, Cond.static yX3_isCell, Cond.code yX3_isCell cX3_isCell 1 (some .boolean), Cond.methodLink RX3 57 yX2_isOver, Cond.instanceMethod yX2_isOver, Cond.selects RX2 yX2_isOver yX2_isOver, Cond.code yX2_isOver cX2_isOver 2 (some .boolean), Cond.methodLink RX3 60 yX2_isChangedByAnother, Cond.instanceMethod yX2_isChangedByAnother, Cond.selects RX2 yX2_isChangedByAnother yX2_isChangedByAnother, Cond.code yX2_isChangedByAnother cX2_isChangedByAnother 3 (some .boolean), Cond.methodLink RX2 31 yX2_isOpen, Cond.instanceMethod yX2_isOpen, Cond.selects RX2 yX2_isOpen yX2_isOpen, Cond.code yX2_isOpen cX2_isOpen 2 (some .boolean), Cond.methodLink RX3 64 yX1_hasRoomFor, Cond.instanceMethod yX1_hasRoomFor, Cond.selects RX1 yX1_hasRoomFor yX1_hasRoomFor, Cond.code yX1_hasRoomFor cX1_hasRoomFor 2 (some .boolean), Cond.methodLink RX3 67 yX3_writeChange, Cond.instanceMethod yX3_writeChange, Cond.selects RX3 yX3_writeChange yX3_writeChange]
def wsL_law0_r6 : List Cond := [Cond.code yX3_writeChange cX3_writeChange 9 (some .int), Cond.methodLink RX3 175 yX1_write, Cond.instanceMethod yX1_write, Cond.selects RX1 yX1_write yX1_write, Cond.code yX1_write cX1_write 9 (some .int), Cond.methodLink RX1 42 yX1_hasRoomFor, Cond.methodLink RX3 179 yX2_follow, Cond.instanceMethod yX2_follow, Cond.selects RX2 yX2_follow yX2_follow, Cond.code yX2_follow cX2_follow 4 none, Cond.methodLink RX3 183 yX3_setCell, Cond.instanceMethod yX3_setCell, Cond.selects RX3 yX3_setCell yX3_setCell, Cond.code yX3_setCell cX3_setCell 4 none, Cond.methodLink RX3 187 yX0_finishBehindFifth, Cond.instanceMethod yX0_finishBehindFifth, Cond.selects RX0 yX0_finishBehindFifth yX0_finishBehindFifth, Cond.code yX0_finishBehindFifth cX0_finishBehindFifth 3 none, Cond.methodLink RX0 45 yX0_finish, Cond.instanceMethod yX0_finish, Cond.selects RX0 yX0_finish yX0_finish, Cond.code yX0_finish cX0_finish 3 none, Cond.methodLink RX0 39 arraycopyName, Cond.native arraycopyName]
def wsL_law0_r7 : List Cond := [Cond.static arraycopyName, Cond.initialized "java/lang/System", Cond.methodLink RL 39 yX4_row, Cond.instanceMethod yX4_row, Cond.selects RX4 yX4_row yX4_row, Cond.code yX4_row cX4_row 7 (some .int), Cond.fieldLink RX4 52 "LogForwardModel" "code" "I", Cond.fieldLink RX4 55 "LogForwardModel" "rows" "I", Cond.methodLink RX4 76 yX4_isUnit, Cond.static yX4_isUnit, Cond.code yX4_isUnit cX4_isUnit 1 (some .boolean), Cond.methodLink RX4 79 yX4_isCell, Cond.static yX4_isCell, Cond.code yX4_isCell cX4_isCell 1 (some .boolean), Cond.methodLink RX4 58 yX4_stateOf, Cond.instanceMethod yX4_stateOf, Cond.selects RX4 yX4_stateOf yX4_stateOf, Cond.code yX4_stateOf cX4_stateOf 5 (some .int), Cond.methodLink RX4 82 yX4_isTaken, Cond.instanceMethod yX4_isTaken, Cond.selects RX4 yX4_isTaken yX4_isTaken, Cond.code yX4_isTaken cX4_isTaken 5 (some .boolean), Cond.methodLink RX4 72 yX4_isOpen, Cond.instanceMethod yX4_isOpen]
def wsL_law0_r8 : List Cond := [Cond.selects RX4 yX4_isOpen yX4_isOpen, Cond.code yX4_isOpen cX4_isOpen 2 (some .boolean), Cond.methodLink RX4 62 yX4_isChange, Cond.instanceMethod yX4_isChange, Cond.selects RX4 yX4_isChange yX4_isChange, Cond.code yX4_isChange cX4_isChange 3 (some .boolean), Cond.methodLink RX4 85 yX4_write, Cond.instanceMethod yX4_write, Cond.selects RX4 yX4_write yX4_write, Cond.code yX4_write cX4_write 9 none, Cond.fieldLink RX4 66 "LogForwardModel" "fuzzy" "I", Cond.methodLink RX4 69 yX4_finish, Cond.instanceMethod yX4_finish, Cond.selects RX4 yX4_finish yX4_finish, Cond.code yX4_finish cX4_finish 2 none, Cond.methodLink RL 40 yX3_sync, Cond.instanceMethod yX3_sync, Cond.selects RX3 yX3_sync yX3_sync, Cond.code yX3_sync cX3_sync 2 (some .int), Cond.methodLink RX3 71 yX2_isOpen, Cond.methodLink RX3 74 yX3_writeLastOf, Cond.instanceMethod yX3_writeLastOf, Cond.selects RX3 yX3_writeLastOf yX3_writeLastOf, Cond.code yX3_writeLastOf cX3_writeLastOf 5 (some .int)]
def wsL_law0_r9 : List Cond := [Cond.methodLink RL 44 yX4_sync, Cond.instanceMethod yX4_sync, Cond.selects RX4 yX4_sync yX4_sync, Cond.code yX4_sync cX4_sync 2 (some .int), Cond.methodLink RL 45 yX3_copy, Cond.instanceMethod yX3_copy, Cond.selects RX3 yX3_copy yX3_copy, Cond.code yX3_copy cX3_copy 2 (some .int), Cond.methodLink RX3 78 yX1_latest, Cond.instanceMethod yX1_latest, Cond.selects RX1 yX1_latest yX1_latest, Cond.code yX1_latest cX1_latest 1 (some .int), Cond.methodLink RX3 82 yX0_finish, Cond.methodLink RX3 86 yX0_take, Cond.instanceMethod yX0_take, Cond.selects RX0 yX0_take yX0_take, Cond.code yX0_take cX0_take 5 (some .int), Cond.methodLink RL 49 yX4_copy, Cond.instanceMethod yX4_copy, Cond.selects RX4 yX4_copy yX4_copy, Cond.code yX4_copy cX4_copy 3 (some .int), Cond.fieldLink RX4 99 "LogForwardModel" "images" "I", Cond.methodLink RL 50 yX3_recover, Cond.instanceMethod yX3_recover]
def wsL_law0_r10 : List Cond := [Cond.selects RX3 yX3_recover yX3_recover, Cond.code yX3_recover cX3_recover 6 (some .int), Cond.methodLink RX3 90 yX0_isGood, Cond.instanceMethod yX0_isGood, Cond.selects RX0 yX0_isGood yX0_isGood, Cond.code yX0_isGood cX0_isGood 2 (some .boolean), Cond.methodLink RX0 35 yX0_has, Cond.instanceMethod yX0_has, Cond.selects RX0 yX0_has yX0_has, Cond.code yX0_has cX0_has 2 (some .boolean), Cond.methodLink RX3 93 yX0_endOf, Cond.instanceMethod yX0_endOf, Cond.selects RX0 yX0_endOf yX0_endOf, Cond.code yX0_endOf cX0_endOf 2 (some .int), Cond.methodLink RX3 97 yX2_followAll, Cond.instanceMethod yX2_followAll, Cond.selects RX2 yX2_followAll yX2_followAll, Cond.code yX2_followAll cX2_followAll 4 none, Cond.methodLink RX2 34 yX1_kindOf, Cond.instanceMethod yX1_kindOf, Cond.selects RX1 yX1_kindOf yX1_kindOf, Cond.code yX1_kindOf cX1_kindOf 2 (some .int), Cond.methodLink RX1 46 yX1_has, Cond.instanceMethod yX1_has]
def wsL_law0_r11 : List Cond := [Cond.selects RX1 yX1_has yX1_has, Cond.code yX1_has cX1_has 2 (some .boolean), Cond.methodLink RX2 40 yX1_unitOf, Cond.instanceMethod yX1_unitOf, Cond.selects RX1 yX1_unitOf yX1_unitOf, Cond.code yX1_unitOf cX1_unitOf 2 (some .int), Cond.methodLink RX2 43 yX1_cellOf, Cond.instanceMethod yX1_cellOf, Cond.selects RX1 yX1_cellOf yX1_cellOf, Cond.code yX1_cellOf cX1_cellOf 2 (some .int), Cond.methodLink RX2 46 yX2_follow, Cond.methodLink RX3 101 yX0_startOf, Cond.instanceMethod yX0_startOf, Cond.selects RX0 yX0_startOf yX0_startOf, Cond.code yX0_startOf cX0_startOf 2 (some .int), Cond.methodLink RX3 104 yX3_leastMissing, Cond.instanceMethod yX3_leastMissing, Cond.selects RX3 yX3_leastMissing yX3_leastMissing, Cond.code yX3_leastMissing cX3_leastMissing 4 (some .int), Cond.methodLink RX3 152 yX1_isMissing, Cond.instanceMethod yX1_isMissing, Cond.selects RX1 yX1_isMissing yX1_isMissing, Cond.code yX1_isMissing cX1_isMissing 2 (some .boolean), Cond.methodLink RX3 203 yX3_isToBeBackedOut]
def wsL_law0_r12 : List Cond := [Cond.instanceMethod yX3_isToBeBackedOut, Cond.selects RX3 yX3_isToBeBackedOut yX3_isToBeBackedOut, Cond.code yX3_isToBeBackedOut cX3_isToBeBackedOut 2 (some .boolean), Cond.methodLink RX3 190 yX1_isBackable, Cond.instanceMethod yX1_isBackable, Cond.selects RX1 yX1_isBackable yX1_isBackable, Cond.code yX1_isBackable cX1_isBackable 2 (some .boolean), Cond.methodLink RX1 58 yX1_isChange, Cond.instanceMethod yX1_isChange, Cond.selects RX1 yX1_isChange yX1_isChange, Cond.code yX1_isChange cX1_isChange 2 (some .boolean), Cond.methodLink RX3 155 yX1_unitOf, Cond.methodLink RX3 107 yX3_rowsOfBackingOut, Cond.instanceMethod yX3_rowsOfBackingOut, Cond.selects RX3 yX3_rowsOfBackingOut yX3_rowsOfBackingOut, Cond.code yX3_rowsOfBackingOut cX3_rowsOfBackingOut 5 (some .int), Cond.methodLink RX3 166 yX2_howManyOpen, Cond.instanceMethod yX2_howManyOpen, Cond.selects RX2 yX2_howManyOpen yX2_howManyOpen, Cond.code yX2_howManyOpen cX2_howManyOpen 1 (some .int), Cond.methodLink RX2 50 yX2_howManyEndedBy, Cond.instanceMethod yX2_howManyEndedBy, Cond.selects RX2 yX2_howManyEndedBy yX2_howManyEndedBy, Cond.code yX2_howManyEndedBy cX2_howManyEndedBy 4 (some .int)]
def wsL_law0_r13 : List Cond := [Cond.methodLink RX3 110 yX3_bringForward, Cond.instanceMethod yX3_bringForward, Cond.selects RX3 yX3_bringForward yX3_bringForward, Cond.code yX3_bringForward cX3_bringForward 4 none, Cond.methodLink RX3 206 yX0_putBack, Cond.instanceMethod yX0_putBack, Cond.selects RX0 yX0_putBack yX0_putBack, Cond.code yX0_putBack cX0_putBack 3 none, Cond.methodLink RX3 209 yX1_isChange, Cond.methodLink RX3 193 yX1_cellOf, Cond.methodLink RX3 196 yX1_afterOf, Cond.instanceMethod yX1_afterOf, Cond.selects RX1 yX1_afterOf yX1_afterOf, Cond.code yX1_afterOf cX1_afterOf 2 (some .long), Cond.methodLink RX3 114 yX3_dropBehind, Cond.instanceMethod yX3_dropBehind, Cond.selects RX3 yX3_dropBehind yX3_dropBehind, Cond.code yX3_dropBehind cX3_dropBehind 2 none, Cond.methodLink RX3 212 yX1_dropBehind, Cond.instanceMethod yX1_dropBehind, Cond.selects RX1 yX1_dropBehind yX1_dropBehind, Cond.code yX1_dropBehind cX1_dropBehind 2 none, Cond.methodLink RX1 55 Lib.Math.min.name, Cond.methodLink RX3 213 yX0_spoilBehind]
def wsL_law0_r14 : List Cond := [Cond.instanceMethod yX0_spoilBehind, Cond.selects RX0 yX0_spoilBehind yX0_spoilBehind, Cond.code yX0_spoilBehind cX0_spoilBehind 3 none, Cond.methodLink RX3 118 yX3_backOutAllOpen, Cond.instanceMethod yX3_backOutAllOpen, Cond.selects RX3 yX3_backOutAllOpen yX3_backOutAllOpen, Cond.code yX3_backOutAllOpen cX3_backOutAllOpen 2 none, Cond.methodLink RX3 137 yX3_writeBackingOut, Cond.instanceMethod yX3_writeBackingOut, Cond.selects RX3 yX3_writeBackingOut yX3_writeBackingOut, Cond.code yX3_writeBackingOut cX3_writeBackingOut 3 none, Cond.methodLink RX3 200 yX1_beforeOf, Cond.instanceMethod yX1_beforeOf, Cond.selects RX1 yX1_beforeOf yX1_beforeOf, Cond.code yX1_beforeOf cX1_beforeOf 2 (some .long), Cond.methodLink RX3 121 yX2_howManyEndedBy, Cond.methodLink RL 54 yX4_recover, Cond.instanceMethod yX4_recover, Cond.selects RX4 yX4_recover yX4_recover, Cond.code yX4_recover cX4_recover 8 (some .int), Cond.fieldLink RX4 105 "LogForwardModel" "archived" "I", Cond.methodLink RX4 102 yX4_lacking, Cond.instanceMethod yX4_lacking, Cond.selects RX4 yX4_lacking yX4_lacking]
def wsL_law0_r15 : List Cond := [Cond.code yX4_lacking cX4_lacking 5 (some .int), Cond.methodLink RX4 89 yX4_isMissing, Cond.instanceMethod yX4_isMissing, Cond.selects RX4 yX4_isMissing yX4_isMissing, Cond.code yX4_isMissing cX4_isMissing 2 (some .boolean), Cond.methodLink RX4 92 yX4_changes, Cond.instanceMethod yX4_changes, Cond.selects RX4 yX4_changes yX4_changes, Cond.code yX4_changes cX4_changes 5 (some .int), Cond.methodLink RX4 95 yX4_takeBack, Cond.instanceMethod yX4_takeBack, Cond.selects RX4 yX4_takeBack yX4_takeBack, Cond.code yX4_takeBack cX4_takeBack 4 (some .int), Cond.methodLink RX4 108 yX4_synced, Cond.instanceMethod yX4_synced, Cond.selects RX4 yX4_synced yX4_synced, Cond.code yX4_synced cX4_synced 3 (some .int), Cond.methodLink RL 55 yL_get, Cond.static yL_get, Cond.codeWith yL_get cL_get 4 (some .int) [(0, 8, 11, 13)], Cond.classLink RL 13 "java/lang/IllegalArgumentException", Cond.methodLink RL 7 yX3_get, Cond.instanceMethod yX3_get, Cond.selects RX3 yX3_get yX3_get]
def wsL_law0_r16 : List Cond := [Cond.code yX3_get cX3_get 2 (some .long), Cond.classLink RX3 124 "java/lang/IllegalArgumentException", Cond.initialized "java/lang/IllegalArgumentException", Cond.methodLink RL 58 yX4_get, Cond.instanceMethod yX4_get, Cond.selects RX4 yX4_get yX4_get, Cond.code yX4_get cX4_get 2 (some .long), Cond.methodLink RL 59 yX4_thrown, Cond.instanceMethod yX4_thrown, Cond.selects RX4 yX4_thrown yX4_thrown, Cond.code yX4_thrown cX4_thrown 1 (some .int), Cond.methodLink RL 63 yX3_backout, Cond.instanceMethod yX3_backout, Cond.selects RX3 yX3_backout yX3_backout, Cond.code yX3_backout cX3_backout 4 (some .int), Cond.methodLink RX3 131 yX3_latestMissingOf, Cond.instanceMethod yX3_latestMissingOf, Cond.selects RX3 yX3_latestMissingOf yX3_latestMissingOf, Cond.code yX3_latestMissingOf cX3_latestMissingOf 3 (some .int), Cond.methodLink RX3 134 yX3_changesOf, Cond.instanceMethod yX3_changesOf, Cond.selects RX3 yX3_changesOf yX3_changesOf, Cond.code yX3_changesOf cX3_changesOf 4 (some .int), Cond.methodLink RL 66 yX4_backout]
def wsL_law0_r17 : List Cond := [Cond.instanceMethod yX4_backout, Cond.selects RX4 yX4_backout yX4_backout, Cond.code yX4_backout cX4_backout 3 (some .int), Cond.methodLink RL 67 yX3_torn, Cond.instanceMethod yX3_torn, Cond.selects RX3 yX3_torn yX3_torn, Cond.code yX3_torn cX3_torn 3 (some .int), Cond.methodLink RX3 140 yX1_has, Cond.methodLink RX3 143 yX1_archived, Cond.instanceMethod yX1_archived, Cond.selects RX1 yX1_archived yX1_archived, Cond.code yX1_archived cX1_archived 1 (some .int), Cond.methodLink RX3 146 yX1_tear, Cond.instanceMethod yX1_tear, Cond.selects RX1 yX1_tear yX1_tear, Cond.code yX1_tear cX1_tear 3 (some .boolean), Cond.methodLink RL 70 yX4_torn, Cond.instanceMethod yX4_torn, Cond.selects RX4 yX4_torn yX4_torn, Cond.code yX4_torn cX4_torn 3 (some .int), Cond.methodLink RL 71 yX3_archive, Cond.instanceMethod yX3_archive, Cond.selects RX3 yX3_archive yX3_archive, Cond.code yX3_archive cX3_archive 2 (some .int)]
def wsL_law0_r18 : List Cond := [Cond.methodLink RX3 149 yX1_putAway, Cond.instanceMethod yX1_putAway, Cond.selects RX1 yX1_putAway yX1_putAway, Cond.code yX1_putAway cX1_putAway 2 none, Cond.methodLink RX1 49 Lib.Math.max.name, Cond.methodLink RL 74 yX4_archive, Cond.instanceMethod yX4_archive, Cond.selects RX4 yX4_archive yX4_archive, Cond.code yX4_archive cX4_archive 2 (some .int), Cond.methodLink RL 75 yX3_gap, Cond.instanceMethod yX3_gap, Cond.selects RX3 yX3_gap yX3_gap, Cond.code yX3_gap cX3_gap 4 (some .int), Cond.methodLink RL 78 yX4_gap, Cond.instanceMethod yX4_gap, Cond.selects RX4 yX4_gap yX4_gap, Cond.code yX4_gap cX4_gap 4 (some .int), Cond.methodLink RL 79 yX3_merge, Cond.instanceMethod yX3_merge, Cond.selects RX3 yX3_merge yX3_merge, Cond.code yX3_merge cX3_merge 5 (some .int), Cond.methodLink RL 82 yX4_merge, Cond.instanceMethod yX4_merge, Cond.selects RX4 yX4_merge yX4_merge]
def wsL_law0_r19 : List Cond := [Cond.code yX4_merge cX4_merge 5 (some .int), Cond.methodLink RL 83 yL_at, Cond.static yL_at, Cond.codeWith yL_at cL_at 5 (some .int) [(0, 10, 13, 19)], Cond.classLink RL 19 "java/lang/ArrayIndexOutOfBoundsException", Cond.methodLink RL 15 yX3_at, Cond.instanceMethod yX3_at, Cond.selects RX3 yX3_at yX3_at, Cond.code yX3_at cX3_at 3 (some .int), Cond.classLink RX3 158 RJx00060, Cond.instantiable RJx00060 6, Cond.initialized RJx00060, Cond.methodLink RX3 163 yX1_tell, Cond.instanceMethod yX1_tell, Cond.selects RX1 yX1_tell yX1_tell, Cond.code yX1_tell cX1_tell 3 (some .int), Cond.methodLink RL 86 yX4_at, Cond.instanceMethod yX4_at, Cond.selects RX4 yX4_at yX4_at, Cond.code yX4_at cX4_at 4 (some .int), Cond.methodLink RL 87 yX3_warm, Cond.instanceMethod yX3_warm, Cond.selects RX3 yX3_warm yX3_warm, Cond.code yX3_warm cX3_warm 1 (some .int)]
def wsL_law0_r20 : List Cond := [Cond.methodLink RL 90 yX4_warm, Cond.instanceMethod yX4_warm, Cond.selects RX4 yX4_warm yX4_warm, Cond.code yX4_warm cX4_warm 3 (some .int), Cond.methodLink RL 91 yX3_ahead, Cond.instanceMethod yX3_ahead, Cond.selects RX3 yX3_ahead yX3_ahead, Cond.code yX3_ahead cX3_ahead 1 (some .boolean), Cond.methodLink RX3 169 yX3_gap, Cond.methodLink RL 95 yX4_ahead, Cond.instanceMethod yX4_ahead, Cond.selects RX4 yX4_ahead yX4_ahead, Cond.code yX4_ahead cX4_ahead 1 (some .boolean), Cond.methodLink RX4 112 yX4_gap, Cond.methodLink RL 96 yX3_count, Cond.instanceMethod yX3_count, Cond.selects RX3 yX3_count yX3_count, Cond.code yX3_count cX3_count 2 (some .int), Cond.methodLink RX3 172 yX0_howMany, Cond.instanceMethod yX0_howMany, Cond.selects RX0 yX0_howMany yX0_howMany, Cond.code yX0_howMany cX0_howMany 1 (some .int), Cond.methodLink RL 99 yX4_count, Cond.instanceMethod yX4_count]
def wsL_law0_r21 : List Cond := [Cond.selects RX4 yX4_count yX4_count, Cond.code yX4_count cX4_count 2 (some .int)]
def wsL_law0 : List Cond := (wsL_law0_r1 ++ (wsL_law0_r2 ++ (wsL_law0_r3 ++ (wsL_law0_r4 ++ (wsL_law0_r5 ++ (wsL_law0_r6 ++ (wsL_law0_r7 ++ (wsL_law0_r8 ++ (wsL_law0_r9 ++ (wsL_law0_r10 ++ (wsL_law0_r11 ++ (wsL_law0_r12 ++ (wsL_law0_r13 ++ (wsL_law0_r14 ++ (wsL_law0_r15 ++ (wsL_law0_r16 ++ (wsL_law0_r17 ++ (wsL_law0_r18 ++ (wsL_law0_r19 ++ (wsL_law0_r20 ++ wsL_law0_r21)))))))))))))))))))) ++ wsX30 ++ wsX40 ++ wsX10 ++ wsX20 ++ wsX00 ++ wsJx000600 ++ ([] : List Cond)
def wsL_law : List Cond := wsL_law0 ++ (vx_atM "java/lang/ArrayIndexOutOfBoundsException" ["java/lang/IndexOutOfBoundsException", "java/lang/RuntimeException", "java/lang/Exception"]).filter goodWord ++ (vx_atS RX3 128 "java/lang/IllegalArgumentException" ["java/lang/RuntimeException", "java/lang/Exception"]).filter goodWord
abbrev vwCl : List vw_C := [(RJ0, TJ0, 2), (RJx00060, TJx00060, 6), (RX0, TX0, 6), (RX1, TX1, 9), (RX2, TX2, 2), (RX3, TX3, 6), (RX4, TX4, 18)]
end
section
theorem dX0_init_0 : decode cX0_init 0 = .ok (.aload_n 0, 1) := by decide +kernel
theorem dX0_init_1 : decode cX0_init 1 = .ok (.invokespecial 3, 3) := by decide +kernel
theorem dX0_init_4 : decode cX0_init 4 = .ok (.aload_n 0, 1) := by decide +kernel
theorem dX0_init_5 : decode cX0_init 5 = .ok (.bipush 21, 2) := by decide +kernel
theorem dX0_init_7 : decode cX0_init 7 = .ok (.newarray .int, 2) := by decide +kernel
theorem dX0_init_9 : decode cX0_init 9 = .ok (.putfield 11, 3) := by decide +kernel
theorem dX0_init_12 : decode cX0_init 12 = .ok (.aload_n 0, 1) := by decide +kernel
theorem dX0_init_13 : decode cX0_init 13 = .ok (.bipush 21, 2) := by decide +kernel
theorem dX0_init_15 : decode cX0_init 15 = .ok (.newarray .int, 2) := by decide +kernel
theorem dX0_init_17 : decode cX0_init 17 = .ok (.putfield 15, 3) := by decide +kernel
theorem dX0_init_20 : decode cX0_init 20 = .ok (.aload_n 0, 1) := by decide +kernel
theorem dX0_init_21 : decode cX0_init 21 = .ok (.bipush 21, 2) := by decide +kernel
theorem dX0_init_23 : decode cX0_init 23 = .ok (.newarray .boolean, 2) := by decide +kernel
theorem dX0_init_25 : decode cX0_init 25 = .ok (.putfield 18, 3) := by decide +kernel
theorem dX0_init_28 : decode cX0_init 28 = .ok (.aload_n 0, 1) := by decide +kernel
theorem dX0_init_29 : decode cX0_init 29 = .ok (.bipush 21, 2) := by decide +kernel
theorem dX0_init_31 : decode cX0_init 31 = .ok (.bipush 32, 2) := by decide +kernel
theorem dX0_init_33 : decode cX0_init 33 = .ok (.multianewarray 22 2, 4) := by decide +kernel
theorem dX0_init_37 : decode cX0_init 37 = .ok (.putfield 24, 3) := by decide +kernel
theorem dX0_init_40 : decode cX0_init 40 = .ok (.aload_n 0, 1) := by decide +kernel
theorem dX0_init_41 : decode cX0_init 41 = .ok (.iconst 0, 1) := by decide +kernel
theorem dX0_init_42 : decode cX0_init 42 = .ok (.putfield 27, 3) := by decide +kernel
theorem dX0_init_45 : decode cX0_init 45 = .ok (.aload_n 0, 1) := by decide +kernel
theorem dX0_init_46 : decode cX0_init 46 = .ok (.iconst 0, 1) := by decide +kernel
theorem dX0_init_47 : decode cX0_init 47 = .ok (.putfield 31, 3) := by decide +kernel
theorem dX0_init_50 : decode cX0_init 50 = .ok (.return_, 1) := by decide +kernel
theorem dX0_howMany_0 : decode cX0_howMany 0 = .ok (.aload_n 0, 1) := by decide +kernel
theorem dX0_howMany_1 : decode cX0_howMany 1 = .ok (.getfield 27, 3) := by decide +kernel
theorem dX0_howMany_4 : decode cX0_howMany 4 = .ok (.ireturn, 1) := by decide +kernel
theorem dX0_has_0 : decode cX0_has 0 = .ok (.iload_n 1, 1) := by decide +kernel
theorem dX0_has_1 : decode cX0_has 1 = .ok (.iconst 1, 1) := by decide +kernel
theorem dX0_has_2 : decode cX0_has 2 = .ok (.if_icmp .lt 15, 3) := by decide +kernel
theorem dX0_has_5 : decode cX0_has 5 = .ok (.iload_n 1, 1) := by decide +kernel
theorem dX0_has_6 : decode cX0_has 6 = .ok (.aload_n 0, 1) := by decide +kernel
theorem dX0_has_7 : decode cX0_has 7 = .ok (.getfield 27, 3) := by decide +kernel
theorem dX0_has_10 : decode cX0_has 10 = .ok (.if_icmp .gt 7, 3) := by decide +kernel
theorem dX0_has_13 : decode cX0_has 13 = .ok (.iconst 1, 1) := by decide +kernel
theorem dX0_has_14 : decode cX0_has 14 = .ok (.goto 4, 3) := by decide +kernel
theorem dX0_has_17 : decode cX0_has 17 = .ok (.iconst 0, 1) := by decide +kernel
theorem dX0_has_18 : decode cX0_has 18 = .ok (.ireturn, 1) := by decide +kernel
set_option maxRecDepth 20000 in
theorem ggX0_isGood_X0_has : GoodIn wsX0_isGood wsX0_has := goodIn_r _ [6, 7, 8, 9, 10, 11, 12, 13] (by decide +kernel) (by decide +kernel)
set_option maxRecDepth 20000 in
theorem gX0_isGood_X0_has : GoodIn wsX0_isGood (wsV RX0 35 RX0 yX0_has wsX0_has) := goodIn_app (goodIn_of _ (by decide +kernel)) ggX0_isGood_X0_has
theorem dX0_isGood_0 : decode cX0_isGood 0 = .ok (.aload_n 0, 1) := by decide +kernel
theorem dX0_isGood_1 : decode cX0_isGood 1 = .ok (.iload_n 1, 1) := by decide +kernel
theorem dX0_isGood_2 : decode cX0_isGood 2 = .ok (.invokevirtual 35, 3) := by decide +kernel
theorem dX0_isGood_5 : decode cX0_isGood 5 = .ok (.ifCond .eq 16, 3) := by decide +kernel
theorem dX0_isGood_8 : decode cX0_isGood 8 = .ok (.aload_n 0, 1) := by decide +kernel
theorem dX0_isGood_9 : decode cX0_isGood 9 = .ok (.getfield 18, 3) := by decide +kernel
theorem dX0_isGood_12 : decode cX0_isGood 12 = .ok (.iload_n 1, 1) := by decide +kernel
theorem dX0_isGood_13 : decode cX0_isGood 13 = .ok (.baload, 1) := by decide +kernel
theorem dX0_isGood_14 : decode cX0_isGood 14 = .ok (.ifCond .ne 7, 3) := by decide +kernel
theorem dX0_isGood_17 : decode cX0_isGood 17 = .ok (.iconst 1, 1) := by decide +kernel
theorem dX0_isGood_18 : decode cX0_isGood 18 = .ok (.goto 4, 3) := by decide +kernel
theorem dX0_isGood_21 : decode cX0_isGood 21 = .ok (.iconst 0, 1) := by decide +kernel
theorem dX0_isGood_22 : decode cX0_isGood 22 = .ok (.ireturn, 1) := by decide +kernel
set_option maxRecDepth 20000 in
theorem ggX0_startOf_X0_has : GoodIn wsX0_startOf wsX0_has := goodIn_r _ [6, 7, 8, 9, 10, 11, 12, 13] (by decide +kernel) (by decide +kernel)
set_option maxRecDepth 20000 in
theorem gX0_startOf_X0_has : GoodIn wsX0_startOf (wsV RX0 35 RX0 yX0_has wsX0_has) := goodIn_app (goodIn_of _ (by decide +kernel)) ggX0_startOf_X0_has
theorem dX0_startOf_0 : decode cX0_startOf 0 = .ok (.aload_n 0, 1) := by decide +kernel
theorem dX0_startOf_1 : decode cX0_startOf 1 = .ok (.iload_n 1, 1) := by decide +kernel
theorem dX0_startOf_2 : decode cX0_startOf 2 = .ok (.invokevirtual 35, 3) := by decide +kernel
theorem dX0_startOf_5 : decode cX0_startOf 5 = .ok (.ifCond .eq 12, 3) := by decide +kernel
theorem dX0_startOf_8 : decode cX0_startOf 8 = .ok (.aload_n 0, 1) := by decide +kernel
theorem dX0_startOf_9 : decode cX0_startOf 9 = .ok (.getfield 11, 3) := by decide +kernel
theorem dX0_startOf_12 : decode cX0_startOf 12 = .ok (.iload_n 1, 1) := by decide +kernel
theorem dX0_startOf_13 : decode cX0_startOf 13 = .ok (.iaload, 1) := by decide +kernel
theorem dX0_startOf_14 : decode cX0_startOf 14 = .ok (.goto 4, 3) := by decide +kernel
theorem dX0_startOf_17 : decode cX0_startOf 17 = .ok (.iconst 0, 1) := by decide +kernel
theorem dX0_startOf_18 : decode cX0_startOf 18 = .ok (.ireturn, 1) := by decide +kernel
set_option maxRecDepth 20000 in
theorem ggX0_endOf_X0_has : GoodIn wsX0_endOf wsX0_has := goodIn_r _ [6, 7, 8, 9, 10, 11, 12, 13] (by decide +kernel) (by decide +kernel)
set_option maxRecDepth 20000 in
theorem gX0_endOf_X0_has : GoodIn wsX0_endOf (wsV RX0 35 RX0 yX0_has wsX0_has) := goodIn_app (goodIn_of _ (by decide +kernel)) ggX0_endOf_X0_has
theorem dX0_endOf_0 : decode cX0_endOf 0 = .ok (.aload_n 0, 1) := by decide +kernel
theorem dX0_endOf_1 : decode cX0_endOf 1 = .ok (.iload_n 1, 1) := by decide +kernel
theorem dX0_endOf_2 : decode cX0_endOf 2 = .ok (.invokevirtual 35, 3) := by decide +kernel
theorem dX0_endOf_5 : decode cX0_endOf 5 = .ok (.ifCond .eq 12, 3) := by decide +kernel
theorem dX0_endOf_8 : decode cX0_endOf 8 = .ok (.aload_n 0, 1) := by decide +kernel
theorem dX0_endOf_9 : decode cX0_endOf 9 = .ok (.getfield 15, 3) := by decide +kernel
theorem dX0_endOf_12 : decode cX0_endOf 12 = .ok (.iload_n 1, 1) := by decide +kernel
theorem dX0_endOf_13 : decode cX0_endOf 13 = .ok (.iaload, 1) := by decide +kernel
theorem dX0_endOf_14 : decode cX0_endOf 14 = .ok (.goto 4, 3) := by decide +kernel
theorem dX0_endOf_17 : decode cX0_endOf 17 = .ok (.iconst 0, 1) := by decide +kernel
theorem dX0_endOf_18 : decode cX0_endOf 18 = .ok (.ireturn, 1) := by decide +kernel
theorem dX0_take_0 : decode cX0_take 0 = .ok (.aload_n 0, 1) := by decide +kernel
theorem dX0_take_1 : decode cX0_take 1 = .ok (.getfield 27, 3) := by decide +kernel
theorem dX0_take_4 : decode cX0_take 4 = .ok (.bipush 20, 2) := by decide +kernel
theorem dX0_take_6 : decode cX0_take 6 = .ok (.if_icmp .lt 5, 3) := by decide +kernel
theorem dX0_take_9 : decode cX0_take 9 = .ok (.iconst (-1), 1) := by decide +kernel
theorem dX0_take_10 : decode cX0_take 10 = .ok (.ireturn, 1) := by decide +kernel
theorem dX0_take_11 : decode cX0_take 11 = .ok (.aload_n 0, 1) := by decide +kernel
theorem dX0_take_12 : decode cX0_take 12 = .ok (.dup, 1) := by decide +kernel
theorem dX0_take_13 : decode cX0_take 13 = .ok (.getfield 27, 3) := by decide +kernel
theorem dX0_take_16 : decode cX0_take 16 = .ok (.iconst 1, 1) := by decide +kernel
theorem dX0_take_17 : decode cX0_take 17 = .ok (.iadd, 1) := by decide +kernel
theorem dX0_take_18 : decode cX0_take 18 = .ok (.putfield 27, 3) := by decide +kernel
theorem dX0_take_21 : decode cX0_take 21 = .ok (.aload_n 0, 1) := by decide +kernel
theorem dX0_take_22 : decode cX0_take 22 = .ok (.getfield 11, 3) := by decide +kernel
theorem dX0_take_25 : decode cX0_take 25 = .ok (.aload_n 0, 1) := by decide +kernel
theorem dX0_take_26 : decode cX0_take 26 = .ok (.getfield 27, 3) := by decide +kernel
theorem dX0_take_29 : decode cX0_take 29 = .ok (.iload_n 2, 1) := by decide +kernel
theorem dX0_take_30 : decode cX0_take 30 = .ok (.iastore, 1) := by decide +kernel
theorem dX0_take_31 : decode cX0_take 31 = .ok (.aload_n 0, 1) := by decide +kernel
theorem dX0_take_32 : decode cX0_take 32 = .ok (.getfield 15, 3) := by decide +kernel
theorem dX0_take_35 : decode cX0_take 35 = .ok (.aload_n 0, 1) := by decide +kernel
theorem dX0_take_36 : decode cX0_take 36 = .ok (.getfield 27, 3) := by decide +kernel
theorem dX0_take_39 : decode cX0_take 39 = .ok (.iload_n 2, 1) := by decide +kernel
theorem dX0_take_40 : decode cX0_take 40 = .ok (.iastore, 1) := by decide +kernel
theorem dX0_take_41 : decode cX0_take 41 = .ok (.iload_n 1, 1) := by decide +kernel
theorem dX0_take_42 : decode cX0_take 42 = .ok (.ifCond .eq 8, 3) := by decide +kernel
theorem dX0_take_45 : decode cX0_take 45 = .ok (.bipush 16, 2) := by decide +kernel
theorem dX0_take_47 : decode cX0_take 47 = .ok (.goto 5, 3) := by decide +kernel
theorem dX0_take_50 : decode cX0_take 50 = .ok (.bipush 32, 2) := by decide +kernel
theorem dX0_take_52 : decode cX0_take 52 = .ok (.istore 4, 2) := by decide +kernel
theorem dX0_take_54 : decode cX0_take 54 = .ok (.aload_n 3, 1) := by decide +kernel
theorem dX0_take_55 : decode cX0_take 55 = .ok (.iconst 0, 1) := by decide +kernel
theorem dX0_take_56 : decode cX0_take 56 = .ok (.aload_n 0, 1) := by decide +kernel
theorem dX0_take_57 : decode cX0_take 57 = .ok (.getfield 24, 3) := by decide +kernel
theorem dX0_take_60 : decode cX0_take 60 = .ok (.aload_n 0, 1) := by decide +kernel
theorem dX0_take_61 : decode cX0_take 61 = .ok (.getfield 27, 3) := by decide +kernel
theorem dX0_take_64 : decode cX0_take 64 = .ok (.aaload, 1) := by decide +kernel
theorem dX0_take_65 : decode cX0_take 65 = .ok (.iconst 0, 1) := by decide +kernel
theorem dX0_take_66 : decode cX0_take 66 = .ok (.iload 4, 2) := by decide +kernel
theorem dX0_take_68 : decode cX0_take 68 = .ok (.invokestatic 39, 3) := by decide +kernel
theorem dX0_take_71 : decode cX0_take 71 = .ok (.aload_n 0, 1) := by decide +kernel
theorem dX0_take_72 : decode cX0_take 72 = .ok (.iload_n 1, 1) := by decide +kernel
theorem dX0_take_73 : decode cX0_take 73 = .ok (.putfield 31, 3) := by decide +kernel
theorem dX0_take_76 : decode cX0_take 76 = .ok (.aload_n 0, 1) := by decide +kernel
theorem dX0_take_77 : decode cX0_take 77 = .ok (.getfield 27, 3) := by decide +kernel
theorem dX0_take_80 : decode cX0_take 80 = .ok (.ireturn, 1) := by decide +kernel
theorem dX0_finish_0 : decode cX0_finish 0 = .ok (.aload_n 0, 1) := by decide +kernel
theorem dX0_finish_1 : decode cX0_finish 1 = .ok (.getfield 31, 3) := by decide +kernel
theorem dX0_finish_4 : decode cX0_finish 4 = .ok (.ifCond .ne 4, 3) := by decide +kernel
theorem dX0_finish_7 : decode cX0_finish 7 = .ok (.return_, 1) := by decide +kernel
theorem dX0_finish_8 : decode cX0_finish 8 = .ok (.aload_n 2, 1) := by decide +kernel
theorem dX0_finish_9 : decode cX0_finish 9 = .ok (.bipush 16, 2) := by decide +kernel
theorem dX0_finish_11 : decode cX0_finish 11 = .ok (.aload_n 0, 1) := by decide +kernel
theorem dX0_finish_12 : decode cX0_finish 12 = .ok (.getfield 24, 3) := by decide +kernel
theorem dX0_finish_15 : decode cX0_finish 15 = .ok (.aload_n 0, 1) := by decide +kernel
theorem dX0_finish_16 : decode cX0_finish 16 = .ok (.getfield 27, 3) := by decide +kernel
theorem dX0_finish_19 : decode cX0_finish 19 = .ok (.aaload, 1) := by decide +kernel
theorem dX0_finish_20 : decode cX0_finish 20 = .ok (.bipush 16, 2) := by decide +kernel
theorem dX0_finish_22 : decode cX0_finish 22 = .ok (.bipush 16, 2) := by decide +kernel
theorem dX0_finish_24 : decode cX0_finish 24 = .ok (.invokestatic 39, 3) := by decide +kernel
theorem dX0_finish_27 : decode cX0_finish 27 = .ok (.aload_n 0, 1) := by decide +kernel
theorem dX0_finish_28 : decode cX0_finish 28 = .ok (.getfield 15, 3) := by decide +kernel
theorem dX0_finish_31 : decode cX0_finish 31 = .ok (.aload_n 0, 1) := by decide +kernel
theorem dX0_finish_32 : decode cX0_finish 32 = .ok (.getfield 27, 3) := by decide +kernel
theorem dX0_finish_35 : decode cX0_finish 35 = .ok (.iload_n 1, 1) := by decide +kernel
theorem dX0_finish_36 : decode cX0_finish 36 = .ok (.iastore, 1) := by decide +kernel
theorem dX0_finish_37 : decode cX0_finish 37 = .ok (.aload_n 0, 1) := by decide +kernel
theorem dX0_finish_38 : decode cX0_finish 38 = .ok (.iconst 0, 1) := by decide +kernel
theorem dX0_finish_39 : decode cX0_finish 39 = .ok (.putfield 31, 3) := by decide +kernel
theorem dX0_finish_42 : decode cX0_finish 42 = .ok (.return_, 1) := by decide +kernel
set_option maxRecDepth 20000 in
theorem ggX0_finishBehindFifth_X0_finish : GoodIn wsX0_finishBehindFifth wsX0_finish := goodIn_ca (goodIn_r _ [7, 8, 9, 2, 10, 11, 12, 13, 14, 15, 16, 17, 18, 19, 20] (by decide +kernel) (by decide +kernel)) (goodIn_sub (fun _ h => List.mem_cons_of_mem _ (List.mem_append_right _ h)) (by decide +kernel))
set_option maxRecDepth 20000 in
theorem gX0_finishBehindFifth_X0_finish : GoodIn wsX0_finishBehindFifth (wsV RX0 45 RX0 yX0_finish wsX0_finish) := goodIn_app (goodIn_of _ (by decide +kernel)) ggX0_finishBehindFifth_X0_finish
theorem dX0_finishBehindFifth_0 : decode cX0_finishBehindFifth 0 = .ok (.iload_n 1, 1) := by decide +kernel
theorem dX0_finishBehindFifth_1 : decode cX0_finishBehindFifth 1 = .ok (.aload_n 0, 1) := by decide +kernel
theorem dX0_finishBehindFifth_2 : decode cX0_finishBehindFifth 2 = .ok (.getfield 11, 3) := by decide +kernel
theorem dX0_finishBehindFifth_5 : decode cX0_finishBehindFifth 5 = .ok (.aload_n 0, 1) := by decide +kernel
theorem dX0_finishBehindFifth_6 : decode cX0_finishBehindFifth 6 = .ok (.getfield 27, 3) := by decide +kernel
theorem dX0_finishBehindFifth_9 : decode cX0_finishBehindFifth 9 = .ok (.iaload, 1) := by decide +kernel
theorem dX0_finishBehindFifth_10 : decode cX0_finishBehindFifth 10 = .ok (.isub, 1) := by decide +kernel
theorem dX0_finishBehindFifth_11 : decode cX0_finishBehindFifth 11 = .ok (.iconst 5, 1) := by decide +kernel
theorem dX0_finishBehindFifth_12 : decode cX0_finishBehindFifth 12 = .ok (.if_icmp .lt 9, 3) := by decide +kernel
theorem dX0_finishBehindFifth_15 : decode cX0_finishBehindFifth 15 = .ok (.aload_n 0, 1) := by decide +kernel
theorem dX0_finishBehindFifth_16 : decode cX0_finishBehindFifth 16 = .ok (.iload_n 1, 1) := by decide +kernel
theorem dX0_finishBehindFifth_17 : decode cX0_finishBehindFifth 17 = .ok (.aload_n 2, 1) := by decide +kernel
theorem dX0_finishBehindFifth_18 : decode cX0_finishBehindFifth 18 = .ok (.invokevirtual 45, 3) := by decide +kernel
theorem dX0_finishBehindFifth_21 : decode cX0_finishBehindFifth 21 = .ok (.return_, 1) := by decide +kernel
set_option maxRecDepth 20000 in
theorem ggX0_putBack_X0_has : GoodIn wsX0_putBack wsX0_has := goodIn_r _ [10, 11, 12, 13, 14, 15, 16, 17] (by decide +kernel) (by decide +kernel)
set_option maxRecDepth 20000 in
theorem gX0_putBack_X0_has : GoodIn wsX0_putBack (wsV RX0 35 RX0 yX0_has wsX0_has) := goodIn_app (goodIn_of _ (by decide +kernel)) ggX0_putBack_X0_has
theorem dX0_putBack_0 : decode cX0_putBack 0 = .ok (.aload_n 0, 1) := by decide +kernel
theorem dX0_putBack_1 : decode cX0_putBack 1 = .ok (.iload_n 1, 1) := by decide +kernel
theorem dX0_putBack_2 : decode cX0_putBack 2 = .ok (.invokevirtual 35, 3) := by decide +kernel
theorem dX0_putBack_5 : decode cX0_putBack 5 = .ok (.ifCond .eq 17, 3) := by decide +kernel
theorem dX0_putBack_8 : decode cX0_putBack 8 = .ok (.aload_n 0, 1) := by decide +kernel
theorem dX0_putBack_9 : decode cX0_putBack 9 = .ok (.getfield 24, 3) := by decide +kernel
theorem dX0_putBack_12 : decode cX0_putBack 12 = .ok (.iload_n 1, 1) := by decide +kernel
theorem dX0_putBack_13 : decode cX0_putBack 13 = .ok (.aaload, 1) := by decide +kernel
theorem dX0_putBack_14 : decode cX0_putBack 14 = .ok (.iconst 0, 1) := by decide +kernel
theorem dX0_putBack_15 : decode cX0_putBack 15 = .ok (.aload_n 2, 1) := by decide +kernel
theorem dX0_putBack_16 : decode cX0_putBack 16 = .ok (.iconst 0, 1) := by decide +kernel
theorem dX0_putBack_17 : decode cX0_putBack 17 = .ok (.bipush 32, 2) := by decide +kernel
theorem dX0_putBack_19 : decode cX0_putBack 19 = .ok (.invokestatic 39, 3) := by decide +kernel
theorem dX0_putBack_22 : decode cX0_putBack 22 = .ok (.return_, 1) := by decide +kernel
theorem dX0_spoilBehind_0 : decode cX0_spoilBehind 0 = .ok (.iconst 1, 1) := by decide +kernel
theorem dX0_spoilBehind_1 : decode cX0_spoilBehind 1 = .ok (.istore_n 2, 1) := by decide +kernel
theorem dX0_spoilBehind_2 : decode cX0_spoilBehind 2 = .ok (.iload_n 2, 1) := by decide +kernel
theorem dX0_spoilBehind_3 : decode cX0_spoilBehind 3 = .ok (.aload_n 0, 1) := by decide +kernel
theorem dX0_spoilBehind_4 : decode cX0_spoilBehind 4 = .ok (.getfield 27, 3) := by decide +kernel
theorem dX0_spoilBehind_7 : decode cX0_spoilBehind 7 = .ok (.if_icmp .gt 26, 3) := by decide +kernel
theorem dX0_spoilBehind_10 : decode cX0_spoilBehind 10 = .ok (.aload_n 0, 1) := by decide +kernel
theorem dX0_spoilBehind_11 : decode cX0_spoilBehind 11 = .ok (.getfield 15, 3) := by decide +kernel
theorem dX0_spoilBehind_14 : decode cX0_spoilBehind 14 = .ok (.iload_n 2, 1) := by decide +kernel
theorem dX0_spoilBehind_15 : decode cX0_spoilBehind 15 = .ok (.iaload, 1) := by decide +kernel
theorem dX0_spoilBehind_16 : decode cX0_spoilBehind 16 = .ok (.iload_n 1, 1) := by decide +kernel
theorem dX0_spoilBehind_17 : decode cX0_spoilBehind 17 = .ok (.if_icmp .le 10, 3) := by decide +kernel
theorem dX0_spoilBehind_20 : decode cX0_spoilBehind 20 = .ok (.aload_n 0, 1) := by decide +kernel
theorem dX0_spoilBehind_21 : decode cX0_spoilBehind 21 = .ok (.getfield 18, 3) := by decide +kernel
theorem dX0_spoilBehind_24 : decode cX0_spoilBehind 24 = .ok (.iload_n 2, 1) := by decide +kernel
theorem dX0_spoilBehind_25 : decode cX0_spoilBehind 25 = .ok (.iconst 1, 1) := by decide +kernel
theorem dX0_spoilBehind_26 : decode cX0_spoilBehind 26 = .ok (.bastore, 1) := by decide +kernel
theorem dX0_spoilBehind_27 : decode cX0_spoilBehind 27 = .ok (.iinc 2 1, 3) := by decide +kernel
theorem dX0_spoilBehind_30 : decode cX0_spoilBehind 30 = .ok (.goto (-28), 3) := by decide +kernel
theorem dX0_spoilBehind_33 : decode cX0_spoilBehind 33 = .ok (.return_, 1) := by decide +kernel
theorem dX1_init_0 : decode cX1_init 0 = .ok (.aload_n 0, 1) := by decide +kernel
theorem dX1_init_1 : decode cX1_init 1 = .ok (.invokespecial 3, 3) := by decide +kernel
theorem dX1_init_4 : decode cX1_init 4 = .ok (.aload_n 0, 1) := by decide +kernel
theorem dX1_init_5 : decode cX1_init 5 = .ok (.sipush 2001, 3) := by decide +kernel
theorem dX1_init_8 : decode cX1_init 8 = .ok (.newarray .int, 2) := by decide +kernel
theorem dX1_init_10 : decode cX1_init 10 = .ok (.putfield 9, 3) := by decide +kernel
theorem dX1_init_13 : decode cX1_init 13 = .ok (.aload_n 0, 1) := by decide +kernel
theorem dX1_init_14 : decode cX1_init 14 = .ok (.sipush 2001, 3) := by decide +kernel
theorem dX1_init_17 : decode cX1_init 17 = .ok (.newarray .int, 2) := by decide +kernel
theorem dX1_init_19 : decode cX1_init 19 = .ok (.putfield 15, 3) := by decide +kernel
theorem dX1_init_22 : decode cX1_init 22 = .ok (.aload_n 0, 1) := by decide +kernel
theorem dX1_init_23 : decode cX1_init 23 = .ok (.sipush 2001, 3) := by decide +kernel
theorem dX1_init_26 : decode cX1_init 26 = .ok (.newarray .int, 2) := by decide +kernel
theorem dX1_init_28 : decode cX1_init 28 = .ok (.putfield 18, 3) := by decide +kernel
theorem dX1_init_31 : decode cX1_init 31 = .ok (.aload_n 0, 1) := by decide +kernel
theorem dX1_init_32 : decode cX1_init 32 = .ok (.sipush 2001, 3) := by decide +kernel
theorem dX1_init_35 : decode cX1_init 35 = .ok (.newarray .long, 2) := by decide +kernel
theorem dX1_init_37 : decode cX1_init 37 = .ok (.putfield 21, 3) := by decide +kernel
theorem dX1_init_40 : decode cX1_init 40 = .ok (.aload_n 0, 1) := by decide +kernel
theorem dX1_init_41 : decode cX1_init 41 = .ok (.sipush 2001, 3) := by decide +kernel
theorem dX1_init_44 : decode cX1_init 44 = .ok (.newarray .long, 2) := by decide +kernel
theorem dX1_init_46 : decode cX1_init 46 = .ok (.putfield 25, 3) := by decide +kernel
theorem dX1_init_49 : decode cX1_init 49 = .ok (.aload_n 0, 1) := by decide +kernel
theorem dX1_init_50 : decode cX1_init 50 = .ok (.sipush 2001, 3) := by decide +kernel
theorem dX1_init_53 : decode cX1_init 53 = .ok (.newarray .int, 2) := by decide +kernel
theorem dX1_init_55 : decode cX1_init 55 = .ok (.putfield 28, 3) := by decide +kernel
theorem dX1_init_58 : decode cX1_init 58 = .ok (.aload_n 0, 1) := by decide +kernel
theorem dX1_init_59 : decode cX1_init 59 = .ok (.sipush 2001, 3) := by decide +kernel
theorem dX1_init_62 : decode cX1_init 62 = .ok (.newarray .boolean, 2) := by decide +kernel
theorem dX1_init_64 : decode cX1_init 64 = .ok (.putfield 31, 3) := by decide +kernel
theorem dX1_init_67 : decode cX1_init 67 = .ok (.aload_n 0, 1) := by decide +kernel
theorem dX1_init_68 : decode cX1_init 68 = .ok (.iconst 0, 1) := by decide +kernel
theorem dX1_init_69 : decode cX1_init 69 = .ok (.putfield 35, 3) := by decide +kernel
theorem dX1_init_72 : decode cX1_init 72 = .ok (.aload_n 0, 1) := by decide +kernel
theorem dX1_init_73 : decode cX1_init 73 = .ok (.iconst 0, 1) := by decide +kernel
theorem dX1_init_74 : decode cX1_init 74 = .ok (.putfield 39, 3) := by decide +kernel
theorem dX1_init_77 : decode cX1_init 77 = .ok (.return_, 1) := by decide +kernel
theorem dX1_latest_0 : decode cX1_latest 0 = .ok (.aload_n 0, 1) := by decide +kernel
theorem dX1_latest_1 : decode cX1_latest 1 = .ok (.getfield 35, 3) := by decide +kernel
theorem dX1_latest_4 : decode cX1_latest 4 = .ok (.ireturn, 1) := by decide +kernel
theorem dX1_archived_0 : decode cX1_archived 0 = .ok (.aload_n 0, 1) := by decide +kernel
theorem dX1_archived_1 : decode cX1_archived 1 = .ok (.getfield 39, 3) := by decide +kernel
theorem dX1_archived_4 : decode cX1_archived 4 = .ok (.ireturn, 1) := by decide +kernel
theorem dX1_has_0 : decode cX1_has 0 = .ok (.iload_n 1, 1) := by decide +kernel
theorem dX1_has_1 : decode cX1_has 1 = .ok (.iconst 1, 1) := by decide +kernel
theorem dX1_has_2 : decode cX1_has 2 = .ok (.if_icmp .lt 15, 3) := by decide +kernel
theorem dX1_has_5 : decode cX1_has 5 = .ok (.iload_n 1, 1) := by decide +kernel
theorem dX1_has_6 : decode cX1_has 6 = .ok (.aload_n 0, 1) := by decide +kernel
theorem dX1_has_7 : decode cX1_has 7 = .ok (.getfield 35, 3) := by decide +kernel
theorem dX1_has_10 : decode cX1_has 10 = .ok (.if_icmp .gt 7, 3) := by decide +kernel
theorem dX1_has_13 : decode cX1_has 13 = .ok (.iconst 1, 1) := by decide +kernel
theorem dX1_has_14 : decode cX1_has 14 = .ok (.goto 4, 3) := by decide +kernel
theorem dX1_has_17 : decode cX1_has 17 = .ok (.iconst 0, 1) := by decide +kernel
theorem dX1_has_18 : decode cX1_has 18 = .ok (.ireturn, 1) := by decide +kernel
theorem dX1_hasRoomFor_0 : decode cX1_hasRoomFor 0 = .ok (.iload_n 1, 1) := by decide +kernel
theorem dX1_hasRoomFor_1 : decode cX1_hasRoomFor 1 = .ok (.sipush 2000, 3) := by decide +kernel
theorem dX1_hasRoomFor_4 : decode cX1_hasRoomFor 4 = .ok (.aload_n 0, 1) := by decide +kernel
theorem dX1_hasRoomFor_5 : decode cX1_hasRoomFor 5 = .ok (.getfield 35, 3) := by decide +kernel
theorem dX1_hasRoomFor_8 : decode cX1_hasRoomFor 8 = .ok (.isub, 1) := by decide +kernel
theorem dX1_hasRoomFor_9 : decode cX1_hasRoomFor 9 = .ok (.if_icmp .gt 7, 3) := by decide +kernel
theorem dX1_hasRoomFor_12 : decode cX1_hasRoomFor 12 = .ok (.iconst 1, 1) := by decide +kernel
theorem dX1_hasRoomFor_13 : decode cX1_hasRoomFor 13 = .ok (.goto 4, 3) := by decide +kernel
theorem dX1_hasRoomFor_16 : decode cX1_hasRoomFor 16 = .ok (.iconst 0, 1) := by decide +kernel
theorem dX1_hasRoomFor_17 : decode cX1_hasRoomFor 17 = .ok (.ireturn, 1) := by decide +kernel
set_option maxRecDepth 20000 in
theorem ggX1_write_X1_hasRoomFor : GoodIn wsX1_write wsX1_hasRoomFor := goodIn_r _ [13, 1, 14, 15, 16, 17, 18, 19, 20, 21, 22] (by decide +kernel) (by decide +kernel)
set_option maxRecDepth 20000 in
theorem gX1_write_X1_hasRoomFor : GoodIn wsX1_write (wsV RX1 42 RX1 yX1_hasRoomFor wsX1_hasRoomFor) := goodIn_app (goodIn_of _ (by decide +kernel)) ggX1_write_X1_hasRoomFor
theorem dX1_write_0 : decode cX1_write 0 = .ok (.aload_n 0, 1) := by decide +kernel
theorem dX1_write_1 : decode cX1_write 1 = .ok (.iconst 1, 1) := by decide +kernel
theorem dX1_write_2 : decode cX1_write 2 = .ok (.invokevirtual 42, 3) := by decide +kernel
theorem dX1_write_5 : decode cX1_write 5 = .ok (.ifCond .ne 5, 3) := by decide +kernel
theorem dX1_write_8 : decode cX1_write 8 = .ok (.iconst (-1), 1) := by decide +kernel
theorem dX1_write_9 : decode cX1_write 9 = .ok (.ireturn, 1) := by decide +kernel
theorem dX1_write_10 : decode cX1_write 10 = .ok (.aload_n 0, 1) := by decide +kernel
theorem dX1_write_11 : decode cX1_write 11 = .ok (.dup, 1) := by decide +kernel
theorem dX1_write_12 : decode cX1_write 12 = .ok (.getfield 35, 3) := by decide +kernel
theorem dX1_write_15 : decode cX1_write 15 = .ok (.iconst 1, 1) := by decide +kernel
theorem dX1_write_16 : decode cX1_write 16 = .ok (.iadd, 1) := by decide +kernel
theorem dX1_write_17 : decode cX1_write 17 = .ok (.putfield 35, 3) := by decide +kernel
theorem dX1_write_20 : decode cX1_write 20 = .ok (.aload_n 0, 1) := by decide +kernel
theorem dX1_write_21 : decode cX1_write 21 = .ok (.getfield 9, 3) := by decide +kernel
theorem dX1_write_24 : decode cX1_write 24 = .ok (.aload_n 0, 1) := by decide +kernel
theorem dX1_write_25 : decode cX1_write 25 = .ok (.getfield 35, 3) := by decide +kernel
theorem dX1_write_28 : decode cX1_write 28 = .ok (.iload_n 1, 1) := by decide +kernel
theorem dX1_write_29 : decode cX1_write 29 = .ok (.iastore, 1) := by decide +kernel
theorem dX1_write_30 : decode cX1_write 30 = .ok (.aload_n 0, 1) := by decide +kernel
theorem dX1_write_31 : decode cX1_write 31 = .ok (.getfield 15, 3) := by decide +kernel
theorem dX1_write_34 : decode cX1_write 34 = .ok (.aload_n 0, 1) := by decide +kernel
theorem dX1_write_35 : decode cX1_write 35 = .ok (.getfield 35, 3) := by decide +kernel
theorem dX1_write_38 : decode cX1_write 38 = .ok (.iload_n 2, 1) := by decide +kernel
theorem dX1_write_39 : decode cX1_write 39 = .ok (.iastore, 1) := by decide +kernel
theorem dX1_write_40 : decode cX1_write 40 = .ok (.aload_n 0, 1) := by decide +kernel
theorem dX1_write_41 : decode cX1_write 41 = .ok (.getfield 18, 3) := by decide +kernel
theorem dX1_write_44 : decode cX1_write 44 = .ok (.aload_n 0, 1) := by decide +kernel
theorem dX1_write_45 : decode cX1_write 45 = .ok (.getfield 35, 3) := by decide +kernel
theorem dX1_write_48 : decode cX1_write 48 = .ok (.iload_n 3, 1) := by decide +kernel
theorem dX1_write_49 : decode cX1_write 49 = .ok (.iastore, 1) := by decide +kernel
theorem dX1_write_50 : decode cX1_write 50 = .ok (.aload_n 0, 1) := by decide +kernel
theorem dX1_write_51 : decode cX1_write 51 = .ok (.getfield 21, 3) := by decide +kernel
theorem dX1_write_54 : decode cX1_write 54 = .ok (.aload_n 0, 1) := by decide +kernel
theorem dX1_write_55 : decode cX1_write 55 = .ok (.getfield 35, 3) := by decide +kernel
theorem dX1_write_58 : decode cX1_write 58 = .ok (.lload 4, 2) := by decide +kernel
theorem dX1_write_60 : decode cX1_write 60 = .ok (.lastore, 1) := by decide +kernel
theorem dX1_write_61 : decode cX1_write 61 = .ok (.aload_n 0, 1) := by decide +kernel
theorem dX1_write_62 : decode cX1_write 62 = .ok (.getfield 25, 3) := by decide +kernel
theorem dX1_write_65 : decode cX1_write 65 = .ok (.aload_n 0, 1) := by decide +kernel
theorem dX1_write_66 : decode cX1_write 66 = .ok (.getfield 35, 3) := by decide +kernel
theorem dX1_write_69 : decode cX1_write 69 = .ok (.lload 6, 2) := by decide +kernel
theorem dX1_write_71 : decode cX1_write 71 = .ok (.lastore, 1) := by decide +kernel
theorem dX1_write_72 : decode cX1_write 72 = .ok (.aload_n 0, 1) := by decide +kernel
theorem dX1_write_73 : decode cX1_write 73 = .ok (.getfield 31, 3) := by decide +kernel
theorem dX1_write_76 : decode cX1_write 76 = .ok (.aload_n 0, 1) := by decide +kernel
theorem dX1_write_77 : decode cX1_write 77 = .ok (.getfield 35, 3) := by decide +kernel
theorem dX1_write_80 : decode cX1_write 80 = .ok (.iload 8, 2) := by decide +kernel
theorem dX1_write_82 : decode cX1_write 82 = .ok (.bastore, 1) := by decide +kernel
theorem dX1_write_83 : decode cX1_write 83 = .ok (.aload_n 0, 1) := by decide +kernel
theorem dX1_write_84 : decode cX1_write 84 = .ok (.getfield 28, 3) := by decide +kernel
theorem dX1_write_87 : decode cX1_write 87 = .ok (.aload_n 0, 1) := by decide +kernel
theorem dX1_write_88 : decode cX1_write 88 = .ok (.getfield 35, 3) := by decide +kernel
theorem dX1_write_91 : decode cX1_write 91 = .ok (.iconst 0, 1) := by decide +kernel
theorem dX1_write_92 : decode cX1_write 92 = .ok (.iastore, 1) := by decide +kernel
theorem dX1_write_93 : decode cX1_write 93 = .ok (.aload_n 0, 1) := by decide +kernel
theorem dX1_write_94 : decode cX1_write 94 = .ok (.getfield 35, 3) := by decide +kernel
theorem dX1_write_97 : decode cX1_write 97 = .ok (.ireturn, 1) := by decide +kernel
set_option maxRecDepth 20000 in
theorem ggX1_tear_X1_has : GoodIn wsX1_tear wsX1_has := goodIn_r _ [6, 7, 8, 9, 10, 11, 12, 13, 14, 15, 16] (by decide +kernel) (by decide +kernel)
set_option maxRecDepth 20000 in
theorem gX1_tear_X1_has : GoodIn wsX1_tear (wsV RX1 46 RX1 yX1_has wsX1_has) := goodIn_app (goodIn_of _ (by decide +kernel)) ggX1_tear_X1_has
theorem dX1_tear_0 : decode cX1_tear 0 = .ok (.aload_n 0, 1) := by decide +kernel
theorem dX1_tear_1 : decode cX1_tear 1 = .ok (.iload_n 2, 1) := by decide +kernel
theorem dX1_tear_2 : decode cX1_tear 2 = .ok (.invokevirtual 46, 3) := by decide +kernel
theorem dX1_tear_5 : decode cX1_tear 5 = .ok (.ifCond .eq 16, 3) := by decide +kernel
theorem dX1_tear_8 : decode cX1_tear 8 = .ok (.aload_n 0, 1) := by decide +kernel
theorem dX1_tear_9 : decode cX1_tear 9 = .ok (.getfield 28, 3) := by decide +kernel
theorem dX1_tear_12 : decode cX1_tear 12 = .ok (.iload_n 2, 1) := by decide +kernel
theorem dX1_tear_13 : decode cX1_tear 13 = .ok (.iaload, 1) := by decide +kernel
theorem dX1_tear_14 : decode cX1_tear 14 = .ok (.iload_n 1, 1) := by decide +kernel
theorem dX1_tear_15 : decode cX1_tear 15 = .ok (.ishr, 1) := by decide +kernel
theorem dX1_tear_16 : decode cX1_tear 16 = .ok (.iconst 1, 1) := by decide +kernel
theorem dX1_tear_17 : decode cX1_tear 17 = .ok (.iand, 1) := by decide +kernel
theorem dX1_tear_18 : decode cX1_tear 18 = .ok (.ifCond .eq 5, 3) := by decide +kernel
theorem dX1_tear_21 : decode cX1_tear 21 = .ok (.iconst 0, 1) := by decide +kernel
theorem dX1_tear_22 : decode cX1_tear 22 = .ok (.ireturn, 1) := by decide +kernel
theorem dX1_tear_23 : decode cX1_tear 23 = .ok (.aload_n 0, 1) := by decide +kernel
theorem dX1_tear_24 : decode cX1_tear 24 = .ok (.getfield 28, 3) := by decide +kernel
theorem dX1_tear_27 : decode cX1_tear 27 = .ok (.iload_n 2, 1) := by decide +kernel
theorem dX1_tear_28 : decode cX1_tear 28 = .ok (.dup2, 1) := by decide +kernel
theorem dX1_tear_29 : decode cX1_tear 29 = .ok (.iaload, 1) := by decide +kernel
theorem dX1_tear_30 : decode cX1_tear 30 = .ok (.iconst 1, 1) := by decide +kernel
theorem dX1_tear_31 : decode cX1_tear 31 = .ok (.iload_n 1, 1) := by decide +kernel
theorem dX1_tear_32 : decode cX1_tear 32 = .ok (.ishl, 1) := by decide +kernel
theorem dX1_tear_33 : decode cX1_tear 33 = .ok (.ior, 1) := by decide +kernel
theorem dX1_tear_34 : decode cX1_tear 34 = .ok (.iastore, 1) := by decide +kernel
theorem dX1_tear_35 : decode cX1_tear 35 = .ok (.iconst 1, 1) := by decide +kernel
theorem dX1_tear_36 : decode cX1_tear 36 = .ok (.ireturn, 1) := by decide +kernel
theorem dX1_putAway_0 : decode cX1_putAway 0 = .ok (.aload_n 0, 1) := by decide +kernel
theorem dX1_putAway_1 : decode cX1_putAway 1 = .ok (.aload_n 0, 1) := by decide +kernel
theorem dX1_putAway_2 : decode cX1_putAway 2 = .ok (.getfield 39, 3) := by decide +kernel
theorem dX1_putAway_5 : decode cX1_putAway 5 = .ok (.iload_n 1, 1) := by decide +kernel
theorem dX1_putAway_6 : decode cX1_putAway 6 = .ok (.invokestatic 49, 3) := by decide +kernel
theorem dX1_putAway_9 : decode cX1_putAway 9 = .ok (.putfield 39, 3) := by decide +kernel
theorem dX1_putAway_12 : decode cX1_putAway 12 = .ok (.return_, 1) := by decide +kernel
theorem dX1_dropBehind_0 : decode cX1_dropBehind 0 = .ok (.aload_n 0, 1) := by decide +kernel
theorem dX1_dropBehind_1 : decode cX1_dropBehind 1 = .ok (.aload_n 0, 1) := by decide +kernel
theorem dX1_dropBehind_2 : decode cX1_dropBehind 2 = .ok (.getfield 35, 3) := by decide +kernel
theorem dX1_dropBehind_5 : decode cX1_dropBehind 5 = .ok (.iload_n 1, 1) := by decide +kernel
theorem dX1_dropBehind_6 : decode cX1_dropBehind 6 = .ok (.invokestatic 55, 3) := by decide +kernel
theorem dX1_dropBehind_9 : decode cX1_dropBehind 9 = .ok (.putfield 35, 3) := by decide +kernel
theorem dX1_dropBehind_12 : decode cX1_dropBehind 12 = .ok (.aload_n 0, 1) := by decide +kernel
theorem dX1_dropBehind_13 : decode cX1_dropBehind 13 = .ok (.aload_n 0, 1) := by decide +kernel
theorem dX1_dropBehind_14 : decode cX1_dropBehind 14 = .ok (.getfield 39, 3) := by decide +kernel
theorem dX1_dropBehind_17 : decode cX1_dropBehind 17 = .ok (.iload_n 1, 1) := by decide +kernel
theorem dX1_dropBehind_18 : decode cX1_dropBehind 18 = .ok (.invokestatic 55, 3) := by decide +kernel
theorem dX1_dropBehind_21 : decode cX1_dropBehind 21 = .ok (.putfield 39, 3) := by decide +kernel
theorem dX1_dropBehind_24 : decode cX1_dropBehind 24 = .ok (.return_, 1) := by decide +kernel
set_option maxRecDepth 20000 in
theorem ggX1_isMissing_X1_has : GoodIn wsX1_isMissing wsX1_has := goodIn_r _ [6, 7, 8, 9, 10, 11, 12, 13, 14, 15, 16] (by decide +kernel) (by decide +kernel)
set_option maxRecDepth 20000 in
theorem gX1_isMissing_X1_has : GoodIn wsX1_isMissing (wsV RX1 46 RX1 yX1_has wsX1_has) := goodIn_app (goodIn_of _ (by decide +kernel)) ggX1_isMissing_X1_has
theorem dX1_isMissing_0 : decode cX1_isMissing 0 = .ok (.aload_n 0, 1) := by decide +kernel
theorem dX1_isMissing_1 : decode cX1_isMissing 1 = .ok (.iload_n 1, 1) := by decide +kernel
theorem dX1_isMissing_2 : decode cX1_isMissing 2 = .ok (.invokevirtual 46, 3) := by decide +kernel
theorem dX1_isMissing_5 : decode cX1_isMissing 5 = .ok (.ifCond .eq 17, 3) := by decide +kernel
theorem dX1_isMissing_8 : decode cX1_isMissing 8 = .ok (.aload_n 0, 1) := by decide +kernel
theorem dX1_isMissing_9 : decode cX1_isMissing 9 = .ok (.getfield 28, 3) := by decide +kernel
theorem dX1_isMissing_12 : decode cX1_isMissing 12 = .ok (.iload_n 1, 1) := by decide +kernel
theorem dX1_isMissing_13 : decode cX1_isMissing 13 = .ok (.iaload, 1) := by decide +kernel
theorem dX1_isMissing_14 : decode cX1_isMissing 14 = .ok (.iconst 3, 1) := by decide +kernel
theorem dX1_isMissing_15 : decode cX1_isMissing 15 = .ok (.if_icmp .ne 7, 3) := by decide +kernel
theorem dX1_isMissing_18 : decode cX1_isMissing 18 = .ok (.iconst 1, 1) := by decide +kernel
theorem dX1_isMissing_19 : decode cX1_isMissing 19 = .ok (.goto 4, 3) := by decide +kernel
theorem dX1_isMissing_22 : decode cX1_isMissing 22 = .ok (.iconst 0, 1) := by decide +kernel
theorem dX1_isMissing_23 : decode cX1_isMissing 23 = .ok (.ireturn, 1) := by decide +kernel
set_option maxRecDepth 20000 in
theorem ggX1_isChange_X1_has : GoodIn wsX1_isChange wsX1_has := goodIn_r _ [6, 7, 8, 9, 10, 11, 12, 13, 14, 15, 16] (by decide +kernel) (by decide +kernel)
set_option maxRecDepth 20000 in
theorem gX1_isChange_X1_has : GoodIn wsX1_isChange (wsV RX1 46 RX1 yX1_has wsX1_has) := goodIn_app (goodIn_of _ (by decide +kernel)) ggX1_isChange_X1_has
theorem dX1_isChange_0 : decode cX1_isChange 0 = .ok (.aload_n 0, 1) := by decide +kernel
theorem dX1_isChange_1 : decode cX1_isChange 1 = .ok (.iload_n 1, 1) := by decide +kernel
theorem dX1_isChange_2 : decode cX1_isChange 2 = .ok (.invokevirtual 46, 3) := by decide +kernel
theorem dX1_isChange_5 : decode cX1_isChange 5 = .ok (.ifCond .eq 16, 3) := by decide +kernel
theorem dX1_isChange_8 : decode cX1_isChange 8 = .ok (.aload_n 0, 1) := by decide +kernel
theorem dX1_isChange_9 : decode cX1_isChange 9 = .ok (.getfield 9, 3) := by decide +kernel
theorem dX1_isChange_12 : decode cX1_isChange 12 = .ok (.iload_n 1, 1) := by decide +kernel
theorem dX1_isChange_13 : decode cX1_isChange 13 = .ok (.iaload, 1) := by decide +kernel
theorem dX1_isChange_14 : decode cX1_isChange 14 = .ok (.ifCond .ne 7, 3) := by decide +kernel
theorem dX1_isChange_17 : decode cX1_isChange 17 = .ok (.iconst 1, 1) := by decide +kernel
theorem dX1_isChange_18 : decode cX1_isChange 18 = .ok (.goto 4, 3) := by decide +kernel
theorem dX1_isChange_21 : decode cX1_isChange 21 = .ok (.iconst 0, 1) := by decide +kernel
theorem dX1_isChange_22 : decode cX1_isChange 22 = .ok (.ireturn, 1) := by decide +kernel
set_option maxRecDepth 20000 in
theorem ggX1_isBackable_X1_isChange : GoodIn wsX1_isBackable wsX1_isChange := goodIn_ca (goodIn_r _ [6, 7, 8, 9, 10, 5, 11, 12, 13, 14, 15, 16, 17, 18, 19, 20, 21] (by decide +kernel) (by decide +kernel)) (goodIn_sub (fun _ h => List.mem_cons_of_mem _ (List.mem_append_right _ h)) (by decide +kernel))
set_option maxRecDepth 20000 in
theorem gX1_isBackable_X1_isChange : GoodIn wsX1_isBackable (wsV RX1 58 RX1 yX1_isChange wsX1_isChange) := goodIn_app (goodIn_of _ (by decide +kernel)) ggX1_isBackable_X1_isChange
theorem dX1_isBackable_0 : decode cX1_isBackable 0 = .ok (.aload_n 0, 1) := by decide +kernel
theorem dX1_isBackable_1 : decode cX1_isBackable 1 = .ok (.iload_n 1, 1) := by decide +kernel
theorem dX1_isBackable_2 : decode cX1_isBackable 2 = .ok (.invokevirtual 58, 3) := by decide +kernel
theorem dX1_isBackable_5 : decode cX1_isBackable 5 = .ok (.ifCond .eq 16, 3) := by decide +kernel
theorem dX1_isBackable_8 : decode cX1_isBackable 8 = .ok (.aload_n 0, 1) := by decide +kernel
theorem dX1_isBackable_9 : decode cX1_isBackable 9 = .ok (.getfield 31, 3) := by decide +kernel
theorem dX1_isBackable_12 : decode cX1_isBackable 12 = .ok (.iload_n 1, 1) := by decide +kernel
theorem dX1_isBackable_13 : decode cX1_isBackable 13 = .ok (.baload, 1) := by decide +kernel
theorem dX1_isBackable_14 : decode cX1_isBackable 14 = .ok (.ifCond .ne 7, 3) := by decide +kernel
theorem dX1_isBackable_17 : decode cX1_isBackable 17 = .ok (.iconst 1, 1) := by decide +kernel
theorem dX1_isBackable_18 : decode cX1_isBackable 18 = .ok (.goto 4, 3) := by decide +kernel
theorem dX1_isBackable_21 : decode cX1_isBackable 21 = .ok (.iconst 0, 1) := by decide +kernel
theorem dX1_isBackable_22 : decode cX1_isBackable 22 = .ok (.ireturn, 1) := by decide +kernel
set_option maxRecDepth 20000 in
theorem ggX1_kindOf_X1_has : GoodIn wsX1_kindOf wsX1_has := goodIn_r _ [6, 7, 8, 9, 10, 11, 12, 13, 14, 15, 16] (by decide +kernel) (by decide +kernel)
set_option maxRecDepth 20000 in
theorem gX1_kindOf_X1_has : GoodIn wsX1_kindOf (wsV RX1 46 RX1 yX1_has wsX1_has) := goodIn_app (goodIn_of _ (by decide +kernel)) ggX1_kindOf_X1_has
theorem dX1_kindOf_0 : decode cX1_kindOf 0 = .ok (.aload_n 0, 1) := by decide +kernel
theorem dX1_kindOf_1 : decode cX1_kindOf 1 = .ok (.iload_n 1, 1) := by decide +kernel
theorem dX1_kindOf_2 : decode cX1_kindOf 2 = .ok (.invokevirtual 46, 3) := by decide +kernel
theorem dX1_kindOf_5 : decode cX1_kindOf 5 = .ok (.ifCond .eq 12, 3) := by decide +kernel
theorem dX1_kindOf_8 : decode cX1_kindOf 8 = .ok (.aload_n 0, 1) := by decide +kernel
theorem dX1_kindOf_9 : decode cX1_kindOf 9 = .ok (.getfield 9, 3) := by decide +kernel
theorem dX1_kindOf_12 : decode cX1_kindOf 12 = .ok (.iload_n 1, 1) := by decide +kernel
theorem dX1_kindOf_13 : decode cX1_kindOf 13 = .ok (.iaload, 1) := by decide +kernel
theorem dX1_kindOf_14 : decode cX1_kindOf 14 = .ok (.goto 4, 3) := by decide +kernel
theorem dX1_kindOf_17 : decode cX1_kindOf 17 = .ok (.iconst (-1), 1) := by decide +kernel
theorem dX1_kindOf_18 : decode cX1_kindOf 18 = .ok (.ireturn, 1) := by decide +kernel
set_option maxRecDepth 20000 in
theorem ggX1_unitOf_X1_has : GoodIn wsX1_unitOf wsX1_has := goodIn_r _ [6, 7, 8, 9, 10, 11, 12, 13, 14, 15, 16] (by decide +kernel) (by decide +kernel)
set_option maxRecDepth 20000 in
theorem gX1_unitOf_X1_has : GoodIn wsX1_unitOf (wsV RX1 46 RX1 yX1_has wsX1_has) := goodIn_app (goodIn_of _ (by decide +kernel)) ggX1_unitOf_X1_has
theorem dX1_unitOf_0 : decode cX1_unitOf 0 = .ok (.aload_n 0, 1) := by decide +kernel
theorem dX1_unitOf_1 : decode cX1_unitOf 1 = .ok (.iload_n 1, 1) := by decide +kernel
theorem dX1_unitOf_2 : decode cX1_unitOf 2 = .ok (.invokevirtual 46, 3) := by decide +kernel
theorem dX1_unitOf_5 : decode cX1_unitOf 5 = .ok (.ifCond .eq 12, 3) := by decide +kernel
theorem dX1_unitOf_8 : decode cX1_unitOf 8 = .ok (.aload_n 0, 1) := by decide +kernel
theorem dX1_unitOf_9 : decode cX1_unitOf 9 = .ok (.getfield 15, 3) := by decide +kernel
theorem dX1_unitOf_12 : decode cX1_unitOf 12 = .ok (.iload_n 1, 1) := by decide +kernel
theorem dX1_unitOf_13 : decode cX1_unitOf 13 = .ok (.iaload, 1) := by decide +kernel
theorem dX1_unitOf_14 : decode cX1_unitOf 14 = .ok (.goto 4, 3) := by decide +kernel
theorem dX1_unitOf_17 : decode cX1_unitOf 17 = .ok (.iconst 0, 1) := by decide +kernel
theorem dX1_unitOf_18 : decode cX1_unitOf 18 = .ok (.ireturn, 1) := by decide +kernel
set_option maxRecDepth 20000 in
theorem ggX1_cellOf_X1_has : GoodIn wsX1_cellOf wsX1_has := goodIn_r _ [6, 7, 8, 9, 10, 11, 12, 13, 14, 15, 16] (by decide +kernel) (by decide +kernel)
set_option maxRecDepth 20000 in
theorem gX1_cellOf_X1_has : GoodIn wsX1_cellOf (wsV RX1 46 RX1 yX1_has wsX1_has) := goodIn_app (goodIn_of _ (by decide +kernel)) ggX1_cellOf_X1_has
theorem dX1_cellOf_0 : decode cX1_cellOf 0 = .ok (.aload_n 0, 1) := by decide +kernel
theorem dX1_cellOf_1 : decode cX1_cellOf 1 = .ok (.iload_n 1, 1) := by decide +kernel
theorem dX1_cellOf_2 : decode cX1_cellOf 2 = .ok (.invokevirtual 46, 3) := by decide +kernel
theorem dX1_cellOf_5 : decode cX1_cellOf 5 = .ok (.ifCond .eq 12, 3) := by decide +kernel
theorem dX1_cellOf_8 : decode cX1_cellOf 8 = .ok (.aload_n 0, 1) := by decide +kernel
theorem dX1_cellOf_9 : decode cX1_cellOf 9 = .ok (.getfield 18, 3) := by decide +kernel
theorem dX1_cellOf_12 : decode cX1_cellOf 12 = .ok (.iload_n 1, 1) := by decide +kernel
theorem dX1_cellOf_13 : decode cX1_cellOf 13 = .ok (.iaload, 1) := by decide +kernel
theorem dX1_cellOf_14 : decode cX1_cellOf 14 = .ok (.goto 4, 3) := by decide +kernel
theorem dX1_cellOf_17 : decode cX1_cellOf 17 = .ok (.iconst (-1), 1) := by decide +kernel
theorem dX1_cellOf_18 : decode cX1_cellOf 18 = .ok (.ireturn, 1) := by decide +kernel
set_option maxRecDepth 20000 in
theorem ggX1_beforeOf_X1_has : GoodIn wsX1_beforeOf wsX1_has := goodIn_r _ [6, 7, 8, 9, 10, 11, 12, 13, 14, 15, 16] (by decide +kernel) (by decide +kernel)
set_option maxRecDepth 20000 in
theorem gX1_beforeOf_X1_has : GoodIn wsX1_beforeOf (wsV RX1 46 RX1 yX1_has wsX1_has) := goodIn_app (goodIn_of _ (by decide +kernel)) ggX1_beforeOf_X1_has
theorem dX1_beforeOf_0 : decode cX1_beforeOf 0 = .ok (.aload_n 0, 1) := by decide +kernel
theorem dX1_beforeOf_1 : decode cX1_beforeOf 1 = .ok (.iload_n 1, 1) := by decide +kernel
theorem dX1_beforeOf_2 : decode cX1_beforeOf 2 = .ok (.invokevirtual 46, 3) := by decide +kernel
theorem dX1_beforeOf_5 : decode cX1_beforeOf 5 = .ok (.ifCond .eq 12, 3) := by decide +kernel
theorem dX1_beforeOf_8 : decode cX1_beforeOf 8 = .ok (.aload_n 0, 1) := by decide +kernel
theorem dX1_beforeOf_9 : decode cX1_beforeOf 9 = .ok (.getfield 21, 3) := by decide +kernel
theorem dX1_beforeOf_12 : decode cX1_beforeOf 12 = .ok (.iload_n 1, 1) := by decide +kernel
theorem dX1_beforeOf_13 : decode cX1_beforeOf 13 = .ok (.laload, 1) := by decide +kernel
theorem dX1_beforeOf_14 : decode cX1_beforeOf 14 = .ok (.goto 4, 3) := by decide +kernel
theorem dX1_beforeOf_17 : decode cX1_beforeOf 17 = .ok (.lconst 0, 1) := by decide +kernel
theorem dX1_beforeOf_18 : decode cX1_beforeOf 18 = .ok (.lreturn, 1) := by decide +kernel
set_option maxRecDepth 20000 in
theorem ggX1_afterOf_X1_has : GoodIn wsX1_afterOf wsX1_has := goodIn_r _ [6, 7, 8, 9, 10, 11, 12, 13, 14, 15, 16] (by decide +kernel) (by decide +kernel)
set_option maxRecDepth 20000 in
theorem gX1_afterOf_X1_has : GoodIn wsX1_afterOf (wsV RX1 46 RX1 yX1_has wsX1_has) := goodIn_app (goodIn_of _ (by decide +kernel)) ggX1_afterOf_X1_has
theorem dX1_afterOf_0 : decode cX1_afterOf 0 = .ok (.aload_n 0, 1) := by decide +kernel
theorem dX1_afterOf_1 : decode cX1_afterOf 1 = .ok (.iload_n 1, 1) := by decide +kernel
theorem dX1_afterOf_2 : decode cX1_afterOf 2 = .ok (.invokevirtual 46, 3) := by decide +kernel
theorem dX1_afterOf_5 : decode cX1_afterOf 5 = .ok (.ifCond .eq 12, 3) := by decide +kernel
theorem dX1_afterOf_8 : decode cX1_afterOf 8 = .ok (.aload_n 0, 1) := by decide +kernel
theorem dX1_afterOf_9 : decode cX1_afterOf 9 = .ok (.getfield 25, 3) := by decide +kernel
theorem dX1_afterOf_12 : decode cX1_afterOf 12 = .ok (.iload_n 1, 1) := by decide +kernel
theorem dX1_afterOf_13 : decode cX1_afterOf 13 = .ok (.laload, 1) := by decide +kernel
theorem dX1_afterOf_14 : decode cX1_afterOf 14 = .ok (.goto 4, 3) := by decide +kernel
theorem dX1_afterOf_17 : decode cX1_afterOf 17 = .ok (.lconst 0, 1) := by decide +kernel
theorem dX1_afterOf_18 : decode cX1_afterOf 18 = .ok (.lreturn, 1) := by decide +kernel
set_option maxRecDepth 20000 in
theorem ggX1_tell_X1_has : GoodIn wsX1_tell wsX1_has := goodIn_r _ [12, 13, 14, 15, 16, 17, 18, 19, 20, 21, 22] (by decide +kernel) (by decide +kernel)
set_option maxRecDepth 20000 in
theorem gX1_tell_X1_has : GoodIn wsX1_tell (wsV RX1 46 RX1 yX1_has wsX1_has) := goodIn_app (goodIn_of _ (by decide +kernel)) ggX1_tell_X1_has
theorem dX1_tell_0 : decode cX1_tell 0 = .ok (.aload_n 0, 1) := by decide +kernel
theorem dX1_tell_1 : decode cX1_tell 1 = .ok (.iload_n 1, 1) := by decide +kernel
theorem dX1_tell_2 : decode cX1_tell 2 = .ok (.invokevirtual 46, 3) := by decide +kernel
theorem dX1_tell_5 : decode cX1_tell 5 = .ok (.ifCond .ne 5, 3) := by decide +kernel
theorem dX1_tell_8 : decode cX1_tell 8 = .ok (.iconst (-1), 1) := by decide +kernel
theorem dX1_tell_9 : decode cX1_tell 9 = .ok (.ireturn, 1) := by decide +kernel
theorem dX1_tell_10 : decode cX1_tell 10 = .ok (.iload_n 2, 1) := by decide +kernel
theorem dX1_tell_11 : decode cX1_tell 11 = .ok (.tableswitch 81 0 5 #[37, 44, 51, 58, 66, 74], 37) := by decide +kernel
theorem dX1_tell_48 : decode cX1_tell 48 = .ok (.aload_n 0, 1) := by decide +kernel
theorem dX1_tell_49 : decode cX1_tell 49 = .ok (.getfield 9, 3) := by decide +kernel
theorem dX1_tell_52 : decode cX1_tell 52 = .ok (.iload_n 1, 1) := by decide +kernel
theorem dX1_tell_53 : decode cX1_tell 53 = .ok (.iaload, 1) := by decide +kernel
theorem dX1_tell_54 : decode cX1_tell 54 = .ok (.ireturn, 1) := by decide +kernel
theorem dX1_tell_55 : decode cX1_tell 55 = .ok (.aload_n 0, 1) := by decide +kernel
theorem dX1_tell_56 : decode cX1_tell 56 = .ok (.getfield 15, 3) := by decide +kernel
theorem dX1_tell_59 : decode cX1_tell 59 = .ok (.iload_n 1, 1) := by decide +kernel
theorem dX1_tell_60 : decode cX1_tell 60 = .ok (.iaload, 1) := by decide +kernel
theorem dX1_tell_61 : decode cX1_tell 61 = .ok (.ireturn, 1) := by decide +kernel
theorem dX1_tell_62 : decode cX1_tell 62 = .ok (.aload_n 0, 1) := by decide +kernel
theorem dX1_tell_63 : decode cX1_tell 63 = .ok (.getfield 18, 3) := by decide +kernel
theorem dX1_tell_66 : decode cX1_tell 66 = .ok (.iload_n 1, 1) := by decide +kernel
theorem dX1_tell_67 : decode cX1_tell 67 = .ok (.iaload, 1) := by decide +kernel
theorem dX1_tell_68 : decode cX1_tell 68 = .ok (.ireturn, 1) := by decide +kernel
theorem dX1_tell_69 : decode cX1_tell 69 = .ok (.aload_n 0, 1) := by decide +kernel
theorem dX1_tell_70 : decode cX1_tell 70 = .ok (.getfield 21, 3) := by decide +kernel
theorem dX1_tell_73 : decode cX1_tell 73 = .ok (.iload_n 1, 1) := by decide +kernel
theorem dX1_tell_74 : decode cX1_tell 74 = .ok (.laload, 1) := by decide +kernel
theorem dX1_tell_75 : decode cX1_tell 75 = .ok (.l2i, 1) := by decide +kernel
theorem dX1_tell_76 : decode cX1_tell 76 = .ok (.ireturn, 1) := by decide +kernel
theorem dX1_tell_77 : decode cX1_tell 77 = .ok (.aload_n 0, 1) := by decide +kernel
theorem dX1_tell_78 : decode cX1_tell 78 = .ok (.getfield 25, 3) := by decide +kernel
theorem dX1_tell_81 : decode cX1_tell 81 = .ok (.iload_n 1, 1) := by decide +kernel
theorem dX1_tell_82 : decode cX1_tell 82 = .ok (.laload, 1) := by decide +kernel
theorem dX1_tell_83 : decode cX1_tell 83 = .ok (.l2i, 1) := by decide +kernel
theorem dX1_tell_84 : decode cX1_tell 84 = .ok (.ireturn, 1) := by decide +kernel
theorem dX1_tell_85 : decode cX1_tell 85 = .ok (.aload_n 0, 1) := by decide +kernel
theorem dX1_tell_86 : decode cX1_tell 86 = .ok (.getfield 28, 3) := by decide +kernel
theorem dX1_tell_89 : decode cX1_tell 89 = .ok (.iload_n 1, 1) := by decide +kernel
theorem dX1_tell_90 : decode cX1_tell 90 = .ok (.iaload, 1) := by decide +kernel
theorem dX1_tell_91 : decode cX1_tell 91 = .ok (.ireturn, 1) := by decide +kernel
theorem dX1_tell_92 : decode cX1_tell 92 = .ok (.aload_n 0, 1) := by decide +kernel
theorem dX1_tell_93 : decode cX1_tell 93 = .ok (.getfield 31, 3) := by decide +kernel
theorem dX1_tell_96 : decode cX1_tell 96 = .ok (.iload_n 1, 1) := by decide +kernel
theorem dX1_tell_97 : decode cX1_tell 97 = .ok (.baload, 1) := by decide +kernel
theorem dX1_tell_98 : decode cX1_tell 98 = .ok (.ifCond .eq 7, 3) := by decide +kernel
theorem dX1_tell_101 : decode cX1_tell 101 = .ok (.iconst 1, 1) := by decide +kernel
theorem dX1_tell_102 : decode cX1_tell 102 = .ok (.goto 4, 3) := by decide +kernel
theorem dX1_tell_105 : decode cX1_tell 105 = .ok (.iconst 0, 1) := by decide +kernel
theorem dX1_tell_106 : decode cX1_tell 106 = .ok (.ireturn, 1) := by decide +kernel
set_option maxRecDepth 20000 in
theorem ggX2_init_J7_fill_53178 : GoodIn wsX2_init wsJ7_fill_53178 := goodIn_r _ [10] (by decide +kernel) (by decide +kernel)
set_option maxRecDepth 20000 in
theorem gX2_init_J7_fill_53178 : GoodIn wsX2_init (va_wsS RX2 18 yJ7_fill_53178 wsJ7_fill_53178) := goodIn_app (goodIn_of _ (by decide +kernel)) ggX2_init_J7_fill_53178
theorem dX2_init_0 : decode cX2_init 0 = .ok (.aload_n 0, 1) := by decide +kernel
theorem dX2_init_1 : decode cX2_init 1 = .ok (.invokespecial 3, 3) := by decide +kernel
theorem dX2_init_4 : decode cX2_init 4 = .ok (.aload_n 0, 1) := by decide +kernel
theorem dX2_init_5 : decode cX2_init 5 = .ok (.bipush 61, 2) := by decide +kernel
theorem dX2_init_7 : decode cX2_init 7 = .ok (.newarray .int, 2) := by decide +kernel
theorem dX2_init_9 : decode cX2_init 9 = .ok (.putfield 9, 3) := by decide +kernel
theorem dX2_init_12 : decode cX2_init 12 = .ok (.aload_n 0, 1) := by decide +kernel
theorem dX2_init_13 : decode cX2_init 13 = .ok (.bipush 32, 2) := by decide +kernel
theorem dX2_init_15 : decode cX2_init 15 = .ok (.newarray .int, 2) := by decide +kernel
theorem dX2_init_17 : decode cX2_init 17 = .ok (.putfield 15, 3) := by decide +kernel
theorem dX2_init_20 : decode cX2_init 20 = .ok (.aload_n 0, 1) := by decide +kernel
theorem dX2_init_21 : decode cX2_init 21 = .ok (.getfield 9, 3) := by decide +kernel
theorem dX2_init_24 : decode cX2_init 24 = .ok (.iconst (-1), 1) := by decide +kernel
theorem dX2_init_25 : decode cX2_init 25 = .ok (.invokestatic 18, 3) := by decide +kernel
theorem dX2_init_28 : decode cX2_init 28 = .ok (.return_, 1) := by decide +kernel
set_option maxRecDepth 20000 in
theorem ggX2_isOpen_X3_isUnit : GoodIn wsX2_isOpen wsX3_isUnit := goodIn_r _ [4] (by decide +kernel) (by decide +kernel)
set_option maxRecDepth 20000 in
theorem gX2_isOpen_X3_isUnit_n24 : GoodIn wsX2_isOpen (wsX3_isUnit) := ggX2_isOpen_X3_isUnit
theorem dX2_isOpen_0 : decode cX2_isOpen 0 = .ok (.iload_n 1, 1) := by decide +kernel
theorem dX2_isOpen_1 : decode cX2_isOpen 1 = .ok (.invokestatic 24, 3) := by decide +kernel
theorem dX2_isOpen_4 : decode cX2_isOpen 4 = .ok (.ifCond .eq 16, 3) := by decide +kernel
theorem dX2_isOpen_7 : decode cX2_isOpen 7 = .ok (.aload_n 0, 1) := by decide +kernel
theorem dX2_isOpen_8 : decode cX2_isOpen 8 = .ok (.getfield 9, 3) := by decide +kernel
theorem dX2_isOpen_11 : decode cX2_isOpen 11 = .ok (.iload_n 1, 1) := by decide +kernel
theorem dX2_isOpen_12 : decode cX2_isOpen 12 = .ok (.iaload, 1) := by decide +kernel
theorem dX2_isOpen_13 : decode cX2_isOpen 13 = .ok (.ifCond .ne 7, 3) := by decide +kernel
theorem dX2_isOpen_16 : decode cX2_isOpen 16 = .ok (.iconst 1, 1) := by decide +kernel
theorem dX2_isOpen_17 : decode cX2_isOpen 17 = .ok (.goto 4, 3) := by decide +kernel
theorem dX2_isOpen_20 : decode cX2_isOpen 20 = .ok (.iconst 0, 1) := by decide +kernel
theorem dX2_isOpen_21 : decode cX2_isOpen 21 = .ok (.ireturn, 1) := by decide +kernel
set_option maxRecDepth 20000 in
theorem ggX2_isOver_X3_isUnit : GoodIn wsX2_isOver wsX3_isUnit := goodIn_r _ [4] (by decide +kernel) (by decide +kernel)
set_option maxRecDepth 20000 in
theorem gX2_isOver_X3_isUnit_n24 : GoodIn wsX2_isOver (wsX3_isUnit) := ggX2_isOver_X3_isUnit
theorem dX2_isOver_0 : decode cX2_isOver 0 = .ok (.iload_n 1, 1) := by decide +kernel
theorem dX2_isOver_1 : decode cX2_isOver 1 = .ok (.invokestatic 24, 3) := by decide +kernel
theorem dX2_isOver_4 : decode cX2_isOver 4 = .ok (.ifCond .eq 16, 3) := by decide +kernel
theorem dX2_isOver_7 : decode cX2_isOver 7 = .ok (.aload_n 0, 1) := by decide +kernel
theorem dX2_isOver_8 : decode cX2_isOver 8 = .ok (.getfield 9, 3) := by decide +kernel
theorem dX2_isOver_11 : decode cX2_isOver 11 = .ok (.iload_n 1, 1) := by decide +kernel
theorem dX2_isOver_12 : decode cX2_isOver 12 = .ok (.iaload, 1) := by decide +kernel
theorem dX2_isOver_13 : decode cX2_isOver 13 = .ok (.ifCond .le 7, 3) := by decide +kernel
theorem dX2_isOver_16 : decode cX2_isOver 16 = .ok (.iconst 1, 1) := by decide +kernel
theorem dX2_isOver_17 : decode cX2_isOver 17 = .ok (.goto 4, 3) := by decide +kernel
theorem dX2_isOver_20 : decode cX2_isOver 20 = .ok (.iconst 0, 1) := by decide +kernel
theorem dX2_isOver_21 : decode cX2_isOver 21 = .ok (.ireturn, 1) := by decide +kernel
set_option maxRecDepth 20000 in
theorem ggX2_isChangedByAnother_X3_isCell : GoodIn wsX2_isChangedByAnother wsX3_isCell := goodIn_r _ [4] (by decide +kernel) (by decide +kernel)
set_option maxRecDepth 20000 in
theorem gX2_isChangedByAnother_X3_isCell_n28 : GoodIn wsX2_isChangedByAnother (wsX3_isCell) := ggX2_isChangedByAnother_X3_isCell
set_option maxRecDepth 20000 in
theorem ggX2_isChangedByAnother_X2_isOpen : GoodIn wsX2_isChangedByAnother wsX2_isOpen := goodIn_ca (goodIn_r _ [9, 10, 11, 3, 12, 13, 14] (by decide +kernel) (by decide +kernel)) (goodIn_sub (fun _ h => List.mem_cons_of_mem _ (List.mem_append_right _ h)) (by decide +kernel))
set_option maxRecDepth 20000 in
theorem gX2_isChangedByAnother_X2_isOpen : GoodIn wsX2_isChangedByAnother (wsV RX2 31 RX2 yX2_isOpen wsX2_isOpen) := goodIn_app (goodIn_of _ (by decide +kernel)) ggX2_isChangedByAnother_X2_isOpen
theorem dX2_isChangedByAnother_0 : decode cX2_isChangedByAnother 0 = .ok (.iload_n 1, 1) := by decide +kernel
theorem dX2_isChangedByAnother_1 : decode cX2_isChangedByAnother 1 = .ok (.invokestatic 28, 3) := by decide +kernel
theorem dX2_isChangedByAnother_4 : decode cX2_isChangedByAnother 4 = .ok (.ifCond .eq 30, 3) := by decide +kernel
theorem dX2_isChangedByAnother_7 : decode cX2_isChangedByAnother 7 = .ok (.aload_n 0, 1) := by decide +kernel
theorem dX2_isChangedByAnother_8 : decode cX2_isChangedByAnother 8 = .ok (.getfield 15, 3) := by decide +kernel
theorem dX2_isChangedByAnother_11 : decode cX2_isChangedByAnother 11 = .ok (.iload_n 1, 1) := by decide +kernel
theorem dX2_isChangedByAnother_12 : decode cX2_isChangedByAnother 12 = .ok (.iaload, 1) := by decide +kernel
theorem dX2_isChangedByAnother_13 : decode cX2_isChangedByAnother 13 = .ok (.iload_n 2, 1) := by decide +kernel
theorem dX2_isChangedByAnother_14 : decode cX2_isChangedByAnother 14 = .ok (.if_icmp .eq 20, 3) := by decide +kernel
theorem dX2_isChangedByAnother_17 : decode cX2_isChangedByAnother 17 = .ok (.aload_n 0, 1) := by decide +kernel
theorem dX2_isChangedByAnother_18 : decode cX2_isChangedByAnother 18 = .ok (.aload_n 0, 1) := by decide +kernel
theorem dX2_isChangedByAnother_19 : decode cX2_isChangedByAnother 19 = .ok (.getfield 15, 3) := by decide +kernel
theorem dX2_isChangedByAnother_22 : decode cX2_isChangedByAnother 22 = .ok (.iload_n 1, 1) := by decide +kernel
theorem dX2_isChangedByAnother_23 : decode cX2_isChangedByAnother 23 = .ok (.iaload, 1) := by decide +kernel
theorem dX2_isChangedByAnother_24 : decode cX2_isChangedByAnother 24 = .ok (.invokevirtual 31, 3) := by decide +kernel
theorem dX2_isChangedByAnother_27 : decode cX2_isChangedByAnother 27 = .ok (.ifCond .eq 7, 3) := by decide +kernel
theorem dX2_isChangedByAnother_30 : decode cX2_isChangedByAnother 30 = .ok (.iconst 1, 1) := by decide +kernel
theorem dX2_isChangedByAnother_31 : decode cX2_isChangedByAnother 31 = .ok (.goto 4, 3) := by decide +kernel
theorem dX2_isChangedByAnother_34 : decode cX2_isChangedByAnother 34 = .ok (.iconst 0, 1) := by decide +kernel
theorem dX2_isChangedByAnother_35 : decode cX2_isChangedByAnother 35 = .ok (.ireturn, 1) := by decide +kernel
set_option maxRecDepth 20000 in
theorem ggX2_follow_X3_isUnit : GoodIn wsX2_follow wsX3_isUnit := goodIn_r _ [5] (by decide +kernel) (by decide +kernel)
set_option maxRecDepth 20000 in
theorem gX2_follow_X3_isUnit_n24 : GoodIn wsX2_follow (wsX3_isUnit) := ggX2_follow_X3_isUnit
set_option maxRecDepth 20000 in
theorem ggX2_follow_X3_isCell : GoodIn wsX2_follow wsX3_isCell := goodIn_r _ [7] (by decide +kernel) (by decide +kernel)
set_option maxRecDepth 20000 in
theorem gX2_follow_X3_isCell_n28 : GoodIn wsX2_follow (wsX3_isCell) := ggX2_follow_X3_isCell
theorem dX2_follow_0 : decode cX2_follow 0 = .ok (.iload_n 2, 1) := by decide +kernel
theorem dX2_follow_1 : decode cX2_follow 1 = .ok (.invokestatic 24, 3) := by decide +kernel
theorem dX2_follow_4 : decode cX2_follow 4 = .ok (.ifCond .eq 10, 3) := by decide +kernel
theorem dX2_follow_7 : decode cX2_follow 7 = .ok (.aload_n 0, 1) := by decide +kernel
theorem dX2_follow_8 : decode cX2_follow 8 = .ok (.getfield 9, 3) := by decide +kernel
theorem dX2_follow_11 : decode cX2_follow 11 = .ok (.iload_n 2, 1) := by decide +kernel
theorem dX2_follow_12 : decode cX2_follow 12 = .ok (.iload_n 1, 1) := by decide +kernel
theorem dX2_follow_13 : decode cX2_follow 13 = .ok (.iastore, 1) := by decide +kernel
theorem dX2_follow_14 : decode cX2_follow 14 = .ok (.iload_n 3, 1) := by decide +kernel
theorem dX2_follow_15 : decode cX2_follow 15 = .ok (.invokestatic 28, 3) := by decide +kernel
theorem dX2_follow_18 : decode cX2_follow 18 = .ok (.ifCond .eq 10, 3) := by decide +kernel
theorem dX2_follow_21 : decode cX2_follow 21 = .ok (.aload_n 0, 1) := by decide +kernel
theorem dX2_follow_22 : decode cX2_follow 22 = .ok (.getfield 15, 3) := by decide +kernel
theorem dX2_follow_25 : decode cX2_follow 25 = .ok (.iload_n 3, 1) := by decide +kernel
theorem dX2_follow_26 : decode cX2_follow 26 = .ok (.iload_n 2, 1) := by decide +kernel
theorem dX2_follow_27 : decode cX2_follow 27 = .ok (.iastore, 1) := by decide +kernel
theorem dX2_follow_28 : decode cX2_follow 28 = .ok (.return_, 1) := by decide +kernel
set_option maxRecDepth 20000 in
theorem ggX2_followAll_J7_fill_53178 : GoodIn wsX2_followAll wsJ7_fill_53178 := goodIn_r _ [6] (by decide +kernel) (by decide +kernel)
set_option maxRecDepth 20000 in
theorem gX2_followAll_J7_fill_53178 : GoodIn wsX2_followAll (va_wsS RX2 18 yJ7_fill_53178 wsJ7_fill_53178) := goodIn_app (goodIn_of _ (by decide +kernel)) ggX2_followAll_J7_fill_53178
set_option maxRecDepth 20000 in
theorem ggX2_followAll_X1_kindOf : GoodIn wsX2_followAll wsX1_kindOf := goodIn_ca (goodIn_r _ [11, 12, 13, 14, 15, 10, 16, 17, 40, 41, 42, 43, 44, 45, 46, 47, 48] (by decide +kernel) (by decide +kernel)) (goodIn_sub (fun _ h => List.mem_cons_of_mem _ (List.mem_append_right _ h)) (by decide +kernel))
set_option maxRecDepth 20000 in
theorem gX2_followAll_X1_kindOf : GoodIn wsX2_followAll (wsV RX2 34 RX1 yX1_kindOf wsX1_kindOf) := goodIn_app (goodIn_of _ (by decide +kernel)) ggX2_followAll_X1_kindOf
set_option maxRecDepth 20000 in
theorem ggX2_followAll_X1_unitOf : GoodIn wsX2_followAll wsX1_unitOf := goodIn_ca (goodIn_r _ [21, 22, 13, 14, 15, 10, 16, 17, 40, 41, 42, 43, 44, 45, 46, 47, 48] (by decide +kernel) (by decide +kernel)) (goodIn_sub (fun _ h => List.mem_cons_of_mem _ (List.mem_append_right _ h)) (by decide +kernel))
set_option maxRecDepth 20000 in
theorem gX2_followAll_X1_unitOf : GoodIn wsX2_followAll (wsV RX2 40 RX1 yX1_unitOf wsX1_unitOf) := goodIn_app (goodIn_of _ (by decide +kernel)) ggX2_followAll_X1_unitOf
set_option maxRecDepth 20000 in
theorem ggX2_followAll_X1_cellOf : GoodIn wsX2_followAll wsX1_cellOf := goodIn_ca (goodIn_r _ [26, 27, 13, 14, 15, 10, 16, 17, 40, 41, 42, 43, 44, 45, 46, 47, 48] (by decide +kernel) (by decide +kernel)) (goodIn_sub (fun _ h => List.mem_cons_of_mem _ (List.mem_append_right _ h)) (by decide +kernel))
set_option maxRecDepth 20000 in
theorem gX2_followAll_X1_cellOf : GoodIn wsX2_followAll (wsV RX2 43 RX1 yX1_cellOf wsX1_cellOf) := goodIn_app (goodIn_of _ (by decide +kernel)) ggX2_followAll_X1_cellOf
set_option maxRecDepth 20000 in
theorem ggX2_followAll_X2_follow : GoodIn wsX2_followAll wsX2_follow := goodIn_ca (goodIn_r _ [32, 1, 2, 33, 34, 35, 36, 37, 38, 39] (by decide +kernel) (by decide +kernel)) (goodIn_sub (fun _ h => List.mem_cons_of_mem _ (List.mem_append_right _ h)) (by decide +kernel))
set_option maxRecDepth 20000 in
theorem gX2_followAll_X2_follow : GoodIn wsX2_followAll (wsV RX2 46 RX2 yX2_follow wsX2_follow) := goodIn_app (goodIn_of _ (by decide +kernel)) ggX2_followAll_X2_follow
theorem dX2_followAll_0 : decode cX2_followAll 0 = .ok (.aload_n 0, 1) := by decide +kernel
theorem dX2_followAll_1 : decode cX2_followAll 1 = .ok (.getfield 9, 3) := by decide +kernel
theorem dX2_followAll_4 : decode cX2_followAll 4 = .ok (.iconst (-1), 1) := by decide +kernel
theorem dX2_followAll_5 : decode cX2_followAll 5 = .ok (.invokestatic 18, 3) := by decide +kernel
theorem dX2_followAll_8 : decode cX2_followAll 8 = .ok (.aload_n 0, 1) := by decide +kernel
theorem dX2_followAll_9 : decode cX2_followAll 9 = .ok (.getfield 15, 3) := by decide +kernel
theorem dX2_followAll_12 : decode cX2_followAll 12 = .ok (.iconst 0, 1) := by decide +kernel
theorem dX2_followAll_13 : decode cX2_followAll 13 = .ok (.invokestatic 18, 3) := by decide +kernel
theorem dX2_followAll_16 : decode cX2_followAll 16 = .ok (.iconst 1, 1) := by decide +kernel
theorem dX2_followAll_17 : decode cX2_followAll 17 = .ok (.istore_n 3, 1) := by decide +kernel
theorem dX2_followAll_18 : decode cX2_followAll 18 = .ok (.iload_n 3, 1) := by decide +kernel
theorem dX2_followAll_19 : decode cX2_followAll 19 = .ok (.iload_n 2, 1) := by decide +kernel
theorem dX2_followAll_20 : decode cX2_followAll 20 = .ok (.if_icmp .gt 28, 3) := by decide +kernel
theorem dX2_followAll_23 : decode cX2_followAll 23 = .ok (.aload_n 0, 1) := by decide +kernel
theorem dX2_followAll_24 : decode cX2_followAll 24 = .ok (.aload_n 1, 1) := by decide +kernel
theorem dX2_followAll_25 : decode cX2_followAll 25 = .ok (.iload_n 3, 1) := by decide +kernel
theorem dX2_followAll_26 : decode cX2_followAll 26 = .ok (.invokevirtual 34, 3) := by decide +kernel
theorem dX2_followAll_29 : decode cX2_followAll 29 = .ok (.aload_n 1, 1) := by decide +kernel
theorem dX2_followAll_30 : decode cX2_followAll 30 = .ok (.iload_n 3, 1) := by decide +kernel
theorem dX2_followAll_31 : decode cX2_followAll 31 = .ok (.invokevirtual 40, 3) := by decide +kernel
theorem dX2_followAll_34 : decode cX2_followAll 34 = .ok (.aload_n 1, 1) := by decide +kernel
theorem dX2_followAll_35 : decode cX2_followAll 35 = .ok (.iload_n 3, 1) := by decide +kernel
theorem dX2_followAll_36 : decode cX2_followAll 36 = .ok (.invokevirtual 43, 3) := by decide +kernel
theorem dX2_followAll_39 : decode cX2_followAll 39 = .ok (.invokevirtual 46, 3) := by decide +kernel
theorem dX2_followAll_42 : decode cX2_followAll 42 = .ok (.iinc 3 1, 3) := by decide +kernel
theorem dX2_followAll_45 : decode cX2_followAll 45 = .ok (.goto (-27), 3) := by decide +kernel
theorem dX2_followAll_48 : decode cX2_followAll 48 = .ok (.return_, 1) := by decide +kernel
set_option maxRecDepth 20000 in
theorem ggX2_howManyOpen_X2_howManyEndedBy : GoodIn wsX2_howManyOpen wsX2_howManyEndedBy := goodIn_ca (goodIn_r _ [5, 6, 7, 8] (by decide +kernel) (by decide +kernel)) (goodIn_sub (fun _ h => List.mem_cons_of_mem _ (List.mem_append_right _ h)) (by decide +kernel))
set_option maxRecDepth 20000 in
theorem gX2_howManyOpen_X2_howManyEndedBy : GoodIn wsX2_howManyOpen (wsV RX2 50 RX2 yX2_howManyEndedBy wsX2_howManyEndedBy) := goodIn_app (goodIn_of _ (by decide +kernel)) ggX2_howManyOpen_X2_howManyEndedBy
theorem dX2_howManyOpen_0 : decode cX2_howManyOpen 0 = .ok (.aload_n 0, 1) := by decide +kernel
theorem dX2_howManyOpen_1 : decode cX2_howManyOpen 1 = .ok (.iconst 0, 1) := by decide +kernel
theorem dX2_howManyOpen_2 : decode cX2_howManyOpen 2 = .ok (.invokevirtual 50, 3) := by decide +kernel
theorem dX2_howManyOpen_5 : decode cX2_howManyOpen 5 = .ok (.ireturn, 1) := by decide +kernel
theorem dX2_howManyEndedBy_0 : decode cX2_howManyEndedBy 0 = .ok (.iconst 0, 1) := by decide +kernel
theorem dX2_howManyEndedBy_1 : decode cX2_howManyEndedBy 1 = .ok (.istore_n 2, 1) := by decide +kernel
theorem dX2_howManyEndedBy_2 : decode cX2_howManyEndedBy 2 = .ok (.iconst 1, 1) := by decide +kernel
theorem dX2_howManyEndedBy_3 : decode cX2_howManyEndedBy 3 = .ok (.istore_n 3, 1) := by decide +kernel
theorem dX2_howManyEndedBy_4 : decode cX2_howManyEndedBy 4 = .ok (.iload_n 3, 1) := by decide +kernel
theorem dX2_howManyEndedBy_5 : decode cX2_howManyEndedBy 5 = .ok (.bipush 60, 2) := by decide +kernel
theorem dX2_howManyEndedBy_7 : decode cX2_howManyEndedBy 7 = .ok (.if_icmp .gt 22, 3) := by decide +kernel
theorem dX2_howManyEndedBy_10 : decode cX2_howManyEndedBy 10 = .ok (.aload_n 0, 1) := by decide +kernel
theorem dX2_howManyEndedBy_11 : decode cX2_howManyEndedBy 11 = .ok (.getfield 9, 3) := by decide +kernel
theorem dX2_howManyEndedBy_14 : decode cX2_howManyEndedBy 14 = .ok (.iload_n 3, 1) := by decide +kernel
theorem dX2_howManyEndedBy_15 : decode cX2_howManyEndedBy 15 = .ok (.iaload, 1) := by decide +kernel
theorem dX2_howManyEndedBy_16 : decode cX2_howManyEndedBy 16 = .ok (.iload_n 1, 1) := by decide +kernel
theorem dX2_howManyEndedBy_17 : decode cX2_howManyEndedBy 17 = .ok (.if_icmp .ne 6, 3) := by decide +kernel
theorem dX2_howManyEndedBy_20 : decode cX2_howManyEndedBy 20 = .ok (.iinc 2 1, 3) := by decide +kernel
theorem dX2_howManyEndedBy_23 : decode cX2_howManyEndedBy 23 = .ok (.iinc 3 1, 3) := by decide +kernel
theorem dX2_howManyEndedBy_26 : decode cX2_howManyEndedBy 26 = .ok (.goto (-22), 3) := by decide +kernel
theorem dX2_howManyEndedBy_29 : decode cX2_howManyEndedBy 29 = .ok (.iload_n 2, 1) := by decide +kernel
theorem dX2_howManyEndedBy_30 : decode cX2_howManyEndedBy 30 = .ok (.ireturn, 1) := by decide +kernel
set_option maxRecDepth 20000 in
theorem ggX3_init_X1_init : GoodIn wsX3_init wsX1_init := goodIn_r _ [28, 29, 2, 3, 30, 31, 32, 33, 4, 34, 35, 36, 37, 38, 39, 40, 67, 68, 69, 70, 71, 72, 73, 74, 75] (by decide +kernel) (by decide +kernel)
set_option maxRecDepth 20000 in
theorem gX3_init_X1_init_n15 : GoodIn wsX3_init (wsX1_init) := ggX3_init_X1_init
set_option maxRecDepth 20000 in
theorem ggX3_init_X2_init : GoodIn wsX3_init wsX2_init := goodIn_r _ [43, 44, 2, 3, 30, 45, 46, 47, 48, 49, 50, 76, 77] (by decide +kernel) (by decide +kernel)
set_option maxRecDepth 20000 in
theorem gX3_init_X2_init : GoodIn wsX3_init (wsX2_init) := ggX3_init_X2_init
set_option maxRecDepth 20000 in
theorem ggX3_init_X0_init : GoodIn wsX3_init wsX0_init := goodIn_r _ [52, 53, 2, 3, 30, 54, 55, 37, 56, 57, 4, 58, 59, 60, 78, 79, 80, 81, 82, 83] (by decide +kernel) (by decide +kernel)
set_option maxRecDepth 20000 in
theorem gX3_init_X0_init_n32 : GoodIn wsX3_init (wsX0_init) := ggX3_init_X0_init
end
section
theorem dX3_init_0 : decode cX3_init 0 = .ok (.aload_n 0, 1) := by decide +kernel
theorem dX3_init_1 : decode cX3_init 1 = .ok (.invokespecial 1, 3) := by decide +kernel
theorem dX3_init_4 : decode cX3_init 4 = .ok (.aload_n 0, 1) := by decide +kernel
theorem dX3_init_5 : decode cX3_init 5 = .ok (.bipush 32, 2) := by decide +kernel
theorem dX3_init_7 : decode cX3_init 7 = .ok (.newarray .long, 2) := by decide +kernel
theorem dX3_init_9 : decode cX3_init 9 = .ok (.putfield 9, 3) := by decide +kernel
theorem dX3_init_12 : decode cX3_init 12 = .ok (.aload_n 0, 1) := by decide +kernel
theorem dX3_init_13 : decode cX3_init 13 = .ok (.new 13, 3) := by decide +kernel
theorem dX3_init_16 : decode cX3_init 16 = .ok (.dup, 1) := by decide +kernel
theorem dX3_init_17 : decode cX3_init 17 = .ok (.invokespecial 15, 3) := by decide +kernel
theorem dX3_init_20 : decode cX3_init 20 = .ok (.putfield 16, 3) := by decide +kernel
theorem dX3_init_23 : decode cX3_init 23 = .ok (.aload_n 0, 1) := by decide +kernel
theorem dX3_init_24 : decode cX3_init 24 = .ok (.new 20, 3) := by decide +kernel
theorem dX3_init_27 : decode cX3_init 27 = .ok (.dup, 1) := by decide +kernel
theorem dX3_init_28 : decode cX3_init 28 = .ok (.invokespecial 22, 3) := by decide +kernel
theorem dX3_init_31 : decode cX3_init 31 = .ok (.putfield 23, 3) := by decide +kernel
theorem dX3_init_34 : decode cX3_init 34 = .ok (.aload_n 0, 1) := by decide +kernel
theorem dX3_init_35 : decode cX3_init 35 = .ok (.new 20, 3) := by decide +kernel
theorem dX3_init_38 : decode cX3_init 38 = .ok (.dup, 1) := by decide +kernel
theorem dX3_init_39 : decode cX3_init 39 = .ok (.invokespecial 22, 3) := by decide +kernel
theorem dX3_init_42 : decode cX3_init 42 = .ok (.putfield 27, 3) := by decide +kernel
theorem dX3_init_45 : decode cX3_init 45 = .ok (.aload_n 0, 1) := by decide +kernel
theorem dX3_init_46 : decode cX3_init 46 = .ok (.new 30, 3) := by decide +kernel
theorem dX3_init_49 : decode cX3_init 49 = .ok (.dup, 1) := by decide +kernel
theorem dX3_init_50 : decode cX3_init 50 = .ok (.invokespecial 32, 3) := by decide +kernel
theorem dX3_init_53 : decode cX3_init 53 = .ok (.putfield 33, 3) := by decide +kernel
theorem dX3_init_56 : decode cX3_init 56 = .ok (.aload_n 0, 1) := by decide +kernel
theorem dX3_init_57 : decode cX3_init 57 = .ok (.iconst 1, 1) := by decide +kernel
theorem dX3_init_58 : decode cX3_init 58 = .ok (.iconst 4, 1) := by decide +kernel
theorem dX3_init_59 : decode cX3_init 59 = .ok (.iload_n 1, 1) := by decide +kernel
theorem dX3_init_60 : decode cX3_init 60 = .ok (.invokestatic 37, 3) := by decide +kernel
theorem dX3_init_63 : decode cX3_init 63 = .ok (.invokestatic 43, 3) := by decide +kernel
theorem dX3_init_66 : decode cX3_init 66 = .ok (.putfield 46, 3) := by decide +kernel
theorem dX3_init_69 : decode cX3_init 69 = .ok (.return_, 1) := by decide +kernel
set_option maxRecDepth 20000 in
theorem ggX3_row_X3_isUnit : GoodIn wsX3_row wsX3_isUnit := goodIn_r _ [7] (by decide +kernel) (by decide +kernel)
set_option maxRecDepth 20000 in
theorem gX3_row_X3_isUnit : GoodIn wsX3_row (va_wsS RX3 50 yX3_isUnit wsX3_isUnit) := goodIn_app (goodIn_of _ (by decide +kernel)) ggX3_row_X3_isUnit
set_option maxRecDepth 20000 in
theorem ggX3_row_X3_isCell : GoodIn wsX3_row wsX3_isCell := goodIn_r _ [10] (by decide +kernel) (by decide +kernel)
set_option maxRecDepth 20000 in
theorem gX3_row_X3_isCell : GoodIn wsX3_row (va_wsS RX3 54 yX3_isCell wsX3_isCell) := goodIn_app (goodIn_of _ (by decide +kernel)) ggX3_row_X3_isCell
set_option maxRecDepth 20000 in
theorem ggX3_row_X2_isOver : GoodIn wsX3_row wsX2_isOver := goodIn_ca (goodIn_r _ [15, 16, 5, 6, 7, 81, 82] (by decide +kernel) (by decide +kernel)) (goodIn_sub (fun _ h => List.mem_cons_of_mem _ (List.mem_append_right _ h)) (by decide +kernel))
set_option maxRecDepth 20000 in
theorem gX3_row_X2_isOver : GoodIn wsX3_row (wsV RX3 57 RX2 yX2_isOver wsX2_isOver) := goodIn_app (goodIn_of _ (by decide +kernel)) ggX3_row_X2_isOver
set_option maxRecDepth 20000 in
theorem ggX3_row_X2_isChangedByAnother : GoodIn wsX3_row wsX2_isChangedByAnother := goodIn_ca (goodIn_r _ [20, 21, 9, 6, 10, 22, 23, 24, 14, 25, 16, 5, 7, 81, 82] (by decide +kernel) (by decide +kernel)) (goodIn_sub (fun _ h => List.mem_cons_of_mem _ (List.mem_append_right _ h)) (by decide +kernel))
set_option maxRecDepth 20000 in
theorem gX3_row_X2_isChangedByAnother : GoodIn wsX3_row (wsV RX3 60 RX2 yX2_isChangedByAnother wsX2_isChangedByAnother) := goodIn_app (goodIn_of _ (by decide +kernel)) ggX3_row_X2_isChangedByAnother
set_option maxRecDepth 20000 in
theorem ggX3_row_X1_hasRoomFor : GoodIn wsX3_row wsX1_hasRoomFor := goodIn_r _ [30, 31, 83, 84, 85, 86, 87, 88, 89, 90, 91] (by decide +kernel) (by decide +kernel)
set_option maxRecDepth 20000 in
theorem gX3_row_X1_hasRoomFor : GoodIn wsX3_row (wsV RX3 64 RX1 yX1_hasRoomFor wsX1_hasRoomFor) := goodIn_app (goodIn_of _ (by decide +kernel)) ggX3_row_X1_hasRoomFor
set_option maxRecDepth 20000 in
theorem ggX3_row_X3_writeChange : GoodIn wsX3_row wsX3_writeChange := goodIn_ca (goodIn_r _ [35, 3, 1, 36, 2, 37, 38, 39, 29, 40, 31, 41, 42, 43, 44, 45, 46, 47, 48, 27, 28, 30, 49, 50, 51, 14, 52, 16, 21, 5, 6, 7, 9, 10, 53, 54, 55, 56, 8, 57, 58, 59, 60, 61, 62, 63, 64, 65, 66, 67, 68, 69, 70, 71, 72, 73, 74, 75, 76, 77, 78, 79, 80, 83, 84, 85, 86, 87, 88, 89, 90, 91, 81, 82, 92, 93, 94, 95, 96, 97] (by decide +kernel) (by decide +kernel)) (goodIn_sub (fun _ h => List.mem_cons_of_mem _ (List.mem_append_right _ h)) (by decide +kernel))
set_option maxRecDepth 20000 in
theorem gX3_row_X3_writeChange : GoodIn wsX3_row (wsV RX3 67 RX3 yX3_writeChange wsX3_writeChange) := goodIn_app (goodIn_of _ (by decide +kernel)) ggX3_row_X3_writeChange
theorem dX3_row_0 : decode cX3_row 0 = .ok (.iload_n 1, 1) := by decide +kernel
theorem dX3_row_1 : decode cX3_row 1 = .ok (.invokestatic 50, 3) := by decide +kernel
theorem dX3_row_4 : decode cX3_row 4 = .ok (.ifCond .eq 10, 3) := by decide +kernel
theorem dX3_row_7 : decode cX3_row 7 = .ok (.iload_n 2, 1) := by decide +kernel
theorem dX3_row_8 : decode cX3_row 8 = .ok (.invokestatic 54, 3) := by decide +kernel
theorem dX3_row_11 : decode cX3_row 11 = .ok (.ifCond .ne 6, 3) := by decide +kernel
theorem dX3_row_14 : decode cX3_row 14 = .ok (.bipush (-4), 2) := by decide +kernel
theorem dX3_row_16 : decode cX3_row 16 = .ok (.ireturn, 1) := by decide +kernel
theorem dX3_row_17 : decode cX3_row 17 = .ok (.aload_n 0, 1) := by decide +kernel
theorem dX3_row_18 : decode cX3_row 18 = .ok (.getfield 23, 3) := by decide +kernel
theorem dX3_row_21 : decode cX3_row 21 = .ok (.iload_n 1, 1) := by decide +kernel
theorem dX3_row_22 : decode cX3_row 22 = .ok (.invokevirtual 57, 3) := by decide +kernel
theorem dX3_row_25 : decode cX3_row 25 = .ok (.ifCond .eq 6, 3) := by decide +kernel
theorem dX3_row_28 : decode cX3_row 28 = .ok (.bipush (-5), 2) := by decide +kernel
theorem dX3_row_30 : decode cX3_row 30 = .ok (.ireturn, 1) := by decide +kernel
theorem dX3_row_31 : decode cX3_row 31 = .ok (.aload_n 0, 1) := by decide +kernel
theorem dX3_row_32 : decode cX3_row 32 = .ok (.getfield 23, 3) := by decide +kernel
theorem dX3_row_35 : decode cX3_row 35 = .ok (.iload_n 2, 1) := by decide +kernel
theorem dX3_row_36 : decode cX3_row 36 = .ok (.iload_n 1, 1) := by decide +kernel
theorem dX3_row_37 : decode cX3_row 37 = .ok (.invokevirtual 60, 3) := by decide +kernel
theorem dX3_row_40 : decode cX3_row 40 = .ok (.ifCond .eq 6, 3) := by decide +kernel
theorem dX3_row_43 : decode cX3_row 43 = .ok (.bipush (-3), 2) := by decide +kernel
theorem dX3_row_45 : decode cX3_row 45 = .ok (.ireturn, 1) := by decide +kernel
theorem dX3_row_46 : decode cX3_row 46 = .ok (.aload_n 0, 1) := by decide +kernel
theorem dX3_row_47 : decode cX3_row 47 = .ok (.getfield 9, 3) := by decide +kernel
theorem dX3_row_50 : decode cX3_row 50 = .ok (.iload_n 2, 1) := by decide +kernel
theorem dX3_row_51 : decode cX3_row 51 = .ok (.laload, 1) := by decide +kernel
theorem dX3_row_52 : decode cX3_row 52 = .ok (.lload_n 3, 1) := by decide +kernel
theorem dX3_row_53 : decode cX3_row 53 = .ok (.lcmp, 1) := by decide +kernel
theorem dX3_row_54 : decode cX3_row 54 = .ok (.ifCond .eq 5, 3) := by decide +kernel
theorem dX3_row_57 : decode cX3_row 57 = .ok (.iconst 0, 1) := by decide +kernel
theorem dX3_row_58 : decode cX3_row 58 = .ok (.ireturn, 1) := by decide +kernel
theorem dX3_row_59 : decode cX3_row 59 = .ok (.aload_n 0, 1) := by decide +kernel
theorem dX3_row_60 : decode cX3_row 60 = .ok (.getfield 16, 3) := by decide +kernel
theorem dX3_row_63 : decode cX3_row 63 = .ok (.iconst 1, 1) := by decide +kernel
theorem dX3_row_64 : decode cX3_row 64 = .ok (.invokevirtual 64, 3) := by decide +kernel
theorem dX3_row_67 : decode cX3_row 67 = .ok (.ifCond .ne 5, 3) := by decide +kernel
theorem dX3_row_70 : decode cX3_row 70 = .ok (.iconst (-1), 1) := by decide +kernel
theorem dX3_row_71 : decode cX3_row 71 = .ok (.ireturn, 1) := by decide +kernel
theorem dX3_row_72 : decode cX3_row 72 = .ok (.aload_n 0, 1) := by decide +kernel
theorem dX3_row_73 : decode cX3_row 73 = .ok (.iload_n 1, 1) := by decide +kernel
theorem dX3_row_74 : decode cX3_row 74 = .ok (.iload_n 2, 1) := by decide +kernel
theorem dX3_row_75 : decode cX3_row 75 = .ok (.lload_n 3, 1) := by decide +kernel
theorem dX3_row_76 : decode cX3_row 76 = .ok (.lload 5, 2) := by decide +kernel
theorem dX3_row_78 : decode cX3_row 78 = .ok (.iconst 0, 1) := by decide +kernel
theorem dX3_row_79 : decode cX3_row 79 = .ok (.invokevirtual 67, 3) := by decide +kernel
theorem dX3_row_82 : decode cX3_row 82 = .ok (.ireturn, 1) := by decide +kernel
set_option maxRecDepth 20000 in
theorem ggX3_sync_X3_isUnit : GoodIn wsX3_sync wsX3_isUnit := goodIn_r _ [6] (by decide +kernel) (by decide +kernel)
set_option maxRecDepth 20000 in
theorem gX3_sync_X3_isUnit : GoodIn wsX3_sync (va_wsS RX3 50 yX3_isUnit wsX3_isUnit) := goodIn_app (goodIn_of _ (by decide +kernel)) ggX3_sync_X3_isUnit
set_option maxRecDepth 20000 in
theorem ggX3_sync_X2_isOpen : GoodIn wsX3_sync wsX2_isOpen := goodIn_ca (goodIn_r _ [11, 12, 4, 5, 6, 68, 69] (by decide +kernel) (by decide +kernel)) (goodIn_sub (fun _ h => List.mem_cons_of_mem _ (List.mem_append_right _ h)) (by decide +kernel))
set_option maxRecDepth 20000 in
theorem gX3_sync_X2_isOpen : GoodIn wsX3_sync (wsV RX3 71 RX2 yX2_isOpen wsX2_isOpen) := goodIn_app (goodIn_of _ (by decide +kernel)) ggX3_sync_X2_isOpen
set_option maxRecDepth 20000 in
theorem ggX3_sync_X1_hasRoomFor : GoodIn wsX3_sync wsX1_hasRoomFor := goodIn_r _ [17, 18, 70, 71, 72, 73, 74, 75, 76, 77, 78] (by decide +kernel) (by decide +kernel)
set_option maxRecDepth 20000 in
theorem gX3_sync_X1_hasRoomFor : GoodIn wsX3_sync (wsV RX3 64 RX1 yX1_hasRoomFor wsX1_hasRoomFor) := goodIn_app (goodIn_of _ (by decide +kernel)) ggX3_sync_X1_hasRoomFor
set_option maxRecDepth 20000 in
theorem ggX3_sync_X3_writeLastOf : GoodIn wsX3_sync wsX3_writeLastOf := goodIn_ca (goodIn_r _ [22, 2, 1, 23, 24, 25, 26, 27, 16, 28, 18, 29, 30, 31, 32, 33, 34, 35, 36, 14, 15, 17, 37, 38, 39, 10, 40, 12, 41, 4, 5, 6, 42, 43, 44, 45, 46, 47, 48, 49, 50, 51, 52, 53, 54, 55, 56, 57, 58, 59, 60, 61, 62, 63, 64, 65, 66, 67, 70, 71, 72, 73, 74, 75, 76, 77, 78, 68, 69, 79, 80, 81, 82, 83, 84] (by decide +kernel) (by decide +kernel)) (goodIn_sub (fun _ h => List.mem_cons_of_mem _ (List.mem_append_right _ h)) (by decide +kernel))
set_option maxRecDepth 20000 in
theorem gX3_sync_X3_writeLastOf : GoodIn wsX3_sync (wsV RX3 74 RX3 yX3_writeLastOf wsX3_writeLastOf) := goodIn_app (goodIn_of _ (by decide +kernel)) ggX3_sync_X3_writeLastOf
theorem dX3_sync_0 : decode cX3_sync 0 = .ok (.iload_n 1, 1) := by decide +kernel
theorem dX3_sync_1 : decode cX3_sync 1 = .ok (.invokestatic 50, 3) := by decide +kernel
theorem dX3_sync_4 : decode cX3_sync 4 = .ok (.ifCond .ne 6, 3) := by decide +kernel
theorem dX3_sync_7 : decode cX3_sync 7 = .ok (.bipush (-4), 2) := by decide +kernel
theorem dX3_sync_9 : decode cX3_sync 9 = .ok (.ireturn, 1) := by decide +kernel
theorem dX3_sync_10 : decode cX3_sync 10 = .ok (.aload_n 0, 1) := by decide +kernel
theorem dX3_sync_11 : decode cX3_sync 11 = .ok (.getfield 23, 3) := by decide +kernel
theorem dX3_sync_14 : decode cX3_sync 14 = .ok (.iload_n 1, 1) := by decide +kernel
theorem dX3_sync_15 : decode cX3_sync 15 = .ok (.invokevirtual 71, 3) := by decide +kernel
theorem dX3_sync_18 : decode cX3_sync 18 = .ok (.ifCond .ne 6, 3) := by decide +kernel
theorem dX3_sync_21 : decode cX3_sync 21 = .ok (.bipush (-5), 2) := by decide +kernel
theorem dX3_sync_23 : decode cX3_sync 23 = .ok (.ireturn, 1) := by decide +kernel
theorem dX3_sync_24 : decode cX3_sync 24 = .ok (.aload_n 0, 1) := by decide +kernel
theorem dX3_sync_25 : decode cX3_sync 25 = .ok (.getfield 16, 3) := by decide +kernel
theorem dX3_sync_28 : decode cX3_sync 28 = .ok (.iconst 1, 1) := by decide +kernel
theorem dX3_sync_29 : decode cX3_sync 29 = .ok (.invokevirtual 64, 3) := by decide +kernel
theorem dX3_sync_32 : decode cX3_sync 32 = .ok (.ifCond .ne 5, 3) := by decide +kernel
theorem dX3_sync_35 : decode cX3_sync 35 = .ok (.iconst (-1), 1) := by decide +kernel
theorem dX3_sync_36 : decode cX3_sync 36 = .ok (.ireturn, 1) := by decide +kernel
theorem dX3_sync_37 : decode cX3_sync 37 = .ok (.aload_n 0, 1) := by decide +kernel
theorem dX3_sync_38 : decode cX3_sync 38 = .ok (.iload_n 1, 1) := by decide +kernel
theorem dX3_sync_39 : decode cX3_sync 39 = .ok (.iconst 1, 1) := by decide +kernel
theorem dX3_sync_40 : decode cX3_sync 40 = .ok (.iconst 0, 1) := by decide +kernel
theorem dX3_sync_41 : decode cX3_sync 41 = .ok (.invokevirtual 74, 3) := by decide +kernel
theorem dX3_sync_44 : decode cX3_sync 44 = .ok (.ireturn, 1) := by decide +kernel
set_option maxRecDepth 20000 in
theorem ggX3_copy_X1_latest : GoodIn wsX3_copy wsX1_latest := goodIn_r _ [8, 9, 34, 35, 36, 37, 38, 39, 40, 41, 42] (by decide +kernel) (by decide +kernel)
set_option maxRecDepth 20000 in
theorem gX3_copy_X1_latest : GoodIn wsX3_copy (wsV RX3 78 RX1 yX1_latest wsX1_latest) := goodIn_app (goodIn_of _ (by decide +kernel)) ggX3_copy_X1_latest
set_option maxRecDepth 20000 in
theorem ggX3_copy_X0_finish : GoodIn wsX3_copy wsX0_finish := goodIn_ca (goodIn_r _ [14, 15, 16, 17, 18, 19, 20, 21, 22, 43, 44, 45, 46, 47, 48] (by decide +kernel) (by decide +kernel)) (goodIn_sub (fun _ h => List.mem_cons_of_mem _ (List.mem_append_right _ h)) (by decide +kernel))
set_option maxRecDepth 20000 in
theorem gX3_copy_X0_finish : GoodIn wsX3_copy (wsV RX3 82 RX0 yX0_finish wsX0_finish) := goodIn_app (goodIn_of _ (by decide +kernel)) ggX3_copy_X0_finish
set_option maxRecDepth 20000 in
theorem ggX3_copy_X0_take : GoodIn wsX3_copy wsX0_take := goodIn_ca (goodIn_r _ [26, 17, 27, 22, 16, 18, 19, 20, 21, 15, 43, 44, 45, 46, 47, 48] (by decide +kernel) (by decide +kernel)) (goodIn_sub (fun _ h => List.mem_cons_of_mem _ (List.mem_append_right _ h)) (by decide +kernel))
set_option maxRecDepth 20000 in
theorem gX3_copy_X0_take : GoodIn wsX3_copy (wsV RX3 86 RX0 yX0_take wsX0_take) := goodIn_app (goodIn_of _ (by decide +kernel)) ggX3_copy_X0_take
theorem dX3_copy_0 : decode cX3_copy 0 = .ok (.aload_n 0, 1) := by decide +kernel
theorem dX3_copy_1 : decode cX3_copy 1 = .ok (.getfield 33, 3) := by decide +kernel
theorem dX3_copy_4 : decode cX3_copy 4 = .ok (.aload_n 0, 1) := by decide +kernel
theorem dX3_copy_5 : decode cX3_copy 5 = .ok (.getfield 16, 3) := by decide +kernel
theorem dX3_copy_8 : decode cX3_copy 8 = .ok (.invokevirtual 78, 3) := by decide +kernel
theorem dX3_copy_11 : decode cX3_copy 11 = .ok (.aload_n 0, 1) := by decide +kernel
theorem dX3_copy_12 : decode cX3_copy 12 = .ok (.getfield 9, 3) := by decide +kernel
theorem dX3_copy_15 : decode cX3_copy 15 = .ok (.invokevirtual 82, 3) := by decide +kernel
theorem dX3_copy_18 : decode cX3_copy 18 = .ok (.aload_n 0, 1) := by decide +kernel
theorem dX3_copy_19 : decode cX3_copy 19 = .ok (.getfield 33, 3) := by decide +kernel
theorem dX3_copy_22 : decode cX3_copy 22 = .ok (.iload_n 1, 1) := by decide +kernel
theorem dX3_copy_23 : decode cX3_copy 23 = .ok (.aload_n 0, 1) := by decide +kernel
theorem dX3_copy_24 : decode cX3_copy 24 = .ok (.getfield 16, 3) := by decide +kernel
theorem dX3_copy_27 : decode cX3_copy 27 = .ok (.invokevirtual 78, 3) := by decide +kernel
theorem dX3_copy_30 : decode cX3_copy 30 = .ok (.aload_n 0, 1) := by decide +kernel
theorem dX3_copy_31 : decode cX3_copy 31 = .ok (.getfield 9, 3) := by decide +kernel
theorem dX3_copy_34 : decode cX3_copy 34 = .ok (.invokevirtual 86, 3) := by decide +kernel
theorem dX3_copy_37 : decode cX3_copy 37 = .ok (.ireturn, 1) := by decide +kernel
set_option maxRecDepth 20000 in
theorem ggX3_recover_X1_latest : GoodIn wsX3_recover wsX1_latest := goodIn_r _ [10, 11, 200, 201, 202, 203, 204, 205, 206, 207, 208] (by decide +kernel) (by decide +kernel)
set_option maxRecDepth 20000 in
theorem gX3_recover_X1_latest : GoodIn wsX3_recover (wsV RX3 78 RX1 yX1_latest wsX1_latest) := goodIn_app (goodIn_of _ (by decide +kernel)) ggX3_recover_X1_latest
set_option maxRecDepth 20000 in
theorem ggX3_recover_X0_finish : GoodIn wsX3_recover wsX0_finish := goodIn_ca (goodIn_r _ [16, 17, 18, 19, 20, 21, 22, 23, 24, 209, 210, 211, 212, 213, 214] (by decide +kernel) (by decide +kernel)) (goodIn_sub (fun _ h => List.mem_cons_of_mem _ (List.mem_append_right _ h)) (by decide +kernel))
set_option maxRecDepth 20000 in
theorem gX3_recover_X0_finish : GoodIn wsX3_recover (wsV RX3 82 RX0 yX0_finish wsX0_finish) := goodIn_app (goodIn_of _ (by decide +kernel)) ggX3_recover_X0_finish
set_option maxRecDepth 20000 in
theorem ggX3_recover_X0_isGood : GoodIn wsX3_recover wsX0_isGood := goodIn_ca (goodIn_r _ [28, 29, 30, 31, 32, 15, 33, 19, 209, 210, 211, 212, 213, 214] (by decide +kernel) (by decide +kernel)) (goodIn_sub (fun _ h => List.mem_cons_of_mem _ (List.mem_append_right _ h)) (by decide +kernel))
set_option maxRecDepth 20000 in
theorem gX3_recover_X0_isGood : GoodIn wsX3_recover (wsV RX3 90 RX0 yX0_isGood wsX0_isGood) := goodIn_app (goodIn_of _ (by decide +kernel)) ggX3_recover_X0_isGood
set_option maxRecDepth 20000 in
theorem ggX3_recover_X0_endOf : GoodIn wsX3_recover wsX0_endOf := goodIn_ca (goodIn_r _ [37, 24, 30, 31, 32, 15, 33, 19, 209, 210, 211, 212, 213, 214] (by decide +kernel) (by decide +kernel)) (goodIn_sub (fun _ h => List.mem_cons_of_mem _ (List.mem_append_right _ h)) (by decide +kernel))
set_option maxRecDepth 20000 in
theorem gX3_recover_X0_endOf : GoodIn wsX3_recover (wsV RX3 93 RX0 yX0_endOf wsX0_endOf) := goodIn_app (goodIn_of _ (by decide +kernel)) ggX3_recover_X0_endOf
set_option maxRecDepth 20000 in
theorem ggX3_recover_X2_followAll : GoodIn wsX3_recover wsX2_followAll := goodIn_ca (goodIn_r _ [42, 43, 44, 45, 46, 47, 48, 49, 50, 51, 9, 52, 53, 54, 55, 56, 57, 11, 58, 59, 60, 61, 62, 63, 64, 65, 66, 67, 68, 69, 70, 41, 71, 72, 73, 74, 75, 76, 215, 216, 200, 201, 202, 203, 204, 205, 206, 207, 208] (by decide +kernel) (by decide +kernel)) (goodIn_sub (fun _ h => List.mem_cons_of_mem _ (List.mem_append_right _ h)) (by decide +kernel))
set_option maxRecDepth 20000 in
theorem gX3_recover_X2_followAll : GoodIn wsX3_recover (wsV RX3 97 RX2 yX2_followAll wsX2_followAll) := goodIn_app (goodIn_of _ (by decide +kernel)) ggX3_recover_X2_followAll
set_option maxRecDepth 20000 in
theorem ggX3_recover_X0_startOf : GoodIn wsX3_recover wsX0_startOf := goodIn_ca (goodIn_r _ [80, 81, 30, 31, 32, 15, 33, 19, 209, 210, 211, 212, 213, 214] (by decide +kernel) (by decide +kernel)) (goodIn_sub (fun _ h => List.mem_cons_of_mem _ (List.mem_append_right _ h)) (by decide +kernel))
set_option maxRecDepth 20000 in
theorem gX3_recover_X0_startOf : GoodIn wsX3_recover (wsV RX3 101 RX0 yX0_startOf wsX0_startOf) := goodIn_app (goodIn_of _ (by decide +kernel)) ggX3_recover_X0_startOf
set_option maxRecDepth 20000 in
theorem ggX3_recover_X3_leastMissing : GoodIn wsX3_recover wsX3_leastMissing := goodIn_ca (goodIn_r _ [85, 2, 86, 87, 88, 9, 89, 90, 54, 55, 56, 57, 11, 91, 92, 93, 73, 94, 4, 95, 96, 97, 98, 99, 100, 101, 102, 103, 53, 104, 59, 60, 61, 62, 105, 106, 107, 41, 108, 43, 72, 74, 194, 195, 196, 197, 198, 199, 200, 201, 202, 203, 204, 205, 206, 207, 208, 215, 216] (by decide +kernel) (by decide +kernel)) (goodIn_sub (fun _ h => List.mem_cons_of_mem _ (List.mem_append_right _ h)) (by decide +kernel))
set_option maxRecDepth 20000 in
theorem gX3_recover_X3_leastMissing : GoodIn wsX3_recover (wsV RX3 104 RX3 yX3_leastMissing wsX3_leastMissing) := goodIn_app (goodIn_of _ (by decide +kernel)) ggX3_recover_X3_leastMissing
set_option maxRecDepth 20000 in
theorem ggX3_recover_X3_rowsOfBackingOut : GoodIn wsX3_recover wsX3_rowsOfBackingOut := goodIn_ca (goodIn_r _ [112, 4, 113, 114, 115, 41, 116, 117, 118, 119, 120, 43, 91, 92, 93, 73, 94, 2, 95, 96, 97, 9, 98, 99, 100, 101, 102, 103, 53, 54, 55, 56, 57, 11, 104, 59, 60, 61, 62, 105, 106, 107, 108, 72, 74, 194, 195, 196, 197, 198, 199, 215, 216, 200, 201, 202, 203, 204, 205, 206, 207, 208] (by decide +kernel) (by decide +kernel)) (goodIn_sub (fun _ h => List.mem_cons_of_mem _ (List.mem_append_right _ h)) (by decide +kernel))
set_option maxRecDepth 20000 in
theorem gX3_recover_X3_rowsOfBackingOut : GoodIn wsX3_recover (wsV RX3 107 RX3 yX3_rowsOfBackingOut wsX3_rowsOfBackingOut) := goodIn_app (goodIn_of _ (by decide +kernel)) ggX3_recover_X3_rowsOfBackingOut
set_option maxRecDepth 20000 in
theorem ggX3_recover_X3_bringForward : GoodIn wsX3_recover wsX3_bringForward := goodIn_ca (goodIn_r _ [124, 1, 3, 2, 125, 126, 127, 15, 128, 18, 20, 21, 22, 23, 30, 31, 32, 33, 19, 77, 78, 79, 80, 81, 129, 101, 102, 9, 103, 53, 54, 55, 56, 57, 11, 130, 64, 65, 66, 67, 131, 132, 133, 134, 135, 136, 137, 138, 73, 139, 140, 75, 76, 194, 195, 196, 197, 198, 199, 209, 210, 211, 212, 213, 214, 200, 201, 202, 203, 204, 205, 206, 207, 208] (by decide +kernel) (by decide +kernel)) (goodIn_sub (fun _ h => List.mem_cons_of_mem _ (List.mem_append_right _ h)) (by decide +kernel))
set_option maxRecDepth 20000 in
theorem gX3_recover_X3_bringForward : GoodIn wsX3_recover (wsV RX3 110 RX3 yX3_bringForward wsX3_bringForward) := goodIn_app (goodIn_of _ (by decide +kernel)) ggX3_recover_X3_bringForward
set_option maxRecDepth 20000 in
theorem ggX3_recover_X3_dropBehind : GoodIn wsX3_recover wsX3_dropBehind := goodIn_ca (goodIn_r _ [144, 2, 1, 5, 145, 146, 147, 9, 148, 11, 149, 150, 151, 152, 153, 154, 155, 156, 15, 157, 19, 24, 29, 38, 39, 40, 41, 42, 43, 44, 45, 46, 47, 48, 49, 50, 51, 52, 53, 54, 55, 56, 57, 58, 59, 60, 61, 62, 63, 64, 65, 66, 67, 68, 69, 70, 71, 72, 73, 74, 75, 76, 194, 195, 196, 197, 198, 199, 200, 201, 202, 203, 204, 205, 206, 207, 208, 209, 210, 211, 212, 213, 214, 215, 216] (by decide +kernel) (by decide +kernel)) (goodIn_sub (fun _ h => List.mem_cons_of_mem _ (List.mem_append_right _ h)) (by decide +kernel))
set_option maxRecDepth 20000 in
theorem gX3_recover_X3_dropBehind : GoodIn wsX3_recover (wsV RX3 114 RX3 yX3_dropBehind wsX3_dropBehind) := goodIn_app (goodIn_of _ (by decide +kernel)) ggX3_recover_X3_dropBehind
set_option maxRecDepth 20000 in
theorem ggX3_recover_X3_backOutAllOpen : GoodIn wsX3_recover wsX3_backOutAllOpen := goodIn_ca (goodIn_r _ [161, 5, 105, 106, 107, 41, 108, 43, 72, 73, 74, 162, 163, 164, 165, 2, 6, 7, 8, 9, 10, 11, 95, 96, 97, 98, 99, 100, 101, 102, 103, 53, 54, 55, 56, 57, 104, 59, 60, 61, 62, 130, 64, 65, 66, 67, 131, 132, 133, 134, 135, 166, 167, 168, 169, 170, 171, 172, 173, 174, 1, 3, 175, 176, 177, 178, 90, 179, 180, 181, 182, 183, 69, 70, 71, 44, 75, 76, 136, 137, 138, 139, 140, 184, 185, 186, 15, 187, 81, 19, 188, 13, 14, 16, 17, 18, 20, 21, 22, 23, 24, 189, 190, 191, 192, 194, 195, 196, 197, 198, 199, 215, 216, 200, 201, 202, 203, 204, 205, 206, 207, 208, 209, 210, 211, 212, 213, 214] (by decide +kernel) (by decide +kernel)) (goodIn_sub (fun _ h => List.mem_cons_of_mem _ (List.mem_append_right _ h)) (by decide +kernel))
set_option maxRecDepth 20000 in
theorem gX3_recover_X3_backOutAllOpen : GoodIn wsX3_recover (wsV RX3 118 RX3 yX3_backOutAllOpen wsX3_backOutAllOpen) := goodIn_app (goodIn_of _ (by decide +kernel)) ggX3_recover_X3_backOutAllOpen
set_option maxRecDepth 20000 in
theorem ggX3_recover_X2_howManyEndedBy : GoodIn wsX3_recover wsX2_howManyEndedBy := goodIn_ca (goodIn_r _ [120, 43, 215, 216] (by decide +kernel) (by decide +kernel)) (goodIn_sub (fun _ h => List.mem_cons_of_mem _ (List.mem_append_right _ h)) (by decide +kernel))
set_option maxRecDepth 20000 in
theorem gX3_recover_X2_howManyEndedBy : GoodIn wsX3_recover (wsV RX3 121 RX2 yX2_howManyEndedBy wsX2_howManyEndedBy) := goodIn_app (goodIn_of _ (by decide +kernel)) ggX3_recover_X2_howManyEndedBy
theorem dX3_recover_0 : decode cX3_recover 0 = .ok (.aload_n 0, 1) := by decide +kernel
theorem dX3_recover_1 : decode cX3_recover 1 = .ok (.getfield 33, 3) := by decide +kernel
theorem dX3_recover_4 : decode cX3_recover 4 = .ok (.aload_n 0, 1) := by decide +kernel
theorem dX3_recover_5 : decode cX3_recover 5 = .ok (.getfield 16, 3) := by decide +kernel
theorem dX3_recover_8 : decode cX3_recover 8 = .ok (.invokevirtual 78, 3) := by decide +kernel
theorem dX3_recover_11 : decode cX3_recover 11 = .ok (.aload_n 0, 1) := by decide +kernel
theorem dX3_recover_12 : decode cX3_recover 12 = .ok (.getfield 9, 3) := by decide +kernel
theorem dX3_recover_15 : decode cX3_recover 15 = .ok (.invokevirtual 82, 3) := by decide +kernel
theorem dX3_recover_18 : decode cX3_recover 18 = .ok (.aload_n 0, 1) := by decide +kernel
theorem dX3_recover_19 : decode cX3_recover 19 = .ok (.getfield 33, 3) := by decide +kernel
theorem dX3_recover_22 : decode cX3_recover 22 = .ok (.iload_n 1, 1) := by decide +kernel
theorem dX3_recover_23 : decode cX3_recover 23 = .ok (.invokevirtual 90, 3) := by decide +kernel
theorem dX3_recover_26 : decode cX3_recover 26 = .ok (.ifCond .ne 6, 3) := by decide +kernel
theorem dX3_recover_29 : decode cX3_recover 29 = .ok (.bipush (-2), 2) := by decide +kernel
theorem dX3_recover_31 : decode cX3_recover 31 = .ok (.ireturn, 1) := by decide +kernel
theorem dX3_recover_32 : decode cX3_recover 32 = .ok (.lload_n 2, 1) := by decide +kernel
theorem dX3_recover_33 : decode cX3_recover 33 = .ok (.aload_n 0, 1) := by decide +kernel
theorem dX3_recover_34 : decode cX3_recover 34 = .ok (.getfield 16, 3) := by decide +kernel
theorem dX3_recover_37 : decode cX3_recover 37 = .ok (.invokevirtual 78, 3) := by decide +kernel
theorem dX3_recover_40 : decode cX3_recover 40 = .ok (.i2l, 1) := by decide +kernel
theorem dX3_recover_41 : decode cX3_recover 41 = .ok (.lcmp, 1) := by decide +kernel
theorem dX3_recover_42 : decode cX3_recover 42 = .ok (.ifCond .gt 17, 3) := by decide +kernel
theorem dX3_recover_45 : decode cX3_recover 45 = .ok (.lload_n 2, 1) := by decide +kernel
theorem dX3_recover_46 : decode cX3_recover 46 = .ok (.aload_n 0, 1) := by decide +kernel
theorem dX3_recover_47 : decode cX3_recover 47 = .ok (.getfield 33, 3) := by decide +kernel
theorem dX3_recover_50 : decode cX3_recover 50 = .ok (.iload_n 1, 1) := by decide +kernel
theorem dX3_recover_51 : decode cX3_recover 51 = .ok (.invokevirtual 93, 3) := by decide +kernel
theorem dX3_recover_54 : decode cX3_recover 54 = .ok (.i2l, 1) := by decide +kernel
theorem dX3_recover_55 : decode cX3_recover 55 = .ok (.lcmp, 1) := by decide +kernel
theorem dX3_recover_56 : decode cX3_recover 56 = .ok (.ifCond .ge 6, 3) := by decide +kernel
theorem dX3_recover_59 : decode cX3_recover 59 = .ok (.bipush (-4), 2) := by decide +kernel
theorem dX3_recover_61 : decode cX3_recover 61 = .ok (.ireturn, 1) := by decide +kernel
theorem dX3_recover_62 : decode cX3_recover 62 = .ok (.lload_n 2, 1) := by decide +kernel
theorem dX3_recover_63 : decode cX3_recover 63 = .ok (.l2i, 1) := by decide +kernel
theorem dX3_recover_64 : decode cX3_recover 64 = .ok (.istore 4, 2) := by decide +kernel
theorem dX3_recover_66 : decode cX3_recover 66 = .ok (.aload_n 0, 1) := by decide +kernel
theorem dX3_recover_67 : decode cX3_recover 67 = .ok (.getfield 27, 3) := by decide +kernel
theorem dX3_recover_70 : decode cX3_recover 70 = .ok (.aload_n 0, 1) := by decide +kernel
theorem dX3_recover_71 : decode cX3_recover 71 = .ok (.getfield 16, 3) := by decide +kernel
theorem dX3_recover_74 : decode cX3_recover 74 = .ok (.iload 4, 2) := by decide +kernel
theorem dX3_recover_76 : decode cX3_recover 76 = .ok (.invokevirtual 97, 3) := by decide +kernel
theorem dX3_recover_79 : decode cX3_recover 79 = .ok (.aload_n 0, 1) := by decide +kernel
theorem dX3_recover_80 : decode cX3_recover 80 = .ok (.aload_n 0, 1) := by decide +kernel
theorem dX3_recover_81 : decode cX3_recover 81 = .ok (.getfield 33, 3) := by decide +kernel
theorem dX3_recover_84 : decode cX3_recover 84 = .ok (.iload_n 1, 1) := by decide +kernel
theorem dX3_recover_85 : decode cX3_recover 85 = .ok (.invokevirtual 101, 3) := by decide +kernel
theorem dX3_recover_88 : decode cX3_recover 88 = .ok (.iload 4, 2) := by decide +kernel
theorem dX3_recover_90 : decode cX3_recover 90 = .ok (.invokevirtual 104, 3) := by decide +kernel
theorem dX3_recover_93 : decode cX3_recover 93 = .ok (.istore 5, 2) := by decide +kernel
theorem dX3_recover_95 : decode cX3_recover 95 = .ok (.iload 5, 2) := by decide +kernel
theorem dX3_recover_97 : decode cX3_recover 97 = .ok (.ifCond .eq 9, 3) := by decide +kernel
theorem dX3_recover_100 : decode cX3_recover 100 = .ok (.bipush (-10), 2) := by decide +kernel
theorem dX3_recover_102 : decode cX3_recover 102 = .ok (.iload 5, 2) := by decide +kernel
theorem dX3_recover_104 : decode cX3_recover 104 = .ok (.isub, 1) := by decide +kernel
theorem dX3_recover_105 : decode cX3_recover 105 = .ok (.ireturn, 1) := by decide +kernel
theorem dX3_recover_106 : decode cX3_recover 106 = .ok (.iload 4, 2) := by decide +kernel
theorem dX3_recover_108 : decode cX3_recover 108 = .ok (.aload_n 0, 1) := by decide +kernel
theorem dX3_recover_109 : decode cX3_recover 109 = .ok (.iload 4, 2) := by decide +kernel
theorem dX3_recover_111 : decode cX3_recover 111 = .ok (.invokevirtual 107, 3) := by decide +kernel
theorem dX3_recover_114 : decode cX3_recover 114 = .ok (.iadd, 1) := by decide +kernel
theorem dX3_recover_115 : decode cX3_recover 115 = .ok (.sipush 2000, 3) := by decide +kernel
theorem dX3_recover_118 : decode cX3_recover 118 = .ok (.if_icmp .le 5, 3) := by decide +kernel
theorem dX3_recover_121 : decode cX3_recover 121 = .ok (.iconst (-1), 1) := by decide +kernel
theorem dX3_recover_122 : decode cX3_recover 122 = .ok (.ireturn, 1) := by decide +kernel
theorem dX3_recover_123 : decode cX3_recover 123 = .ok (.aload_n 0, 1) := by decide +kernel
theorem dX3_recover_124 : decode cX3_recover 124 = .ok (.iload_n 1, 1) := by decide +kernel
theorem dX3_recover_125 : decode cX3_recover 125 = .ok (.iload 4, 2) := by decide +kernel
theorem dX3_recover_127 : decode cX3_recover 127 = .ok (.invokevirtual 110, 3) := by decide +kernel
theorem dX3_recover_130 : decode cX3_recover 130 = .ok (.aload_n 0, 1) := by decide +kernel
theorem dX3_recover_131 : decode cX3_recover 131 = .ok (.iload 4, 2) := by decide +kernel
theorem dX3_recover_133 : decode cX3_recover 133 = .ok (.invokevirtual 114, 3) := by decide +kernel
theorem dX3_recover_136 : decode cX3_recover 136 = .ok (.aload_n 0, 1) := by decide +kernel
theorem dX3_recover_137 : decode cX3_recover 137 = .ok (.invokevirtual 118, 3) := by decide +kernel
theorem dX3_recover_140 : decode cX3_recover 140 = .ok (.aload_n 0, 1) := by decide +kernel
theorem dX3_recover_141 : decode cX3_recover 141 = .ok (.getfield 23, 3) := by decide +kernel
theorem dX3_recover_144 : decode cX3_recover 144 = .ok (.iconst 1, 1) := by decide +kernel
theorem dX3_recover_145 : decode cX3_recover 145 = .ok (.invokevirtual 121, 3) := by decide +kernel
theorem dX3_recover_148 : decode cX3_recover 148 = .ok (.ireturn, 1) := by decide +kernel
set_option maxRecDepth 20000 in
theorem ggX3_get_X3_isCell : GoodIn wsX3_get wsX3_isCell := goodIn_r _ [7] (by decide +kernel) (by decide +kernel)
set_option maxRecDepth 20000 in
theorem gX3_get_X3_isCell : GoodIn wsX3_get (va_wsS RX3 54 yX3_isCell wsX3_isCell) := goodIn_app (goodIn_of _ (by decide +kernel)) ggX3_get_X3_isCell
theorem dX3_get_0 : decode cX3_get 0 = .ok (.iload_n 1, 1) := by decide +kernel
theorem dX3_get_1 : decode cX3_get 1 = .ok (.invokestatic 54, 3) := by decide +kernel
theorem dX3_get_4 : decode cX3_get 4 = .ok (.ifCond .ne 13, 3) := by decide +kernel
theorem dX3_get_7 : decode cX3_get 7 = .ok (.new 124, 3) := by decide +kernel
theorem dX3_get_10 : decode cX3_get 10 = .ok (.dup, 1) := by decide +kernel
theorem dX3_get_11 : decode cX3_get 11 = .ok (.ldc 126, 2) := by decide +kernel
theorem dX3_get_13 : decode cX3_get 13 = .ok (.invokespecial 128, 3) := by decide +kernel
theorem dX3_get_16 : decode cX3_get 16 = .ok (.athrow, 1) := by decide +kernel
theorem dX3_get_17 : decode cX3_get 17 = .ok (.aload_n 0, 1) := by decide +kernel
theorem dX3_get_18 : decode cX3_get 18 = .ok (.getfield 9, 3) := by decide +kernel
theorem dX3_get_21 : decode cX3_get 21 = .ok (.iload_n 1, 1) := by decide +kernel
theorem dX3_get_22 : decode cX3_get 22 = .ok (.laload, 1) := by decide +kernel
theorem dX3_get_23 : decode cX3_get 23 = .ok (.lreturn, 1) := by decide +kernel
set_option maxRecDepth 20000 in
theorem ggX3_backout_X3_isUnit : GoodIn wsX3_backout wsX3_isUnit := goodIn_r _ [6] (by decide +kernel) (by decide +kernel)
set_option maxRecDepth 20000 in
theorem gX3_backout_X3_isUnit : GoodIn wsX3_backout (va_wsS RX3 50 yX3_isUnit wsX3_isUnit) := goodIn_app (goodIn_of _ (by decide +kernel)) ggX3_backout_X3_isUnit
set_option maxRecDepth 20000 in
theorem ggX3_backout_X2_isOpen : GoodIn wsX3_backout wsX2_isOpen := goodIn_ca (goodIn_r _ [11, 12, 4, 5, 6, 125, 126] (by decide +kernel) (by decide +kernel)) (goodIn_sub (fun _ h => List.mem_cons_of_mem _ (List.mem_append_right _ h)) (by decide +kernel))
set_option maxRecDepth 20000 in
theorem gX3_backout_X2_isOpen : GoodIn wsX3_backout (wsV RX3 71 RX2 yX2_isOpen wsX2_isOpen) := goodIn_app (goodIn_of _ (by decide +kernel)) ggX3_backout_X2_isOpen
set_option maxRecDepth 20000 in
theorem ggX3_backout_X3_latestMissingOf : GoodIn wsX3_backout wsX3_latestMissingOf := goodIn_ca (goodIn_r _ [16, 2, 17, 18, 19, 20, 21, 22, 23, 24, 25, 26, 27, 28, 29, 30, 31, 32, 33, 34, 35, 36, 37, 38, 39, 40, 41, 42, 43, 44, 45, 46, 119, 120, 121, 122, 123, 124, 127, 128, 129, 130, 131, 132, 133, 134, 135] (by decide +kernel) (by decide +kernel)) (goodIn_sub (fun _ h => List.mem_cons_of_mem _ (List.mem_append_right _ h)) (by decide +kernel))
set_option maxRecDepth 20000 in
theorem gX3_backout_X3_latestMissingOf : GoodIn wsX3_backout (wsV RX3 131 RX3 yX3_latestMissingOf wsX3_latestMissingOf) := goodIn_app (goodIn_of _ (by decide +kernel)) ggX3_backout_X3_latestMissingOf
set_option maxRecDepth 20000 in
theorem ggX3_backout_X3_changesOf : GoodIn wsX3_backout wsX3_changesOf := goodIn_ca (goodIn_r _ [50, 2, 17, 18, 19, 20, 21, 22, 32, 33, 34, 35, 36, 37, 38, 39, 40, 41, 28, 29, 30, 31, 42, 43, 44, 45, 46, 119, 120, 121, 122, 123, 124, 127, 128, 129, 130, 131, 132, 133, 134, 135] (by decide +kernel) (by decide +kernel)) (goodIn_sub (fun _ h => List.mem_cons_of_mem _ (List.mem_append_right _ h)) (by decide +kernel))
set_option maxRecDepth 20000 in
theorem gX3_backout_X3_changesOf : GoodIn wsX3_backout (wsV RX3 134 RX3 yX3_changesOf wsX3_changesOf) := goodIn_app (goodIn_of _ (by decide +kernel)) ggX3_backout_X3_changesOf
set_option maxRecDepth 20000 in
theorem ggX3_backout_X1_hasRoomFor : GoodIn wsX3_backout wsX1_hasRoomFor := goodIn_r _ [54, 22, 127, 128, 129, 130, 131, 132, 133, 134, 135] (by decide +kernel) (by decide +kernel)
set_option maxRecDepth 20000 in
theorem gX3_backout_X1_hasRoomFor : GoodIn wsX3_backout (wsV RX3 64 RX1 yX1_hasRoomFor wsX1_hasRoomFor) := goodIn_app (goodIn_of _ (by decide +kernel)) ggX3_backout_X1_hasRoomFor
set_option maxRecDepth 20000 in
theorem ggX3_backout_X3_writeBackingOut : GoodIn wsX3_backout wsX3_writeBackingOut := goodIn_ca (goodIn_r _ [58, 2, 17, 18, 19, 20, 21, 22, 32, 33, 34, 35, 36, 37, 38, 39, 40, 41, 28, 29, 30, 31, 42, 43, 44, 45, 46, 59, 60, 61, 62, 63, 64, 65, 66, 67, 68, 69, 70, 71, 72, 73, 74, 75, 76, 5, 77, 1, 78, 79, 80, 81, 82, 83, 27, 84, 52, 53, 54, 85, 86, 87, 10, 88, 12, 89, 4, 6, 90, 91, 92, 93, 94, 95, 96, 97, 98, 99, 100, 101, 102, 103, 104, 105, 106, 107, 108, 109, 110, 111, 112, 113, 114, 115, 116, 117, 118, 119, 120, 121, 122, 123, 124, 127, 128, 129, 130, 131, 132, 133, 134, 135, 125, 126, 136, 137, 138, 139, 140, 141] (by decide +kernel) (by decide +kernel)) (goodIn_sub (fun _ h => List.mem_cons_of_mem _ (List.mem_append_right _ h)) (by decide +kernel))
set_option maxRecDepth 20000 in
theorem gX3_backout_X3_writeBackingOut : GoodIn wsX3_backout (wsV RX3 137 RX3 yX3_writeBackingOut wsX3_writeBackingOut) := goodIn_app (goodIn_of _ (by decide +kernel)) ggX3_backout_X3_writeBackingOut
theorem dX3_backout_0 : decode cX3_backout 0 = .ok (.iload_n 1, 1) := by decide +kernel
theorem dX3_backout_1 : decode cX3_backout 1 = .ok (.invokestatic 50, 3) := by decide +kernel
theorem dX3_backout_4 : decode cX3_backout 4 = .ok (.ifCond .ne 6, 3) := by decide +kernel
theorem dX3_backout_7 : decode cX3_backout 7 = .ok (.bipush (-4), 2) := by decide +kernel
theorem dX3_backout_9 : decode cX3_backout 9 = .ok (.ireturn, 1) := by decide +kernel
theorem dX3_backout_10 : decode cX3_backout 10 = .ok (.aload_n 0, 1) := by decide +kernel
theorem dX3_backout_11 : decode cX3_backout 11 = .ok (.getfield 23, 3) := by decide +kernel
theorem dX3_backout_14 : decode cX3_backout 14 = .ok (.iload_n 1, 1) := by decide +kernel
theorem dX3_backout_15 : decode cX3_backout 15 = .ok (.invokevirtual 71, 3) := by decide +kernel
theorem dX3_backout_18 : decode cX3_backout 18 = .ok (.ifCond .ne 5, 3) := by decide +kernel
theorem dX3_backout_21 : decode cX3_backout 21 = .ok (.iconst 0, 1) := by decide +kernel
theorem dX3_backout_22 : decode cX3_backout 22 = .ok (.ireturn, 1) := by decide +kernel
theorem dX3_backout_23 : decode cX3_backout 23 = .ok (.aload_n 0, 1) := by decide +kernel
theorem dX3_backout_24 : decode cX3_backout 24 = .ok (.iload_n 1, 1) := by decide +kernel
theorem dX3_backout_25 : decode cX3_backout 25 = .ok (.invokevirtual 131, 3) := by decide +kernel
theorem dX3_backout_28 : decode cX3_backout 28 = .ok (.istore_n 2, 1) := by decide +kernel
theorem dX3_backout_29 : decode cX3_backout 29 = .ok (.iload_n 2, 1) := by decide +kernel
theorem dX3_backout_30 : decode cX3_backout 30 = .ok (.ifCond .eq 8, 3) := by decide +kernel
theorem dX3_backout_33 : decode cX3_backout 33 = .ok (.bipush (-10), 2) := by decide +kernel
theorem dX3_backout_35 : decode cX3_backout 35 = .ok (.iload_n 2, 1) := by decide +kernel
theorem dX3_backout_36 : decode cX3_backout 36 = .ok (.isub, 1) := by decide +kernel
theorem dX3_backout_37 : decode cX3_backout 37 = .ok (.ireturn, 1) := by decide +kernel
theorem dX3_backout_38 : decode cX3_backout 38 = .ok (.aload_n 0, 1) := by decide +kernel
theorem dX3_backout_39 : decode cX3_backout 39 = .ok (.iload_n 1, 1) := by decide +kernel
theorem dX3_backout_40 : decode cX3_backout 40 = .ok (.invokevirtual 134, 3) := by decide +kernel
theorem dX3_backout_43 : decode cX3_backout 43 = .ok (.istore_n 3, 1) := by decide +kernel
theorem dX3_backout_44 : decode cX3_backout 44 = .ok (.aload_n 0, 1) := by decide +kernel
theorem dX3_backout_45 : decode cX3_backout 45 = .ok (.getfield 16, 3) := by decide +kernel
theorem dX3_backout_48 : decode cX3_backout 48 = .ok (.iload_n 3, 1) := by decide +kernel
theorem dX3_backout_49 : decode cX3_backout 49 = .ok (.iconst 1, 1) := by decide +kernel
theorem dX3_backout_50 : decode cX3_backout 50 = .ok (.iadd, 1) := by decide +kernel
theorem dX3_backout_51 : decode cX3_backout 51 = .ok (.invokevirtual 64, 3) := by decide +kernel
theorem dX3_backout_54 : decode cX3_backout 54 = .ok (.ifCond .ne 5, 3) := by decide +kernel
theorem dX3_backout_57 : decode cX3_backout 57 = .ok (.iconst (-1), 1) := by decide +kernel
theorem dX3_backout_58 : decode cX3_backout 58 = .ok (.ireturn, 1) := by decide +kernel
theorem dX3_backout_59 : decode cX3_backout 59 = .ok (.aload_n 0, 1) := by decide +kernel
theorem dX3_backout_60 : decode cX3_backout 60 = .ok (.iload_n 1, 1) := by decide +kernel
theorem dX3_backout_61 : decode cX3_backout 61 = .ok (.invokevirtual 137, 3) := by decide +kernel
theorem dX3_backout_64 : decode cX3_backout 64 = .ok (.iload_n 3, 1) := by decide +kernel
theorem dX3_backout_65 : decode cX3_backout 65 = .ok (.ireturn, 1) := by decide +kernel
set_option maxRecDepth 20000 in
theorem ggX3_torn_X1_has : GoodIn wsX3_torn wsX1_has := goodIn_r _ [6, 7, 25, 26, 27, 28, 29, 30, 31, 32, 33] (by decide +kernel) (by decide +kernel)
set_option maxRecDepth 20000 in
theorem gX3_torn_X1_has : GoodIn wsX3_torn (wsV RX3 140 RX1 yX1_has wsX1_has) := goodIn_app (goodIn_of _ (by decide +kernel)) ggX3_torn_X1_has
set_option maxRecDepth 20000 in
theorem ggX3_torn_X1_archived : GoodIn wsX3_torn wsX1_archived := goodIn_r _ [11, 12, 25, 26, 27, 28, 29, 30, 31, 32, 33] (by decide +kernel) (by decide +kernel)
set_option maxRecDepth 20000 in
theorem gX3_torn_X1_archived : GoodIn wsX3_torn (wsV RX3 143 RX1 yX1_archived wsX1_archived) := goodIn_app (goodIn_of _ (by decide +kernel)) ggX3_torn_X1_archived
set_option maxRecDepth 20000 in
theorem ggX3_torn_X1_tear : GoodIn wsX3_torn wsX1_tear := goodIn_ca (goodIn_r _ [16, 17, 18, 3, 4, 5, 6, 7, 25, 26, 27, 28, 29, 30, 31, 32, 33] (by decide +kernel) (by decide +kernel)) (goodIn_sub (fun _ h => List.mem_cons_of_mem _ (List.mem_append_right _ h)) (by decide +kernel))
set_option maxRecDepth 20000 in
theorem gX3_torn_X1_tear : GoodIn wsX3_torn (wsV RX3 146 RX1 yX1_tear wsX1_tear) := goodIn_app (goodIn_of _ (by decide +kernel)) ggX3_torn_X1_tear
theorem dX3_torn_0 : decode cX3_torn 0 = .ok (.iload_n 1, 1) := by decide +kernel
theorem dX3_torn_1 : decode cX3_torn 1 = .ok (.ifCond .lt 19, 3) := by decide +kernel
theorem dX3_torn_4 : decode cX3_torn 4 = .ok (.iload_n 1, 1) := by decide +kernel
theorem dX3_torn_5 : decode cX3_torn 5 = .ok (.iconst 1, 1) := by decide +kernel
theorem dX3_torn_6 : decode cX3_torn 6 = .ok (.if_icmp .gt 14, 3) := by decide +kernel
theorem dX3_torn_9 : decode cX3_torn 9 = .ok (.aload_n 0, 1) := by decide +kernel
theorem dX3_torn_10 : decode cX3_torn 10 = .ok (.getfield 16, 3) := by decide +kernel
theorem dX3_torn_13 : decode cX3_torn 13 = .ok (.iload_n 2, 1) := by decide +kernel
theorem dX3_torn_14 : decode cX3_torn 14 = .ok (.invokevirtual 140, 3) := by decide +kernel
theorem dX3_torn_17 : decode cX3_torn 17 = .ok (.ifCond .ne 6, 3) := by decide +kernel
theorem dX3_torn_20 : decode cX3_torn 20 = .ok (.bipush (-2), 2) := by decide +kernel
theorem dX3_torn_22 : decode cX3_torn 22 = .ok (.ireturn, 1) := by decide +kernel
theorem dX3_torn_23 : decode cX3_torn 23 = .ok (.iload_n 2, 1) := by decide +kernel
theorem dX3_torn_24 : decode cX3_torn 24 = .ok (.aload_n 0, 1) := by decide +kernel
theorem dX3_torn_25 : decode cX3_torn 25 = .ok (.getfield 16, 3) := by decide +kernel
theorem dX3_torn_28 : decode cX3_torn 28 = .ok (.invokevirtual 143, 3) := by decide +kernel
theorem dX3_torn_31 : decode cX3_torn 31 = .ok (.if_icmp .gt 6, 3) := by decide +kernel
theorem dX3_torn_34 : decode cX3_torn 34 = .ok (.bipush (-5), 2) := by decide +kernel
theorem dX3_torn_36 : decode cX3_torn 36 = .ok (.ireturn, 1) := by decide +kernel
theorem dX3_torn_37 : decode cX3_torn 37 = .ok (.aload_n 0, 1) := by decide +kernel
theorem dX3_torn_38 : decode cX3_torn 38 = .ok (.getfield 16, 3) := by decide +kernel
theorem dX3_torn_41 : decode cX3_torn 41 = .ok (.iload_n 1, 1) := by decide +kernel
theorem dX3_torn_42 : decode cX3_torn 42 = .ok (.iload_n 2, 1) := by decide +kernel
theorem dX3_torn_43 : decode cX3_torn 43 = .ok (.invokevirtual 146, 3) := by decide +kernel
theorem dX3_torn_46 : decode cX3_torn 46 = .ok (.ifCond .eq 7, 3) := by decide +kernel
theorem dX3_torn_49 : decode cX3_torn 49 = .ok (.iconst 1, 1) := by decide +kernel
theorem dX3_torn_50 : decode cX3_torn 50 = .ok (.goto 4, 3) := by decide +kernel
theorem dX3_torn_53 : decode cX3_torn 53 = .ok (.iconst 0, 1) := by decide +kernel
theorem dX3_torn_54 : decode cX3_torn 54 = .ok (.ireturn, 1) := by decide +kernel
set_option maxRecDepth 20000 in
theorem ggX3_archive_X1_latest : GoodIn wsX3_archive wsX1_latest := goodIn_r _ [6, 7, 27, 28, 29, 30, 31, 32, 33, 34, 35] (by decide +kernel) (by decide +kernel)
set_option maxRecDepth 20000 in
theorem gX3_archive_X1_latest : GoodIn wsX3_archive (wsV RX3 78 RX1 yX1_latest wsX1_latest) := goodIn_app (goodIn_of _ (by decide +kernel)) ggX3_archive_X1_latest
set_option maxRecDepth 20000 in
theorem ggX3_archive_X1_putAway : GoodIn wsX3_archive wsX1_putAway := goodIn_r _ [11, 12, 13, 14, 15, 16, 27, 28, 29, 30, 31, 32, 33, 34, 35] (by decide +kernel) (by decide +kernel)
set_option maxRecDepth 20000 in
theorem gX3_archive_X1_putAway : GoodIn wsX3_archive (wsV RX3 149 RX1 yX1_putAway wsX1_putAway) := goodIn_app (goodIn_of _ (by decide +kernel)) ggX3_archive_X1_putAway
set_option maxRecDepth 20000 in
theorem ggX3_archive_X1_archived : GoodIn wsX3_archive wsX1_archived := goodIn_r _ [20, 12, 27, 28, 29, 30, 31, 32, 33, 34, 35] (by decide +kernel) (by decide +kernel)
set_option maxRecDepth 20000 in
theorem gX3_archive_X1_archived : GoodIn wsX3_archive (wsV RX3 143 RX1 yX1_archived wsX1_archived) := goodIn_app (goodIn_of _ (by decide +kernel)) ggX3_archive_X1_archived
theorem dX3_archive_0 : decode cX3_archive 0 = .ok (.iload_n 1, 1) := by decide +kernel
theorem dX3_archive_1 : decode cX3_archive 1 = .ok (.ifCond .lt 14, 3) := by decide +kernel
theorem dX3_archive_4 : decode cX3_archive 4 = .ok (.iload_n 1, 1) := by decide +kernel
theorem dX3_archive_5 : decode cX3_archive 5 = .ok (.aload_n 0, 1) := by decide +kernel
theorem dX3_archive_6 : decode cX3_archive 6 = .ok (.getfield 16, 3) := by decide +kernel
theorem dX3_archive_9 : decode cX3_archive 9 = .ok (.invokevirtual 78, 3) := by decide +kernel
theorem dX3_archive_12 : decode cX3_archive 12 = .ok (.if_icmp .le 6, 3) := by decide +kernel
theorem dX3_archive_15 : decode cX3_archive 15 = .ok (.bipush (-4), 2) := by decide +kernel
theorem dX3_archive_17 : decode cX3_archive 17 = .ok (.ireturn, 1) := by decide +kernel
theorem dX3_archive_18 : decode cX3_archive 18 = .ok (.aload_n 0, 1) := by decide +kernel
theorem dX3_archive_19 : decode cX3_archive 19 = .ok (.getfield 16, 3) := by decide +kernel
theorem dX3_archive_22 : decode cX3_archive 22 = .ok (.iload_n 1, 1) := by decide +kernel
theorem dX3_archive_23 : decode cX3_archive 23 = .ok (.invokevirtual 149, 3) := by decide +kernel
theorem dX3_archive_26 : decode cX3_archive 26 = .ok (.aload_n 0, 1) := by decide +kernel
theorem dX3_archive_27 : decode cX3_archive 27 = .ok (.getfield 16, 3) := by decide +kernel
theorem dX3_archive_30 : decode cX3_archive 30 = .ok (.invokevirtual 143, 3) := by decide +kernel
theorem dX3_archive_33 : decode cX3_archive 33 = .ok (.ireturn, 1) := by decide +kernel
set_option maxRecDepth 20000 in
theorem ggX3_gap_X1_latest : GoodIn wsX3_gap wsX1_latest := goodIn_r _ [6, 7, 23, 24, 25, 26, 27, 28, 29, 30, 31] (by decide +kernel) (by decide +kernel)
set_option maxRecDepth 20000 in
theorem gX3_gap_X1_latest : GoodIn wsX3_gap (wsV RX3 78 RX1 yX1_latest wsX1_latest) := goodIn_app (goodIn_of _ (by decide +kernel)) ggX3_gap_X1_latest
set_option maxRecDepth 20000 in
theorem ggX3_gap_X1_isMissing : GoodIn wsX3_gap wsX1_isMissing := goodIn_ca (goodIn_r _ [11, 12, 13, 14, 15, 5, 16, 7, 23, 24, 25, 26, 27, 28, 29, 30, 31] (by decide +kernel) (by decide +kernel)) (goodIn_sub (fun _ h => List.mem_cons_of_mem _ (List.mem_append_right _ h)) (by decide +kernel))
set_option maxRecDepth 20000 in
theorem gX3_gap_X1_isMissing : GoodIn wsX3_gap (wsV RX3 152 RX1 yX1_isMissing wsX1_isMissing) := goodIn_app (goodIn_of _ (by decide +kernel)) ggX3_gap_X1_isMissing
theorem dX3_gap_0 : decode cX3_gap 0 = .ok (.iload_n 1, 1) := by decide +kernel
theorem dX3_gap_1 : decode cX3_gap 1 = .ok (.istore_n 2, 1) := by decide +kernel
theorem dX3_gap_2 : decode cX3_gap 2 = .ok (.iconst 1, 1) := by decide +kernel
theorem dX3_gap_3 : decode cX3_gap 3 = .ok (.istore_n 3, 1) := by decide +kernel
theorem dX3_gap_4 : decode cX3_gap 4 = .ok (.iload_n 3, 1) := by decide +kernel
theorem dX3_gap_5 : decode cX3_gap 5 = .ok (.aload_n 0, 1) := by decide +kernel
theorem dX3_gap_6 : decode cX3_gap 6 = .ok (.getfield 16, 3) := by decide +kernel
theorem dX3_gap_9 : decode cX3_gap 9 = .ok (.invokevirtual 78, 3) := by decide +kernel
theorem dX3_gap_12 : decode cX3_gap 12 = .ok (.if_icmp .gt 29, 3) := by decide +kernel
theorem dX3_gap_15 : decode cX3_gap 15 = .ok (.aload_n 0, 1) := by decide +kernel
theorem dX3_gap_16 : decode cX3_gap 16 = .ok (.getfield 16, 3) := by decide +kernel
theorem dX3_gap_19 : decode cX3_gap 19 = .ok (.iload_n 3, 1) := by decide +kernel
theorem dX3_gap_20 : decode cX3_gap 20 = .ok (.invokevirtual 152, 3) := by decide +kernel
theorem dX3_gap_23 : decode cX3_gap 23 = .ok (.ifCond .eq 12, 3) := by decide +kernel
theorem dX3_gap_26 : decode cX3_gap 26 = .ok (.iload_n 2, 1) := by decide +kernel
theorem dX3_gap_27 : decode cX3_gap 27 = .ok (.ifCond .ne 5, 3) := by decide +kernel
theorem dX3_gap_30 : decode cX3_gap 30 = .ok (.iload_n 3, 1) := by decide +kernel
theorem dX3_gap_31 : decode cX3_gap 31 = .ok (.ireturn, 1) := by decide +kernel
theorem dX3_gap_32 : decode cX3_gap 32 = .ok (.iinc 2 (-1), 3) := by decide +kernel
theorem dX3_gap_35 : decode cX3_gap 35 = .ok (.iinc 3 1, 3) := by decide +kernel
theorem dX3_gap_38 : decode cX3_gap 38 = .ok (.goto (-34), 3) := by decide +kernel
theorem dX3_gap_41 : decode cX3_gap 41 = .ok (.iconst 0, 1) := by decide +kernel
theorem dX3_gap_42 : decode cX3_gap 42 = .ok (.ireturn, 1) := by decide +kernel
set_option maxRecDepth 20000 in
theorem ggX3_merge_X1_latest : GoodIn wsX3_merge wsX1_latest := goodIn_r _ [7, 8, 24, 25, 26, 27, 28, 29, 30, 31, 32] (by decide +kernel) (by decide +kernel)
set_option maxRecDepth 20000 in
theorem gX3_merge_X1_latest : GoodIn wsX3_merge (wsV RX3 78 RX1 yX1_latest wsX1_latest) := goodIn_app (goodIn_of _ (by decide +kernel)) ggX3_merge_X1_latest
set_option maxRecDepth 20000 in
theorem ggX3_merge_X1_unitOf : GoodIn wsX3_merge wsX1_unitOf := goodIn_ca (goodIn_r _ [12, 13, 14, 15, 16, 6, 17, 8, 24, 25, 26, 27, 28, 29, 30, 31, 32] (by decide +kernel) (by decide +kernel)) (goodIn_sub (fun _ h => List.mem_cons_of_mem _ (List.mem_append_right _ h)) (by decide +kernel))
set_option maxRecDepth 20000 in
theorem gX3_merge_X1_unitOf : GoodIn wsX3_merge (wsV RX3 155 RX1 yX1_unitOf wsX1_unitOf) := goodIn_app (goodIn_of _ (by decide +kernel)) ggX3_merge_X1_unitOf
theorem dX3_merge_0 : decode cX3_merge 0 = .ok (.iload_n 2, 1) := by decide +kernel
theorem dX3_merge_1 : decode cX3_merge 1 = .ok (.istore_n 3, 1) := by decide +kernel
theorem dX3_merge_2 : decode cX3_merge 2 = .ok (.iconst 1, 1) := by decide +kernel
theorem dX3_merge_3 : decode cX3_merge 3 = .ok (.istore 4, 2) := by decide +kernel
theorem dX3_merge_5 : decode cX3_merge 5 = .ok (.iload 4, 2) := by decide +kernel
theorem dX3_merge_7 : decode cX3_merge 7 = .ok (.aload_n 0, 1) := by decide +kernel
theorem dX3_merge_8 : decode cX3_merge 8 = .ok (.getfield 16, 3) := by decide +kernel
theorem dX3_merge_11 : decode cX3_merge 11 = .ok (.invokevirtual 78, 3) := by decide +kernel
theorem dX3_merge_14 : decode cX3_merge 14 = .ok (.if_icmp .gt 37, 3) := by decide +kernel
theorem dX3_merge_17 : decode cX3_merge 17 = .ok (.aload_n 0, 1) := by decide +kernel
theorem dX3_merge_18 : decode cX3_merge 18 = .ok (.getfield 16, 3) := by decide +kernel
theorem dX3_merge_21 : decode cX3_merge 21 = .ok (.iload 4, 2) := by decide +kernel
theorem dX3_merge_23 : decode cX3_merge 23 = .ok (.invokevirtual 155, 3) := by decide +kernel
theorem dX3_merge_26 : decode cX3_merge 26 = .ok (.aload_n 0, 1) := by decide +kernel
theorem dX3_merge_27 : decode cX3_merge 27 = .ok (.getfield 46, 3) := by decide +kernel
theorem dX3_merge_30 : decode cX3_merge 30 = .ok (.irem, 1) := by decide +kernel
theorem dX3_merge_31 : decode cX3_merge 31 = .ok (.iload_n 1, 1) := by decide +kernel
theorem dX3_merge_32 : decode cX3_merge 32 = .ok (.if_icmp .ne 13, 3) := by decide +kernel
theorem dX3_merge_35 : decode cX3_merge 35 = .ok (.iload_n 3, 1) := by decide +kernel
theorem dX3_merge_36 : decode cX3_merge 36 = .ok (.ifCond .ne 6, 3) := by decide +kernel
theorem dX3_merge_39 : decode cX3_merge 39 = .ok (.iload 4, 2) := by decide +kernel
theorem dX3_merge_41 : decode cX3_merge 41 = .ok (.ireturn, 1) := by decide +kernel
theorem dX3_merge_42 : decode cX3_merge 42 = .ok (.iinc 3 (-1), 3) := by decide +kernel
theorem dX3_merge_45 : decode cX3_merge 45 = .ok (.iinc 4 1, 3) := by decide +kernel
theorem dX3_merge_48 : decode cX3_merge 48 = .ok (.goto (-43), 3) := by decide +kernel
theorem dX3_merge_51 : decode cX3_merge 51 = .ok (.iconst 0, 1) := by decide +kernel
theorem dX3_merge_52 : decode cX3_merge 52 = .ok (.ireturn, 1) := by decide +kernel
set_option maxRecDepth 20000 in
theorem ggX3_at_X1_has : GoodIn wsX3_at wsX1_has := goodIn_r _ [9, 10, 35, 36, 37, 38, 39, 40, 41, 42, 43] (by decide +kernel) (by decide +kernel)
set_option maxRecDepth 20000 in
theorem gX3_at_X1_has : GoodIn wsX3_at (wsV RX3 140 RX1 yX1_has wsX1_has) := goodIn_app (goodIn_of _ (by decide +kernel)) ggX3_at_X1_has
set_option maxRecDepth 20000 in
theorem ggX3_at_X1_tell : GoodIn wsX3_at wsX1_tell := goodIn_ca (goodIn_r _ [14, 15, 16, 17, 18, 19, 20, 21, 22, 6, 7, 8, 9, 10, 35, 36, 37, 38, 39, 40, 41, 42, 43] (by decide +kernel) (by decide +kernel)) (goodIn_sub (fun _ h => List.mem_cons_of_mem _ (List.mem_append_right _ h)) (by decide +kernel))
set_option maxRecDepth 20000 in
theorem gX3_at_X1_tell : GoodIn wsX3_at (wsV RX3 163 RX1 yX1_tell wsX1_tell) := goodIn_app (goodIn_of _ (by decide +kernel)) ggX3_at_X1_tell
theorem dX3_at_0 : decode cX3_at 0 = .ok (.aload_n 0, 1) := by decide +kernel
theorem dX3_at_1 : decode cX3_at 1 = .ok (.getfield 16, 3) := by decide +kernel
theorem dX3_at_4 : decode cX3_at 4 = .ok (.iload_n 1, 1) := by decide +kernel
theorem dX3_at_5 : decode cX3_at 5 = .ok (.invokevirtual 140, 3) := by decide +kernel
theorem dX3_at_8 : decode cX3_at 8 = .ok (.ifCond .eq 13, 3) := by decide +kernel
theorem dX3_at_11 : decode cX3_at 11 = .ok (.iload_n 2, 1) := by decide +kernel
theorem dX3_at_12 : decode cX3_at 12 = .ok (.ifCond .lt 9, 3) := by decide +kernel
theorem dX3_at_15 : decode cX3_at 15 = .ok (.iload_n 2, 1) := by decide +kernel
theorem dX3_at_16 : decode cX3_at 16 = .ok (.bipush 6, 2) := by decide +kernel
theorem dX3_at_18 : decode cX3_at 18 = .ok (.if_icmp .le 13, 3) := by decide +kernel
theorem dX3_at_21 : decode cX3_at 21 = .ok (.new 158, 3) := by decide +kernel
theorem dX3_at_24 : decode cX3_at 24 = .ok (.dup, 1) := by decide +kernel
theorem dX3_at_25 : decode cX3_at 25 = .ok (.ldc 160, 2) := by decide +kernel
theorem dX3_at_27 : decode cX3_at 27 = .ok (.invokespecial 162, 3) := by decide +kernel
theorem dX3_at_30 : decode cX3_at 30 = .ok (.athrow, 1) := by decide +kernel
theorem dX3_at_31 : decode cX3_at 31 = .ok (.aload_n 0, 1) := by decide +kernel
theorem dX3_at_32 : decode cX3_at 32 = .ok (.getfield 16, 3) := by decide +kernel
theorem dX3_at_35 : decode cX3_at 35 = .ok (.iload_n 1, 1) := by decide +kernel
theorem dX3_at_36 : decode cX3_at 36 = .ok (.iload_n 2, 1) := by decide +kernel
theorem dX3_at_37 : decode cX3_at 37 = .ok (.invokevirtual 163, 3) := by decide +kernel
theorem dX3_at_40 : decode cX3_at 40 = .ok (.ireturn, 1) := by decide +kernel
set_option maxRecDepth 20000 in
theorem ggX3_warm_X2_howManyOpen : GoodIn wsX3_warm wsX2_howManyOpen := goodIn_ca (goodIn_r _ [6, 7, 8, 9, 5, 10, 11, 18, 19] (by decide +kernel) (by decide +kernel)) (goodIn_sub (fun _ h => List.mem_cons_of_mem _ (List.mem_append_right _ h)) (by decide +kernel))
set_option maxRecDepth 20000 in
theorem gX3_warm_X2_howManyOpen : GoodIn wsX3_warm (wsV RX3 166 RX2 yX2_howManyOpen wsX2_howManyOpen) := goodIn_app (goodIn_of _ (by decide +kernel)) ggX3_warm_X2_howManyOpen
theorem dX3_warm_0 : decode cX3_warm 0 = .ok (.aload_n 0, 1) := by decide +kernel
theorem dX3_warm_1 : decode cX3_warm 1 = .ok (.getfield 23, 3) := by decide +kernel
theorem dX3_warm_4 : decode cX3_warm 4 = .ok (.invokevirtual 166, 3) := by decide +kernel
theorem dX3_warm_7 : decode cX3_warm 7 = .ok (.ireturn, 1) := by decide +kernel
set_option maxRecDepth 20000 in
theorem ggX3_ahead_X3_gap : GoodIn wsX3_ahead wsX3_gap := goodIn_ca (goodIn_r _ [5, 6, 7, 8, 9, 10, 11, 12, 13, 14, 15, 16, 17, 18, 19, 20, 21, 22, 23, 24, 25, 26, 27, 28, 29, 30, 31, 32, 33, 34, 35, 36] (by decide +kernel) (by decide +kernel)) (goodIn_sub (fun _ h => List.mem_cons_of_mem _ (List.mem_append_right _ h)) (by decide +kernel))
set_option maxRecDepth 20000 in
theorem gX3_ahead_X3_gap : GoodIn wsX3_ahead (wsV RX3 169 RX3 yX3_gap wsX3_gap) := goodIn_app (goodIn_of _ (by decide +kernel)) ggX3_ahead_X3_gap
theorem dX3_ahead_0 : decode cX3_ahead 0 = .ok (.aload_n 0, 1) := by decide +kernel
theorem dX3_ahead_1 : decode cX3_ahead 1 = .ok (.iconst 0, 1) := by decide +kernel
theorem dX3_ahead_2 : decode cX3_ahead 2 = .ok (.invokevirtual 169, 3) := by decide +kernel
theorem dX3_ahead_5 : decode cX3_ahead 5 = .ok (.ifCond .ne 7, 3) := by decide +kernel
theorem dX3_ahead_8 : decode cX3_ahead 8 = .ok (.iconst 1, 1) := by decide +kernel
theorem dX3_ahead_9 : decode cX3_ahead 9 = .ok (.goto 4, 3) := by decide +kernel
theorem dX3_ahead_12 : decode cX3_ahead 12 = .ok (.iconst 0, 1) := by decide +kernel
theorem dX3_ahead_13 : decode cX3_ahead 13 = .ok (.ireturn, 1) := by decide +kernel
set_option maxRecDepth 20000 in
theorem ggX3_count_X1_latest : GoodIn wsX3_count wsX1_latest := goodIn_r _ [8, 9, 33, 34, 35, 36, 37, 38, 39, 40, 41] (by decide +kernel) (by decide +kernel)
set_option maxRecDepth 20000 in
theorem gX3_count_X1_latest : GoodIn wsX3_count (wsV RX3 78 RX1 yX1_latest wsX1_latest) := goodIn_app (goodIn_of _ (by decide +kernel)) ggX3_count_X1_latest
set_option maxRecDepth 20000 in
theorem ggX3_count_X0_howMany : GoodIn wsX3_count wsX0_howMany := goodIn_r _ [14, 15, 42, 43, 44, 45, 46, 47] (by decide +kernel) (by decide +kernel)
set_option maxRecDepth 20000 in
theorem gX3_count_X0_howMany : GoodIn wsX3_count (wsV RX3 172 RX0 yX0_howMany wsX0_howMany) := goodIn_app (goodIn_of _ (by decide +kernel)) ggX3_count_X0_howMany
set_option maxRecDepth 20000 in
theorem ggX3_count_X1_archived : GoodIn wsX3_count wsX1_archived := goodIn_r _ [19, 20, 33, 34, 35, 36, 37, 38, 39, 40, 41] (by decide +kernel) (by decide +kernel)
set_option maxRecDepth 20000 in
theorem gX3_count_X1_archived : GoodIn wsX3_count (wsV RX3 143 RX1 yX1_archived wsX1_archived) := goodIn_app (goodIn_of _ (by decide +kernel)) ggX3_count_X1_archived
set_option maxRecDepth 20000 in
theorem ggX3_count_X2_howManyEndedBy : GoodIn wsX3_count wsX2_howManyEndedBy := goodIn_ca (goodIn_r _ [25, 26, 48, 49] (by decide +kernel) (by decide +kernel)) (goodIn_sub (fun _ h => List.mem_cons_of_mem _ (List.mem_append_right _ h)) (by decide +kernel))
set_option maxRecDepth 20000 in
theorem gX3_count_X2_howManyEndedBy : GoodIn wsX3_count (wsV RX3 121 RX2 yX2_howManyEndedBy wsX2_howManyEndedBy) := goodIn_app (goodIn_of _ (by decide +kernel)) ggX3_count_X2_howManyEndedBy
theorem dX3_count_0 : decode cX3_count 0 = .ok (.iload_n 1, 1) := by decide +kernel
theorem dX3_count_1 : decode cX3_count 1 = .ok (.tableswitch 64 0 3 #[31, 39, 47, 55], 31) := by decide +kernel
theorem dX3_count_32 : decode cX3_count 32 = .ok (.aload_n 0, 1) := by decide +kernel
theorem dX3_count_33 : decode cX3_count 33 = .ok (.getfield 16, 3) := by decide +kernel
theorem dX3_count_36 : decode cX3_count 36 = .ok (.invokevirtual 78, 3) := by decide +kernel
theorem dX3_count_39 : decode cX3_count 39 = .ok (.ireturn, 1) := by decide +kernel
theorem dX3_count_40 : decode cX3_count 40 = .ok (.aload_n 0, 1) := by decide +kernel
theorem dX3_count_41 : decode cX3_count 41 = .ok (.getfield 33, 3) := by decide +kernel
theorem dX3_count_44 : decode cX3_count 44 = .ok (.invokevirtual 172, 3) := by decide +kernel
theorem dX3_count_47 : decode cX3_count 47 = .ok (.ireturn, 1) := by decide +kernel
theorem dX3_count_48 : decode cX3_count 48 = .ok (.aload_n 0, 1) := by decide +kernel
theorem dX3_count_49 : decode cX3_count 49 = .ok (.getfield 16, 3) := by decide +kernel
theorem dX3_count_52 : decode cX3_count 52 = .ok (.invokevirtual 143, 3) := by decide +kernel
theorem dX3_count_55 : decode cX3_count 55 = .ok (.ireturn, 1) := by decide +kernel
theorem dX3_count_56 : decode cX3_count 56 = .ok (.aload_n 0, 1) := by decide +kernel
theorem dX3_count_57 : decode cX3_count 57 = .ok (.getfield 23, 3) := by decide +kernel
theorem dX3_count_60 : decode cX3_count 60 = .ok (.iconst 1, 1) := by decide +kernel
theorem dX3_count_61 : decode cX3_count 61 = .ok (.invokevirtual 121, 3) := by decide +kernel
theorem dX3_count_64 : decode cX3_count 64 = .ok (.ireturn, 1) := by decide +kernel
theorem dX3_count_65 : decode cX3_count 65 = .ok (.iconst (-1), 1) := by decide +kernel
theorem dX3_count_66 : decode cX3_count 66 = .ok (.ireturn, 1) := by decide +kernel
theorem dX3_isUnit_0 : decode cX3_isUnit 0 = .ok (.iload_n 0, 1) := by decide +kernel
theorem dX3_isUnit_1 : decode cX3_isUnit 1 = .ok (.iconst 1, 1) := by decide +kernel
theorem dX3_isUnit_2 : decode cX3_isUnit 2 = .ok (.if_icmp .lt 13, 3) := by decide +kernel
theorem dX3_isUnit_5 : decode cX3_isUnit 5 = .ok (.iload_n 0, 1) := by decide +kernel
theorem dX3_isUnit_6 : decode cX3_isUnit 6 = .ok (.bipush 60, 2) := by decide +kernel
theorem dX3_isUnit_8 : decode cX3_isUnit 8 = .ok (.if_icmp .gt 7, 3) := by decide +kernel
theorem dX3_isUnit_11 : decode cX3_isUnit 11 = .ok (.iconst 1, 1) := by decide +kernel
theorem dX3_isUnit_12 : decode cX3_isUnit 12 = .ok (.goto 4, 3) := by decide +kernel
theorem dX3_isUnit_15 : decode cX3_isUnit 15 = .ok (.iconst 0, 1) := by decide +kernel
theorem dX3_isUnit_16 : decode cX3_isUnit 16 = .ok (.ireturn, 1) := by decide +kernel
theorem dX3_isCell_0 : decode cX3_isCell 0 = .ok (.iload_n 0, 1) := by decide +kernel
theorem dX3_isCell_1 : decode cX3_isCell 1 = .ok (.ifCond .lt 13, 3) := by decide +kernel
theorem dX3_isCell_4 : decode cX3_isCell 4 = .ok (.iload_n 0, 1) := by decide +kernel
theorem dX3_isCell_5 : decode cX3_isCell 5 = .ok (.bipush 32, 2) := by decide +kernel
theorem dX3_isCell_7 : decode cX3_isCell 7 = .ok (.if_icmp .ge 7, 3) := by decide +kernel
theorem dX3_isCell_10 : decode cX3_isCell 10 = .ok (.iconst 1, 1) := by decide +kernel
theorem dX3_isCell_11 : decode cX3_isCell 11 = .ok (.goto 4, 3) := by decide +kernel
theorem dX3_isCell_14 : decode cX3_isCell 14 = .ok (.iconst 0, 1) := by decide +kernel
theorem dX3_isCell_15 : decode cX3_isCell 15 = .ok (.ireturn, 1) := by decide +kernel
set_option maxRecDepth 20000 in
theorem ggX3_writeChange_X1_write : GoodIn wsX3_writeChange wsX1_write := goodIn_ca (goodIn_r _ [9, 10, 11, 12, 13, 14, 15, 16, 17, 18, 19, 20, 8, 21, 63, 64, 65, 66, 67, 68, 69, 70, 71] (by decide +kernel) (by decide +kernel)) (goodIn_sub (fun _ h => List.mem_cons_of_mem _ (List.mem_append_right _ h)) (by decide +kernel))
set_option maxRecDepth 20000 in
theorem gX3_writeChange_X1_write : GoodIn wsX3_writeChange (wsV RX3 175 RX1 yX1_write wsX1_write) := goodIn_app (goodIn_of _ (by decide +kernel)) ggX3_writeChange_X1_write
set_option maxRecDepth 20000 in
theorem ggX3_writeChange_X2_follow : GoodIn wsX3_writeChange wsX2_follow := goodIn_ca (goodIn_r _ [26, 27, 28, 29, 30, 31, 32, 33, 72, 73] (by decide +kernel) (by decide +kernel)) (goodIn_sub (fun _ h => List.mem_cons_of_mem _ (List.mem_append_right _ h)) (by decide +kernel))
set_option maxRecDepth 20000 in
theorem gX3_writeChange_X2_follow : GoodIn wsX3_writeChange (wsV RX3 179 RX2 yX2_follow wsX2_follow) := goodIn_app (goodIn_of _ (by decide +kernel)) ggX3_writeChange_X2_follow
set_option maxRecDepth 20000 in
theorem ggX3_writeChange_X3_setCell : GoodIn wsX3_writeChange wsX3_setCell := goodIn_ca (goodIn_r _ [37, 4, 38, 32, 30, 33, 57, 58, 59, 60, 61, 62] (by decide +kernel) (by decide +kernel)) (goodIn_sub (fun _ h => List.mem_cons_of_mem _ (List.mem_append_right _ h)) (by decide +kernel))
set_option maxRecDepth 20000 in
theorem gX3_writeChange_X3_setCell : GoodIn wsX3_writeChange (wsV RX3 183 RX3 yX3_setCell wsX3_setCell) := goodIn_app (goodIn_of _ (by decide +kernel)) ggX3_writeChange_X3_setCell
set_option maxRecDepth 20000 in
theorem ggX3_writeChange_X0_finishBehindFifth : GoodIn wsX3_writeChange wsX0_finishBehindFifth := goodIn_ca (goodIn_r _ [43, 44, 45, 46, 47, 48, 42, 49, 50, 51, 52, 53, 54, 55, 56, 74, 75, 76, 77, 78, 79] (by decide +kernel) (by decide +kernel)) (goodIn_sub (fun _ h => List.mem_cons_of_mem _ (List.mem_append_right _ h)) (by decide +kernel))
set_option maxRecDepth 20000 in
theorem gX3_writeChange_X0_finishBehindFifth : GoodIn wsX3_writeChange (wsV RX3 187 RX0 yX0_finishBehindFifth wsX0_finishBehindFifth) := goodIn_app (goodIn_of _ (by decide +kernel)) ggX3_writeChange_X0_finishBehindFifth
theorem dX3_writeChange_0 : decode cX3_writeChange 0 = .ok (.aload_n 0, 1) := by decide +kernel
theorem dX3_writeChange_1 : decode cX3_writeChange 1 = .ok (.getfield 16, 3) := by decide +kernel
theorem dX3_writeChange_4 : decode cX3_writeChange 4 = .ok (.iconst 0, 1) := by decide +kernel
theorem dX3_writeChange_5 : decode cX3_writeChange 5 = .ok (.iload_n 1, 1) := by decide +kernel
theorem dX3_writeChange_6 : decode cX3_writeChange 6 = .ok (.iload_n 2, 1) := by decide +kernel
theorem dX3_writeChange_7 : decode cX3_writeChange 7 = .ok (.lload_n 3, 1) := by decide +kernel
theorem dX3_writeChange_8 : decode cX3_writeChange 8 = .ok (.lload 5, 2) := by decide +kernel
theorem dX3_writeChange_10 : decode cX3_writeChange 10 = .ok (.iload 7, 2) := by decide +kernel
theorem dX3_writeChange_12 : decode cX3_writeChange 12 = .ok (.invokevirtual 175, 3) := by decide +kernel
theorem dX3_writeChange_15 : decode cX3_writeChange 15 = .ok (.istore 8, 2) := by decide +kernel
theorem dX3_writeChange_17 : decode cX3_writeChange 17 = .ok (.aload_n 0, 1) := by decide +kernel
theorem dX3_writeChange_18 : decode cX3_writeChange 18 = .ok (.getfield 23, 3) := by decide +kernel
theorem dX3_writeChange_21 : decode cX3_writeChange 21 = .ok (.iconst 0, 1) := by decide +kernel
theorem dX3_writeChange_22 : decode cX3_writeChange 22 = .ok (.iload_n 1, 1) := by decide +kernel
theorem dX3_writeChange_23 : decode cX3_writeChange 23 = .ok (.iload_n 2, 1) := by decide +kernel
theorem dX3_writeChange_24 : decode cX3_writeChange 24 = .ok (.invokevirtual 179, 3) := by decide +kernel
theorem dX3_writeChange_27 : decode cX3_writeChange 27 = .ok (.aload_n 0, 1) := by decide +kernel
theorem dX3_writeChange_28 : decode cX3_writeChange 28 = .ok (.iload_n 2, 1) := by decide +kernel
theorem dX3_writeChange_29 : decode cX3_writeChange 29 = .ok (.lload 5, 2) := by decide +kernel
theorem dX3_writeChange_31 : decode cX3_writeChange 31 = .ok (.invokevirtual 183, 3) := by decide +kernel
theorem dX3_writeChange_34 : decode cX3_writeChange 34 = .ok (.aload_n 0, 1) := by decide +kernel
theorem dX3_writeChange_35 : decode cX3_writeChange 35 = .ok (.getfield 33, 3) := by decide +kernel
theorem dX3_writeChange_38 : decode cX3_writeChange 38 = .ok (.iload 8, 2) := by decide +kernel
theorem dX3_writeChange_40 : decode cX3_writeChange 40 = .ok (.aload_n 0, 1) := by decide +kernel
theorem dX3_writeChange_41 : decode cX3_writeChange 41 = .ok (.getfield 9, 3) := by decide +kernel
theorem dX3_writeChange_44 : decode cX3_writeChange 44 = .ok (.invokevirtual 187, 3) := by decide +kernel
theorem dX3_writeChange_47 : decode cX3_writeChange 47 = .ok (.iload 8, 2) := by decide +kernel
theorem dX3_writeChange_49 : decode cX3_writeChange 49 = .ok (.ireturn, 1) := by decide +kernel
set_option maxRecDepth 20000 in
theorem ggX3_writeLastOf_X1_write : GoodIn wsX3_writeLastOf wsX1_write := goodIn_ca (goodIn_r _ [9, 10, 11, 12, 13, 14, 15, 16, 17, 18, 19, 20, 8, 21, 58, 59, 60, 61, 62, 63, 64, 65, 66] (by decide +kernel) (by decide +kernel)) (goodIn_sub (fun _ h => List.mem_cons_of_mem _ (List.mem_append_right _ h)) (by decide +kernel))
set_option maxRecDepth 20000 in
theorem gX3_writeLastOf_X1_write : GoodIn wsX3_writeLastOf (wsV RX3 175 RX1 yX1_write wsX1_write) := goodIn_app (goodIn_of _ (by decide +kernel)) ggX3_writeLastOf_X1_write
set_option maxRecDepth 20000 in
theorem ggX3_writeLastOf_X2_follow : GoodIn wsX3_writeLastOf wsX2_follow := goodIn_ca (goodIn_r _ [26, 27, 28, 29, 30, 31, 32, 33, 67, 68] (by decide +kernel) (by decide +kernel)) (goodIn_sub (fun _ h => List.mem_cons_of_mem _ (List.mem_append_right _ h)) (by decide +kernel))
set_option maxRecDepth 20000 in
theorem gX3_writeLastOf_X2_follow : GoodIn wsX3_writeLastOf (wsV RX3 179 RX2 yX2_follow wsX2_follow) := goodIn_app (goodIn_of _ (by decide +kernel)) ggX3_writeLastOf_X2_follow
set_option maxRecDepth 20000 in
theorem ggX3_writeLastOf_X0_finishBehindFifth : GoodIn wsX3_writeLastOf wsX0_finishBehindFifth := goodIn_ca (goodIn_r _ [38, 39, 40, 41, 42, 43, 37, 44, 45, 46, 47, 48, 49, 50, 51, 69, 70, 71, 72, 73, 74] (by decide +kernel) (by decide +kernel)) (goodIn_sub (fun _ h => List.mem_cons_of_mem _ (List.mem_append_right _ h)) (by decide +kernel))
set_option maxRecDepth 20000 in
theorem gX3_writeLastOf_X0_finishBehindFifth : GoodIn wsX3_writeLastOf (wsV RX3 187 RX0 yX0_finishBehindFifth wsX0_finishBehindFifth) := goodIn_app (goodIn_of _ (by decide +kernel)) ggX3_writeLastOf_X0_finishBehindFifth
theorem dX3_writeLastOf_0 : decode cX3_writeLastOf 0 = .ok (.aload_n 0, 1) := by decide +kernel
theorem dX3_writeLastOf_1 : decode cX3_writeLastOf 1 = .ok (.getfield 16, 3) := by decide +kernel
theorem dX3_writeLastOf_4 : decode cX3_writeLastOf 4 = .ok (.iload_n 2, 1) := by decide +kernel
theorem dX3_writeLastOf_5 : decode cX3_writeLastOf 5 = .ok (.iload_n 1, 1) := by decide +kernel
theorem dX3_writeLastOf_6 : decode cX3_writeLastOf 6 = .ok (.iconst (-1), 1) := by decide +kernel
theorem dX3_writeLastOf_7 : decode cX3_writeLastOf 7 = .ok (.lconst 0, 1) := by decide +kernel
theorem dX3_writeLastOf_8 : decode cX3_writeLastOf 8 = .ok (.lconst 0, 1) := by decide +kernel
theorem dX3_writeLastOf_9 : decode cX3_writeLastOf 9 = .ok (.iload_n 3, 1) := by decide +kernel
theorem dX3_writeLastOf_10 : decode cX3_writeLastOf 10 = .ok (.invokevirtual 175, 3) := by decide +kernel
theorem dX3_writeLastOf_13 : decode cX3_writeLastOf 13 = .ok (.istore 4, 2) := by decide +kernel
theorem dX3_writeLastOf_15 : decode cX3_writeLastOf 15 = .ok (.aload_n 0, 1) := by decide +kernel
theorem dX3_writeLastOf_16 : decode cX3_writeLastOf 16 = .ok (.getfield 23, 3) := by decide +kernel
theorem dX3_writeLastOf_19 : decode cX3_writeLastOf 19 = .ok (.iload_n 2, 1) := by decide +kernel
theorem dX3_writeLastOf_20 : decode cX3_writeLastOf 20 = .ok (.iload_n 1, 1) := by decide +kernel
theorem dX3_writeLastOf_21 : decode cX3_writeLastOf 21 = .ok (.iconst (-1), 1) := by decide +kernel
theorem dX3_writeLastOf_22 : decode cX3_writeLastOf 22 = .ok (.invokevirtual 179, 3) := by decide +kernel
theorem dX3_writeLastOf_25 : decode cX3_writeLastOf 25 = .ok (.aload_n 0, 1) := by decide +kernel
theorem dX3_writeLastOf_26 : decode cX3_writeLastOf 26 = .ok (.getfield 33, 3) := by decide +kernel
theorem dX3_writeLastOf_29 : decode cX3_writeLastOf 29 = .ok (.iload 4, 2) := by decide +kernel
theorem dX3_writeLastOf_31 : decode cX3_writeLastOf 31 = .ok (.aload_n 0, 1) := by decide +kernel
theorem dX3_writeLastOf_32 : decode cX3_writeLastOf 32 = .ok (.getfield 9, 3) := by decide +kernel
theorem dX3_writeLastOf_35 : decode cX3_writeLastOf 35 = .ok (.invokevirtual 187, 3) := by decide +kernel
theorem dX3_writeLastOf_38 : decode cX3_writeLastOf 38 = .ok (.iload 4, 2) := by decide +kernel
theorem dX3_writeLastOf_40 : decode cX3_writeLastOf 40 = .ok (.ireturn, 1) := by decide +kernel
set_option maxRecDepth 20000 in
theorem ggX3_setCell_X3_isCell : GoodIn wsX3_setCell wsX3_isCell := goodIn_r _ [5] (by decide +kernel) (by decide +kernel)
set_option maxRecDepth 20000 in
theorem gX3_setCell_X3_isCell : GoodIn wsX3_setCell (va_wsS RX3 54 yX3_isCell wsX3_isCell) := goodIn_app (goodIn_of _ (by decide +kernel)) ggX3_setCell_X3_isCell
theorem dX3_setCell_0 : decode cX3_setCell 0 = .ok (.iload_n 1, 1) := by decide +kernel
theorem dX3_setCell_1 : decode cX3_setCell 1 = .ok (.invokestatic 54, 3) := by decide +kernel
theorem dX3_setCell_4 : decode cX3_setCell 4 = .ok (.ifCond .eq 10, 3) := by decide +kernel
theorem dX3_setCell_7 : decode cX3_setCell 7 = .ok (.aload_n 0, 1) := by decide +kernel
theorem dX3_setCell_8 : decode cX3_setCell 8 = .ok (.getfield 9, 3) := by decide +kernel
theorem dX3_setCell_11 : decode cX3_setCell 11 = .ok (.iload_n 1, 1) := by decide +kernel
theorem dX3_setCell_12 : decode cX3_setCell 12 = .ok (.lload_n 2, 1) := by decide +kernel
theorem dX3_setCell_13 : decode cX3_setCell 13 = .ok (.lastore, 1) := by decide +kernel
theorem dX3_setCell_14 : decode cX3_setCell 14 = .ok (.return_, 1) := by decide +kernel
set_option maxRecDepth 20000 in
theorem ggX3_writeBackingOut_X1_latest : GoodIn wsX3_writeBackingOut wsX1_latest := goodIn_r _ [6, 7, 103, 104, 105, 106, 107, 108, 109, 110, 111] (by decide +kernel) (by decide +kernel)
set_option maxRecDepth 20000 in
theorem gX3_writeBackingOut_X1_latest : GoodIn wsX3_writeBackingOut (wsV RX3 78 RX1 yX1_latest wsX1_latest) := goodIn_app (goodIn_of _ (by decide +kernel)) ggX3_writeBackingOut_X1_latest
set_option maxRecDepth 20000 in
theorem ggX3_writeBackingOut_X1_isBackable : GoodIn wsX3_writeBackingOut wsX1_isBackable := goodIn_ca (goodIn_r _ [11, 12, 13, 14, 15, 5, 16, 17, 18, 19, 20, 21, 7, 103, 104, 105, 106, 107, 108, 109, 110, 111] (by decide +kernel) (by decide +kernel)) (goodIn_sub (fun _ h => List.mem_cons_of_mem _ (List.mem_append_right _ h)) (by decide +kernel))
set_option maxRecDepth 20000 in
theorem gX3_writeBackingOut_X1_isBackable : GoodIn wsX3_writeBackingOut (wsV RX3 190 RX1 yX1_isBackable wsX1_isBackable) := goodIn_app (goodIn_of _ (by decide +kernel)) ggX3_writeBackingOut_X1_isBackable
set_option maxRecDepth 20000 in
theorem ggX3_writeBackingOut_X1_unitOf : GoodIn wsX3_writeBackingOut wsX1_unitOf := goodIn_ca (goodIn_r _ [25, 26, 18, 19, 20, 5, 21, 7, 103, 104, 105, 106, 107, 108, 109, 110, 111] (by decide +kernel) (by decide +kernel)) (goodIn_sub (fun _ h => List.mem_cons_of_mem _ (List.mem_append_right _ h)) (by decide +kernel))
set_option maxRecDepth 20000 in
theorem gX3_writeBackingOut_X1_unitOf : GoodIn wsX3_writeBackingOut (wsV RX3 155 RX1 yX1_unitOf wsX1_unitOf) := goodIn_app (goodIn_of _ (by decide +kernel)) ggX3_writeBackingOut_X1_unitOf
set_option maxRecDepth 20000 in
theorem ggX3_writeBackingOut_X1_cellOf : GoodIn wsX3_writeBackingOut wsX1_cellOf := goodIn_ca (goodIn_r _ [30, 31, 18, 19, 20, 5, 21, 7, 103, 104, 105, 106, 107, 108, 109, 110, 111] (by decide +kernel) (by decide +kernel)) (goodIn_sub (fun _ h => List.mem_cons_of_mem _ (List.mem_append_right _ h)) (by decide +kernel))
set_option maxRecDepth 20000 in
theorem gX3_writeBackingOut_X1_cellOf : GoodIn wsX3_writeBackingOut (wsV RX3 193 RX1 yX1_cellOf wsX1_cellOf) := goodIn_app (goodIn_of _ (by decide +kernel)) ggX3_writeBackingOut_X1_cellOf
set_option maxRecDepth 20000 in
theorem ggX3_writeBackingOut_X1_afterOf : GoodIn wsX3_writeBackingOut wsX1_afterOf := goodIn_ca (goodIn_r _ [35, 36, 18, 19, 20, 5, 21, 7, 103, 104, 105, 106, 107, 108, 109, 110, 111] (by decide +kernel) (by decide +kernel)) (goodIn_sub (fun _ h => List.mem_cons_of_mem _ (List.mem_append_right _ h)) (by decide +kernel))
set_option maxRecDepth 20000 in
theorem gX3_writeBackingOut_X1_afterOf : GoodIn wsX3_writeBackingOut (wsV RX3 196 RX1 yX1_afterOf wsX1_afterOf) := goodIn_app (goodIn_of _ (by decide +kernel)) ggX3_writeBackingOut_X1_afterOf
set_option maxRecDepth 20000 in
theorem ggX3_writeBackingOut_X1_beforeOf : GoodIn wsX3_writeBackingOut wsX1_beforeOf := goodIn_ca (goodIn_r _ [40, 41, 18, 19, 20, 5, 21, 7, 103, 104, 105, 106, 107, 108, 109, 110, 111] (by decide +kernel) (by decide +kernel)) (goodIn_sub (fun _ h => List.mem_cons_of_mem _ (List.mem_append_right _ h)) (by decide +kernel))
set_option maxRecDepth 20000 in
theorem gX3_writeBackingOut_X1_beforeOf : GoodIn wsX3_writeBackingOut (wsV RX3 200 RX1 yX1_beforeOf wsX1_beforeOf) := goodIn_app (goodIn_of _ (by decide +kernel)) ggX3_writeBackingOut_X1_beforeOf
set_option maxRecDepth 20000 in
theorem ggX3_writeBackingOut_X3_writeChange : GoodIn wsX3_writeBackingOut wsX3_writeChange := goodIn_ca (goodIn_r _ [46, 1, 47, 48, 49, 50, 51, 52, 5, 53, 7, 17, 26, 31, 41, 36, 12, 54, 55, 56, 57, 58, 59, 60, 61, 62, 63, 64, 65, 66, 45, 67, 68, 69, 70, 71, 72, 73, 74, 75, 76, 77, 78, 79, 80, 81, 82, 83, 84, 85, 86, 87, 88, 89, 90, 91, 92, 97, 98, 99, 100, 101, 102, 103, 104, 105, 106, 107, 108, 109, 110, 111, 112, 113, 114, 115, 116, 117, 118, 119] (by decide +kernel) (by decide +kernel)) (goodIn_sub (fun _ h => List.mem_cons_of_mem _ (List.mem_append_right _ h)) (by decide +kernel))
set_option maxRecDepth 20000 in
theorem gX3_writeBackingOut_X3_writeChange : GoodIn wsX3_writeBackingOut (wsV RX3 67 RX3 yX3_writeChange wsX3_writeChange) := goodIn_app (goodIn_of _ (by decide +kernel)) ggX3_writeBackingOut_X3_writeChange
set_option maxRecDepth 20000 in
theorem ggX3_writeBackingOut_X3_writeLastOf : GoodIn wsX3_writeBackingOut wsX3_writeLastOf := goodIn_ca (goodIn_r _ [96, 1, 47, 48, 49, 50, 51, 52, 5, 53, 7, 17, 26, 31, 41, 36, 12, 54, 55, 56, 57, 58, 59, 60, 61, 62, 63, 64, 65, 66, 45, 67, 68, 69, 75, 76, 77, 78, 79, 80, 81, 82, 83, 84, 85, 86, 87, 88, 89, 90, 91, 92, 97, 98, 99, 100, 101, 102, 103, 104, 105, 106, 107, 108, 109, 110, 111, 112, 113, 114, 115, 116, 117, 118, 119] (by decide +kernel) (by decide +kernel)) (goodIn_sub (fun _ h => List.mem_cons_of_mem _ (List.mem_append_right _ h)) (by decide +kernel))
set_option maxRecDepth 20000 in
theorem gX3_writeBackingOut_X3_writeLastOf : GoodIn wsX3_writeBackingOut (wsV RX3 74 RX3 yX3_writeLastOf wsX3_writeLastOf) := goodIn_app (goodIn_of _ (by decide +kernel)) ggX3_writeBackingOut_X3_writeLastOf
theorem dX3_writeBackingOut_0 : decode cX3_writeBackingOut 0 = .ok (.aload_n 0, 1) := by decide +kernel
theorem dX3_writeBackingOut_1 : decode cX3_writeBackingOut 1 = .ok (.getfield 16, 3) := by decide +kernel
theorem dX3_writeBackingOut_4 : decode cX3_writeBackingOut 4 = .ok (.invokevirtual 78, 3) := by decide +kernel
theorem dX3_writeBackingOut_7 : decode cX3_writeBackingOut 7 = .ok (.istore_n 2, 1) := by decide +kernel
theorem dX3_writeBackingOut_8 : decode cX3_writeBackingOut 8 = .ok (.iload_n 2, 1) := by decide +kernel
theorem dX3_writeBackingOut_9 : decode cX3_writeBackingOut 9 = .ok (.iconst 1, 1) := by decide +kernel
theorem dX3_writeBackingOut_10 : decode cX3_writeBackingOut 10 = .ok (.if_icmp .lt 63, 3) := by decide +kernel
theorem dX3_writeBackingOut_13 : decode cX3_writeBackingOut 13 = .ok (.aload_n 0, 1) := by decide +kernel
theorem dX3_writeBackingOut_14 : decode cX3_writeBackingOut 14 = .ok (.getfield 16, 3) := by decide +kernel
theorem dX3_writeBackingOut_17 : decode cX3_writeBackingOut 17 = .ok (.iload_n 2, 1) := by decide +kernel
theorem dX3_writeBackingOut_18 : decode cX3_writeBackingOut 18 = .ok (.invokevirtual 190, 3) := by decide +kernel
theorem dX3_writeBackingOut_21 : decode cX3_writeBackingOut 21 = .ok (.ifCond .eq 46, 3) := by decide +kernel
theorem dX3_writeBackingOut_24 : decode cX3_writeBackingOut 24 = .ok (.aload_n 0, 1) := by decide +kernel
theorem dX3_writeBackingOut_25 : decode cX3_writeBackingOut 25 = .ok (.getfield 16, 3) := by decide +kernel
theorem dX3_writeBackingOut_28 : decode cX3_writeBackingOut 28 = .ok (.iload_n 2, 1) := by decide +kernel
theorem dX3_writeBackingOut_29 : decode cX3_writeBackingOut 29 = .ok (.invokevirtual 155, 3) := by decide +kernel
theorem dX3_writeBackingOut_32 : decode cX3_writeBackingOut 32 = .ok (.iload_n 1, 1) := by decide +kernel
theorem dX3_writeBackingOut_33 : decode cX3_writeBackingOut 33 = .ok (.if_icmp .ne 34, 3) := by decide +kernel
theorem dX3_writeBackingOut_36 : decode cX3_writeBackingOut 36 = .ok (.aload_n 0, 1) := by decide +kernel
theorem dX3_writeBackingOut_37 : decode cX3_writeBackingOut 37 = .ok (.iload_n 1, 1) := by decide +kernel
theorem dX3_writeBackingOut_38 : decode cX3_writeBackingOut 38 = .ok (.aload_n 0, 1) := by decide +kernel
theorem dX3_writeBackingOut_39 : decode cX3_writeBackingOut 39 = .ok (.getfield 16, 3) := by decide +kernel
theorem dX3_writeBackingOut_42 : decode cX3_writeBackingOut 42 = .ok (.iload_n 2, 1) := by decide +kernel
theorem dX3_writeBackingOut_43 : decode cX3_writeBackingOut 43 = .ok (.invokevirtual 193, 3) := by decide +kernel
theorem dX3_writeBackingOut_46 : decode cX3_writeBackingOut 46 = .ok (.aload_n 0, 1) := by decide +kernel
theorem dX3_writeBackingOut_47 : decode cX3_writeBackingOut 47 = .ok (.getfield 16, 3) := by decide +kernel
theorem dX3_writeBackingOut_50 : decode cX3_writeBackingOut 50 = .ok (.iload_n 2, 1) := by decide +kernel
theorem dX3_writeBackingOut_51 : decode cX3_writeBackingOut 51 = .ok (.invokevirtual 196, 3) := by decide +kernel
theorem dX3_writeBackingOut_54 : decode cX3_writeBackingOut 54 = .ok (.aload_n 0, 1) := by decide +kernel
theorem dX3_writeBackingOut_55 : decode cX3_writeBackingOut 55 = .ok (.getfield 16, 3) := by decide +kernel
theorem dX3_writeBackingOut_58 : decode cX3_writeBackingOut 58 = .ok (.iload_n 2, 1) := by decide +kernel
theorem dX3_writeBackingOut_59 : decode cX3_writeBackingOut 59 = .ok (.invokevirtual 200, 3) := by decide +kernel
theorem dX3_writeBackingOut_62 : decode cX3_writeBackingOut 62 = .ok (.iconst 1, 1) := by decide +kernel
theorem dX3_writeBackingOut_63 : decode cX3_writeBackingOut 63 = .ok (.invokevirtual 67, 3) := by decide +kernel
theorem dX3_writeBackingOut_66 : decode cX3_writeBackingOut 66 = .ok (.pop, 1) := by decide +kernel
theorem dX3_writeBackingOut_67 : decode cX3_writeBackingOut 67 = .ok (.iinc 2 (-1), 3) := by decide +kernel
theorem dX3_writeBackingOut_70 : decode cX3_writeBackingOut 70 = .ok (.goto (-62), 3) := by decide +kernel
theorem dX3_writeBackingOut_73 : decode cX3_writeBackingOut 73 = .ok (.aload_n 0, 1) := by decide +kernel
theorem dX3_writeBackingOut_74 : decode cX3_writeBackingOut 74 = .ok (.iload_n 1, 1) := by decide +kernel
theorem dX3_writeBackingOut_75 : decode cX3_writeBackingOut 75 = .ok (.iconst 2, 1) := by decide +kernel
theorem dX3_writeBackingOut_76 : decode cX3_writeBackingOut 76 = .ok (.iconst 1, 1) := by decide +kernel
theorem dX3_writeBackingOut_77 : decode cX3_writeBackingOut 77 = .ok (.invokevirtual 74, 3) := by decide +kernel
theorem dX3_writeBackingOut_80 : decode cX3_writeBackingOut 80 = .ok (.pop, 1) := by decide +kernel
theorem dX3_writeBackingOut_81 : decode cX3_writeBackingOut 81 = .ok (.return_, 1) := by decide +kernel
set_option maxRecDepth 20000 in
theorem ggX3_changesOf_X1_latest : GoodIn wsX3_changesOf wsX1_latest := goodIn_r _ [6, 7, 33, 34, 35, 36, 37, 38, 39, 40, 41] (by decide +kernel) (by decide +kernel)
set_option maxRecDepth 20000 in
theorem gX3_changesOf_X1_latest : GoodIn wsX3_changesOf (wsV RX3 78 RX1 yX1_latest wsX1_latest) := goodIn_app (goodIn_of _ (by decide +kernel)) ggX3_changesOf_X1_latest
set_option maxRecDepth 20000 in
theorem ggX3_changesOf_X1_isBackable : GoodIn wsX3_changesOf wsX1_isBackable := goodIn_ca (goodIn_r _ [11, 12, 13, 14, 15, 5, 16, 17, 18, 19, 20, 21, 7, 33, 34, 35, 36, 37, 38, 39, 40, 41] (by decide +kernel) (by decide +kernel)) (goodIn_sub (fun _ h => List.mem_cons_of_mem _ (List.mem_append_right _ h)) (by decide +kernel))
set_option maxRecDepth 20000 in
theorem gX3_changesOf_X1_isBackable : GoodIn wsX3_changesOf (wsV RX3 190 RX1 yX1_isBackable wsX1_isBackable) := goodIn_app (goodIn_of _ (by decide +kernel)) ggX3_changesOf_X1_isBackable
set_option maxRecDepth 20000 in
theorem ggX3_changesOf_X1_unitOf : GoodIn wsX3_changesOf wsX1_unitOf := goodIn_ca (goodIn_r _ [25, 26, 18, 19, 20, 5, 21, 7, 33, 34, 35, 36, 37, 38, 39, 40, 41] (by decide +kernel) (by decide +kernel)) (goodIn_sub (fun _ h => List.mem_cons_of_mem _ (List.mem_append_right _ h)) (by decide +kernel))
set_option maxRecDepth 20000 in
theorem gX3_changesOf_X1_unitOf : GoodIn wsX3_changesOf (wsV RX3 155 RX1 yX1_unitOf wsX1_unitOf) := goodIn_app (goodIn_of _ (by decide +kernel)) ggX3_changesOf_X1_unitOf
theorem dX3_changesOf_0 : decode cX3_changesOf 0 = .ok (.iconst 0, 1) := by decide +kernel
theorem dX3_changesOf_1 : decode cX3_changesOf 1 = .ok (.istore_n 2, 1) := by decide +kernel
theorem dX3_changesOf_2 : decode cX3_changesOf 2 = .ok (.iconst 1, 1) := by decide +kernel
theorem dX3_changesOf_3 : decode cX3_changesOf 3 = .ok (.istore_n 3, 1) := by decide +kernel
theorem dX3_changesOf_4 : decode cX3_changesOf 4 = .ok (.iload_n 3, 1) := by decide +kernel
theorem dX3_changesOf_5 : decode cX3_changesOf 5 = .ok (.aload_n 0, 1) := by decide +kernel
theorem dX3_changesOf_6 : decode cX3_changesOf 6 = .ok (.getfield 16, 3) := by decide +kernel
theorem dX3_changesOf_9 : decode cX3_changesOf 9 = .ok (.invokevirtual 78, 3) := by decide +kernel
theorem dX3_changesOf_12 : decode cX3_changesOf 12 = .ok (.if_icmp .gt 35, 3) := by decide +kernel
theorem dX3_changesOf_15 : decode cX3_changesOf 15 = .ok (.aload_n 0, 1) := by decide +kernel
theorem dX3_changesOf_16 : decode cX3_changesOf 16 = .ok (.getfield 16, 3) := by decide +kernel
theorem dX3_changesOf_19 : decode cX3_changesOf 19 = .ok (.iload_n 3, 1) := by decide +kernel
theorem dX3_changesOf_20 : decode cX3_changesOf 20 = .ok (.invokevirtual 190, 3) := by decide +kernel
theorem dX3_changesOf_23 : decode cX3_changesOf 23 = .ok (.ifCond .eq 18, 3) := by decide +kernel
theorem dX3_changesOf_26 : decode cX3_changesOf 26 = .ok (.aload_n 0, 1) := by decide +kernel
theorem dX3_changesOf_27 : decode cX3_changesOf 27 = .ok (.getfield 16, 3) := by decide +kernel
theorem dX3_changesOf_30 : decode cX3_changesOf 30 = .ok (.iload_n 3, 1) := by decide +kernel
theorem dX3_changesOf_31 : decode cX3_changesOf 31 = .ok (.invokevirtual 155, 3) := by decide +kernel
theorem dX3_changesOf_34 : decode cX3_changesOf 34 = .ok (.iload_n 1, 1) := by decide +kernel
theorem dX3_changesOf_35 : decode cX3_changesOf 35 = .ok (.if_icmp .ne 6, 3) := by decide +kernel
theorem dX3_changesOf_38 : decode cX3_changesOf 38 = .ok (.iinc 2 1, 3) := by decide +kernel
theorem dX3_changesOf_41 : decode cX3_changesOf 41 = .ok (.iinc 3 1, 3) := by decide +kernel
theorem dX3_changesOf_44 : decode cX3_changesOf 44 = .ok (.goto (-40), 3) := by decide +kernel
theorem dX3_changesOf_47 : decode cX3_changesOf 47 = .ok (.iload_n 2, 1) := by decide +kernel
theorem dX3_changesOf_48 : decode cX3_changesOf 48 = .ok (.ireturn, 1) := by decide +kernel
set_option maxRecDepth 20000 in
theorem ggX3_latestMissingOf_X1_latest : GoodIn wsX3_latestMissingOf wsX1_latest := goodIn_r _ [6, 7, 38, 39, 40, 41, 42, 43, 44, 45, 46] (by decide +kernel) (by decide +kernel)
set_option maxRecDepth 20000 in
theorem gX3_latestMissingOf_X1_latest : GoodIn wsX3_latestMissingOf (wsV RX3 78 RX1 yX1_latest wsX1_latest) := goodIn_app (goodIn_of _ (by decide +kernel)) ggX3_latestMissingOf_X1_latest
set_option maxRecDepth 20000 in
theorem ggX3_latestMissingOf_X1_isMissing : GoodIn wsX3_latestMissingOf wsX1_isMissing := goodIn_ca (goodIn_r _ [11, 12, 13, 14, 15, 5, 16, 7, 38, 39, 40, 41, 42, 43, 44, 45, 46] (by decide +kernel) (by decide +kernel)) (goodIn_sub (fun _ h => List.mem_cons_of_mem _ (List.mem_append_right _ h)) (by decide +kernel))
set_option maxRecDepth 20000 in
theorem gX3_latestMissingOf_X1_isMissing : GoodIn wsX3_latestMissingOf (wsV RX3 152 RX1 yX1_isMissing wsX1_isMissing) := goodIn_app (goodIn_of _ (by decide +kernel)) ggX3_latestMissingOf_X1_isMissing
set_option maxRecDepth 20000 in
theorem ggX3_latestMissingOf_X1_isBackable : GoodIn wsX3_latestMissingOf wsX1_isBackable := goodIn_ca (goodIn_r _ [20, 21, 22, 23, 24, 5, 25, 26, 13, 14, 15, 16, 7, 38, 39, 40, 41, 42, 43, 44, 45, 46] (by decide +kernel) (by decide +kernel)) (goodIn_sub (fun _ h => List.mem_cons_of_mem _ (List.mem_append_right _ h)) (by decide +kernel))
set_option maxRecDepth 20000 in
theorem gX3_latestMissingOf_X1_isBackable : GoodIn wsX3_latestMissingOf (wsV RX3 190 RX1 yX1_isBackable wsX1_isBackable) := goodIn_app (goodIn_of _ (by decide +kernel)) ggX3_latestMissingOf_X1_isBackable
set_option maxRecDepth 20000 in
theorem ggX3_latestMissingOf_X1_unitOf : GoodIn wsX3_latestMissingOf wsX1_unitOf := goodIn_ca (goodIn_r _ [30, 31, 13, 14, 15, 5, 16, 7, 38, 39, 40, 41, 42, 43, 44, 45, 46] (by decide +kernel) (by decide +kernel)) (goodIn_sub (fun _ h => List.mem_cons_of_mem _ (List.mem_append_right _ h)) (by decide +kernel))
set_option maxRecDepth 20000 in
theorem gX3_latestMissingOf_X1_unitOf : GoodIn wsX3_latestMissingOf (wsV RX3 155 RX1 yX1_unitOf wsX1_unitOf) := goodIn_app (goodIn_of _ (by decide +kernel)) ggX3_latestMissingOf_X1_unitOf
theorem dX3_latestMissingOf_0 : decode cX3_latestMissingOf 0 = .ok (.aload_n 0, 1) := by decide +kernel
theorem dX3_latestMissingOf_1 : decode cX3_latestMissingOf 1 = .ok (.getfield 16, 3) := by decide +kernel
theorem dX3_latestMissingOf_4 : decode cX3_latestMissingOf 4 = .ok (.invokevirtual 78, 3) := by decide +kernel
theorem dX3_latestMissingOf_7 : decode cX3_latestMissingOf 7 = .ok (.istore_n 2, 1) := by decide +kernel
theorem dX3_latestMissingOf_8 : decode cX3_latestMissingOf 8 = .ok (.iload_n 2, 1) := by decide +kernel
theorem dX3_latestMissingOf_9 : decode cX3_latestMissingOf 9 = .ok (.iconst 1, 1) := by decide +kernel
theorem dX3_latestMissingOf_10 : decode cX3_latestMissingOf 10 = .ok (.if_icmp .lt 45, 3) := by decide +kernel
theorem dX3_latestMissingOf_13 : decode cX3_latestMissingOf 13 = .ok (.aload_n 0, 1) := by decide +kernel
theorem dX3_latestMissingOf_14 : decode cX3_latestMissingOf 14 = .ok (.getfield 16, 3) := by decide +kernel
theorem dX3_latestMissingOf_17 : decode cX3_latestMissingOf 17 = .ok (.iload_n 2, 1) := by decide +kernel
theorem dX3_latestMissingOf_18 : decode cX3_latestMissingOf 18 = .ok (.invokevirtual 152, 3) := by decide +kernel
theorem dX3_latestMissingOf_21 : decode cX3_latestMissingOf 21 = .ok (.ifCond .eq 28, 3) := by decide +kernel
theorem dX3_latestMissingOf_24 : decode cX3_latestMissingOf 24 = .ok (.aload_n 0, 1) := by decide +kernel
theorem dX3_latestMissingOf_25 : decode cX3_latestMissingOf 25 = .ok (.getfield 16, 3) := by decide +kernel
theorem dX3_latestMissingOf_28 : decode cX3_latestMissingOf 28 = .ok (.iload_n 2, 1) := by decide +kernel
theorem dX3_latestMissingOf_29 : decode cX3_latestMissingOf 29 = .ok (.invokevirtual 190, 3) := by decide +kernel
theorem dX3_latestMissingOf_32 : decode cX3_latestMissingOf 32 = .ok (.ifCond .eq 17, 3) := by decide +kernel
theorem dX3_latestMissingOf_35 : decode cX3_latestMissingOf 35 = .ok (.aload_n 0, 1) := by decide +kernel
theorem dX3_latestMissingOf_36 : decode cX3_latestMissingOf 36 = .ok (.getfield 16, 3) := by decide +kernel
theorem dX3_latestMissingOf_39 : decode cX3_latestMissingOf 39 = .ok (.iload_n 2, 1) := by decide +kernel
theorem dX3_latestMissingOf_40 : decode cX3_latestMissingOf 40 = .ok (.invokevirtual 155, 3) := by decide +kernel
theorem dX3_latestMissingOf_43 : decode cX3_latestMissingOf 43 = .ok (.iload_n 1, 1) := by decide +kernel
theorem dX3_latestMissingOf_44 : decode cX3_latestMissingOf 44 = .ok (.if_icmp .ne 5, 3) := by decide +kernel
theorem dX3_latestMissingOf_47 : decode cX3_latestMissingOf 47 = .ok (.iload_n 2, 1) := by decide +kernel
theorem dX3_latestMissingOf_48 : decode cX3_latestMissingOf 48 = .ok (.ireturn, 1) := by decide +kernel
theorem dX3_latestMissingOf_49 : decode cX3_latestMissingOf 49 = .ok (.iinc 2 (-1), 3) := by decide +kernel
theorem dX3_latestMissingOf_52 : decode cX3_latestMissingOf 52 = .ok (.goto (-44), 3) := by decide +kernel
theorem dX3_latestMissingOf_55 : decode cX3_latestMissingOf 55 = .ok (.iconst 0, 1) := by decide +kernel
theorem dX3_latestMissingOf_56 : decode cX3_latestMissingOf 56 = .ok (.ireturn, 1) := by decide +kernel
set_option maxRecDepth 20000 in
theorem ggX3_isToBeBackedOut_X1_isBackable : GoodIn wsX3_isToBeBackedOut wsX1_isBackable := goodIn_ca (goodIn_r _ [7, 8, 9, 10, 11, 6, 12, 13, 14, 15, 16, 17, 18, 39, 40, 41, 42, 43, 44, 45, 46, 47] (by decide +kernel) (by decide +kernel)) (goodIn_sub (fun _ h => List.mem_cons_of_mem _ (List.mem_append_right _ h)) (by decide +kernel))
set_option maxRecDepth 20000 in
theorem gX3_isToBeBackedOut_X1_isBackable : GoodIn wsX3_isToBeBackedOut (wsV RX3 190 RX1 yX1_isBackable wsX1_isBackable) := goodIn_app (goodIn_of _ (by decide +kernel)) ggX3_isToBeBackedOut_X1_isBackable
set_option maxRecDepth 20000 in
theorem ggX3_isToBeBackedOut_X1_unitOf : GoodIn wsX3_isToBeBackedOut wsX1_unitOf := goodIn_ca (goodIn_r _ [22, 23, 14, 15, 16, 6, 17, 18, 39, 40, 41, 42, 43, 44, 45, 46, 47] (by decide +kernel) (by decide +kernel)) (goodIn_sub (fun _ h => List.mem_cons_of_mem _ (List.mem_append_right _ h)) (by decide +kernel))
set_option maxRecDepth 20000 in
theorem gX3_isToBeBackedOut_X1_unitOf : GoodIn wsX3_isToBeBackedOut (wsV RX3 155 RX1 yX1_unitOf wsX1_unitOf) := goodIn_app (goodIn_of _ (by decide +kernel)) ggX3_isToBeBackedOut_X1_unitOf
set_option maxRecDepth 20000 in
theorem ggX3_isToBeBackedOut_X2_isOpen : GoodIn wsX3_isToBeBackedOut wsX2_isOpen := goodIn_ca (goodIn_r _ [28, 29, 30, 31, 32, 48, 49] (by decide +kernel) (by decide +kernel)) (goodIn_sub (fun _ h => List.mem_cons_of_mem _ (List.mem_append_right _ h)) (by decide +kernel))
set_option maxRecDepth 20000 in
theorem gX3_isToBeBackedOut_X2_isOpen : GoodIn wsX3_isToBeBackedOut (wsV RX3 71 RX2 yX2_isOpen wsX2_isOpen) := goodIn_app (goodIn_of _ (by decide +kernel)) ggX3_isToBeBackedOut_X2_isOpen
theorem dX3_isToBeBackedOut_0 : decode cX3_isToBeBackedOut 0 = .ok (.aload_n 0, 1) := by decide +kernel
theorem dX3_isToBeBackedOut_1 : decode cX3_isToBeBackedOut 1 = .ok (.getfield 16, 3) := by decide +kernel
theorem dX3_isToBeBackedOut_4 : decode cX3_isToBeBackedOut 4 = .ok (.iload_n 1, 1) := by decide +kernel
theorem dX3_isToBeBackedOut_5 : decode cX3_isToBeBackedOut 5 = .ok (.invokevirtual 190, 3) := by decide +kernel
theorem dX3_isToBeBackedOut_8 : decode cX3_isToBeBackedOut 8 = .ok (.ifCond .eq 25, 3) := by decide +kernel
theorem dX3_isToBeBackedOut_11 : decode cX3_isToBeBackedOut 11 = .ok (.aload_n 0, 1) := by decide +kernel
theorem dX3_isToBeBackedOut_12 : decode cX3_isToBeBackedOut 12 = .ok (.getfield 27, 3) := by decide +kernel
theorem dX3_isToBeBackedOut_15 : decode cX3_isToBeBackedOut 15 = .ok (.aload_n 0, 1) := by decide +kernel
theorem dX3_isToBeBackedOut_16 : decode cX3_isToBeBackedOut 16 = .ok (.getfield 16, 3) := by decide +kernel
theorem dX3_isToBeBackedOut_19 : decode cX3_isToBeBackedOut 19 = .ok (.iload_n 1, 1) := by decide +kernel
theorem dX3_isToBeBackedOut_20 : decode cX3_isToBeBackedOut 20 = .ok (.invokevirtual 155, 3) := by decide +kernel
theorem dX3_isToBeBackedOut_23 : decode cX3_isToBeBackedOut 23 = .ok (.invokevirtual 71, 3) := by decide +kernel
theorem dX3_isToBeBackedOut_26 : decode cX3_isToBeBackedOut 26 = .ok (.ifCond .eq 7, 3) := by decide +kernel
theorem dX3_isToBeBackedOut_29 : decode cX3_isToBeBackedOut 29 = .ok (.iconst 1, 1) := by decide +kernel
theorem dX3_isToBeBackedOut_30 : decode cX3_isToBeBackedOut 30 = .ok (.goto 4, 3) := by decide +kernel
theorem dX3_isToBeBackedOut_33 : decode cX3_isToBeBackedOut 33 = .ok (.iconst 0, 1) := by decide +kernel
theorem dX3_isToBeBackedOut_34 : decode cX3_isToBeBackedOut 34 = .ok (.ireturn, 1) := by decide +kernel
set_option maxRecDepth 20000 in
theorem ggX3_leastMissing_X1_isMissing : GoodIn wsX3_leastMissing wsX1_isMissing := goodIn_ca (goodIn_r _ [6, 7, 8, 9, 10, 5, 11, 12, 48, 49, 50, 51, 52, 53, 54, 55, 56] (by decide +kernel) (by decide +kernel)) (goodIn_sub (fun _ h => List.mem_cons_of_mem _ (List.mem_append_right _ h)) (by decide +kernel))
set_option maxRecDepth 20000 in
theorem gX3_leastMissing_X1_isMissing : GoodIn wsX3_leastMissing (wsV RX3 152 RX1 yX1_isMissing wsX1_isMissing) := goodIn_app (goodIn_of _ (by decide +kernel)) ggX3_leastMissing_X1_isMissing
set_option maxRecDepth 20000 in
theorem ggX3_leastMissing_X3_isToBeBackedOut : GoodIn wsX3_leastMissing wsX3_isToBeBackedOut := goodIn_ca (goodIn_r _ [17, 1, 18, 19, 20, 21, 5, 22, 23, 24, 25, 26, 27, 28, 8, 9, 10, 11, 12, 29, 30, 31, 32, 33, 34, 35, 36, 37, 38, 39, 40, 16, 41, 42, 43, 44, 45, 46, 47, 48, 49, 50, 51, 52, 53, 54, 55, 56, 57, 58] (by decide +kernel) (by decide +kernel)) (goodIn_sub (fun _ h => List.mem_cons_of_mem _ (List.mem_append_right _ h)) (by decide +kernel))
set_option maxRecDepth 20000 in
theorem gX3_leastMissing_X3_isToBeBackedOut : GoodIn wsX3_leastMissing (wsV RX3 203 RX3 yX3_isToBeBackedOut wsX3_isToBeBackedOut) := goodIn_app (goodIn_of _ (by decide +kernel)) ggX3_leastMissing_X3_isToBeBackedOut
theorem dX3_leastMissing_0 : decode cX3_leastMissing 0 = .ok (.iconst 1, 1) := by decide +kernel
theorem dX3_leastMissing_1 : decode cX3_leastMissing 1 = .ok (.istore_n 3, 1) := by decide +kernel
theorem dX3_leastMissing_2 : decode cX3_leastMissing 2 = .ok (.iload_n 3, 1) := by decide +kernel
theorem dX3_leastMissing_3 : decode cX3_leastMissing 3 = .ok (.iload_n 2, 1) := by decide +kernel
theorem dX3_leastMissing_4 : decode cX3_leastMissing 4 = .ok (.if_icmp .gt 35, 3) := by decide +kernel
theorem dX3_leastMissing_7 : decode cX3_leastMissing 7 = .ok (.aload_n 0, 1) := by decide +kernel
theorem dX3_leastMissing_8 : decode cX3_leastMissing 8 = .ok (.getfield 16, 3) := by decide +kernel
theorem dX3_leastMissing_11 : decode cX3_leastMissing 11 = .ok (.iload_n 3, 1) := by decide +kernel
theorem dX3_leastMissing_12 : decode cX3_leastMissing 12 = .ok (.invokevirtual 152, 3) := by decide +kernel
theorem dX3_leastMissing_15 : decode cX3_leastMissing 15 = .ok (.ifCond .eq 18, 3) := by decide +kernel
theorem dX3_leastMissing_18 : decode cX3_leastMissing 18 = .ok (.iload_n 3, 1) := by decide +kernel
theorem dX3_leastMissing_19 : decode cX3_leastMissing 19 = .ok (.iload_n 1, 1) := by decide +kernel
theorem dX3_leastMissing_20 : decode cX3_leastMissing 20 = .ok (.if_icmp .gt 11, 3) := by decide +kernel
theorem dX3_leastMissing_23 : decode cX3_leastMissing 23 = .ok (.aload_n 0, 1) := by decide +kernel
theorem dX3_leastMissing_24 : decode cX3_leastMissing 24 = .ok (.iload_n 3, 1) := by decide +kernel
theorem dX3_leastMissing_25 : decode cX3_leastMissing 25 = .ok (.invokevirtual 203, 3) := by decide +kernel
theorem dX3_leastMissing_28 : decode cX3_leastMissing 28 = .ok (.ifCond .eq 5, 3) := by decide +kernel
theorem dX3_leastMissing_31 : decode cX3_leastMissing 31 = .ok (.iload_n 3, 1) := by decide +kernel
theorem dX3_leastMissing_32 : decode cX3_leastMissing 32 = .ok (.ireturn, 1) := by decide +kernel
theorem dX3_leastMissing_33 : decode cX3_leastMissing 33 = .ok (.iinc 3 1, 3) := by decide +kernel
theorem dX3_leastMissing_36 : decode cX3_leastMissing 36 = .ok (.goto (-34), 3) := by decide +kernel
theorem dX3_leastMissing_39 : decode cX3_leastMissing 39 = .ok (.iconst 0, 1) := by decide +kernel
theorem dX3_leastMissing_40 : decode cX3_leastMissing 40 = .ok (.ireturn, 1) := by decide +kernel
set_option maxRecDepth 20000 in
theorem ggX3_rowsOfBackingOut_X2_howManyOpen : GoodIn wsX3_rowsOfBackingOut wsX2_howManyOpen := goodIn_ca (goodIn_r _ [6, 7, 8, 9, 5, 10, 11, 51, 52] (by decide +kernel) (by decide +kernel)) (goodIn_sub (fun _ h => List.mem_cons_of_mem _ (List.mem_append_right _ h)) (by decide +kernel))
set_option maxRecDepth 20000 in
theorem gX3_rowsOfBackingOut_X2_howManyOpen : GoodIn wsX3_rowsOfBackingOut (wsV RX3 166 RX2 yX2_howManyOpen wsX2_howManyOpen) := goodIn_app (goodIn_of _ (by decide +kernel)) ggX3_rowsOfBackingOut_X2_howManyOpen
set_option maxRecDepth 20000 in
theorem ggX3_rowsOfBackingOut_X3_isToBeBackedOut : GoodIn wsX3_rowsOfBackingOut wsX3_isToBeBackedOut := goodIn_ca (goodIn_r _ [16, 17, 1, 18, 19, 20, 21, 22, 23, 24, 25, 26, 27, 28, 29, 30, 31, 32, 33, 34, 35, 36, 37, 38, 39, 40, 41, 5, 42, 11, 43, 15, 44, 45, 46, 47, 48, 49, 50, 53, 54, 55, 56, 57, 58, 59, 60, 61, 51, 52] (by decide +kernel) (by decide +kernel)) (goodIn_sub (fun _ h => List.mem_cons_of_mem _ (List.mem_append_right _ h)) (by decide +kernel))
set_option maxRecDepth 20000 in
theorem gX3_rowsOfBackingOut_X3_isToBeBackedOut : GoodIn wsX3_rowsOfBackingOut (wsV RX3 203 RX3 yX3_isToBeBackedOut wsX3_isToBeBackedOut) := goodIn_app (goodIn_of _ (by decide +kernel)) ggX3_rowsOfBackingOut_X3_isToBeBackedOut
theorem dX3_rowsOfBackingOut_0 : decode cX3_rowsOfBackingOut 0 = .ok (.aload_n 0, 1) := by decide +kernel
theorem dX3_rowsOfBackingOut_1 : decode cX3_rowsOfBackingOut 1 = .ok (.getfield 27, 3) := by decide +kernel
theorem dX3_rowsOfBackingOut_4 : decode cX3_rowsOfBackingOut 4 = .ok (.invokevirtual 166, 3) := by decide +kernel
theorem dX3_rowsOfBackingOut_7 : decode cX3_rowsOfBackingOut 7 = .ok (.istore_n 2, 1) := by decide +kernel
theorem dX3_rowsOfBackingOut_8 : decode cX3_rowsOfBackingOut 8 = .ok (.iconst 0, 1) := by decide +kernel
theorem dX3_rowsOfBackingOut_9 : decode cX3_rowsOfBackingOut 9 = .ok (.istore_n 3, 1) := by decide +kernel
theorem dX3_rowsOfBackingOut_10 : decode cX3_rowsOfBackingOut 10 = .ok (.iconst 1, 1) := by decide +kernel
theorem dX3_rowsOfBackingOut_11 : decode cX3_rowsOfBackingOut 11 = .ok (.istore 4, 2) := by decide +kernel
theorem dX3_rowsOfBackingOut_13 : decode cX3_rowsOfBackingOut 13 = .ok (.iload 4, 2) := by decide +kernel
theorem dX3_rowsOfBackingOut_15 : decode cX3_rowsOfBackingOut 15 = .ok (.iload_n 1, 1) := by decide +kernel
theorem dX3_rowsOfBackingOut_16 : decode cX3_rowsOfBackingOut 16 = .ok (.if_icmp .gt 21, 3) := by decide +kernel
theorem dX3_rowsOfBackingOut_19 : decode cX3_rowsOfBackingOut 19 = .ok (.aload_n 0, 1) := by decide +kernel
theorem dX3_rowsOfBackingOut_20 : decode cX3_rowsOfBackingOut 20 = .ok (.iload 4, 2) := by decide +kernel
theorem dX3_rowsOfBackingOut_22 : decode cX3_rowsOfBackingOut 22 = .ok (.invokevirtual 203, 3) := by decide +kernel
theorem dX3_rowsOfBackingOut_25 : decode cX3_rowsOfBackingOut 25 = .ok (.ifCond .eq 6, 3) := by decide +kernel
theorem dX3_rowsOfBackingOut_28 : decode cX3_rowsOfBackingOut 28 = .ok (.iinc 3 1, 3) := by decide +kernel
theorem dX3_rowsOfBackingOut_31 : decode cX3_rowsOfBackingOut 31 = .ok (.iinc 4 1, 3) := by decide +kernel
theorem dX3_rowsOfBackingOut_34 : decode cX3_rowsOfBackingOut 34 = .ok (.goto (-21), 3) := by decide +kernel
theorem dX3_rowsOfBackingOut_37 : decode cX3_rowsOfBackingOut 37 = .ok (.iload_n 3, 1) := by decide +kernel
theorem dX3_rowsOfBackingOut_38 : decode cX3_rowsOfBackingOut 38 = .ok (.iload_n 2, 1) := by decide +kernel
theorem dX3_rowsOfBackingOut_39 : decode cX3_rowsOfBackingOut 39 = .ok (.iadd, 1) := by decide +kernel
theorem dX3_rowsOfBackingOut_40 : decode cX3_rowsOfBackingOut 40 = .ok (.ireturn, 1) := by decide +kernel
set_option maxRecDepth 20000 in
theorem ggX3_bringForward_X0_putBack : GoodIn wsX3_bringForward wsX0_putBack := goodIn_r _ [8, 9, 10, 11, 12, 13, 14, 15, 16, 7, 17, 18, 59, 60, 61, 62, 63, 64] (by decide +kernel) (by decide +kernel)
set_option maxRecDepth 20000 in
theorem gX3_bringForward_X0_putBack : GoodIn wsX3_bringForward (wsV RX3 206 RX0 yX0_putBack wsX0_putBack) := goodIn_app (goodIn_of _ (by decide +kernel)) ggX3_bringForward_X0_putBack
set_option maxRecDepth 20000 in
theorem ggX3_bringForward_X0_startOf : GoodIn wsX3_bringForward wsX0_startOf := goodIn_ca (goodIn_r _ [22, 23, 14, 15, 16, 7, 17, 18, 59, 60, 61, 62, 63, 64] (by decide +kernel) (by decide +kernel)) (goodIn_sub (fun _ h => List.mem_cons_of_mem _ (List.mem_append_right _ h)) (by decide +kernel))
set_option maxRecDepth 20000 in
theorem gX3_bringForward_X0_startOf : GoodIn wsX3_bringForward (wsV RX3 101 RX0 yX0_startOf wsX0_startOf) := goodIn_app (goodIn_of _ (by decide +kernel)) ggX3_bringForward_X0_startOf
set_option maxRecDepth 20000 in
theorem ggX3_bringForward_X1_isChange : GoodIn wsX3_bringForward wsX1_isChange := goodIn_ca (goodIn_r _ [28, 29, 30, 31, 32, 27, 33, 34, 65, 66, 67, 68, 69, 70, 71, 72, 73] (by decide +kernel) (by decide +kernel)) (goodIn_sub (fun _ h => List.mem_cons_of_mem _ (List.mem_append_right _ h)) (by decide +kernel))
set_option maxRecDepth 20000 in
theorem gX3_bringForward_X1_isChange : GoodIn wsX3_bringForward (wsV RX3 209 RX1 yX1_isChange wsX1_isChange) := goodIn_app (goodIn_of _ (by decide +kernel)) ggX3_bringForward_X1_isChange
set_option maxRecDepth 20000 in
theorem ggX3_bringForward_X1_cellOf : GoodIn wsX3_bringForward wsX1_cellOf := goodIn_ca (goodIn_r _ [38, 39, 30, 31, 32, 27, 33, 34, 65, 66, 67, 68, 69, 70, 71, 72, 73] (by decide +kernel) (by decide +kernel)) (goodIn_sub (fun _ h => List.mem_cons_of_mem _ (List.mem_append_right _ h)) (by decide +kernel))
set_option maxRecDepth 20000 in
theorem gX3_bringForward_X1_cellOf : GoodIn wsX3_bringForward (wsV RX3 193 RX1 yX1_cellOf wsX1_cellOf) := goodIn_app (goodIn_of _ (by decide +kernel)) ggX3_bringForward_X1_cellOf
set_option maxRecDepth 20000 in
theorem ggX3_bringForward_X1_afterOf : GoodIn wsX3_bringForward wsX1_afterOf := goodIn_ca (goodIn_r _ [43, 44, 30, 31, 32, 27, 33, 34, 65, 66, 67, 68, 69, 70, 71, 72, 73] (by decide +kernel) (by decide +kernel)) (goodIn_sub (fun _ h => List.mem_cons_of_mem _ (List.mem_append_right _ h)) (by decide +kernel))
set_option maxRecDepth 20000 in
theorem gX3_bringForward_X1_afterOf : GoodIn wsX3_bringForward (wsV RX3 196 RX1 yX1_afterOf wsX1_afterOf) := goodIn_app (goodIn_of _ (by decide +kernel)) ggX3_bringForward_X1_afterOf
set_option maxRecDepth 20000 in
theorem ggX3_bringForward_X3_setCell : GoodIn wsX3_bringForward wsX3_setCell := goodIn_ca (goodIn_r _ [49, 2, 50, 51, 48, 52, 53, 54, 55, 56, 57, 58] (by decide +kernel) (by decide +kernel)) (goodIn_sub (fun _ h => List.mem_cons_of_mem _ (List.mem_append_right _ h)) (by decide +kernel))
set_option maxRecDepth 20000 in
theorem gX3_bringForward_X3_setCell : GoodIn wsX3_bringForward (wsV RX3 183 RX3 yX3_setCell wsX3_setCell) := goodIn_app (goodIn_of _ (by decide +kernel)) ggX3_bringForward_X3_setCell
theorem dX3_bringForward_0 : decode cX3_bringForward 0 = .ok (.aload_n 0, 1) := by decide +kernel
theorem dX3_bringForward_1 : decode cX3_bringForward 1 = .ok (.getfield 33, 3) := by decide +kernel
theorem dX3_bringForward_4 : decode cX3_bringForward 4 = .ok (.iload_n 1, 1) := by decide +kernel
theorem dX3_bringForward_5 : decode cX3_bringForward 5 = .ok (.aload_n 0, 1) := by decide +kernel
theorem dX3_bringForward_6 : decode cX3_bringForward 6 = .ok (.getfield 9, 3) := by decide +kernel
theorem dX3_bringForward_9 : decode cX3_bringForward 9 = .ok (.invokevirtual 206, 3) := by decide +kernel
theorem dX3_bringForward_12 : decode cX3_bringForward 12 = .ok (.aload_n 0, 1) := by decide +kernel
theorem dX3_bringForward_13 : decode cX3_bringForward 13 = .ok (.getfield 33, 3) := by decide +kernel
theorem dX3_bringForward_16 : decode cX3_bringForward 16 = .ok (.iload_n 1, 1) := by decide +kernel
theorem dX3_bringForward_17 : decode cX3_bringForward 17 = .ok (.invokevirtual 101, 3) := by decide +kernel
theorem dX3_bringForward_20 : decode cX3_bringForward 20 = .ok (.iconst 1, 1) := by decide +kernel
theorem dX3_bringForward_21 : decode cX3_bringForward 21 = .ok (.iadd, 1) := by decide +kernel
theorem dX3_bringForward_22 : decode cX3_bringForward 22 = .ok (.istore_n 3, 1) := by decide +kernel
theorem dX3_bringForward_23 : decode cX3_bringForward 23 = .ok (.iload_n 3, 1) := by decide +kernel
theorem dX3_bringForward_24 : decode cX3_bringForward 24 = .ok (.iload_n 2, 1) := by decide +kernel
theorem dX3_bringForward_25 : decode cX3_bringForward 25 = .ok (.if_icmp .gt 40, 3) := by decide +kernel
theorem dX3_bringForward_28 : decode cX3_bringForward 28 = .ok (.aload_n 0, 1) := by decide +kernel
theorem dX3_bringForward_29 : decode cX3_bringForward 29 = .ok (.getfield 16, 3) := by decide +kernel
theorem dX3_bringForward_32 : decode cX3_bringForward 32 = .ok (.iload_n 3, 1) := by decide +kernel
theorem dX3_bringForward_33 : decode cX3_bringForward 33 = .ok (.invokevirtual 209, 3) := by decide +kernel
theorem dX3_bringForward_36 : decode cX3_bringForward 36 = .ok (.ifCond .eq 23, 3) := by decide +kernel
theorem dX3_bringForward_39 : decode cX3_bringForward 39 = .ok (.aload_n 0, 1) := by decide +kernel
theorem dX3_bringForward_40 : decode cX3_bringForward 40 = .ok (.aload_n 0, 1) := by decide +kernel
theorem dX3_bringForward_41 : decode cX3_bringForward 41 = .ok (.getfield 16, 3) := by decide +kernel
theorem dX3_bringForward_44 : decode cX3_bringForward 44 = .ok (.iload_n 3, 1) := by decide +kernel
theorem dX3_bringForward_45 : decode cX3_bringForward 45 = .ok (.invokevirtual 193, 3) := by decide +kernel
theorem dX3_bringForward_48 : decode cX3_bringForward 48 = .ok (.aload_n 0, 1) := by decide +kernel
theorem dX3_bringForward_49 : decode cX3_bringForward 49 = .ok (.getfield 16, 3) := by decide +kernel
theorem dX3_bringForward_52 : decode cX3_bringForward 52 = .ok (.iload_n 3, 1) := by decide +kernel
theorem dX3_bringForward_53 : decode cX3_bringForward 53 = .ok (.invokevirtual 196, 3) := by decide +kernel
theorem dX3_bringForward_56 : decode cX3_bringForward 56 = .ok (.invokevirtual 183, 3) := by decide +kernel
theorem dX3_bringForward_59 : decode cX3_bringForward 59 = .ok (.iinc 3 1, 3) := by decide +kernel
theorem dX3_bringForward_62 : decode cX3_bringForward 62 = .ok (.goto (-39), 3) := by decide +kernel
theorem dX3_bringForward_65 : decode cX3_bringForward 65 = .ok (.return_, 1) := by decide +kernel
set_option maxRecDepth 20000 in
theorem ggX3_dropBehind_X1_dropBehind : GoodIn wsX3_dropBehind wsX1_dropBehind := goodIn_r _ [8, 9, 10, 11, 12, 13, 14, 68, 69, 70, 71, 72, 73, 74, 75, 76] (by decide +kernel) (by decide +kernel)
set_option maxRecDepth 20000 in
theorem gX3_dropBehind_X1_dropBehind : GoodIn wsX3_dropBehind (wsV RX3 212 RX1 yX1_dropBehind wsX1_dropBehind) := goodIn_app (goodIn_of _ (by decide +kernel)) ggX3_dropBehind_X1_dropBehind
set_option maxRecDepth 20000 in
theorem ggX3_dropBehind_X0_spoilBehind : GoodIn wsX3_dropBehind wsX0_spoilBehind := goodIn_ca (goodIn_r _ [19, 20, 21, 22, 77, 78, 79, 80, 81, 82] (by decide +kernel) (by decide +kernel)) (goodIn_sub (fun _ h => List.mem_cons_of_mem _ (List.mem_append_right _ h)) (by decide +kernel))
set_option maxRecDepth 20000 in
theorem gX3_dropBehind_X0_spoilBehind : GoodIn wsX3_dropBehind (wsV RX3 213 RX0 yX0_spoilBehind wsX0_spoilBehind) := goodIn_app (goodIn_of _ (by decide +kernel)) ggX3_dropBehind_X0_spoilBehind
set_option maxRecDepth 20000 in
theorem ggX3_dropBehind_X2_followAll : GoodIn wsX3_dropBehind wsX2_followAll := goodIn_ca (goodIn_r _ [27, 28, 29, 30, 31, 32, 33, 34, 35, 36, 7, 37, 38, 39, 40, 41, 42, 9, 43, 44, 45, 46, 47, 48, 49, 50, 51, 52, 53, 54, 55, 26, 56, 57, 58, 59, 60, 61, 83, 84, 68, 69, 70, 71, 72, 73, 74, 75, 76] (by decide +kernel) (by decide +kernel)) (goodIn_sub (fun _ h => List.mem_cons_of_mem _ (List.mem_append_right _ h)) (by decide +kernel))
set_option maxRecDepth 20000 in
theorem gX3_dropBehind_X2_followAll : GoodIn wsX3_dropBehind (wsV RX3 97 RX2 yX2_followAll wsX2_followAll) := goodIn_app (goodIn_of _ (by decide +kernel)) ggX3_dropBehind_X2_followAll
theorem dX3_dropBehind_0 : decode cX3_dropBehind 0 = .ok (.aload_n 0, 1) := by decide +kernel
theorem dX3_dropBehind_1 : decode cX3_dropBehind 1 = .ok (.getfield 16, 3) := by decide +kernel
theorem dX3_dropBehind_4 : decode cX3_dropBehind 4 = .ok (.iload_n 1, 1) := by decide +kernel
theorem dX3_dropBehind_5 : decode cX3_dropBehind 5 = .ok (.invokevirtual 212, 3) := by decide +kernel
theorem dX3_dropBehind_8 : decode cX3_dropBehind 8 = .ok (.aload_n 0, 1) := by decide +kernel
theorem dX3_dropBehind_9 : decode cX3_dropBehind 9 = .ok (.getfield 33, 3) := by decide +kernel
theorem dX3_dropBehind_12 : decode cX3_dropBehind 12 = .ok (.iload_n 1, 1) := by decide +kernel
theorem dX3_dropBehind_13 : decode cX3_dropBehind 13 = .ok (.invokevirtual 213, 3) := by decide +kernel
theorem dX3_dropBehind_16 : decode cX3_dropBehind 16 = .ok (.aload_n 0, 1) := by decide +kernel
theorem dX3_dropBehind_17 : decode cX3_dropBehind 17 = .ok (.getfield 23, 3) := by decide +kernel
theorem dX3_dropBehind_20 : decode cX3_dropBehind 20 = .ok (.aload_n 0, 1) := by decide +kernel
theorem dX3_dropBehind_21 : decode cX3_dropBehind 21 = .ok (.getfield 16, 3) := by decide +kernel
theorem dX3_dropBehind_24 : decode cX3_dropBehind 24 = .ok (.iload_n 1, 1) := by decide +kernel
theorem dX3_dropBehind_25 : decode cX3_dropBehind 25 = .ok (.invokevirtual 97, 3) := by decide +kernel
theorem dX3_dropBehind_28 : decode cX3_dropBehind 28 = .ok (.return_, 1) := by decide +kernel
set_option maxRecDepth 20000 in
theorem ggX3_backOutAllOpen_X2_isOpen : GoodIn wsX3_backOutAllOpen wsX2_isOpen := goodIn_ca (goodIn_r _ [6, 7, 8, 9, 10, 111, 112] (by decide +kernel) (by decide +kernel)) (goodIn_sub (fun _ h => List.mem_cons_of_mem _ (List.mem_append_right _ h)) (by decide +kernel))
set_option maxRecDepth 20000 in
theorem gX3_backOutAllOpen_X2_isOpen : GoodIn wsX3_backOutAllOpen (wsV RX3 71 RX2 yX2_isOpen wsX2_isOpen) := goodIn_app (goodIn_of _ (by decide +kernel)) ggX3_backOutAllOpen_X2_isOpen
set_option maxRecDepth 20000 in
theorem ggX3_backOutAllOpen_X3_writeBackingOut : GoodIn wsX3_backOutAllOpen wsX3_writeBackingOut := goodIn_ca (goodIn_r _ [14, 15, 16, 17, 18, 19, 20, 21, 22, 23, 24, 25, 26, 27, 28, 29, 30, 31, 32, 33, 34, 35, 36, 37, 38, 39, 40, 41, 42, 43, 44, 45, 46, 47, 48, 49, 50, 51, 52, 53, 54, 55, 56, 57, 58, 9, 59, 1, 60, 61, 62, 63, 64, 65, 66, 67, 68, 69, 70, 71, 72, 73, 5, 74, 7, 75, 8, 10, 76, 77, 78, 79, 80, 81, 82, 83, 84, 85, 86, 87, 88, 89, 90, 91, 92, 93, 94, 95, 96, 97, 98, 99, 100, 101, 102, 103, 104, 105, 106, 107, 108, 109, 110, 113, 114, 115, 116, 117, 118, 119, 120, 121, 111, 112, 122, 123, 124, 125, 126, 127] (by decide +kernel) (by decide +kernel)) (goodIn_sub (fun _ h => List.mem_cons_of_mem _ (List.mem_append_right _ h)) (by decide +kernel))
set_option maxRecDepth 20000 in
theorem gX3_backOutAllOpen_X3_writeBackingOut : GoodIn wsX3_backOutAllOpen (wsV RX3 137 RX3 yX3_writeBackingOut wsX3_writeBackingOut) := goodIn_app (goodIn_of _ (by decide +kernel)) ggX3_backOutAllOpen_X3_writeBackingOut
theorem dX3_backOutAllOpen_0 : decode cX3_backOutAllOpen 0 = .ok (.iconst 1, 1) := by decide +kernel
theorem dX3_backOutAllOpen_1 : decode cX3_backOutAllOpen 1 = .ok (.istore_n 1, 1) := by decide +kernel
theorem dX3_backOutAllOpen_2 : decode cX3_backOutAllOpen 2 = .ok (.iload_n 1, 1) := by decide +kernel
theorem dX3_backOutAllOpen_3 : decode cX3_backOutAllOpen 3 = .ok (.bipush 60, 2) := by decide +kernel
theorem dX3_backOutAllOpen_5 : decode cX3_backOutAllOpen 5 = .ok (.if_icmp .gt 25, 3) := by decide +kernel
theorem dX3_backOutAllOpen_8 : decode cX3_backOutAllOpen 8 = .ok (.aload_n 0, 1) := by decide +kernel
theorem dX3_backOutAllOpen_9 : decode cX3_backOutAllOpen 9 = .ok (.getfield 23, 3) := by decide +kernel
theorem dX3_backOutAllOpen_12 : decode cX3_backOutAllOpen 12 = .ok (.iload_n 1, 1) := by decide +kernel
theorem dX3_backOutAllOpen_13 : decode cX3_backOutAllOpen 13 = .ok (.invokevirtual 71, 3) := by decide +kernel
theorem dX3_backOutAllOpen_16 : decode cX3_backOutAllOpen 16 = .ok (.ifCond .eq 8, 3) := by decide +kernel
theorem dX3_backOutAllOpen_19 : decode cX3_backOutAllOpen 19 = .ok (.aload_n 0, 1) := by decide +kernel
theorem dX3_backOutAllOpen_20 : decode cX3_backOutAllOpen 20 = .ok (.iload_n 1, 1) := by decide +kernel
theorem dX3_backOutAllOpen_21 : decode cX3_backOutAllOpen 21 = .ok (.invokevirtual 137, 3) := by decide +kernel
theorem dX3_backOutAllOpen_24 : decode cX3_backOutAllOpen 24 = .ok (.iinc 1 1, 3) := by decide +kernel
theorem dX3_backOutAllOpen_27 : decode cX3_backOutAllOpen 27 = .ok (.goto (-25), 3) := by decide +kernel
theorem dX3_backOutAllOpen_30 : decode cX3_backOutAllOpen 30 = .ok (.return_, 1) := by decide +kernel
end
section
theorem dX4_init_0 : decode cX4_init 0 = .ok (.aload_n 0, 1) := by decide +kernel
theorem dX4_init_1 : decode cX4_init 1 = .ok (.invokespecial 1, 3) := by decide +kernel
theorem dX4_init_4 : decode cX4_init 4 = .ok (.aload_n 0, 1) := by decide +kernel
theorem dX4_init_5 : decode cX4_init 5 = .ok (.bipush 32, 2) := by decide +kernel
theorem dX4_init_7 : decode cX4_init 7 = .ok (.newarray .long, 2) := by decide +kernel
theorem dX4_init_9 : decode cX4_init 9 = .ok (.putfield 7, 3) := by decide +kernel
theorem dX4_init_12 : decode cX4_init 12 = .ok (.aload_n 0, 1) := by decide +kernel
theorem dX4_init_13 : decode cX4_init 13 = .ok (.sipush 2001, 3) := by decide +kernel
theorem dX4_init_16 : decode cX4_init 16 = .ok (.newarray .int, 2) := by decide +kernel
theorem dX4_init_18 : decode cX4_init 18 = .ok (.putfield 13, 3) := by decide +kernel
theorem dX4_init_21 : decode cX4_init 21 = .ok (.aload_n 0, 1) := by decide +kernel
theorem dX4_init_22 : decode cX4_init 22 = .ok (.sipush 2001, 3) := by decide +kernel
theorem dX4_init_25 : decode cX4_init 25 = .ok (.newarray .int, 2) := by decide +kernel
theorem dX4_init_27 : decode cX4_init 27 = .ok (.putfield 17, 3) := by decide +kernel
theorem dX4_init_30 : decode cX4_init 30 = .ok (.aload_n 0, 1) := by decide +kernel
theorem dX4_init_31 : decode cX4_init 31 = .ok (.sipush 2001, 3) := by decide +kernel
theorem dX4_init_34 : decode cX4_init 34 = .ok (.newarray .int, 2) := by decide +kernel
theorem dX4_init_36 : decode cX4_init 36 = .ok (.putfield 20, 3) := by decide +kernel
theorem dX4_init_39 : decode cX4_init 39 = .ok (.aload_n 0, 1) := by decide +kernel
theorem dX4_init_40 : decode cX4_init 40 = .ok (.sipush 2001, 3) := by decide +kernel
theorem dX4_init_43 : decode cX4_init 43 = .ok (.newarray .int, 2) := by decide +kernel
theorem dX4_init_45 : decode cX4_init 45 = .ok (.putfield 23, 3) := by decide +kernel
theorem dX4_init_48 : decode cX4_init 48 = .ok (.aload_n 0, 1) := by decide +kernel
theorem dX4_init_49 : decode cX4_init 49 = .ok (.sipush 2001, 3) := by decide +kernel
theorem dX4_init_52 : decode cX4_init 52 = .ok (.newarray .long, 2) := by decide +kernel
theorem dX4_init_54 : decode cX4_init 54 = .ok (.putfield 26, 3) := by decide +kernel
theorem dX4_init_57 : decode cX4_init 57 = .ok (.aload_n 0, 1) := by decide +kernel
theorem dX4_init_58 : decode cX4_init 58 = .ok (.sipush 2001, 3) := by decide +kernel
theorem dX4_init_61 : decode cX4_init 61 = .ok (.newarray .long, 2) := by decide +kernel
theorem dX4_init_63 : decode cX4_init 63 = .ok (.putfield 29, 3) := by decide +kernel
theorem dX4_init_66 : decode cX4_init 66 = .ok (.aload_n 0, 1) := by decide +kernel
theorem dX4_init_67 : decode cX4_init 67 = .ok (.sipush 2001, 3) := by decide +kernel
theorem dX4_init_70 : decode cX4_init 70 = .ok (.newarray .boolean, 2) := by decide +kernel
theorem dX4_init_72 : decode cX4_init 72 = .ok (.putfield 32, 3) := by decide +kernel
theorem dX4_init_75 : decode cX4_init 75 = .ok (.aload_n 0, 1) := by decide +kernel
theorem dX4_init_76 : decode cX4_init 76 = .ok (.sipush 672, 3) := by decide +kernel
theorem dX4_init_79 : decode cX4_init 79 = .ok (.newarray .long, 2) := by decide +kernel
theorem dX4_init_81 : decode cX4_init 81 = .ok (.putfield 36, 3) := by decide +kernel
theorem dX4_init_84 : decode cX4_init 84 = .ok (.aload_n 0, 1) := by decide +kernel
theorem dX4_init_85 : decode cX4_init 85 = .ok (.bipush 21, 2) := by decide +kernel
theorem dX4_init_87 : decode cX4_init 87 = .ok (.newarray .int, 2) := by decide +kernel
theorem dX4_init_89 : decode cX4_init 89 = .ok (.putfield 39, 3) := by decide +kernel
theorem dX4_init_92 : decode cX4_init 92 = .ok (.aload_n 0, 1) := by decide +kernel
theorem dX4_init_93 : decode cX4_init 93 = .ok (.bipush 21, 2) := by decide +kernel
theorem dX4_init_95 : decode cX4_init 95 = .ok (.newarray .int, 2) := by decide +kernel
theorem dX4_init_97 : decode cX4_init 97 = .ok (.putfield 42, 3) := by decide +kernel
theorem dX4_init_100 : decode cX4_init 100 = .ok (.aload_n 0, 1) := by decide +kernel
theorem dX4_init_101 : decode cX4_init 101 = .ok (.bipush 21, 2) := by decide +kernel
theorem dX4_init_103 : decode cX4_init 103 = .ok (.newarray .boolean, 2) := by decide +kernel
theorem dX4_init_105 : decode cX4_init 105 = .ok (.putfield 45, 3) := by decide +kernel
theorem dX4_init_108 : decode cX4_init 108 = .ok (.aload_n 0, 1) := by decide +kernel
theorem dX4_init_109 : decode cX4_init 109 = .ok (.iload_n 1, 1) := by decide +kernel
theorem dX4_init_110 : decode cX4_init 110 = .ok (.iconst 1, 1) := by decide +kernel
theorem dX4_init_111 : decode cX4_init 111 = .ok (.if_icmp .ge 7, 3) := by decide +kernel
theorem dX4_init_114 : decode cX4_init 114 = .ok (.iconst 1, 1) := by decide +kernel
theorem dX4_init_115 : decode cX4_init 115 = .ok (.goto 13, 3) := by decide +kernel
theorem dX4_init_118 : decode cX4_init 118 = .ok (.iload_n 1, 1) := by decide +kernel
theorem dX4_init_119 : decode cX4_init 119 = .ok (.iconst 4, 1) := by decide +kernel
theorem dX4_init_120 : decode cX4_init 120 = .ok (.if_icmp .le 7, 3) := by decide +kernel
theorem dX4_init_123 : decode cX4_init 123 = .ok (.iconst 4, 1) := by decide +kernel
theorem dX4_init_124 : decode cX4_init 124 = .ok (.goto 4, 3) := by decide +kernel
theorem dX4_init_127 : decode cX4_init 127 = .ok (.iload_n 1, 1) := by decide +kernel
theorem dX4_init_128 : decode cX4_init 128 = .ok (.putfield 48, 3) := by decide +kernel
theorem dX4_init_131 : decode cX4_init 131 = .ok (.return_, 1) := by decide +kernel
theorem dX4_thrown_0 : decode cX4_thrown 0 = .ok (.aload_n 0, 1) := by decide +kernel
theorem dX4_thrown_1 : decode cX4_thrown 1 = .ok (.getfield 52, 3) := by decide +kernel
theorem dX4_thrown_4 : decode cX4_thrown 4 = .ok (.ireturn, 1) := by decide +kernel
theorem dX4_isUnit_0 : decode cX4_isUnit 0 = .ok (.iload_n 0, 1) := by decide +kernel
theorem dX4_isUnit_1 : decode cX4_isUnit 1 = .ok (.ifCond .le 13, 3) := by decide +kernel
theorem dX4_isUnit_4 : decode cX4_isUnit 4 = .ok (.iload_n 0, 1) := by decide +kernel
theorem dX4_isUnit_5 : decode cX4_isUnit 5 = .ok (.bipush 60, 2) := by decide +kernel
theorem dX4_isUnit_7 : decode cX4_isUnit 7 = .ok (.if_icmp .gt 7, 3) := by decide +kernel
theorem dX4_isUnit_10 : decode cX4_isUnit 10 = .ok (.iconst 1, 1) := by decide +kernel
theorem dX4_isUnit_11 : decode cX4_isUnit 11 = .ok (.goto 4, 3) := by decide +kernel
theorem dX4_isUnit_14 : decode cX4_isUnit 14 = .ok (.iconst 0, 1) := by decide +kernel
theorem dX4_isUnit_15 : decode cX4_isUnit 15 = .ok (.ireturn, 1) := by decide +kernel
theorem dX4_isCell_0 : decode cX4_isCell 0 = .ok (.iload_n 0, 1) := by decide +kernel
theorem dX4_isCell_1 : decode cX4_isCell 1 = .ok (.ifCond .lt 13, 3) := by decide +kernel
theorem dX4_isCell_4 : decode cX4_isCell 4 = .ok (.iload_n 0, 1) := by decide +kernel
theorem dX4_isCell_5 : decode cX4_isCell 5 = .ok (.bipush 32, 2) := by decide +kernel
theorem dX4_isCell_7 : decode cX4_isCell 7 = .ok (.if_icmp .ge 7, 3) := by decide +kernel
theorem dX4_isCell_10 : decode cX4_isCell 10 = .ok (.iconst 1, 1) := by decide +kernel
theorem dX4_isCell_11 : decode cX4_isCell 11 = .ok (.goto 4, 3) := by decide +kernel
theorem dX4_isCell_14 : decode cX4_isCell 14 = .ok (.iconst 0, 1) := by decide +kernel
theorem dX4_isCell_15 : decode cX4_isCell 15 = .ok (.ireturn, 1) := by decide +kernel
theorem dX4_stateOf_0 : decode cX4_stateOf 0 = .ok (.iconst 0, 1) := by decide +kernel
theorem dX4_stateOf_1 : decode cX4_stateOf 1 = .ok (.istore_n 3, 1) := by decide +kernel
theorem dX4_stateOf_2 : decode cX4_stateOf 2 = .ok (.iconst 1, 1) := by decide +kernel
theorem dX4_stateOf_3 : decode cX4_stateOf 3 = .ok (.istore 4, 2) := by decide +kernel
theorem dX4_stateOf_5 : decode cX4_stateOf 5 = .ok (.iload 4, 2) := by decide +kernel
theorem dX4_stateOf_7 : decode cX4_stateOf 7 = .ok (.iload_n 2, 1) := by decide +kernel
theorem dX4_stateOf_8 : decode cX4_stateOf 8 = .ok (.if_icmp .gt 63, 3) := by decide +kernel
theorem dX4_stateOf_11 : decode cX4_stateOf 11 = .ok (.aload_n 0, 1) := by decide +kernel
theorem dX4_stateOf_12 : decode cX4_stateOf 12 = .ok (.getfield 17, 3) := by decide +kernel
theorem dX4_stateOf_15 : decode cX4_stateOf 15 = .ok (.iload 4, 2) := by decide +kernel
theorem dX4_stateOf_17 : decode cX4_stateOf 17 = .ok (.iaload, 1) := by decide +kernel
theorem dX4_stateOf_18 : decode cX4_stateOf 18 = .ok (.iload_n 1, 1) := by decide +kernel
theorem dX4_stateOf_19 : decode cX4_stateOf 19 = .ok (.if_icmp .eq 6, 3) := by decide +kernel
theorem dX4_stateOf_22 : decode cX4_stateOf 22 = .ok (.goto 43, 3) := by decide +kernel
theorem dX4_stateOf_25 : decode cX4_stateOf 25 = .ok (.aload_n 0, 1) := by decide +kernel
theorem dX4_stateOf_26 : decode cX4_stateOf 26 = .ok (.getfield 13, 3) := by decide +kernel
theorem dX4_stateOf_29 : decode cX4_stateOf 29 = .ok (.iload 4, 2) := by decide +kernel
theorem dX4_stateOf_31 : decode cX4_stateOf 31 = .ok (.iaload, 1) := by decide +kernel
theorem dX4_stateOf_32 : decode cX4_stateOf 32 = .ok (.iconst 1, 1) := by decide +kernel
theorem dX4_stateOf_33 : decode cX4_stateOf 33 = .ok (.if_icmp .ne 7, 3) := by decide +kernel
theorem dX4_stateOf_36 : decode cX4_stateOf 36 = .ok (.iconst 2, 1) := by decide +kernel
theorem dX4_stateOf_37 : decode cX4_stateOf 37 = .ok (.goto 27, 3) := by decide +kernel
theorem dX4_stateOf_40 : decode cX4_stateOf 40 = .ok (.aload_n 0, 1) := by decide +kernel
theorem dX4_stateOf_41 : decode cX4_stateOf 41 = .ok (.getfield 13, 3) := by decide +kernel
theorem dX4_stateOf_44 : decode cX4_stateOf 44 = .ok (.iload 4, 2) := by decide +kernel
theorem dX4_stateOf_46 : decode cX4_stateOf 46 = .ok (.iaload, 1) := by decide +kernel
theorem dX4_stateOf_47 : decode cX4_stateOf 47 = .ok (.iconst 2, 1) := by decide +kernel
theorem dX4_stateOf_48 : decode cX4_stateOf 48 = .ok (.if_icmp .ne 7, 3) := by decide +kernel
theorem dX4_stateOf_51 : decode cX4_stateOf 51 = .ok (.iconst 3, 1) := by decide +kernel
theorem dX4_stateOf_52 : decode cX4_stateOf 52 = .ok (.goto 12, 3) := by decide +kernel
theorem dX4_stateOf_55 : decode cX4_stateOf 55 = .ok (.iload_n 3, 1) := by decide +kernel
theorem dX4_stateOf_56 : decode cX4_stateOf 56 = .ok (.ifCond .ne 7, 3) := by decide +kernel
theorem dX4_stateOf_59 : decode cX4_stateOf 59 = .ok (.iconst 1, 1) := by decide +kernel
theorem dX4_stateOf_60 : decode cX4_stateOf 60 = .ok (.goto 4, 3) := by decide +kernel
theorem dX4_stateOf_63 : decode cX4_stateOf 63 = .ok (.iload_n 3, 1) := by decide +kernel
theorem dX4_stateOf_64 : decode cX4_stateOf 64 = .ok (.istore_n 3, 1) := by decide +kernel
theorem dX4_stateOf_65 : decode cX4_stateOf 65 = .ok (.iinc 4 1, 3) := by decide +kernel
theorem dX4_stateOf_68 : decode cX4_stateOf 68 = .ok (.goto (-63), 3) := by decide +kernel
theorem dX4_stateOf_71 : decode cX4_stateOf 71 = .ok (.iload_n 3, 1) := by decide +kernel
theorem dX4_stateOf_72 : decode cX4_stateOf 72 = .ok (.ireturn, 1) := by decide +kernel
set_option maxRecDepth 20000 in
theorem ggX4_isOpen_X4_stateOf : GoodIn wsX4_isOpen wsX4_stateOf := goodIn_ca (goodIn_r _ [6, 7, 8, 9, 10, 11, 12, 13, 14, 15, 16, 17, 18, 19, 20, 21, 22, 23, 24, 25, 26] (by decide +kernel) (by decide +kernel)) (goodIn_sub (fun _ h => List.mem_cons_of_mem _ (List.mem_append_right _ h)) (by decide +kernel))
set_option maxRecDepth 20000 in
theorem gX4_isOpen_X4_stateOf : GoodIn wsX4_isOpen (wsV RX4 58 RX4 yX4_stateOf wsX4_stateOf) := goodIn_app (goodIn_of _ (by decide +kernel)) ggX4_isOpen_X4_stateOf
theorem dX4_isOpen_0 : decode cX4_isOpen 0 = .ok (.aload_n 0, 1) := by decide +kernel
theorem dX4_isOpen_1 : decode cX4_isOpen 1 = .ok (.iload_n 1, 1) := by decide +kernel
theorem dX4_isOpen_2 : decode cX4_isOpen 2 = .ok (.aload_n 0, 1) := by decide +kernel
theorem dX4_isOpen_3 : decode cX4_isOpen 3 = .ok (.getfield 55, 3) := by decide +kernel
theorem dX4_isOpen_6 : decode cX4_isOpen 6 = .ok (.invokevirtual 58, 3) := by decide +kernel
theorem dX4_isOpen_9 : decode cX4_isOpen 9 = .ok (.iconst 1, 1) := by decide +kernel
theorem dX4_isOpen_10 : decode cX4_isOpen 10 = .ok (.if_icmp .ne 7, 3) := by decide +kernel
theorem dX4_isOpen_13 : decode cX4_isOpen 13 = .ok (.iconst 1, 1) := by decide +kernel
theorem dX4_isOpen_14 : decode cX4_isOpen 14 = .ok (.goto 4, 3) := by decide +kernel
theorem dX4_isOpen_17 : decode cX4_isOpen 17 = .ok (.iconst 0, 1) := by decide +kernel
theorem dX4_isOpen_18 : decode cX4_isOpen 18 = .ok (.ireturn, 1) := by decide +kernel
theorem dX4_isMissing_0 : decode cX4_isMissing 0 = .ok (.aload_n 0, 1) := by decide +kernel
theorem dX4_isMissing_1 : decode cX4_isMissing 1 = .ok (.getfield 23, 3) := by decide +kernel
theorem dX4_isMissing_4 : decode cX4_isMissing 4 = .ok (.iload_n 1, 1) := by decide +kernel
theorem dX4_isMissing_5 : decode cX4_isMissing 5 = .ok (.iaload, 1) := by decide +kernel
theorem dX4_isMissing_6 : decode cX4_isMissing 6 = .ok (.iconst 3, 1) := by decide +kernel
theorem dX4_isMissing_7 : decode cX4_isMissing 7 = .ok (.if_icmp .ne 7, 3) := by decide +kernel
theorem dX4_isMissing_10 : decode cX4_isMissing 10 = .ok (.iconst 1, 1) := by decide +kernel
theorem dX4_isMissing_11 : decode cX4_isMissing 11 = .ok (.goto 4, 3) := by decide +kernel
theorem dX4_isMissing_14 : decode cX4_isMissing 14 = .ok (.iconst 0, 1) := by decide +kernel
theorem dX4_isMissing_15 : decode cX4_isMissing 15 = .ok (.ireturn, 1) := by decide +kernel
theorem dX4_isChange_0 : decode cX4_isChange 0 = .ok (.aload_n 0, 1) := by decide +kernel
theorem dX4_isChange_1 : decode cX4_isChange 1 = .ok (.getfield 13, 3) := by decide +kernel
theorem dX4_isChange_4 : decode cX4_isChange 4 = .ok (.iload_n 1, 1) := by decide +kernel
theorem dX4_isChange_5 : decode cX4_isChange 5 = .ok (.iaload, 1) := by decide +kernel
theorem dX4_isChange_6 : decode cX4_isChange 6 = .ok (.ifCond .ne 26, 3) := by decide +kernel
theorem dX4_isChange_9 : decode cX4_isChange 9 = .ok (.aload_n 0, 1) := by decide +kernel
theorem dX4_isChange_10 : decode cX4_isChange 10 = .ok (.getfield 17, 3) := by decide +kernel
theorem dX4_isChange_13 : decode cX4_isChange 13 = .ok (.iload_n 1, 1) := by decide +kernel
theorem dX4_isChange_14 : decode cX4_isChange 14 = .ok (.iaload, 1) := by decide +kernel
theorem dX4_isChange_15 : decode cX4_isChange 15 = .ok (.iload_n 2, 1) := by decide +kernel
theorem dX4_isChange_16 : decode cX4_isChange 16 = .ok (.if_icmp .ne 16, 3) := by decide +kernel
theorem dX4_isChange_19 : decode cX4_isChange 19 = .ok (.aload_n 0, 1) := by decide +kernel
theorem dX4_isChange_20 : decode cX4_isChange 20 = .ok (.getfield 32, 3) := by decide +kernel
theorem dX4_isChange_23 : decode cX4_isChange 23 = .ok (.iload_n 1, 1) := by decide +kernel
theorem dX4_isChange_24 : decode cX4_isChange 24 = .ok (.baload, 1) := by decide +kernel
theorem dX4_isChange_25 : decode cX4_isChange 25 = .ok (.ifCond .ne 7, 3) := by decide +kernel
theorem dX4_isChange_28 : decode cX4_isChange 28 = .ok (.iconst 1, 1) := by decide +kernel
theorem dX4_isChange_29 : decode cX4_isChange 29 = .ok (.goto 4, 3) := by decide +kernel
theorem dX4_isChange_32 : decode cX4_isChange 32 = .ok (.iconst 0, 1) := by decide +kernel
theorem dX4_isChange_33 : decode cX4_isChange 33 = .ok (.ireturn, 1) := by decide +kernel
set_option maxRecDepth 20000 in
theorem ggX4_changes_X4_isChange : GoodIn wsX4_changes wsX4_isChange := goodIn_ca (goodIn_r _ [5, 6, 7, 8, 9, 10, 11, 12, 13, 14, 15, 16, 17, 18, 19, 20, 21, 22, 23, 24, 25, 26] (by decide +kernel) (by decide +kernel)) (goodIn_sub (fun _ h => List.mem_cons_of_mem _ (List.mem_append_right _ h)) (by decide +kernel))
set_option maxRecDepth 20000 in
theorem gX4_changes_X4_isChange : GoodIn wsX4_changes (wsV RX4 62 RX4 yX4_isChange wsX4_isChange) := goodIn_app (goodIn_of _ (by decide +kernel)) ggX4_changes_X4_isChange
theorem dX4_changes_0 : decode cX4_changes 0 = .ok (.iconst 0, 1) := by decide +kernel
theorem dX4_changes_1 : decode cX4_changes 1 = .ok (.istore_n 3, 1) := by decide +kernel
theorem dX4_changes_2 : decode cX4_changes 2 = .ok (.iconst 1, 1) := by decide +kernel
theorem dX4_changes_3 : decode cX4_changes 3 = .ok (.istore 4, 2) := by decide +kernel
theorem dX4_changes_5 : decode cX4_changes 5 = .ok (.iload 4, 2) := by decide +kernel
theorem dX4_changes_7 : decode cX4_changes 7 = .ok (.iload_n 2, 1) := by decide +kernel
theorem dX4_changes_8 : decode cX4_changes 8 = .ok (.if_icmp .gt 27, 3) := by decide +kernel
theorem dX4_changes_11 : decode cX4_changes 11 = .ok (.iload_n 3, 1) := by decide +kernel
theorem dX4_changes_12 : decode cX4_changes 12 = .ok (.aload_n 0, 1) := by decide +kernel
theorem dX4_changes_13 : decode cX4_changes 13 = .ok (.iload 4, 2) := by decide +kernel
theorem dX4_changes_15 : decode cX4_changes 15 = .ok (.iload_n 1, 1) := by decide +kernel
theorem dX4_changes_16 : decode cX4_changes 16 = .ok (.invokevirtual 62, 3) := by decide +kernel
theorem dX4_changes_19 : decode cX4_changes 19 = .ok (.ifCond .eq 7, 3) := by decide +kernel
theorem dX4_changes_22 : decode cX4_changes 22 = .ok (.iconst 1, 1) := by decide +kernel
theorem dX4_changes_23 : decode cX4_changes 23 = .ok (.goto 4, 3) := by decide +kernel
theorem dX4_changes_26 : decode cX4_changes 26 = .ok (.iconst 0, 1) := by decide +kernel
theorem dX4_changes_27 : decode cX4_changes 27 = .ok (.iadd, 1) := by decide +kernel
theorem dX4_changes_28 : decode cX4_changes 28 = .ok (.istore_n 3, 1) := by decide +kernel
theorem dX4_changes_29 : decode cX4_changes 29 = .ok (.iinc 4 1, 3) := by decide +kernel
theorem dX4_changes_32 : decode cX4_changes 32 = .ok (.goto (-27), 3) := by decide +kernel
theorem dX4_changes_35 : decode cX4_changes 35 = .ok (.iload_n 3, 1) := by decide +kernel
theorem dX4_changes_36 : decode cX4_changes 36 = .ok (.ireturn, 1) := by decide +kernel
theorem dX4_finish_0 : decode cX4_finish 0 = .ok (.aload_n 0, 1) := by decide +kernel
theorem dX4_finish_1 : decode cX4_finish 1 = .ok (.getfield 66, 3) := by decide +kernel
theorem dX4_finish_4 : decode cX4_finish 4 = .ok (.ifCond .ne 4, 3) := by decide +kernel
theorem dX4_finish_7 : decode cX4_finish 7 = .ok (.return_, 1) := by decide +kernel
theorem dX4_finish_8 : decode cX4_finish 8 = .ok (.bipush 16, 2) := by decide +kernel
theorem dX4_finish_10 : decode cX4_finish 10 = .ok (.istore_n 1, 1) := by decide +kernel
theorem dX4_finish_11 : decode cX4_finish 11 = .ok (.iload_n 1, 1) := by decide +kernel
theorem dX4_finish_12 : decode cX4_finish 12 = .ok (.bipush 32, 2) := by decide +kernel
theorem dX4_finish_14 : decode cX4_finish 14 = .ok (.if_icmp .ge 29, 3) := by decide +kernel
theorem dX4_finish_17 : decode cX4_finish 17 = .ok (.aload_n 0, 1) := by decide +kernel
theorem dX4_finish_18 : decode cX4_finish 18 = .ok (.getfield 36, 3) := by decide +kernel
theorem dX4_finish_21 : decode cX4_finish 21 = .ok (.bipush 32, 2) := by decide +kernel
theorem dX4_finish_23 : decode cX4_finish 23 = .ok (.aload_n 0, 1) := by decide +kernel
theorem dX4_finish_24 : decode cX4_finish 24 = .ok (.getfield 66, 3) := by decide +kernel
theorem dX4_finish_27 : decode cX4_finish 27 = .ok (.imul, 1) := by decide +kernel
theorem dX4_finish_28 : decode cX4_finish 28 = .ok (.iload_n 1, 1) := by decide +kernel
theorem dX4_finish_29 : decode cX4_finish 29 = .ok (.iadd, 1) := by decide +kernel
theorem dX4_finish_30 : decode cX4_finish 30 = .ok (.aload_n 0, 1) := by decide +kernel
theorem dX4_finish_31 : decode cX4_finish 31 = .ok (.getfield 7, 3) := by decide +kernel
theorem dX4_finish_34 : decode cX4_finish 34 = .ok (.iload_n 1, 1) := by decide +kernel
theorem dX4_finish_35 : decode cX4_finish 35 = .ok (.laload, 1) := by decide +kernel
theorem dX4_finish_36 : decode cX4_finish 36 = .ok (.lastore, 1) := by decide +kernel
theorem dX4_finish_37 : decode cX4_finish 37 = .ok (.iinc 1 1, 3) := by decide +kernel
theorem dX4_finish_40 : decode cX4_finish 40 = .ok (.goto (-29), 3) := by decide +kernel
theorem dX4_finish_43 : decode cX4_finish 43 = .ok (.aload_n 0, 1) := by decide +kernel
theorem dX4_finish_44 : decode cX4_finish 44 = .ok (.getfield 42, 3) := by decide +kernel
theorem dX4_finish_47 : decode cX4_finish 47 = .ok (.aload_n 0, 1) := by decide +kernel
theorem dX4_finish_48 : decode cX4_finish 48 = .ok (.getfield 66, 3) := by decide +kernel
theorem dX4_finish_51 : decode cX4_finish 51 = .ok (.aload_n 0, 1) := by decide +kernel
theorem dX4_finish_52 : decode cX4_finish 52 = .ok (.getfield 55, 3) := by decide +kernel
theorem dX4_finish_55 : decode cX4_finish 55 = .ok (.iastore, 1) := by decide +kernel
theorem dX4_finish_56 : decode cX4_finish 56 = .ok (.aload_n 0, 1) := by decide +kernel
theorem dX4_finish_57 : decode cX4_finish 57 = .ok (.iconst 0, 1) := by decide +kernel
theorem dX4_finish_58 : decode cX4_finish 58 = .ok (.putfield 66, 3) := by decide +kernel
theorem dX4_finish_61 : decode cX4_finish 61 = .ok (.return_, 1) := by decide +kernel
set_option maxRecDepth 20000 in
theorem ggX4_write_X4_finish : GoodIn wsX4_write wsX4_finish := goodIn_ca (goodIn_r _ [16, 10, 17, 9, 18, 1, 19, 20, 21, 22, 23, 24, 25, 26, 27, 28, 29, 30, 31, 32, 33, 34, 35, 36] (by decide +kernel) (by decide +kernel)) (goodIn_sub (fun _ h => List.mem_cons_of_mem _ (List.mem_append_right _ h)) (by decide +kernel))
set_option maxRecDepth 20000 in
theorem gX4_write_X4_finish : GoodIn wsX4_write (wsV RX4 69 RX4 yX4_finish wsX4_finish) := goodIn_app (goodIn_of _ (by decide +kernel)) ggX4_write_X4_finish
theorem dX4_write_0 : decode cX4_write 0 = .ok (.aload_n 0, 1) := by decide +kernel
theorem dX4_write_1 : decode cX4_write 1 = .ok (.dup, 1) := by decide +kernel
theorem dX4_write_2 : decode cX4_write 2 = .ok (.getfield 55, 3) := by decide +kernel
theorem dX4_write_5 : decode cX4_write 5 = .ok (.iconst 1, 1) := by decide +kernel
theorem dX4_write_6 : decode cX4_write 6 = .ok (.iadd, 1) := by decide +kernel
theorem dX4_write_7 : decode cX4_write 7 = .ok (.putfield 55, 3) := by decide +kernel
theorem dX4_write_10 : decode cX4_write 10 = .ok (.aload_n 0, 1) := by decide +kernel
theorem dX4_write_11 : decode cX4_write 11 = .ok (.getfield 13, 3) := by decide +kernel
theorem dX4_write_14 : decode cX4_write 14 = .ok (.aload_n 0, 1) := by decide +kernel
theorem dX4_write_15 : decode cX4_write 15 = .ok (.getfield 55, 3) := by decide +kernel
theorem dX4_write_18 : decode cX4_write 18 = .ok (.iload_n 1, 1) := by decide +kernel
theorem dX4_write_19 : decode cX4_write 19 = .ok (.iastore, 1) := by decide +kernel
theorem dX4_write_20 : decode cX4_write 20 = .ok (.aload_n 0, 1) := by decide +kernel
theorem dX4_write_21 : decode cX4_write 21 = .ok (.getfield 17, 3) := by decide +kernel
theorem dX4_write_24 : decode cX4_write 24 = .ok (.aload_n 0, 1) := by decide +kernel
theorem dX4_write_25 : decode cX4_write 25 = .ok (.getfield 55, 3) := by decide +kernel
theorem dX4_write_28 : decode cX4_write 28 = .ok (.iload_n 2, 1) := by decide +kernel
theorem dX4_write_29 : decode cX4_write 29 = .ok (.iastore, 1) := by decide +kernel
theorem dX4_write_30 : decode cX4_write 30 = .ok (.aload_n 0, 1) := by decide +kernel
theorem dX4_write_31 : decode cX4_write 31 = .ok (.getfield 20, 3) := by decide +kernel
theorem dX4_write_34 : decode cX4_write 34 = .ok (.aload_n 0, 1) := by decide +kernel
theorem dX4_write_35 : decode cX4_write 35 = .ok (.getfield 55, 3) := by decide +kernel
theorem dX4_write_38 : decode cX4_write 38 = .ok (.iload_n 3, 1) := by decide +kernel
theorem dX4_write_39 : decode cX4_write 39 = .ok (.iastore, 1) := by decide +kernel
theorem dX4_write_40 : decode cX4_write 40 = .ok (.aload_n 0, 1) := by decide +kernel
theorem dX4_write_41 : decode cX4_write 41 = .ok (.getfield 26, 3) := by decide +kernel
theorem dX4_write_44 : decode cX4_write 44 = .ok (.aload_n 0, 1) := by decide +kernel
theorem dX4_write_45 : decode cX4_write 45 = .ok (.getfield 55, 3) := by decide +kernel
theorem dX4_write_48 : decode cX4_write 48 = .ok (.lload 4, 2) := by decide +kernel
theorem dX4_write_50 : decode cX4_write 50 = .ok (.lastore, 1) := by decide +kernel
theorem dX4_write_51 : decode cX4_write 51 = .ok (.aload_n 0, 1) := by decide +kernel
theorem dX4_write_52 : decode cX4_write 52 = .ok (.getfield 29, 3) := by decide +kernel
theorem dX4_write_55 : decode cX4_write 55 = .ok (.aload_n 0, 1) := by decide +kernel
theorem dX4_write_56 : decode cX4_write 56 = .ok (.getfield 55, 3) := by decide +kernel
theorem dX4_write_59 : decode cX4_write 59 = .ok (.lload 6, 2) := by decide +kernel
theorem dX4_write_61 : decode cX4_write 61 = .ok (.lastore, 1) := by decide +kernel
theorem dX4_write_62 : decode cX4_write 62 = .ok (.aload_n 0, 1) := by decide +kernel
theorem dX4_write_63 : decode cX4_write 63 = .ok (.getfield 23, 3) := by decide +kernel
theorem dX4_write_66 : decode cX4_write 66 = .ok (.aload_n 0, 1) := by decide +kernel
theorem dX4_write_67 : decode cX4_write 67 = .ok (.getfield 55, 3) := by decide +kernel
theorem dX4_write_70 : decode cX4_write 70 = .ok (.iconst 0, 1) := by decide +kernel
theorem dX4_write_71 : decode cX4_write 71 = .ok (.iastore, 1) := by decide +kernel
theorem dX4_write_72 : decode cX4_write 72 = .ok (.aload_n 0, 1) := by decide +kernel
theorem dX4_write_73 : decode cX4_write 73 = .ok (.getfield 32, 3) := by decide +kernel
theorem dX4_write_76 : decode cX4_write 76 = .ok (.aload_n 0, 1) := by decide +kernel
theorem dX4_write_77 : decode cX4_write 77 = .ok (.getfield 55, 3) := by decide +kernel
theorem dX4_write_80 : decode cX4_write 80 = .ok (.iload 8, 2) := by decide +kernel
theorem dX4_write_82 : decode cX4_write 82 = .ok (.bastore, 1) := by decide +kernel
theorem dX4_write_83 : decode cX4_write 83 = .ok (.iload_n 1, 1) := by decide +kernel
theorem dX4_write_84 : decode cX4_write 84 = .ok (.ifCond .ne 11, 3) := by decide +kernel
theorem dX4_write_87 : decode cX4_write 87 = .ok (.aload_n 0, 1) := by decide +kernel
theorem dX4_write_88 : decode cX4_write 88 = .ok (.getfield 7, 3) := by decide +kernel
theorem dX4_write_91 : decode cX4_write 91 = .ok (.iload_n 3, 1) := by decide +kernel
theorem dX4_write_92 : decode cX4_write 92 = .ok (.lload 6, 2) := by decide +kernel
theorem dX4_write_94 : decode cX4_write 94 = .ok (.lastore, 1) := by decide +kernel
theorem dX4_write_95 : decode cX4_write 95 = .ok (.aload_n 0, 1) := by decide +kernel
theorem dX4_write_96 : decode cX4_write 96 = .ok (.getfield 66, 3) := by decide +kernel
theorem dX4_write_99 : decode cX4_write 99 = .ok (.ifCond .le 25, 3) := by decide +kernel
theorem dX4_write_102 : decode cX4_write 102 = .ok (.aload_n 0, 1) := by decide +kernel
theorem dX4_write_103 : decode cX4_write 103 = .ok (.getfield 55, 3) := by decide +kernel
theorem dX4_write_106 : decode cX4_write 106 = .ok (.aload_n 0, 1) := by decide +kernel
theorem dX4_write_107 : decode cX4_write 107 = .ok (.getfield 39, 3) := by decide +kernel
theorem dX4_write_110 : decode cX4_write 110 = .ok (.aload_n 0, 1) := by decide +kernel
theorem dX4_write_111 : decode cX4_write 111 = .ok (.getfield 66, 3) := by decide +kernel
theorem dX4_write_114 : decode cX4_write 114 = .ok (.iaload, 1) := by decide +kernel
theorem dX4_write_115 : decode cX4_write 115 = .ok (.iconst 5, 1) := by decide +kernel
theorem dX4_write_116 : decode cX4_write 116 = .ok (.iadd, 1) := by decide +kernel
theorem dX4_write_117 : decode cX4_write 117 = .ok (.if_icmp .ne 7, 3) := by decide +kernel
theorem dX4_write_120 : decode cX4_write 120 = .ok (.aload_n 0, 1) := by decide +kernel
theorem dX4_write_121 : decode cX4_write 121 = .ok (.invokevirtual 69, 3) := by decide +kernel
theorem dX4_write_124 : decode cX4_write 124 = .ok (.return_, 1) := by decide +kernel
set_option maxRecDepth 20000 in
theorem ggX4_isTaken_X4_isOpen : GoodIn wsX4_isTaken wsX4_isOpen := goodIn_ca (goodIn_r _ [7, 1, 8, 9, 10, 6, 11, 12, 13, 19, 20, 21, 22, 23, 24, 25, 26, 27, 28, 29, 30, 31, 32, 33, 34, 35, 36] (by decide +kernel) (by decide +kernel)) (goodIn_sub (fun _ h => List.mem_cons_of_mem _ (List.mem_append_right _ h)) (by decide +kernel))
set_option maxRecDepth 20000 in
theorem gX4_isTaken_X4_isOpen : GoodIn wsX4_isTaken (wsV RX4 72 RX4 yX4_isOpen wsX4_isOpen) := goodIn_app (goodIn_of _ (by decide +kernel)) ggX4_isTaken_X4_isOpen
set_option maxRecDepth 20000 in
theorem ggX4_isTaken_X4_isChange : GoodIn wsX4_isTaken wsX4_isChange := goodIn_ca (goodIn_r _ [17, 13, 12, 18, 19, 20, 21, 22, 23, 24, 25, 26, 27, 28, 29, 30, 31, 32, 33, 34, 35, 36] (by decide +kernel) (by decide +kernel)) (goodIn_sub (fun _ h => List.mem_cons_of_mem _ (List.mem_append_right _ h)) (by decide +kernel))
set_option maxRecDepth 20000 in
theorem gX4_isTaken_X4_isChange : GoodIn wsX4_isTaken (wsV RX4 62 RX4 yX4_isChange wsX4_isChange) := goodIn_app (goodIn_of _ (by decide +kernel)) ggX4_isTaken_X4_isChange
theorem dX4_isTaken_0 : decode cX4_isTaken 0 = .ok (.iconst 1, 1) := by decide +kernel
theorem dX4_isTaken_1 : decode cX4_isTaken 1 = .ok (.istore_n 3, 1) := by decide +kernel
theorem dX4_isTaken_2 : decode cX4_isTaken 2 = .ok (.iload_n 3, 1) := by decide +kernel
theorem dX4_isTaken_3 : decode cX4_isTaken 3 = .ok (.bipush 60, 2) := by decide +kernel
theorem dX4_isTaken_5 : decode cX4_isTaken 5 = .ok (.if_icmp .gt 66, 3) := by decide +kernel
theorem dX4_isTaken_8 : decode cX4_isTaken 8 = .ok (.iload_n 3, 1) := by decide +kernel
theorem dX4_isTaken_9 : decode cX4_isTaken 9 = .ok (.iload_n 2, 1) := by decide +kernel
theorem dX4_isTaken_10 : decode cX4_isTaken 10 = .ok (.if_icmp .eq 55, 3) := by decide +kernel
theorem dX4_isTaken_13 : decode cX4_isTaken 13 = .ok (.aload_n 0, 1) := by decide +kernel
theorem dX4_isTaken_14 : decode cX4_isTaken 14 = .ok (.iload_n 3, 1) := by decide +kernel
theorem dX4_isTaken_15 : decode cX4_isTaken 15 = .ok (.invokevirtual 72, 3) := by decide +kernel
theorem dX4_isTaken_18 : decode cX4_isTaken 18 = .ok (.ifCond .ne 6, 3) := by decide +kernel
theorem dX4_isTaken_21 : decode cX4_isTaken 21 = .ok (.goto 44, 3) := by decide +kernel
theorem dX4_isTaken_24 : decode cX4_isTaken 24 = .ok (.iconst 1, 1) := by decide +kernel
theorem dX4_isTaken_25 : decode cX4_isTaken 25 = .ok (.istore 4, 2) := by decide +kernel
theorem dX4_isTaken_27 : decode cX4_isTaken 27 = .ok (.iload 4, 2) := by decide +kernel
theorem dX4_isTaken_29 : decode cX4_isTaken 29 = .ok (.aload_n 0, 1) := by decide +kernel
theorem dX4_isTaken_30 : decode cX4_isTaken 30 = .ok (.getfield 55, 3) := by decide +kernel
theorem dX4_isTaken_33 : decode cX4_isTaken 33 = .ok (.if_icmp .gt 32, 3) := by decide +kernel
theorem dX4_isTaken_36 : decode cX4_isTaken 36 = .ok (.aload_n 0, 1) := by decide +kernel
theorem dX4_isTaken_37 : decode cX4_isTaken 37 = .ok (.iload 4, 2) := by decide +kernel
theorem dX4_isTaken_39 : decode cX4_isTaken 39 = .ok (.iload_n 3, 1) := by decide +kernel
theorem dX4_isTaken_40 : decode cX4_isTaken 40 = .ok (.invokevirtual 62, 3) := by decide +kernel
theorem dX4_isTaken_43 : decode cX4_isTaken 43 = .ok (.ifCond .eq 16, 3) := by decide +kernel
theorem dX4_isTaken_46 : decode cX4_isTaken 46 = .ok (.aload_n 0, 1) := by decide +kernel
theorem dX4_isTaken_47 : decode cX4_isTaken 47 = .ok (.getfield 20, 3) := by decide +kernel
theorem dX4_isTaken_50 : decode cX4_isTaken 50 = .ok (.iload 4, 2) := by decide +kernel
theorem dX4_isTaken_52 : decode cX4_isTaken 52 = .ok (.iaload, 1) := by decide +kernel
theorem dX4_isTaken_53 : decode cX4_isTaken 53 = .ok (.iload_n 1, 1) := by decide +kernel
theorem dX4_isTaken_54 : decode cX4_isTaken 54 = .ok (.if_icmp .ne 5, 3) := by decide +kernel
theorem dX4_isTaken_57 : decode cX4_isTaken 57 = .ok (.iconst 1, 1) := by decide +kernel
theorem dX4_isTaken_58 : decode cX4_isTaken 58 = .ok (.ireturn, 1) := by decide +kernel
theorem dX4_isTaken_59 : decode cX4_isTaken 59 = .ok (.iinc 4 1, 3) := by decide +kernel
theorem dX4_isTaken_62 : decode cX4_isTaken 62 = .ok (.goto (-35), 3) := by decide +kernel
theorem dX4_isTaken_65 : decode cX4_isTaken 65 = .ok (.iinc 3 1, 3) := by decide +kernel
theorem dX4_isTaken_68 : decode cX4_isTaken 68 = .ok (.goto (-66), 3) := by decide +kernel
theorem dX4_isTaken_71 : decode cX4_isTaken 71 = .ok (.iconst 0, 1) := by decide +kernel
theorem dX4_isTaken_72 : decode cX4_isTaken 72 = .ok (.ireturn, 1) := by decide +kernel
set_option maxRecDepth 20000 in
theorem ggX4_row_X4_isUnit : GoodIn wsX4_row wsX4_isUnit := goodIn_r _ [7] (by decide +kernel) (by decide +kernel)
set_option maxRecDepth 20000 in
theorem gX4_row_X4_isUnit : GoodIn wsX4_row (va_wsS RX4 76 yX4_isUnit wsX4_isUnit) := goodIn_app (goodIn_of _ (by decide +kernel)) ggX4_row_X4_isUnit
set_option maxRecDepth 20000 in
theorem ggX4_row_X4_isCell : GoodIn wsX4_row wsX4_isCell := goodIn_r _ [10] (by decide +kernel) (by decide +kernel)
set_option maxRecDepth 20000 in
theorem gX4_row_X4_isCell : GoodIn wsX4_row (va_wsS RX4 79 yX4_isCell wsX4_isCell) := goodIn_app (goodIn_of _ (by decide +kernel)) ggX4_row_X4_isCell
set_option maxRecDepth 20000 in
theorem ggX4_row_X4_stateOf : GoodIn wsX4_row wsX4_stateOf := goodIn_ca (goodIn_r _ [14, 15, 16, 46, 47, 48, 49, 50, 51, 52, 53, 54, 55, 56, 57, 58, 59, 60, 61, 62, 63] (by decide +kernel) (by decide +kernel)) (goodIn_sub (fun _ h => List.mem_cons_of_mem _ (List.mem_append_right _ h)) (by decide +kernel))
set_option maxRecDepth 20000 in
theorem gX4_row_X4_stateOf : GoodIn wsX4_row (wsV RX4 58 RX4 yX4_stateOf wsX4_stateOf) := goodIn_app (goodIn_of _ (by decide +kernel)) ggX4_row_X4_stateOf
set_option maxRecDepth 20000 in
theorem ggX4_row_X4_isTaken : GoodIn wsX4_row wsX4_isTaken := goodIn_ca (goodIn_r _ [20, 2, 21, 22, 23, 24, 6, 25, 11, 12, 13, 14, 15, 16, 26, 27, 28, 29, 30, 46, 47, 48, 49, 50, 51, 52, 53, 54, 55, 56, 57, 58, 59, 60, 61, 62, 63] (by decide +kernel) (by decide +kernel)) (goodIn_sub (fun _ h => List.mem_cons_of_mem _ (List.mem_append_right _ h)) (by decide +kernel))
set_option maxRecDepth 20000 in
theorem gX4_row_X4_isTaken : GoodIn wsX4_row (wsV RX4 82 RX4 yX4_isTaken wsX4_isTaken) := goodIn_app (goodIn_of _ (by decide +kernel)) ggX4_row_X4_isTaken
set_option maxRecDepth 20000 in
theorem ggX4_row_X4_write : GoodIn wsX4_row wsX4_write := goodIn_ca (goodIn_r _ [34, 2, 16, 15, 21, 35, 36, 37, 30, 3, 38, 39, 40, 41, 42, 6, 43, 44, 45, 46, 47, 48, 49, 50, 51, 52, 53, 54, 55, 56, 57, 58, 59, 60, 61, 62, 63] (by decide +kernel) (by decide +kernel)) (goodIn_sub (fun _ h => List.mem_cons_of_mem _ (List.mem_append_right _ h)) (by decide +kernel))
set_option maxRecDepth 20000 in
theorem gX4_row_X4_write : GoodIn wsX4_row (wsV RX4 85 RX4 yX4_write wsX4_write) := goodIn_app (goodIn_of _ (by decide +kernel)) ggX4_row_X4_write
theorem dX4_row_0 : decode cX4_row 0 = .ok (.aload_n 0, 1) := by decide +kernel
theorem dX4_row_1 : decode cX4_row 1 = .ok (.iconst 0, 1) := by decide +kernel
theorem dX4_row_2 : decode cX4_row 2 = .ok (.putfield 52, 3) := by decide +kernel
theorem dX4_row_5 : decode cX4_row 5 = .ok (.iload_n 1, 1) := by decide +kernel
theorem dX4_row_6 : decode cX4_row 6 = .ok (.invokestatic 76, 3) := by decide +kernel
theorem dX4_row_9 : decode cX4_row 9 = .ok (.ifCond .eq 10, 3) := by decide +kernel
theorem dX4_row_12 : decode cX4_row 12 = .ok (.iload_n 2, 1) := by decide +kernel
theorem dX4_row_13 : decode cX4_row 13 = .ok (.invokestatic 79, 3) := by decide +kernel
theorem dX4_row_16 : decode cX4_row 16 = .ok (.ifCond .ne 6, 3) := by decide +kernel
theorem dX4_row_19 : decode cX4_row 19 = .ok (.bipush (-4), 2) := by decide +kernel
theorem dX4_row_21 : decode cX4_row 21 = .ok (.ireturn, 1) := by decide +kernel
theorem dX4_row_22 : decode cX4_row 22 = .ok (.aload_n 0, 1) := by decide +kernel
theorem dX4_row_23 : decode cX4_row 23 = .ok (.iload_n 1, 1) := by decide +kernel
theorem dX4_row_24 : decode cX4_row 24 = .ok (.aload_n 0, 1) := by decide +kernel
theorem dX4_row_25 : decode cX4_row 25 = .ok (.getfield 55, 3) := by decide +kernel
theorem dX4_row_28 : decode cX4_row 28 = .ok (.invokevirtual 58, 3) := by decide +kernel
theorem dX4_row_31 : decode cX4_row 31 = .ok (.iconst 1, 1) := by decide +kernel
theorem dX4_row_32 : decode cX4_row 32 = .ok (.if_icmp .le 6, 3) := by decide +kernel
theorem dX4_row_35 : decode cX4_row 35 = .ok (.bipush (-5), 2) := by decide +kernel
theorem dX4_row_37 : decode cX4_row 37 = .ok (.ireturn, 1) := by decide +kernel
theorem dX4_row_38 : decode cX4_row 38 = .ok (.aload_n 0, 1) := by decide +kernel
theorem dX4_row_39 : decode cX4_row 39 = .ok (.iload_n 2, 1) := by decide +kernel
theorem dX4_row_40 : decode cX4_row 40 = .ok (.iload_n 1, 1) := by decide +kernel
theorem dX4_row_41 : decode cX4_row 41 = .ok (.invokevirtual 82, 3) := by decide +kernel
theorem dX4_row_44 : decode cX4_row 44 = .ok (.ifCond .eq 6, 3) := by decide +kernel
theorem dX4_row_47 : decode cX4_row 47 = .ok (.bipush (-3), 2) := by decide +kernel
theorem dX4_row_49 : decode cX4_row 49 = .ok (.ireturn, 1) := by decide +kernel
theorem dX4_row_50 : decode cX4_row 50 = .ok (.aload_n 0, 1) := by decide +kernel
theorem dX4_row_51 : decode cX4_row 51 = .ok (.getfield 7, 3) := by decide +kernel
theorem dX4_row_54 : decode cX4_row 54 = .ok (.iload_n 2, 1) := by decide +kernel
theorem dX4_row_55 : decode cX4_row 55 = .ok (.laload, 1) := by decide +kernel
theorem dX4_row_56 : decode cX4_row 56 = .ok (.lload_n 3, 1) := by decide +kernel
theorem dX4_row_57 : decode cX4_row 57 = .ok (.lcmp, 1) := by decide +kernel
theorem dX4_row_58 : decode cX4_row 58 = .ok (.ifCond .eq 5, 3) := by decide +kernel
theorem dX4_row_61 : decode cX4_row 61 = .ok (.iconst 0, 1) := by decide +kernel
theorem dX4_row_62 : decode cX4_row 62 = .ok (.ireturn, 1) := by decide +kernel
theorem dX4_row_63 : decode cX4_row 63 = .ok (.aload_n 0, 1) := by decide +kernel
theorem dX4_row_64 : decode cX4_row 64 = .ok (.getfield 55, 3) := by decide +kernel
theorem dX4_row_67 : decode cX4_row 67 = .ok (.sipush 2000, 3) := by decide +kernel
theorem dX4_row_70 : decode cX4_row 70 = .ok (.if_icmp .ne 5, 3) := by decide +kernel
theorem dX4_row_73 : decode cX4_row 73 = .ok (.iconst (-1), 1) := by decide +kernel
theorem dX4_row_74 : decode cX4_row 74 = .ok (.ireturn, 1) := by decide +kernel
theorem dX4_row_75 : decode cX4_row 75 = .ok (.aload_n 0, 1) := by decide +kernel
theorem dX4_row_76 : decode cX4_row 76 = .ok (.iconst 0, 1) := by decide +kernel
theorem dX4_row_77 : decode cX4_row 77 = .ok (.iload_n 1, 1) := by decide +kernel
theorem dX4_row_78 : decode cX4_row 78 = .ok (.iload_n 2, 1) := by decide +kernel
theorem dX4_row_79 : decode cX4_row 79 = .ok (.lload_n 3, 1) := by decide +kernel
theorem dX4_row_80 : decode cX4_row 80 = .ok (.lload 5, 2) := by decide +kernel
theorem dX4_row_82 : decode cX4_row 82 = .ok (.iconst 0, 1) := by decide +kernel
theorem dX4_row_83 : decode cX4_row 83 = .ok (.invokevirtual 85, 3) := by decide +kernel
theorem dX4_row_86 : decode cX4_row 86 = .ok (.aload_n 0, 1) := by decide +kernel
theorem dX4_row_87 : decode cX4_row 87 = .ok (.getfield 55, 3) := by decide +kernel
theorem dX4_row_90 : decode cX4_row 90 = .ok (.ireturn, 1) := by decide +kernel
set_option maxRecDepth 20000 in
theorem ggX4_sync_X4_isUnit : GoodIn wsX4_sync wsX4_isUnit := goodIn_r _ [6] (by decide +kernel) (by decide +kernel)
set_option maxRecDepth 20000 in
theorem gX4_sync_X4_isUnit : GoodIn wsX4_sync (va_wsS RX4 76 yX4_isUnit wsX4_isUnit) := goodIn_app (goodIn_of _ (by decide +kernel)) ggX4_sync_X4_isUnit
set_option maxRecDepth 20000 in
theorem ggX4_sync_X4_isOpen : GoodIn wsX4_sync wsX4_isOpen := goodIn_ca (goodIn_r _ [10, 2, 11, 12, 13, 5, 14, 15, 16, 35, 36, 37, 38, 39, 40, 41, 42, 43, 44, 45, 46, 47, 48, 49, 50, 51, 52] (by decide +kernel) (by decide +kernel)) (goodIn_sub (fun _ h => List.mem_cons_of_mem _ (List.mem_append_right _ h)) (by decide +kernel))
set_option maxRecDepth 20000 in
theorem gX4_sync_X4_isOpen : GoodIn wsX4_sync (wsV RX4 72 RX4 yX4_isOpen wsX4_isOpen) := goodIn_app (goodIn_of _ (by decide +kernel)) ggX4_sync_X4_isOpen
set_option maxRecDepth 20000 in
theorem ggX4_sync_X4_write : GoodIn wsX4_sync wsX4_write := goodIn_ca (goodIn_r _ [20, 2, 16, 15, 21, 22, 23, 24, 25, 26, 27, 28, 29, 30, 31, 5, 32, 33, 34, 35, 36, 37, 38, 39, 40, 41, 42, 43, 44, 45, 46, 47, 48, 49, 50, 51, 52] (by decide +kernel) (by decide +kernel)) (goodIn_sub (fun _ h => List.mem_cons_of_mem _ (List.mem_append_right _ h)) (by decide +kernel))
set_option maxRecDepth 20000 in
theorem gX4_sync_X4_write : GoodIn wsX4_sync (wsV RX4 85 RX4 yX4_write wsX4_write) := goodIn_app (goodIn_of _ (by decide +kernel)) ggX4_sync_X4_write
theorem dX4_sync_0 : decode cX4_sync 0 = .ok (.aload_n 0, 1) := by decide +kernel
theorem dX4_sync_1 : decode cX4_sync 1 = .ok (.iconst 0, 1) := by decide +kernel
theorem dX4_sync_2 : decode cX4_sync 2 = .ok (.putfield 52, 3) := by decide +kernel
theorem dX4_sync_5 : decode cX4_sync 5 = .ok (.iload_n 1, 1) := by decide +kernel
theorem dX4_sync_6 : decode cX4_sync 6 = .ok (.invokestatic 76, 3) := by decide +kernel
theorem dX4_sync_9 : decode cX4_sync 9 = .ok (.ifCond .ne 6, 3) := by decide +kernel
theorem dX4_sync_12 : decode cX4_sync 12 = .ok (.bipush (-4), 2) := by decide +kernel
theorem dX4_sync_14 : decode cX4_sync 14 = .ok (.ireturn, 1) := by decide +kernel
theorem dX4_sync_15 : decode cX4_sync 15 = .ok (.aload_n 0, 1) := by decide +kernel
theorem dX4_sync_16 : decode cX4_sync 16 = .ok (.iload_n 1, 1) := by decide +kernel
theorem dX4_sync_17 : decode cX4_sync 17 = .ok (.invokevirtual 72, 3) := by decide +kernel
theorem dX4_sync_20 : decode cX4_sync 20 = .ok (.ifCond .ne 6, 3) := by decide +kernel
theorem dX4_sync_23 : decode cX4_sync 23 = .ok (.bipush (-5), 2) := by decide +kernel
theorem dX4_sync_25 : decode cX4_sync 25 = .ok (.ireturn, 1) := by decide +kernel
theorem dX4_sync_26 : decode cX4_sync 26 = .ok (.aload_n 0, 1) := by decide +kernel
theorem dX4_sync_27 : decode cX4_sync 27 = .ok (.getfield 55, 3) := by decide +kernel
theorem dX4_sync_30 : decode cX4_sync 30 = .ok (.sipush 2000, 3) := by decide +kernel
theorem dX4_sync_33 : decode cX4_sync 33 = .ok (.if_icmp .ne 5, 3) := by decide +kernel
theorem dX4_sync_36 : decode cX4_sync 36 = .ok (.iconst (-1), 1) := by decide +kernel
theorem dX4_sync_37 : decode cX4_sync 37 = .ok (.ireturn, 1) := by decide +kernel
theorem dX4_sync_38 : decode cX4_sync 38 = .ok (.aload_n 0, 1) := by decide +kernel
theorem dX4_sync_39 : decode cX4_sync 39 = .ok (.iconst 1, 1) := by decide +kernel
theorem dX4_sync_40 : decode cX4_sync 40 = .ok (.iload_n 1, 1) := by decide +kernel
theorem dX4_sync_41 : decode cX4_sync 41 = .ok (.iconst (-1), 1) := by decide +kernel
theorem dX4_sync_42 : decode cX4_sync 42 = .ok (.lconst 0, 1) := by decide +kernel
theorem dX4_sync_43 : decode cX4_sync 43 = .ok (.lconst 0, 1) := by decide +kernel
theorem dX4_sync_44 : decode cX4_sync 44 = .ok (.iconst 0, 1) := by decide +kernel
theorem dX4_sync_45 : decode cX4_sync 45 = .ok (.invokevirtual 85, 3) := by decide +kernel
theorem dX4_sync_48 : decode cX4_sync 48 = .ok (.aload_n 0, 1) := by decide +kernel
theorem dX4_sync_49 : decode cX4_sync 49 = .ok (.getfield 55, 3) := by decide +kernel
theorem dX4_sync_52 : decode cX4_sync 52 = .ok (.ireturn, 1) := by decide +kernel
set_option maxRecDepth 20000 in
theorem ggX4_takeBack_X4_isChange : GoodIn wsX4_takeBack wsX4_isChange := goodIn_ca (goodIn_r _ [9, 10, 11, 12, 27, 28, 29, 30, 31, 32, 33, 34, 35, 36, 37, 38, 39, 40, 41, 42, 43, 44] (by decide +kernel) (by decide +kernel)) (goodIn_sub (fun _ h => List.mem_cons_of_mem _ (List.mem_append_right _ h)) (by decide +kernel))
set_option maxRecDepth 20000 in
theorem gX4_takeBack_X4_isChange : GoodIn wsX4_takeBack (wsV RX4 62 RX4 yX4_isChange wsX4_isChange) := goodIn_app (goodIn_of _ (by decide +kernel)) ggX4_takeBack_X4_isChange
set_option maxRecDepth 20000 in
theorem ggX4_takeBack_X4_write : GoodIn wsX4_takeBack wsX4_write := goodIn_ca (goodIn_r _ [16, 1, 10, 11, 2, 4, 3, 17, 12, 18, 19, 20, 21, 22, 23, 8, 24, 25, 26, 27, 28, 29, 30, 31, 32, 33, 34, 35, 36, 37, 38, 39, 40, 41, 42, 43, 44] (by decide +kernel) (by decide +kernel)) (goodIn_sub (fun _ h => List.mem_cons_of_mem _ (List.mem_append_right _ h)) (by decide +kernel))
set_option maxRecDepth 20000 in
theorem gX4_takeBack_X4_write : GoodIn wsX4_takeBack (wsV RX4 85 RX4 yX4_write wsX4_write) := goodIn_app (goodIn_of _ (by decide +kernel)) ggX4_takeBack_X4_write
theorem dX4_takeBack_0 : decode cX4_takeBack 0 = .ok (.iconst 0, 1) := by decide +kernel
theorem dX4_takeBack_1 : decode cX4_takeBack 1 = .ok (.istore_n 2, 1) := by decide +kernel
theorem dX4_takeBack_2 : decode cX4_takeBack 2 = .ok (.aload_n 0, 1) := by decide +kernel
theorem dX4_takeBack_3 : decode cX4_takeBack 3 = .ok (.getfield 55, 3) := by decide +kernel
theorem dX4_takeBack_6 : decode cX4_takeBack 6 = .ok (.istore_n 3, 1) := by decide +kernel
theorem dX4_takeBack_7 : decode cX4_takeBack 7 = .ok (.iload_n 3, 1) := by decide +kernel
theorem dX4_takeBack_8 : decode cX4_takeBack 8 = .ok (.ifCond .le 49, 3) := by decide +kernel
theorem dX4_takeBack_11 : decode cX4_takeBack 11 = .ok (.aload_n 0, 1) := by decide +kernel
theorem dX4_takeBack_12 : decode cX4_takeBack 12 = .ok (.iload_n 3, 1) := by decide +kernel
theorem dX4_takeBack_13 : decode cX4_takeBack 13 = .ok (.iload_n 1, 1) := by decide +kernel
theorem dX4_takeBack_14 : decode cX4_takeBack 14 = .ok (.invokevirtual 62, 3) := by decide +kernel
theorem dX4_takeBack_17 : decode cX4_takeBack 17 = .ok (.ifCond .ne 6, 3) := by decide +kernel
theorem dX4_takeBack_20 : decode cX4_takeBack 20 = .ok (.goto 31, 3) := by decide +kernel
theorem dX4_takeBack_23 : decode cX4_takeBack 23 = .ok (.aload_n 0, 1) := by decide +kernel
theorem dX4_takeBack_24 : decode cX4_takeBack 24 = .ok (.iconst 0, 1) := by decide +kernel
theorem dX4_takeBack_25 : decode cX4_takeBack 25 = .ok (.iload_n 1, 1) := by decide +kernel
theorem dX4_takeBack_26 : decode cX4_takeBack 26 = .ok (.aload_n 0, 1) := by decide +kernel
theorem dX4_takeBack_27 : decode cX4_takeBack 27 = .ok (.getfield 20, 3) := by decide +kernel
theorem dX4_takeBack_30 : decode cX4_takeBack 30 = .ok (.iload_n 3, 1) := by decide +kernel
theorem dX4_takeBack_31 : decode cX4_takeBack 31 = .ok (.iaload, 1) := by decide +kernel
theorem dX4_takeBack_32 : decode cX4_takeBack 32 = .ok (.aload_n 0, 1) := by decide +kernel
theorem dX4_takeBack_33 : decode cX4_takeBack 33 = .ok (.getfield 29, 3) := by decide +kernel
theorem dX4_takeBack_36 : decode cX4_takeBack 36 = .ok (.iload_n 3, 1) := by decide +kernel
theorem dX4_takeBack_37 : decode cX4_takeBack 37 = .ok (.laload, 1) := by decide +kernel
theorem dX4_takeBack_38 : decode cX4_takeBack 38 = .ok (.aload_n 0, 1) := by decide +kernel
theorem dX4_takeBack_39 : decode cX4_takeBack 39 = .ok (.getfield 26, 3) := by decide +kernel
theorem dX4_takeBack_42 : decode cX4_takeBack 42 = .ok (.iload_n 3, 1) := by decide +kernel
theorem dX4_takeBack_43 : decode cX4_takeBack 43 = .ok (.laload, 1) := by decide +kernel
theorem dX4_takeBack_44 : decode cX4_takeBack 44 = .ok (.iconst 1, 1) := by decide +kernel
theorem dX4_takeBack_45 : decode cX4_takeBack 45 = .ok (.invokevirtual 85, 3) := by decide +kernel
theorem dX4_takeBack_48 : decode cX4_takeBack 48 = .ok (.iinc 2 1, 3) := by decide +kernel
theorem dX4_takeBack_51 : decode cX4_takeBack 51 = .ok (.iinc 3 (-1), 3) := by decide +kernel
theorem dX4_takeBack_54 : decode cX4_takeBack 54 = .ok (.goto (-47), 3) := by decide +kernel
theorem dX4_takeBack_57 : decode cX4_takeBack 57 = .ok (.aload_n 0, 1) := by decide +kernel
theorem dX4_takeBack_58 : decode cX4_takeBack 58 = .ok (.iconst 2, 1) := by decide +kernel
theorem dX4_takeBack_59 : decode cX4_takeBack 59 = .ok (.iload_n 1, 1) := by decide +kernel
theorem dX4_takeBack_60 : decode cX4_takeBack 60 = .ok (.iconst (-1), 1) := by decide +kernel
theorem dX4_takeBack_61 : decode cX4_takeBack 61 = .ok (.lconst 0, 1) := by decide +kernel
theorem dX4_takeBack_62 : decode cX4_takeBack 62 = .ok (.lconst 0, 1) := by decide +kernel
theorem dX4_takeBack_63 : decode cX4_takeBack 63 = .ok (.iconst 1, 1) := by decide +kernel
theorem dX4_takeBack_64 : decode cX4_takeBack 64 = .ok (.invokevirtual 85, 3) := by decide +kernel
theorem dX4_takeBack_67 : decode cX4_takeBack 67 = .ok (.iload_n 2, 1) := by decide +kernel
theorem dX4_takeBack_68 : decode cX4_takeBack 68 = .ok (.ireturn, 1) := by decide +kernel
set_option maxRecDepth 20000 in
theorem ggX4_backout_X4_isUnit : GoodIn wsX4_backout wsX4_isUnit := goodIn_r _ [6] (by decide +kernel) (by decide +kernel)
set_option maxRecDepth 20000 in
theorem gX4_backout_X4_isUnit : GoodIn wsX4_backout (va_wsS RX4 76 yX4_isUnit wsX4_isUnit) := goodIn_app (goodIn_of _ (by decide +kernel)) ggX4_backout_X4_isUnit
set_option maxRecDepth 20000 in
theorem ggX4_backout_X4_isOpen : GoodIn wsX4_backout wsX4_isOpen := goodIn_ca (goodIn_r _ [10, 2, 11, 12, 13, 5, 14, 15, 16, 51, 52, 53, 54, 55, 56, 57, 58, 59, 60, 61, 62, 63, 64, 65, 66, 67, 68] (by decide +kernel) (by decide +kernel)) (goodIn_sub (fun _ h => List.mem_cons_of_mem _ (List.mem_append_right _ h)) (by decide +kernel))
set_option maxRecDepth 20000 in
theorem gX4_backout_X4_isOpen : GoodIn wsX4_backout (wsV RX4 72 RX4 yX4_isOpen wsX4_isOpen) := goodIn_app (goodIn_of _ (by decide +kernel)) ggX4_backout_X4_isOpen
set_option maxRecDepth 20000 in
theorem ggX4_backout_X4_isChange : GoodIn wsX4_backout wsX4_isChange := goodIn_ca (goodIn_r _ [20, 16, 15, 21, 51, 52, 53, 54, 55, 56, 57, 58, 59, 60, 61, 62, 63, 64, 65, 66, 67, 68] (by decide +kernel) (by decide +kernel)) (goodIn_sub (fun _ h => List.mem_cons_of_mem _ (List.mem_append_right _ h)) (by decide +kernel))
set_option maxRecDepth 20000 in
theorem gX4_backout_X4_isChange : GoodIn wsX4_backout (wsV RX4 62 RX4 yX4_isChange wsX4_isChange) := goodIn_app (goodIn_of _ (by decide +kernel)) ggX4_backout_X4_isChange
set_option maxRecDepth 20000 in
theorem ggX4_backout_X4_isMissing : GoodIn wsX4_backout wsX4_isMissing := goodIn_ca (goodIn_r _ [25, 26, 51, 52, 53, 54, 55, 56, 57, 58, 59, 60, 61, 62, 63, 64, 65, 66, 67, 68] (by decide +kernel) (by decide +kernel)) (goodIn_sub (fun _ h => List.mem_cons_of_mem _ (List.mem_append_right _ h)) (by decide +kernel))
set_option maxRecDepth 20000 in
theorem gX4_backout_X4_isMissing : GoodIn wsX4_backout (wsV RX4 89 RX4 yX4_isMissing wsX4_isMissing) := goodIn_app (goodIn_of _ (by decide +kernel)) ggX4_backout_X4_isMissing
set_option maxRecDepth 20000 in
theorem ggX4_backout_X4_changes : GoodIn wsX4_backout wsX4_changes := goodIn_ca (goodIn_r _ [30, 17, 18, 19, 5, 20, 16, 15, 21, 51, 52, 53, 54, 55, 56, 57, 58, 59, 60, 61, 62, 63, 64, 65, 66, 67, 68] (by decide +kernel) (by decide +kernel)) (goodIn_sub (fun _ h => List.mem_cons_of_mem _ (List.mem_append_right _ h)) (by decide +kernel))
set_option maxRecDepth 20000 in
theorem gX4_backout_X4_changes : GoodIn wsX4_backout (wsV RX4 92 RX4 yX4_changes wsX4_changes) := goodIn_app (goodIn_of _ (by decide +kernel)) ggX4_backout_X4_changes
set_option maxRecDepth 20000 in
theorem ggX4_backout_X4_takeBack : GoodIn wsX4_backout wsX4_takeBack := goodIn_ca (goodIn_r _ [34, 2, 35, 36, 37, 17, 18, 19, 5, 20, 16, 15, 21, 38, 39, 40, 41, 26, 42, 43, 44, 45, 46, 47, 48, 49, 50, 51, 52, 53, 54, 55, 56, 57, 58, 59, 60, 61, 62, 63, 64, 65, 66, 67, 68] (by decide +kernel) (by decide +kernel)) (goodIn_sub (fun _ h => List.mem_cons_of_mem _ (List.mem_append_right _ h)) (by decide +kernel))
set_option maxRecDepth 20000 in
theorem gX4_backout_X4_takeBack : GoodIn wsX4_backout (wsV RX4 95 RX4 yX4_takeBack wsX4_takeBack) := goodIn_app (goodIn_of _ (by decide +kernel)) ggX4_backout_X4_takeBack
theorem dX4_backout_0 : decode cX4_backout 0 = .ok (.aload_n 0, 1) := by decide +kernel
theorem dX4_backout_1 : decode cX4_backout 1 = .ok (.iconst 0, 1) := by decide +kernel
theorem dX4_backout_2 : decode cX4_backout 2 = .ok (.putfield 52, 3) := by decide +kernel
theorem dX4_backout_5 : decode cX4_backout 5 = .ok (.iload_n 1, 1) := by decide +kernel
theorem dX4_backout_6 : decode cX4_backout 6 = .ok (.invokestatic 76, 3) := by decide +kernel
theorem dX4_backout_9 : decode cX4_backout 9 = .ok (.ifCond .ne 6, 3) := by decide +kernel
theorem dX4_backout_12 : decode cX4_backout 12 = .ok (.bipush (-4), 2) := by decide +kernel
theorem dX4_backout_14 : decode cX4_backout 14 = .ok (.ireturn, 1) := by decide +kernel
theorem dX4_backout_15 : decode cX4_backout 15 = .ok (.aload_n 0, 1) := by decide +kernel
theorem dX4_backout_16 : decode cX4_backout 16 = .ok (.iload_n 1, 1) := by decide +kernel
theorem dX4_backout_17 : decode cX4_backout 17 = .ok (.invokevirtual 72, 3) := by decide +kernel
theorem dX4_backout_20 : decode cX4_backout 20 = .ok (.ifCond .ne 5, 3) := by decide +kernel
theorem dX4_backout_23 : decode cX4_backout 23 = .ok (.iconst 0, 1) := by decide +kernel
theorem dX4_backout_24 : decode cX4_backout 24 = .ok (.ireturn, 1) := by decide +kernel
theorem dX4_backout_25 : decode cX4_backout 25 = .ok (.aload_n 0, 1) := by decide +kernel
theorem dX4_backout_26 : decode cX4_backout 26 = .ok (.getfield 55, 3) := by decide +kernel
theorem dX4_backout_29 : decode cX4_backout 29 = .ok (.istore_n 2, 1) := by decide +kernel
theorem dX4_backout_30 : decode cX4_backout 30 = .ok (.iload_n 2, 1) := by decide +kernel
theorem dX4_backout_31 : decode cX4_backout 31 = .ok (.ifCond .le 31, 3) := by decide +kernel
theorem dX4_backout_34 : decode cX4_backout 34 = .ok (.aload_n 0, 1) := by decide +kernel
theorem dX4_backout_35 : decode cX4_backout 35 = .ok (.iload_n 2, 1) := by decide +kernel
theorem dX4_backout_36 : decode cX4_backout 36 = .ok (.iload_n 1, 1) := by decide +kernel
theorem dX4_backout_37 : decode cX4_backout 37 = .ok (.invokevirtual 62, 3) := by decide +kernel
theorem dX4_backout_40 : decode cX4_backout 40 = .ok (.ifCond .eq 16, 3) := by decide +kernel
theorem dX4_backout_43 : decode cX4_backout 43 = .ok (.aload_n 0, 1) := by decide +kernel
theorem dX4_backout_44 : decode cX4_backout 44 = .ok (.iload_n 2, 1) := by decide +kernel
theorem dX4_backout_45 : decode cX4_backout 45 = .ok (.invokevirtual 89, 3) := by decide +kernel
theorem dX4_backout_48 : decode cX4_backout 48 = .ok (.ifCond .eq 8, 3) := by decide +kernel
theorem dX4_backout_51 : decode cX4_backout 51 = .ok (.bipush (-10), 2) := by decide +kernel
theorem dX4_backout_53 : decode cX4_backout 53 = .ok (.iload_n 2, 1) := by decide +kernel
theorem dX4_backout_54 : decode cX4_backout 54 = .ok (.isub, 1) := by decide +kernel
theorem dX4_backout_55 : decode cX4_backout 55 = .ok (.ireturn, 1) := by decide +kernel
theorem dX4_backout_56 : decode cX4_backout 56 = .ok (.iinc 2 (-1), 3) := by decide +kernel
theorem dX4_backout_59 : decode cX4_backout 59 = .ok (.goto (-29), 3) := by decide +kernel
theorem dX4_backout_62 : decode cX4_backout 62 = .ok (.aload_n 0, 1) := by decide +kernel
theorem dX4_backout_63 : decode cX4_backout 63 = .ok (.getfield 55, 3) := by decide +kernel
theorem dX4_backout_66 : decode cX4_backout 66 = .ok (.aload_n 0, 1) := by decide +kernel
theorem dX4_backout_67 : decode cX4_backout 67 = .ok (.iload_n 1, 1) := by decide +kernel
theorem dX4_backout_68 : decode cX4_backout 68 = .ok (.aload_n 0, 1) := by decide +kernel
theorem dX4_backout_69 : decode cX4_backout 69 = .ok (.getfield 55, 3) := by decide +kernel
theorem dX4_backout_72 : decode cX4_backout 72 = .ok (.invokevirtual 92, 3) := by decide +kernel
theorem dX4_backout_75 : decode cX4_backout 75 = .ok (.iadd, 1) := by decide +kernel
theorem dX4_backout_76 : decode cX4_backout 76 = .ok (.iconst 1, 1) := by decide +kernel
theorem dX4_backout_77 : decode cX4_backout 77 = .ok (.iadd, 1) := by decide +kernel
theorem dX4_backout_78 : decode cX4_backout 78 = .ok (.sipush 2000, 3) := by decide +kernel
theorem dX4_backout_81 : decode cX4_backout 81 = .ok (.if_icmp .le 5, 3) := by decide +kernel
theorem dX4_backout_84 : decode cX4_backout 84 = .ok (.iconst (-1), 1) := by decide +kernel
theorem dX4_backout_85 : decode cX4_backout 85 = .ok (.ireturn, 1) := by decide +kernel
theorem dX4_backout_86 : decode cX4_backout 86 = .ok (.aload_n 0, 1) := by decide +kernel
theorem dX4_backout_87 : decode cX4_backout 87 = .ok (.iload_n 1, 1) := by decide +kernel
theorem dX4_backout_88 : decode cX4_backout 88 = .ok (.invokevirtual 95, 3) := by decide +kernel
theorem dX4_backout_91 : decode cX4_backout 91 = .ok (.ireturn, 1) := by decide +kernel
set_option maxRecDepth 20000 in
theorem ggX4_copy_X4_finish : GoodIn wsX4_copy wsX4_finish := goodIn_ca (goodIn_r _ [14, 9, 3, 4, 7, 6, 15, 16, 17, 18, 19, 20, 21, 22, 23, 24, 25, 26, 27, 28, 29, 30, 31, 32] (by decide +kernel) (by decide +kernel)) (goodIn_sub (fun _ h => List.mem_cons_of_mem _ (List.mem_append_right _ h)) (by decide +kernel))
set_option maxRecDepth 20000 in
theorem gX4_copy_X4_finish : GoodIn wsX4_copy (wsV RX4 69 RX4 yX4_finish wsX4_finish) := goodIn_app (goodIn_of _ (by decide +kernel)) ggX4_copy_X4_finish
theorem dX4_copy_0 : decode cX4_copy 0 = .ok (.aload_n 0, 1) := by decide +kernel
theorem dX4_copy_1 : decode cX4_copy 1 = .ok (.iconst 0, 1) := by decide +kernel
theorem dX4_copy_2 : decode cX4_copy 2 = .ok (.putfield 52, 3) := by decide +kernel
theorem dX4_copy_5 : decode cX4_copy 5 = .ok (.aload_n 0, 1) := by decide +kernel
theorem dX4_copy_6 : decode cX4_copy 6 = .ok (.invokevirtual 69, 3) := by decide +kernel
theorem dX4_copy_9 : decode cX4_copy 9 = .ok (.aload_n 0, 1) := by decide +kernel
theorem dX4_copy_10 : decode cX4_copy 10 = .ok (.getfield 99, 3) := by decide +kernel
theorem dX4_copy_13 : decode cX4_copy 13 = .ok (.bipush 20, 2) := by decide +kernel
theorem dX4_copy_15 : decode cX4_copy 15 = .ok (.if_icmp .ne 5, 3) := by decide +kernel
theorem dX4_copy_18 : decode cX4_copy 18 = .ok (.iconst (-1), 1) := by decide +kernel
theorem dX4_copy_19 : decode cX4_copy 19 = .ok (.ireturn, 1) := by decide +kernel
theorem dX4_copy_20 : decode cX4_copy 20 = .ok (.aload_n 0, 1) := by decide +kernel
theorem dX4_copy_21 : decode cX4_copy 21 = .ok (.dup, 1) := by decide +kernel
theorem dX4_copy_22 : decode cX4_copy 22 = .ok (.getfield 99, 3) := by decide +kernel
theorem dX4_copy_25 : decode cX4_copy 25 = .ok (.iconst 1, 1) := by decide +kernel
theorem dX4_copy_26 : decode cX4_copy 26 = .ok (.iadd, 1) := by decide +kernel
theorem dX4_copy_27 : decode cX4_copy 27 = .ok (.putfield 99, 3) := by decide +kernel
theorem dX4_copy_30 : decode cX4_copy 30 = .ok (.iconst 0, 1) := by decide +kernel
theorem dX4_copy_31 : decode cX4_copy 31 = .ok (.istore_n 2, 1) := by decide +kernel
theorem dX4_copy_32 : decode cX4_copy 32 = .ok (.iload_n 2, 1) := by decide +kernel
theorem dX4_copy_33 : decode cX4_copy 33 = .ok (.bipush 32, 2) := by decide +kernel
theorem dX4_copy_35 : decode cX4_copy 35 = .ok (.if_icmp .ge 29, 3) := by decide +kernel
theorem dX4_copy_38 : decode cX4_copy 38 = .ok (.aload_n 0, 1) := by decide +kernel
theorem dX4_copy_39 : decode cX4_copy 39 = .ok (.getfield 36, 3) := by decide +kernel
theorem dX4_copy_42 : decode cX4_copy 42 = .ok (.bipush 32, 2) := by decide +kernel
theorem dX4_copy_44 : decode cX4_copy 44 = .ok (.aload_n 0, 1) := by decide +kernel
theorem dX4_copy_45 : decode cX4_copy 45 = .ok (.getfield 99, 3) := by decide +kernel
theorem dX4_copy_48 : decode cX4_copy 48 = .ok (.imul, 1) := by decide +kernel
theorem dX4_copy_49 : decode cX4_copy 49 = .ok (.iload_n 2, 1) := by decide +kernel
theorem dX4_copy_50 : decode cX4_copy 50 = .ok (.iadd, 1) := by decide +kernel
theorem dX4_copy_51 : decode cX4_copy 51 = .ok (.aload_n 0, 1) := by decide +kernel
theorem dX4_copy_52 : decode cX4_copy 52 = .ok (.getfield 7, 3) := by decide +kernel
theorem dX4_copy_55 : decode cX4_copy 55 = .ok (.iload_n 2, 1) := by decide +kernel
theorem dX4_copy_56 : decode cX4_copy 56 = .ok (.laload, 1) := by decide +kernel
theorem dX4_copy_57 : decode cX4_copy 57 = .ok (.lastore, 1) := by decide +kernel
theorem dX4_copy_58 : decode cX4_copy 58 = .ok (.iinc 2 1, 3) := by decide +kernel
theorem dX4_copy_61 : decode cX4_copy 61 = .ok (.goto (-29), 3) := by decide +kernel
theorem dX4_copy_64 : decode cX4_copy 64 = .ok (.aload_n 0, 1) := by decide +kernel
theorem dX4_copy_65 : decode cX4_copy 65 = .ok (.getfield 39, 3) := by decide +kernel
theorem dX4_copy_68 : decode cX4_copy 68 = .ok (.aload_n 0, 1) := by decide +kernel
theorem dX4_copy_69 : decode cX4_copy 69 = .ok (.getfield 99, 3) := by decide +kernel
theorem dX4_copy_72 : decode cX4_copy 72 = .ok (.aload_n 0, 1) := by decide +kernel
theorem dX4_copy_73 : decode cX4_copy 73 = .ok (.getfield 55, 3) := by decide +kernel
theorem dX4_copy_76 : decode cX4_copy 76 = .ok (.iastore, 1) := by decide +kernel
theorem dX4_copy_77 : decode cX4_copy 77 = .ok (.aload_n 0, 1) := by decide +kernel
theorem dX4_copy_78 : decode cX4_copy 78 = .ok (.getfield 42, 3) := by decide +kernel
theorem dX4_copy_81 : decode cX4_copy 81 = .ok (.aload_n 0, 1) := by decide +kernel
theorem dX4_copy_82 : decode cX4_copy 82 = .ok (.getfield 99, 3) := by decide +kernel
theorem dX4_copy_85 : decode cX4_copy 85 = .ok (.aload_n 0, 1) := by decide +kernel
theorem dX4_copy_86 : decode cX4_copy 86 = .ok (.getfield 55, 3) := by decide +kernel
theorem dX4_copy_89 : decode cX4_copy 89 = .ok (.iastore, 1) := by decide +kernel
theorem dX4_copy_90 : decode cX4_copy 90 = .ok (.aload_n 0, 1) := by decide +kernel
theorem dX4_copy_91 : decode cX4_copy 91 = .ok (.getfield 45, 3) := by decide +kernel
theorem dX4_copy_94 : decode cX4_copy 94 = .ok (.aload_n 0, 1) := by decide +kernel
theorem dX4_copy_95 : decode cX4_copy 95 = .ok (.getfield 99, 3) := by decide +kernel
theorem dX4_copy_98 : decode cX4_copy 98 = .ok (.iconst 0, 1) := by decide +kernel
theorem dX4_copy_99 : decode cX4_copy 99 = .ok (.bastore, 1) := by decide +kernel
theorem dX4_copy_100 : decode cX4_copy 100 = .ok (.aload_n 0, 1) := by decide +kernel
theorem dX4_copy_101 : decode cX4_copy 101 = .ok (.iload_n 1, 1) := by decide +kernel
theorem dX4_copy_102 : decode cX4_copy 102 = .ok (.ifCond .eq 10, 3) := by decide +kernel
theorem dX4_copy_105 : decode cX4_copy 105 = .ok (.aload_n 0, 1) := by decide +kernel
theorem dX4_copy_106 : decode cX4_copy 106 = .ok (.getfield 99, 3) := by decide +kernel
theorem dX4_copy_109 : decode cX4_copy 109 = .ok (.goto 4, 3) := by decide +kernel
theorem dX4_copy_112 : decode cX4_copy 112 = .ok (.iconst 0, 1) := by decide +kernel
theorem dX4_copy_113 : decode cX4_copy 113 = .ok (.putfield 66, 3) := by decide +kernel
theorem dX4_copy_116 : decode cX4_copy 116 = .ok (.aload_n 0, 1) := by decide +kernel
theorem dX4_copy_117 : decode cX4_copy 117 = .ok (.getfield 99, 3) := by decide +kernel
theorem dX4_copy_120 : decode cX4_copy 120 = .ok (.ireturn, 1) := by decide +kernel
set_option maxRecDepth 20000 in
theorem ggX4_lacking_X4_isMissing : GoodIn wsX4_lacking wsX4_isMissing := goodIn_ca (goodIn_r _ [9, 10, 15, 16, 17, 18, 19, 20, 21, 22, 23, 24, 25, 26, 27, 28, 29, 30, 31, 32] (by decide +kernel) (by decide +kernel)) (goodIn_sub (fun _ h => List.mem_cons_of_mem _ (List.mem_append_right _ h)) (by decide +kernel))
set_option maxRecDepth 20000 in
theorem gX4_lacking_X4_isMissing : GoodIn wsX4_lacking (wsV RX4 89 RX4 yX4_isMissing wsX4_isMissing) := goodIn_app (goodIn_of _ (by decide +kernel)) ggX4_lacking_X4_isMissing
set_option maxRecDepth 20000 in
theorem ggX4_lacking_X4_stateOf : GoodIn wsX4_lacking wsX4_stateOf := goodIn_ca (goodIn_r _ [14, 4, 2, 15, 16, 17, 18, 19, 20, 21, 22, 23, 24, 25, 26, 27, 28, 29, 30, 31, 32] (by decide +kernel) (by decide +kernel)) (goodIn_sub (fun _ h => List.mem_cons_of_mem _ (List.mem_append_right _ h)) (by decide +kernel))
set_option maxRecDepth 20000 in
theorem gX4_lacking_X4_stateOf : GoodIn wsX4_lacking (wsV RX4 58 RX4 yX4_stateOf wsX4_stateOf) := goodIn_app (goodIn_of _ (by decide +kernel)) ggX4_lacking_X4_stateOf
theorem dX4_lacking_0 : decode cX4_lacking 0 = .ok (.iconst 1, 1) := by decide +kernel
theorem dX4_lacking_1 : decode cX4_lacking 1 = .ok (.istore_n 3, 1) := by decide +kernel
theorem dX4_lacking_2 : decode cX4_lacking 2 = .ok (.iload_n 3, 1) := by decide +kernel
theorem dX4_lacking_3 : decode cX4_lacking 3 = .ok (.iload_n 2, 1) := by decide +kernel
theorem dX4_lacking_4 : decode cX4_lacking 4 = .ok (.if_icmp .gt 77, 3) := by decide +kernel
theorem dX4_lacking_7 : decode cX4_lacking 7 = .ok (.aload_n 0, 1) := by decide +kernel
theorem dX4_lacking_8 : decode cX4_lacking 8 = .ok (.iload_n 3, 1) := by decide +kernel
theorem dX4_lacking_9 : decode cX4_lacking 9 = .ok (.invokevirtual 89, 3) := by decide +kernel
theorem dX4_lacking_12 : decode cX4_lacking 12 = .ok (.ifCond .ne 6, 3) := by decide +kernel
theorem dX4_lacking_15 : decode cX4_lacking 15 = .ok (.goto 60, 3) := by decide +kernel
theorem dX4_lacking_18 : decode cX4_lacking 18 = .ok (.iload_n 3, 1) := by decide +kernel
theorem dX4_lacking_19 : decode cX4_lacking 19 = .ok (.aload_n 0, 1) := by decide +kernel
theorem dX4_lacking_20 : decode cX4_lacking 20 = .ok (.getfield 39, 3) := by decide +kernel
theorem dX4_lacking_23 : decode cX4_lacking 23 = .ok (.iload_n 1, 1) := by decide +kernel
theorem dX4_lacking_24 : decode cX4_lacking 24 = .ok (.iaload, 1) := by decide +kernel
theorem dX4_lacking_25 : decode cX4_lacking 25 = .ok (.if_icmp .gt 36, 3) := by decide +kernel
theorem dX4_lacking_28 : decode cX4_lacking 28 = .ok (.aload_n 0, 1) := by decide +kernel
theorem dX4_lacking_29 : decode cX4_lacking 29 = .ok (.getfield 13, 3) := by decide +kernel
theorem dX4_lacking_32 : decode cX4_lacking 32 = .ok (.iload_n 3, 1) := by decide +kernel
theorem dX4_lacking_33 : decode cX4_lacking 33 = .ok (.iaload, 1) := by decide +kernel
theorem dX4_lacking_34 : decode cX4_lacking 34 = .ok (.ifCond .ne 31, 3) := by decide +kernel
theorem dX4_lacking_37 : decode cX4_lacking 37 = .ok (.aload_n 0, 1) := by decide +kernel
theorem dX4_lacking_38 : decode cX4_lacking 38 = .ok (.getfield 32, 3) := by decide +kernel
theorem dX4_lacking_41 : decode cX4_lacking 41 = .ok (.iload_n 3, 1) := by decide +kernel
theorem dX4_lacking_42 : decode cX4_lacking 42 = .ok (.baload, 1) := by decide +kernel
theorem dX4_lacking_43 : decode cX4_lacking 43 = .ok (.ifCond .ne 22, 3) := by decide +kernel
theorem dX4_lacking_46 : decode cX4_lacking 46 = .ok (.aload_n 0, 1) := by decide +kernel
theorem dX4_lacking_47 : decode cX4_lacking 47 = .ok (.aload_n 0, 1) := by decide +kernel
theorem dX4_lacking_48 : decode cX4_lacking 48 = .ok (.getfield 17, 3) := by decide +kernel
theorem dX4_lacking_51 : decode cX4_lacking 51 = .ok (.iload_n 3, 1) := by decide +kernel
theorem dX4_lacking_52 : decode cX4_lacking 52 = .ok (.iaload, 1) := by decide +kernel
theorem dX4_lacking_53 : decode cX4_lacking 53 = .ok (.iload_n 2, 1) := by decide +kernel
theorem dX4_lacking_54 : decode cX4_lacking 54 = .ok (.invokevirtual 58, 3) := by decide +kernel
theorem dX4_lacking_57 : decode cX4_lacking 57 = .ok (.iconst 1, 1) := by decide +kernel
theorem dX4_lacking_58 : decode cX4_lacking 58 = .ok (.if_icmp .ne 7, 3) := by decide +kernel
theorem dX4_lacking_61 : decode cX4_lacking 61 = .ok (.iconst 1, 1) := by decide +kernel
theorem dX4_lacking_62 : decode cX4_lacking 62 = .ok (.goto 4, 3) := by decide +kernel
theorem dX4_lacking_65 : decode cX4_lacking 65 = .ok (.iconst 0, 1) := by decide +kernel
theorem dX4_lacking_66 : decode cX4_lacking 66 = .ok (.istore 4, 2) := by decide +kernel
theorem dX4_lacking_68 : decode cX4_lacking 68 = .ok (.iload 4, 2) := by decide +kernel
theorem dX4_lacking_70 : decode cX4_lacking 70 = .ok (.ifCond .eq 5, 3) := by decide +kernel
theorem dX4_lacking_73 : decode cX4_lacking 73 = .ok (.iload_n 3, 1) := by decide +kernel
theorem dX4_lacking_74 : decode cX4_lacking 74 = .ok (.ireturn, 1) := by decide +kernel
theorem dX4_lacking_75 : decode cX4_lacking 75 = .ok (.iinc 3 1, 3) := by decide +kernel
theorem dX4_lacking_78 : decode cX4_lacking 78 = .ok (.goto (-76), 3) := by decide +kernel
theorem dX4_lacking_81 : decode cX4_lacking 81 = .ok (.iconst 0, 1) := by decide +kernel
theorem dX4_lacking_82 : decode cX4_lacking 82 = .ok (.ireturn, 1) := by decide +kernel
set_option maxRecDepth 20000 in
theorem ggX4_recover_X4_finish : GoodIn wsX4_recover wsX4_finish := goodIn_ca (goodIn_r _ [17, 18, 7, 6, 5, 4, 55, 56, 57, 58, 59, 60, 61, 62, 63, 64, 65, 66, 67, 68, 69, 70, 71, 72] (by decide +kernel) (by decide +kernel)) (goodIn_sub (fun _ h => List.mem_cons_of_mem _ (List.mem_append_right _ h)) (by decide +kernel))
set_option maxRecDepth 20000 in
theorem gX4_recover_X4_finish : GoodIn wsX4_recover (wsV RX4 69 RX4 yX4_finish wsX4_finish) := goodIn_app (goodIn_of _ (by decide +kernel)) ggX4_recover_X4_finish
set_option maxRecDepth 20000 in
theorem ggX4_recover_X4_lacking : GoodIn wsX4_recover wsX4_lacking := goodIn_ca (goodIn_r _ [22, 8, 9, 23, 24, 25, 26, 27, 16, 28, 29, 30, 31, 32, 33, 55, 56, 57, 58, 59, 60, 61, 62, 63, 64, 65, 66, 67, 68, 69, 70, 71, 72] (by decide +kernel) (by decide +kernel)) (goodIn_sub (fun _ h => List.mem_cons_of_mem _ (List.mem_append_right _ h)) (by decide +kernel))
set_option maxRecDepth 20000 in
theorem gX4_recover_X4_lacking : GoodIn wsX4_recover (wsV RX4 102 RX4 yX4_lacking wsX4_lacking) := goodIn_app (goodIn_of _ (by decide +kernel)) ggX4_recover_X4_lacking
set_option maxRecDepth 20000 in
theorem ggX4_recover_X4_stateOf : GoodIn wsX4_recover wsX4_stateOf := goodIn_ca (goodIn_r _ [33, 24, 9, 55, 56, 57, 58, 59, 60, 61, 62, 63, 64, 65, 66, 67, 68, 69, 70, 71, 72] (by decide +kernel) (by decide +kernel)) (goodIn_sub (fun _ h => List.mem_cons_of_mem _ (List.mem_append_right _ h)) (by decide +kernel))
set_option maxRecDepth 20000 in
theorem gX4_recover_X4_stateOf : GoodIn wsX4_recover (wsV RX4 58 RX4 yX4_stateOf wsX4_stateOf) := goodIn_app (goodIn_of _ (by decide +kernel)) ggX4_recover_X4_stateOf
set_option maxRecDepth 20000 in
theorem ggX4_recover_X4_changes : GoodIn wsX4_recover wsX4_changes := goodIn_ca (goodIn_r _ [37, 38, 39, 40, 16, 41, 9, 24, 23, 55, 56, 57, 58, 59, 60, 61, 62, 63, 64, 65, 66, 67, 68, 69, 70, 71, 72] (by decide +kernel) (by decide +kernel)) (goodIn_sub (fun _ h => List.mem_cons_of_mem _ (List.mem_append_right _ h)) (by decide +kernel))
set_option maxRecDepth 20000 in
theorem gX4_recover_X4_changes : GoodIn wsX4_recover (wsV RX4 92 RX4 yX4_changes wsX4_changes) := goodIn_app (goodIn_of _ (by decide +kernel)) ggX4_recover_X4_changes
set_option maxRecDepth 20000 in
theorem ggX4_recover_X4_takeBack : GoodIn wsX4_recover wsX4_takeBack := goodIn_ca (goodIn_r _ [45, 4, 10, 11, 46, 38, 39, 40, 16, 41, 9, 24, 23, 47, 48, 49, 50, 29, 6, 18, 8, 13, 14, 15, 17, 7, 5, 55, 56, 57, 58, 59, 60, 61, 62, 63, 64, 65, 66, 67, 68, 69, 70, 71, 72] (by decide +kernel) (by decide +kernel)) (goodIn_sub (fun _ h => List.mem_cons_of_mem _ (List.mem_append_right _ h)) (by decide +kernel))
set_option maxRecDepth 20000 in
theorem gX4_recover_X4_takeBack : GoodIn wsX4_recover (wsV RX4 95 RX4 yX4_takeBack wsX4_takeBack) := goodIn_app (goodIn_of _ (by decide +kernel)) ggX4_recover_X4_takeBack
set_option maxRecDepth 20000 in
theorem ggX4_recover_X4_synced : GoodIn wsX4_recover wsX4_synced := goodIn_ca (goodIn_r _ [54, 4, 9, 55, 56, 57, 58, 59, 60, 61, 62, 63, 64, 65, 66, 67, 68, 69, 70, 71, 72] (by decide +kernel) (by decide +kernel)) (goodIn_sub (fun _ h => List.mem_cons_of_mem _ (List.mem_append_right _ h)) (by decide +kernel))
set_option maxRecDepth 20000 in
theorem gX4_recover_X4_synced : GoodIn wsX4_recover (wsV RX4 108 RX4 yX4_synced wsX4_synced) := goodIn_app (goodIn_of _ (by decide +kernel)) ggX4_recover_X4_synced
theorem dX4_recover_0 : decode cX4_recover 0 = .ok (.aload_n 0, 1) := by decide +kernel
theorem dX4_recover_1 : decode cX4_recover 1 = .ok (.iconst 0, 1) := by decide +kernel
theorem dX4_recover_2 : decode cX4_recover 2 = .ok (.putfield 52, 3) := by decide +kernel
theorem dX4_recover_5 : decode cX4_recover 5 = .ok (.aload_n 0, 1) := by decide +kernel
theorem dX4_recover_6 : decode cX4_recover 6 = .ok (.invokevirtual 69, 3) := by decide +kernel
theorem dX4_recover_9 : decode cX4_recover 9 = .ok (.iload_n 1, 1) := by decide +kernel
theorem dX4_recover_10 : decode cX4_recover 10 = .ok (.iconst 1, 1) := by decide +kernel
theorem dX4_recover_11 : decode cX4_recover 11 = .ok (.if_icmp .lt 20, 3) := by decide +kernel
theorem dX4_recover_14 : decode cX4_recover 14 = .ok (.iload_n 1, 1) := by decide +kernel
theorem dX4_recover_15 : decode cX4_recover 15 = .ok (.aload_n 0, 1) := by decide +kernel
theorem dX4_recover_16 : decode cX4_recover 16 = .ok (.getfield 99, 3) := by decide +kernel
theorem dX4_recover_19 : decode cX4_recover 19 = .ok (.if_icmp .gt 12, 3) := by decide +kernel
theorem dX4_recover_22 : decode cX4_recover 22 = .ok (.aload_n 0, 1) := by decide +kernel
theorem dX4_recover_23 : decode cX4_recover 23 = .ok (.getfield 45, 3) := by decide +kernel
theorem dX4_recover_26 : decode cX4_recover 26 = .ok (.iload_n 1, 1) := by decide +kernel
theorem dX4_recover_27 : decode cX4_recover 27 = .ok (.baload, 1) := by decide +kernel
theorem dX4_recover_28 : decode cX4_recover 28 = .ok (.ifCond .eq 6, 3) := by decide +kernel
theorem dX4_recover_31 : decode cX4_recover 31 = .ok (.bipush (-2), 2) := by decide +kernel
theorem dX4_recover_33 : decode cX4_recover 33 = .ok (.ireturn, 1) := by decide +kernel
theorem dX4_recover_34 : decode cX4_recover 34 = .ok (.lload_n 2, 1) := by decide +kernel
theorem dX4_recover_35 : decode cX4_recover 35 = .ok (.aload_n 0, 1) := by decide +kernel
theorem dX4_recover_36 : decode cX4_recover 36 = .ok (.getfield 55, 3) := by decide +kernel
theorem dX4_recover_39 : decode cX4_recover 39 = .ok (.i2l, 1) := by decide +kernel
theorem dX4_recover_40 : decode cX4_recover 40 = .ok (.lcmp, 1) := by decide +kernel
theorem dX4_recover_41 : decode cX4_recover 41 = .ok (.ifCond .gt 15, 3) := by decide +kernel
theorem dX4_recover_44 : decode cX4_recover 44 = .ok (.lload_n 2, 1) := by decide +kernel
theorem dX4_recover_45 : decode cX4_recover 45 = .ok (.aload_n 0, 1) := by decide +kernel
theorem dX4_recover_46 : decode cX4_recover 46 = .ok (.getfield 42, 3) := by decide +kernel
theorem dX4_recover_49 : decode cX4_recover 49 = .ok (.iload_n 1, 1) := by decide +kernel
theorem dX4_recover_50 : decode cX4_recover 50 = .ok (.iaload, 1) := by decide +kernel
theorem dX4_recover_51 : decode cX4_recover 51 = .ok (.i2l, 1) := by decide +kernel
theorem dX4_recover_52 : decode cX4_recover 52 = .ok (.lcmp, 1) := by decide +kernel
theorem dX4_recover_53 : decode cX4_recover 53 = .ok (.ifCond .ge 6, 3) := by decide +kernel
theorem dX4_recover_56 : decode cX4_recover 56 = .ok (.bipush (-4), 2) := by decide +kernel
theorem dX4_recover_58 : decode cX4_recover 58 = .ok (.ireturn, 1) := by decide +kernel
theorem dX4_recover_59 : decode cX4_recover 59 = .ok (.lload_n 2, 1) := by decide +kernel
theorem dX4_recover_60 : decode cX4_recover 60 = .ok (.l2i, 1) := by decide +kernel
theorem dX4_recover_61 : decode cX4_recover 61 = .ok (.istore 4, 2) := by decide +kernel
theorem dX4_recover_63 : decode cX4_recover 63 = .ok (.aload_n 0, 1) := by decide +kernel
theorem dX4_recover_64 : decode cX4_recover 64 = .ok (.iload_n 1, 1) := by decide +kernel
theorem dX4_recover_65 : decode cX4_recover 65 = .ok (.iload 4, 2) := by decide +kernel
theorem dX4_recover_67 : decode cX4_recover 67 = .ok (.invokevirtual 102, 3) := by decide +kernel
theorem dX4_recover_70 : decode cX4_recover 70 = .ok (.istore 5, 2) := by decide +kernel
theorem dX4_recover_72 : decode cX4_recover 72 = .ok (.iload 5, 2) := by decide +kernel
theorem dX4_recover_74 : decode cX4_recover 74 = .ok (.ifCond .le 9, 3) := by decide +kernel
theorem dX4_recover_77 : decode cX4_recover 77 = .ok (.bipush (-10), 2) := by decide +kernel
theorem dX4_recover_79 : decode cX4_recover 79 = .ok (.iload 5, 2) := by decide +kernel
theorem dX4_recover_81 : decode cX4_recover 81 = .ok (.isub, 1) := by decide +kernel
theorem dX4_recover_82 : decode cX4_recover 82 = .ok (.ireturn, 1) := by decide +kernel
theorem dX4_recover_83 : decode cX4_recover 83 = .ok (.iconst 0, 1) := by decide +kernel
theorem dX4_recover_84 : decode cX4_recover 84 = .ok (.istore 6, 2) := by decide +kernel
theorem dX4_recover_86 : decode cX4_recover 86 = .ok (.iconst 1, 1) := by decide +kernel
theorem dX4_recover_87 : decode cX4_recover 87 = .ok (.istore 7, 2) := by decide +kernel
theorem dX4_recover_89 : decode cX4_recover 89 = .ok (.iload 7, 2) := by decide +kernel
theorem dX4_recover_91 : decode cX4_recover 91 = .ok (.bipush 60, 2) := by decide +kernel
theorem dX4_recover_93 : decode cX4_recover 93 = .ok (.if_icmp .gt 40, 3) := by decide +kernel
theorem dX4_recover_96 : decode cX4_recover 96 = .ok (.iload 6, 2) := by decide +kernel
theorem dX4_recover_98 : decode cX4_recover 98 = .ok (.aload_n 0, 1) := by decide +kernel
theorem dX4_recover_99 : decode cX4_recover 99 = .ok (.iload 7, 2) := by decide +kernel
theorem dX4_recover_101 : decode cX4_recover 101 = .ok (.iload 4, 2) := by decide +kernel
theorem dX4_recover_103 : decode cX4_recover 103 = .ok (.invokevirtual 58, 3) := by decide +kernel
theorem dX4_recover_106 : decode cX4_recover 106 = .ok (.iconst 1, 1) := by decide +kernel
theorem dX4_recover_107 : decode cX4_recover 107 = .ok (.if_icmp .ne 16, 3) := by decide +kernel
theorem dX4_recover_110 : decode cX4_recover 110 = .ok (.aload_n 0, 1) := by decide +kernel
theorem dX4_recover_111 : decode cX4_recover 111 = .ok (.iload 7, 2) := by decide +kernel
theorem dX4_recover_113 : decode cX4_recover 113 = .ok (.iload 4, 2) := by decide +kernel
theorem dX4_recover_115 : decode cX4_recover 115 = .ok (.invokevirtual 92, 3) := by decide +kernel
theorem dX4_recover_118 : decode cX4_recover 118 = .ok (.iconst 1, 1) := by decide +kernel
theorem dX4_recover_119 : decode cX4_recover 119 = .ok (.iadd, 1) := by decide +kernel
theorem dX4_recover_120 : decode cX4_recover 120 = .ok (.goto 4, 3) := by decide +kernel
theorem dX4_recover_123 : decode cX4_recover 123 = .ok (.iconst 0, 1) := by decide +kernel
theorem dX4_recover_124 : decode cX4_recover 124 = .ok (.iadd, 1) := by decide +kernel
theorem dX4_recover_125 : decode cX4_recover 125 = .ok (.istore 6, 2) := by decide +kernel
theorem dX4_recover_127 : decode cX4_recover 127 = .ok (.iinc 7 1, 3) := by decide +kernel
theorem dX4_recover_130 : decode cX4_recover 130 = .ok (.goto (-41), 3) := by decide +kernel
theorem dX4_recover_133 : decode cX4_recover 133 = .ok (.iload 4, 2) := by decide +kernel
theorem dX4_recover_135 : decode cX4_recover 135 = .ok (.iload 6, 2) := by decide +kernel
theorem dX4_recover_137 : decode cX4_recover 137 = .ok (.iadd, 1) := by decide +kernel
theorem dX4_recover_138 : decode cX4_recover 138 = .ok (.sipush 2000, 3) := by decide +kernel
theorem dX4_recover_141 : decode cX4_recover 141 = .ok (.if_icmp .le 5, 3) := by decide +kernel
theorem dX4_recover_144 : decode cX4_recover 144 = .ok (.iconst (-1), 1) := by decide +kernel
theorem dX4_recover_145 : decode cX4_recover 145 = .ok (.ireturn, 1) := by decide +kernel
theorem dX4_recover_146 : decode cX4_recover 146 = .ok (.iconst 0, 1) := by decide +kernel
theorem dX4_recover_147 : decode cX4_recover 147 = .ok (.istore 7, 2) := by decide +kernel
theorem dX4_recover_149 : decode cX4_recover 149 = .ok (.iload 7, 2) := by decide +kernel
theorem dX4_recover_151 : decode cX4_recover 151 = .ok (.bipush 32, 2) := by decide +kernel
theorem dX4_recover_153 : decode cX4_recover 153 = .ok (.if_icmp .ge 28, 3) := by decide +kernel
theorem dX4_recover_156 : decode cX4_recover 156 = .ok (.aload_n 0, 1) := by decide +kernel
theorem dX4_recover_157 : decode cX4_recover 157 = .ok (.getfield 7, 3) := by decide +kernel
theorem dX4_recover_160 : decode cX4_recover 160 = .ok (.iload 7, 2) := by decide +kernel
theorem dX4_recover_162 : decode cX4_recover 162 = .ok (.aload_n 0, 1) := by decide +kernel
theorem dX4_recover_163 : decode cX4_recover 163 = .ok (.getfield 36, 3) := by decide +kernel
theorem dX4_recover_166 : decode cX4_recover 166 = .ok (.bipush 32, 2) := by decide +kernel
theorem dX4_recover_168 : decode cX4_recover 168 = .ok (.iload_n 1, 1) := by decide +kernel
theorem dX4_recover_169 : decode cX4_recover 169 = .ok (.imul, 1) := by decide +kernel
theorem dX4_recover_170 : decode cX4_recover 170 = .ok (.iload 7, 2) := by decide +kernel
theorem dX4_recover_172 : decode cX4_recover 172 = .ok (.iadd, 1) := by decide +kernel
theorem dX4_recover_173 : decode cX4_recover 173 = .ok (.laload, 1) := by decide +kernel
theorem dX4_recover_174 : decode cX4_recover 174 = .ok (.lastore, 1) := by decide +kernel
theorem dX4_recover_175 : decode cX4_recover 175 = .ok (.iinc 7 1, 3) := by decide +kernel
theorem dX4_recover_178 : decode cX4_recover 178 = .ok (.goto (-29), 3) := by decide +kernel
theorem dX4_recover_181 : decode cX4_recover 181 = .ok (.aload_n 0, 1) := by decide +kernel
theorem dX4_recover_182 : decode cX4_recover 182 = .ok (.getfield 39, 3) := by decide +kernel
theorem dX4_recover_185 : decode cX4_recover 185 = .ok (.iload_n 1, 1) := by decide +kernel
theorem dX4_recover_186 : decode cX4_recover 186 = .ok (.iaload, 1) := by decide +kernel
theorem dX4_recover_187 : decode cX4_recover 187 = .ok (.iconst 1, 1) := by decide +kernel
theorem dX4_recover_188 : decode cX4_recover 188 = .ok (.iadd, 1) := by decide +kernel
theorem dX4_recover_189 : decode cX4_recover 189 = .ok (.istore 7, 2) := by decide +kernel
theorem dX4_recover_191 : decode cX4_recover 191 = .ok (.iload 7, 2) := by decide +kernel
theorem dX4_recover_193 : decode cX4_recover 193 = .ok (.iload 4, 2) := by decide +kernel
theorem dX4_recover_195 : decode cX4_recover 195 = .ok (.if_icmp .gt 38, 3) := by decide +kernel
theorem dX4_recover_198 : decode cX4_recover 198 = .ok (.aload_n 0, 1) := by decide +kernel
theorem dX4_recover_199 : decode cX4_recover 199 = .ok (.getfield 13, 3) := by decide +kernel
theorem dX4_recover_202 : decode cX4_recover 202 = .ok (.iload 7, 2) := by decide +kernel
theorem dX4_recover_204 : decode cX4_recover 204 = .ok (.iaload, 1) := by decide +kernel
theorem dX4_recover_205 : decode cX4_recover 205 = .ok (.ifCond .ne 22, 3) := by decide +kernel
theorem dX4_recover_208 : decode cX4_recover 208 = .ok (.aload_n 0, 1) := by decide +kernel
theorem dX4_recover_209 : decode cX4_recover 209 = .ok (.getfield 7, 3) := by decide +kernel
theorem dX4_recover_212 : decode cX4_recover 212 = .ok (.aload_n 0, 1) := by decide +kernel
theorem dX4_recover_213 : decode cX4_recover 213 = .ok (.getfield 20, 3) := by decide +kernel
theorem dX4_recover_216 : decode cX4_recover 216 = .ok (.iload 7, 2) := by decide +kernel
theorem dX4_recover_218 : decode cX4_recover 218 = .ok (.iaload, 1) := by decide +kernel
theorem dX4_recover_219 : decode cX4_recover 219 = .ok (.aload_n 0, 1) := by decide +kernel
theorem dX4_recover_220 : decode cX4_recover 220 = .ok (.getfield 29, 3) := by decide +kernel
theorem dX4_recover_223 : decode cX4_recover 223 = .ok (.iload 7, 2) := by decide +kernel
theorem dX4_recover_225 : decode cX4_recover 225 = .ok (.laload, 1) := by decide +kernel
theorem dX4_recover_226 : decode cX4_recover 226 = .ok (.lastore, 1) := by decide +kernel
theorem dX4_recover_227 : decode cX4_recover 227 = .ok (.iinc 7 1, 3) := by decide +kernel
theorem dX4_recover_230 : decode cX4_recover 230 = .ok (.goto (-39), 3) := by decide +kernel
theorem dX4_recover_233 : decode cX4_recover 233 = .ok (.aload_n 0, 1) := by decide +kernel
theorem dX4_recover_234 : decode cX4_recover 234 = .ok (.iload 4, 2) := by decide +kernel
theorem dX4_recover_236 : decode cX4_recover 236 = .ok (.putfield 55, 3) := by decide +kernel
theorem dX4_recover_239 : decode cX4_recover 239 = .ok (.aload_n 0, 1) := by decide +kernel
theorem dX4_recover_240 : decode cX4_recover 240 = .ok (.aload_n 0, 1) := by decide +kernel
theorem dX4_recover_241 : decode cX4_recover 241 = .ok (.getfield 105, 3) := by decide +kernel
theorem dX4_recover_244 : decode cX4_recover 244 = .ok (.aload_n 0, 1) := by decide +kernel
theorem dX4_recover_245 : decode cX4_recover 245 = .ok (.getfield 55, 3) := by decide +kernel
theorem dX4_recover_248 : decode cX4_recover 248 = .ok (.if_icmp .le 10, 3) := by decide +kernel
theorem dX4_recover_251 : decode cX4_recover 251 = .ok (.aload_n 0, 1) := by decide +kernel
theorem dX4_recover_252 : decode cX4_recover 252 = .ok (.getfield 55, 3) := by decide +kernel
theorem dX4_recover_255 : decode cX4_recover 255 = .ok (.goto 7, 3) := by decide +kernel
theorem dX4_recover_258 : decode cX4_recover 258 = .ok (.aload_n 0, 1) := by decide +kernel
theorem dX4_recover_259 : decode cX4_recover 259 = .ok (.getfield 105, 3) := by decide +kernel
theorem dX4_recover_262 : decode cX4_recover 262 = .ok (.putfield 105, 3) := by decide +kernel
theorem dX4_recover_265 : decode cX4_recover 265 = .ok (.iconst 1, 1) := by decide +kernel
theorem dX4_recover_266 : decode cX4_recover 266 = .ok (.istore 7, 2) := by decide +kernel
theorem dX4_recover_268 : decode cX4_recover 268 = .ok (.iload 7, 2) := by decide +kernel
theorem dX4_recover_270 : decode cX4_recover 270 = .ok (.aload_n 0, 1) := by decide +kernel
theorem dX4_recover_271 : decode cX4_recover 271 = .ok (.getfield 99, 3) := by decide +kernel
theorem dX4_recover_274 : decode cX4_recover 274 = .ok (.if_icmp .gt 45, 3) := by decide +kernel
theorem dX4_recover_277 : decode cX4_recover 277 = .ok (.aload_n 0, 1) := by decide +kernel
theorem dX4_recover_278 : decode cX4_recover 278 = .ok (.getfield 45, 3) := by decide +kernel
theorem dX4_recover_281 : decode cX4_recover 281 = .ok (.iload 7, 2) := by decide +kernel
theorem dX4_recover_283 : decode cX4_recover 283 = .ok (.aload_n 0, 1) := by decide +kernel
theorem dX4_recover_284 : decode cX4_recover 284 = .ok (.getfield 45, 3) := by decide +kernel
theorem dX4_recover_287 : decode cX4_recover 287 = .ok (.iload 7, 2) := by decide +kernel
theorem dX4_recover_289 : decode cX4_recover 289 = .ok (.baload, 1) := by decide +kernel
theorem dX4_recover_290 : decode cX4_recover 290 = .ok (.ifCond .ne 17, 3) := by decide +kernel
theorem dX4_recover_293 : decode cX4_recover 293 = .ok (.aload_n 0, 1) := by decide +kernel
theorem dX4_recover_294 : decode cX4_recover 294 = .ok (.getfield 42, 3) := by decide +kernel
theorem dX4_recover_297 : decode cX4_recover 297 = .ok (.iload 7, 2) := by decide +kernel
theorem dX4_recover_299 : decode cX4_recover 299 = .ok (.iaload, 1) := by decide +kernel
theorem dX4_recover_300 : decode cX4_recover 300 = .ok (.aload_n 0, 1) := by decide +kernel
theorem dX4_recover_301 : decode cX4_recover 301 = .ok (.getfield 55, 3) := by decide +kernel
theorem dX4_recover_304 : decode cX4_recover 304 = .ok (.if_icmp .le 7, 3) := by decide +kernel
theorem dX4_recover_307 : decode cX4_recover 307 = .ok (.iconst 1, 1) := by decide +kernel
theorem dX4_recover_308 : decode cX4_recover 308 = .ok (.goto 4, 3) := by decide +kernel
theorem dX4_recover_311 : decode cX4_recover 311 = .ok (.iconst 0, 1) := by decide +kernel
theorem dX4_recover_312 : decode cX4_recover 312 = .ok (.bastore, 1) := by decide +kernel
theorem dX4_recover_313 : decode cX4_recover 313 = .ok (.iinc 7 1, 3) := by decide +kernel
theorem dX4_recover_316 : decode cX4_recover 316 = .ok (.goto (-48), 3) := by decide +kernel
theorem dX4_recover_319 : decode cX4_recover 319 = .ok (.iconst 1, 1) := by decide +kernel
theorem dX4_recover_320 : decode cX4_recover 320 = .ok (.istore 7, 2) := by decide +kernel
theorem dX4_recover_322 : decode cX4_recover 322 = .ok (.iload 7, 2) := by decide +kernel
theorem dX4_recover_324 : decode cX4_recover 324 = .ok (.bipush 60, 2) := by decide +kernel
theorem dX4_recover_326 : decode cX4_recover 326 = .ok (.if_icmp .gt 28, 3) := by decide +kernel
theorem dX4_recover_329 : decode cX4_recover 329 = .ok (.aload_n 0, 1) := by decide +kernel
theorem dX4_recover_330 : decode cX4_recover 330 = .ok (.iload 7, 2) := by decide +kernel
theorem dX4_recover_332 : decode cX4_recover 332 = .ok (.iload 4, 2) := by decide +kernel
theorem dX4_recover_334 : decode cX4_recover 334 = .ok (.invokevirtual 58, 3) := by decide +kernel
theorem dX4_recover_337 : decode cX4_recover 337 = .ok (.iconst 1, 1) := by decide +kernel
theorem dX4_recover_338 : decode cX4_recover 338 = .ok (.if_icmp .ne 10, 3) := by decide +kernel
theorem dX4_recover_341 : decode cX4_recover 341 = .ok (.aload_n 0, 1) := by decide +kernel
theorem dX4_recover_342 : decode cX4_recover 342 = .ok (.iload 7, 2) := by decide +kernel
theorem dX4_recover_344 : decode cX4_recover 344 = .ok (.invokevirtual 95, 3) := by decide +kernel
theorem dX4_recover_347 : decode cX4_recover 347 = .ok (.pop, 1) := by decide +kernel
theorem dX4_recover_348 : decode cX4_recover 348 = .ok (.iinc 7 1, 3) := by decide +kernel
theorem dX4_recover_351 : decode cX4_recover 351 = .ok (.goto (-29), 3) := by decide +kernel
theorem dX4_recover_354 : decode cX4_recover 354 = .ok (.aload_n 0, 1) := by decide +kernel
theorem dX4_recover_355 : decode cX4_recover 355 = .ok (.invokevirtual 108, 3) := by decide +kernel
theorem dX4_recover_358 : decode cX4_recover 358 = .ok (.ireturn, 1) := by decide +kernel
theorem dX4_torn_0 : decode cX4_torn 0 = .ok (.aload_n 0, 1) := by decide +kernel
theorem dX4_torn_1 : decode cX4_torn 1 = .ok (.iconst 0, 1) := by decide +kernel
theorem dX4_torn_2 : decode cX4_torn 2 = .ok (.putfield 52, 3) := by decide +kernel
theorem dX4_torn_5 : decode cX4_torn 5 = .ok (.iload_n 1, 1) := by decide +kernel
theorem dX4_torn_6 : decode cX4_torn 6 = .ok (.ifCond .lt 21, 3) := by decide +kernel
theorem dX4_torn_9 : decode cX4_torn 9 = .ok (.iload_n 1, 1) := by decide +kernel
theorem dX4_torn_10 : decode cX4_torn 10 = .ok (.iconst 1, 1) := by decide +kernel
theorem dX4_torn_11 : decode cX4_torn 11 = .ok (.if_icmp .gt 16, 3) := by decide +kernel
theorem dX4_torn_14 : decode cX4_torn 14 = .ok (.iload_n 2, 1) := by decide +kernel
theorem dX4_torn_15 : decode cX4_torn 15 = .ok (.iconst 1, 1) := by decide +kernel
theorem dX4_torn_16 : decode cX4_torn 16 = .ok (.if_icmp .lt 11, 3) := by decide +kernel
theorem dX4_torn_19 : decode cX4_torn 19 = .ok (.iload_n 2, 1) := by decide +kernel
theorem dX4_torn_20 : decode cX4_torn 20 = .ok (.aload_n 0, 1) := by decide +kernel
theorem dX4_torn_21 : decode cX4_torn 21 = .ok (.getfield 55, 3) := by decide +kernel
theorem dX4_torn_24 : decode cX4_torn 24 = .ok (.if_icmp .le 6, 3) := by decide +kernel
theorem dX4_torn_27 : decode cX4_torn 27 = .ok (.bipush (-2), 2) := by decide +kernel
theorem dX4_torn_29 : decode cX4_torn 29 = .ok (.ireturn, 1) := by decide +kernel
theorem dX4_torn_30 : decode cX4_torn 30 = .ok (.iload_n 2, 1) := by decide +kernel
theorem dX4_torn_31 : decode cX4_torn 31 = .ok (.aload_n 0, 1) := by decide +kernel
theorem dX4_torn_32 : decode cX4_torn 32 = .ok (.getfield 105, 3) := by decide +kernel
theorem dX4_torn_35 : decode cX4_torn 35 = .ok (.if_icmp .gt 6, 3) := by decide +kernel
theorem dX4_torn_38 : decode cX4_torn 38 = .ok (.bipush (-5), 2) := by decide +kernel
theorem dX4_torn_40 : decode cX4_torn 40 = .ok (.ireturn, 1) := by decide +kernel
theorem dX4_torn_41 : decode cX4_torn 41 = .ok (.aload_n 0, 1) := by decide +kernel
theorem dX4_torn_42 : decode cX4_torn 42 = .ok (.getfield 23, 3) := by decide +kernel
theorem dX4_torn_45 : decode cX4_torn 45 = .ok (.iload_n 2, 1) := by decide +kernel
theorem dX4_torn_46 : decode cX4_torn 46 = .ok (.iaload, 1) := by decide +kernel
theorem dX4_torn_47 : decode cX4_torn 47 = .ok (.iload_n 1, 1) := by decide +kernel
theorem dX4_torn_48 : decode cX4_torn 48 = .ok (.ishr, 1) := by decide +kernel
theorem dX4_torn_49 : decode cX4_torn 49 = .ok (.iconst 1, 1) := by decide +kernel
theorem dX4_torn_50 : decode cX4_torn 50 = .ok (.iand, 1) := by decide +kernel
theorem dX4_torn_51 : decode cX4_torn 51 = .ok (.iconst 1, 1) := by decide +kernel
theorem dX4_torn_52 : decode cX4_torn 52 = .ok (.if_icmp .ne 5, 3) := by decide +kernel
theorem dX4_torn_55 : decode cX4_torn 55 = .ok (.iconst 0, 1) := by decide +kernel
theorem dX4_torn_56 : decode cX4_torn 56 = .ok (.ireturn, 1) := by decide +kernel
theorem dX4_torn_57 : decode cX4_torn 57 = .ok (.aload_n 0, 1) := by decide +kernel
theorem dX4_torn_58 : decode cX4_torn 58 = .ok (.getfield 23, 3) := by decide +kernel
theorem dX4_torn_61 : decode cX4_torn 61 = .ok (.iload_n 2, 1) := by decide +kernel
theorem dX4_torn_62 : decode cX4_torn 62 = .ok (.dup2, 1) := by decide +kernel
theorem dX4_torn_63 : decode cX4_torn 63 = .ok (.iaload, 1) := by decide +kernel
theorem dX4_torn_64 : decode cX4_torn 64 = .ok (.iconst 1, 1) := by decide +kernel
theorem dX4_torn_65 : decode cX4_torn 65 = .ok (.iload_n 1, 1) := by decide +kernel
theorem dX4_torn_66 : decode cX4_torn 66 = .ok (.iadd, 1) := by decide +kernel
theorem dX4_torn_67 : decode cX4_torn 67 = .ok (.iadd, 1) := by decide +kernel
theorem dX4_torn_68 : decode cX4_torn 68 = .ok (.iastore, 1) := by decide +kernel
theorem dX4_torn_69 : decode cX4_torn 69 = .ok (.iconst 1, 1) := by decide +kernel
theorem dX4_torn_70 : decode cX4_torn 70 = .ok (.ireturn, 1) := by decide +kernel
theorem dX4_archive_0 : decode cX4_archive 0 = .ok (.aload_n 0, 1) := by decide +kernel
theorem dX4_archive_1 : decode cX4_archive 1 = .ok (.iconst 0, 1) := by decide +kernel
theorem dX4_archive_2 : decode cX4_archive 2 = .ok (.putfield 52, 3) := by decide +kernel
theorem dX4_archive_5 : decode cX4_archive 5 = .ok (.iload_n 1, 1) := by decide +kernel
theorem dX4_archive_6 : decode cX4_archive 6 = .ok (.ifCond .lt 11, 3) := by decide +kernel
theorem dX4_archive_9 : decode cX4_archive 9 = .ok (.iload_n 1, 1) := by decide +kernel
theorem dX4_archive_10 : decode cX4_archive 10 = .ok (.aload_n 0, 1) := by decide +kernel
theorem dX4_archive_11 : decode cX4_archive 11 = .ok (.getfield 55, 3) := by decide +kernel
theorem dX4_archive_14 : decode cX4_archive 14 = .ok (.if_icmp .le 6, 3) := by decide +kernel
theorem dX4_archive_17 : decode cX4_archive 17 = .ok (.bipush (-4), 2) := by decide +kernel
theorem dX4_archive_19 : decode cX4_archive 19 = .ok (.ireturn, 1) := by decide +kernel
theorem dX4_archive_20 : decode cX4_archive 20 = .ok (.aload_n 0, 1) := by decide +kernel
theorem dX4_archive_21 : decode cX4_archive 21 = .ok (.iload_n 1, 1) := by decide +kernel
theorem dX4_archive_22 : decode cX4_archive 22 = .ok (.aload_n 0, 1) := by decide +kernel
theorem dX4_archive_23 : decode cX4_archive 23 = .ok (.getfield 105, 3) := by decide +kernel
theorem dX4_archive_26 : decode cX4_archive 26 = .ok (.if_icmp .le 7, 3) := by decide +kernel
theorem dX4_archive_29 : decode cX4_archive 29 = .ok (.iload_n 1, 1) := by decide +kernel
theorem dX4_archive_30 : decode cX4_archive 30 = .ok (.goto 7, 3) := by decide +kernel
theorem dX4_archive_33 : decode cX4_archive 33 = .ok (.aload_n 0, 1) := by decide +kernel
theorem dX4_archive_34 : decode cX4_archive 34 = .ok (.getfield 105, 3) := by decide +kernel
theorem dX4_archive_37 : decode cX4_archive 37 = .ok (.putfield 105, 3) := by decide +kernel
theorem dX4_archive_40 : decode cX4_archive 40 = .ok (.aload_n 0, 1) := by decide +kernel
theorem dX4_archive_41 : decode cX4_archive 41 = .ok (.getfield 105, 3) := by decide +kernel
theorem dX4_archive_44 : decode cX4_archive 44 = .ok (.ireturn, 1) := by decide +kernel
set_option maxRecDepth 20000 in
theorem ggX4_gap_X4_isMissing : GoodIn wsX4_gap wsX4_isMissing := goodIn_ca (goodIn_r _ [7, 8, 9, 10, 11, 12, 13, 14, 15, 16, 17, 18, 19, 20, 21, 22, 23, 24, 25, 26] (by decide +kernel) (by decide +kernel)) (goodIn_sub (fun _ h => List.mem_cons_of_mem _ (List.mem_append_right _ h)) (by decide +kernel))
set_option maxRecDepth 20000 in
theorem gX4_gap_X4_isMissing : GoodIn wsX4_gap (wsV RX4 89 RX4 yX4_isMissing wsX4_isMissing) := goodIn_app (goodIn_of _ (by decide +kernel)) ggX4_gap_X4_isMissing
theorem dX4_gap_0 : decode cX4_gap 0 = .ok (.aload_n 0, 1) := by decide +kernel
theorem dX4_gap_1 : decode cX4_gap 1 = .ok (.iconst 0, 1) := by decide +kernel
theorem dX4_gap_2 : decode cX4_gap 2 = .ok (.putfield 52, 3) := by decide +kernel
theorem dX4_gap_5 : decode cX4_gap 5 = .ok (.iconst 0, 1) := by decide +kernel
theorem dX4_gap_6 : decode cX4_gap 6 = .ok (.istore_n 2, 1) := by decide +kernel
theorem dX4_gap_7 : decode cX4_gap 7 = .ok (.iconst 1, 1) := by decide +kernel
theorem dX4_gap_8 : decode cX4_gap 8 = .ok (.istore_n 3, 1) := by decide +kernel
theorem dX4_gap_9 : decode cX4_gap 9 = .ok (.iload_n 3, 1) := by decide +kernel
theorem dX4_gap_10 : decode cX4_gap 10 = .ok (.aload_n 0, 1) := by decide +kernel
theorem dX4_gap_11 : decode cX4_gap 11 = .ok (.getfield 55, 3) := by decide +kernel
theorem dX4_gap_14 : decode cX4_gap 14 = .ok (.if_icmp .gt 30, 3) := by decide +kernel
theorem dX4_gap_17 : decode cX4_gap 17 = .ok (.aload_n 0, 1) := by decide +kernel
theorem dX4_gap_18 : decode cX4_gap 18 = .ok (.iload_n 3, 1) := by decide +kernel
theorem dX4_gap_19 : decode cX4_gap 19 = .ok (.invokevirtual 89, 3) := by decide +kernel
theorem dX4_gap_22 : decode cX4_gap 22 = .ok (.ifCond .ne 6, 3) := by decide +kernel
theorem dX4_gap_25 : decode cX4_gap 25 = .ok (.goto 13, 3) := by decide +kernel
theorem dX4_gap_28 : decode cX4_gap 28 = .ok (.iload_n 2, 1) := by decide +kernel
theorem dX4_gap_29 : decode cX4_gap 29 = .ok (.iload_n 1, 1) := by decide +kernel
theorem dX4_gap_30 : decode cX4_gap 30 = .ok (.if_icmp .ne 5, 3) := by decide +kernel
theorem dX4_gap_33 : decode cX4_gap 33 = .ok (.iload_n 3, 1) := by decide +kernel
theorem dX4_gap_34 : decode cX4_gap 34 = .ok (.ireturn, 1) := by decide +kernel
theorem dX4_gap_35 : decode cX4_gap 35 = .ok (.iinc 2 1, 3) := by decide +kernel
theorem dX4_gap_38 : decode cX4_gap 38 = .ok (.iinc 3 1, 3) := by decide +kernel
theorem dX4_gap_41 : decode cX4_gap 41 = .ok (.goto (-32), 3) := by decide +kernel
theorem dX4_gap_44 : decode cX4_gap 44 = .ok (.iconst 0, 1) := by decide +kernel
theorem dX4_gap_45 : decode cX4_gap 45 = .ok (.ireturn, 1) := by decide +kernel
set_option maxRecDepth 20000 in
theorem ggX4_ahead_X4_gap : GoodIn wsX4_ahead wsX4_gap := goodIn_ca (goodIn_r _ [6, 1, 7, 8, 9, 10, 5, 11, 12, 13, 14, 15, 16, 17, 18, 19, 20, 21, 22, 23, 24, 25, 26, 27, 28, 29, 30] (by decide +kernel) (by decide +kernel)) (goodIn_sub (fun _ h => List.mem_cons_of_mem _ (List.mem_append_right _ h)) (by decide +kernel))
set_option maxRecDepth 20000 in
theorem gX4_ahead_X4_gap : GoodIn wsX4_ahead (wsV RX4 112 RX4 yX4_gap wsX4_gap) := goodIn_app (goodIn_of _ (by decide +kernel)) ggX4_ahead_X4_gap
theorem dX4_ahead_0 : decode cX4_ahead 0 = .ok (.aload_n 0, 1) := by decide +kernel
theorem dX4_ahead_1 : decode cX4_ahead 1 = .ok (.iconst 0, 1) := by decide +kernel
theorem dX4_ahead_2 : decode cX4_ahead 2 = .ok (.putfield 52, 3) := by decide +kernel
theorem dX4_ahead_5 : decode cX4_ahead 5 = .ok (.aload_n 0, 1) := by decide +kernel
theorem dX4_ahead_6 : decode cX4_ahead 6 = .ok (.iconst 0, 1) := by decide +kernel
theorem dX4_ahead_7 : decode cX4_ahead 7 = .ok (.invokevirtual 112, 3) := by decide +kernel
theorem dX4_ahead_10 : decode cX4_ahead 10 = .ok (.ifCond .ne 7, 3) := by decide +kernel
theorem dX4_ahead_13 : decode cX4_ahead 13 = .ok (.iconst 1, 1) := by decide +kernel
theorem dX4_ahead_14 : decode cX4_ahead 14 = .ok (.goto 4, 3) := by decide +kernel
theorem dX4_ahead_17 : decode cX4_ahead 17 = .ok (.iconst 0, 1) := by decide +kernel
theorem dX4_ahead_18 : decode cX4_ahead 18 = .ok (.ireturn, 1) := by decide +kernel
theorem dX4_merge_0 : decode cX4_merge 0 = .ok (.aload_n 0, 1) := by decide +kernel
theorem dX4_merge_1 : decode cX4_merge 1 = .ok (.iconst 0, 1) := by decide +kernel
theorem dX4_merge_2 : decode cX4_merge 2 = .ok (.putfield 52, 3) := by decide +kernel
theorem dX4_merge_5 : decode cX4_merge 5 = .ok (.iconst 0, 1) := by decide +kernel
theorem dX4_merge_6 : decode cX4_merge 6 = .ok (.istore_n 3, 1) := by decide +kernel
theorem dX4_merge_7 : decode cX4_merge 7 = .ok (.iconst 1, 1) := by decide +kernel
theorem dX4_merge_8 : decode cX4_merge 8 = .ok (.istore 4, 2) := by decide +kernel
theorem dX4_merge_10 : decode cX4_merge 10 = .ok (.iload 4, 2) := by decide +kernel
theorem dX4_merge_12 : decode cX4_merge 12 = .ok (.aload_n 0, 1) := by decide +kernel
theorem dX4_merge_13 : decode cX4_merge 13 = .ok (.getfield 55, 3) := by decide +kernel
theorem dX4_merge_16 : decode cX4_merge 16 = .ok (.if_icmp .gt 39, 3) := by decide +kernel
theorem dX4_merge_19 : decode cX4_merge 19 = .ok (.aload_n 0, 1) := by decide +kernel
theorem dX4_merge_20 : decode cX4_merge 20 = .ok (.getfield 17, 3) := by decide +kernel
theorem dX4_merge_23 : decode cX4_merge 23 = .ok (.iload 4, 2) := by decide +kernel
theorem dX4_merge_25 : decode cX4_merge 25 = .ok (.iaload, 1) := by decide +kernel
theorem dX4_merge_26 : decode cX4_merge 26 = .ok (.aload_n 0, 1) := by decide +kernel
theorem dX4_merge_27 : decode cX4_merge 27 = .ok (.getfield 48, 3) := by decide +kernel
theorem dX4_merge_30 : decode cX4_merge 30 = .ok (.irem, 1) := by decide +kernel
theorem dX4_merge_31 : decode cX4_merge 31 = .ok (.iload_n 1, 1) := by decide +kernel
theorem dX4_merge_32 : decode cX4_merge 32 = .ok (.if_icmp .eq 6, 3) := by decide +kernel
theorem dX4_merge_35 : decode cX4_merge 35 = .ok (.goto 14, 3) := by decide +kernel
theorem dX4_merge_38 : decode cX4_merge 38 = .ok (.iload_n 3, 1) := by decide +kernel
theorem dX4_merge_39 : decode cX4_merge 39 = .ok (.iload_n 2, 1) := by decide +kernel
theorem dX4_merge_40 : decode cX4_merge 40 = .ok (.if_icmp .ne 6, 3) := by decide +kernel
theorem dX4_merge_43 : decode cX4_merge 43 = .ok (.iload 4, 2) := by decide +kernel
theorem dX4_merge_45 : decode cX4_merge 45 = .ok (.ireturn, 1) := by decide +kernel
theorem dX4_merge_46 : decode cX4_merge 46 = .ok (.iinc 3 1, 3) := by decide +kernel
theorem dX4_merge_49 : decode cX4_merge 49 = .ok (.iinc 4 1, 3) := by decide +kernel
theorem dX4_merge_52 : decode cX4_merge 52 = .ok (.goto (-42), 3) := by decide +kernel
theorem dX4_merge_55 : decode cX4_merge 55 = .ok (.iconst 0, 1) := by decide +kernel
theorem dX4_merge_56 : decode cX4_merge 56 = .ok (.ireturn, 1) := by decide +kernel
set_option maxRecDepth 20000 in
theorem ggX4_get_X4_isCell : GoodIn wsX4_get wsX4_isCell := goodIn_r _ [6] (by decide +kernel) (by decide +kernel)
set_option maxRecDepth 20000 in
theorem gX4_get_X4_isCell : GoodIn wsX4_get (va_wsS RX4 79 yX4_isCell wsX4_isCell) := goodIn_app (goodIn_of _ (by decide +kernel)) ggX4_get_X4_isCell
theorem dX4_get_0 : decode cX4_get 0 = .ok (.aload_n 0, 1) := by decide +kernel
theorem dX4_get_1 : decode cX4_get 1 = .ok (.iload_n 1, 1) := by decide +kernel
theorem dX4_get_2 : decode cX4_get 2 = .ok (.invokestatic 79, 3) := by decide +kernel
theorem dX4_get_5 : decode cX4_get 5 = .ok (.ifCond .eq 7, 3) := by decide +kernel
theorem dX4_get_8 : decode cX4_get 8 = .ok (.iconst 0, 1) := by decide +kernel
theorem dX4_get_9 : decode cX4_get 9 = .ok (.goto 4, 3) := by decide +kernel
theorem dX4_get_12 : decode cX4_get 12 = .ok (.iconst 1, 1) := by decide +kernel
theorem dX4_get_13 : decode cX4_get 13 = .ok (.putfield 52, 3) := by decide +kernel
theorem dX4_get_16 : decode cX4_get 16 = .ok (.aload_n 0, 1) := by decide +kernel
theorem dX4_get_17 : decode cX4_get 17 = .ok (.getfield 52, 3) := by decide +kernel
theorem dX4_get_20 : decode cX4_get 20 = .ok (.ifCond .le 7, 3) := by decide +kernel
theorem dX4_get_23 : decode cX4_get 23 = .ok (.lconst 0, 1) := by decide +kernel
theorem dX4_get_24 : decode cX4_get 24 = .ok (.goto 9, 3) := by decide +kernel
theorem dX4_get_27 : decode cX4_get 27 = .ok (.aload_n 0, 1) := by decide +kernel
theorem dX4_get_28 : decode cX4_get 28 = .ok (.getfield 7, 3) := by decide +kernel
theorem dX4_get_31 : decode cX4_get 31 = .ok (.iload_n 1, 1) := by decide +kernel
theorem dX4_get_32 : decode cX4_get 32 = .ok (.laload, 1) := by decide +kernel
theorem dX4_get_33 : decode cX4_get 33 = .ok (.lreturn, 1) := by decide +kernel
theorem dX4_at_0 : decode cX4_at 0 = .ok (.iload_n 1, 1) := by decide +kernel
theorem dX4_at_1 : decode cX4_at 1 = .ok (.ifCond .le 25, 3) := by decide +kernel
theorem dX4_at_4 : decode cX4_at 4 = .ok (.iload_n 1, 1) := by decide +kernel
theorem dX4_at_5 : decode cX4_at 5 = .ok (.aload_n 0, 1) := by decide +kernel
theorem dX4_at_6 : decode cX4_at 6 = .ok (.getfield 55, 3) := by decide +kernel
theorem dX4_at_9 : decode cX4_at 9 = .ok (.if_icmp .gt 17, 3) := by decide +kernel
theorem dX4_at_12 : decode cX4_at 12 = .ok (.iload_n 2, 1) := by decide +kernel
theorem dX4_at_13 : decode cX4_at 13 = .ok (.ifCond .lt 13, 3) := by decide +kernel
theorem dX4_at_16 : decode cX4_at 16 = .ok (.iload_n 2, 1) := by decide +kernel
theorem dX4_at_17 : decode cX4_at 17 = .ok (.bipush 7, 2) := by decide +kernel
theorem dX4_at_19 : decode cX4_at 19 = .ok (.if_icmp .ge 7, 3) := by decide +kernel
theorem dX4_at_22 : decode cX4_at 22 = .ok (.iconst 1, 1) := by decide +kernel
theorem dX4_at_23 : decode cX4_at 23 = .ok (.goto 4, 3) := by decide +kernel
theorem dX4_at_26 : decode cX4_at 26 = .ok (.iconst 0, 1) := by decide +kernel
theorem dX4_at_27 : decode cX4_at 27 = .ok (.istore_n 3, 1) := by decide +kernel
theorem dX4_at_28 : decode cX4_at 28 = .ok (.aload_n 0, 1) := by decide +kernel
theorem dX4_at_29 : decode cX4_at 29 = .ok (.iload_n 3, 1) := by decide +kernel
theorem dX4_at_30 : decode cX4_at 30 = .ok (.ifCond .eq 7, 3) := by decide +kernel
theorem dX4_at_33 : decode cX4_at 33 = .ok (.iconst 0, 1) := by decide +kernel
theorem dX4_at_34 : decode cX4_at 34 = .ok (.goto 4, 3) := by decide +kernel
theorem dX4_at_37 : decode cX4_at 37 = .ok (.iconst 1, 1) := by decide +kernel
theorem dX4_at_38 : decode cX4_at 38 = .ok (.putfield 52, 3) := by decide +kernel
theorem dX4_at_41 : decode cX4_at 41 = .ok (.iload_n 3, 1) := by decide +kernel
theorem dX4_at_42 : decode cX4_at 42 = .ok (.ifCond .ne 5, 3) := by decide +kernel
theorem dX4_at_45 : decode cX4_at 45 = .ok (.iconst 0, 1) := by decide +kernel
theorem dX4_at_46 : decode cX4_at 46 = .ok (.ireturn, 1) := by decide +kernel
theorem dX4_at_47 : decode cX4_at 47 = .ok (.iload_n 2, 1) := by decide +kernel
theorem dX4_at_48 : decode cX4_at 48 = .ok (.tableswitch 84 0 5 #[40, 47, 54, 61, 69, 77], 40) := by decide +kernel
theorem dX4_at_88 : decode cX4_at 88 = .ok (.aload_n 0, 1) := by decide +kernel
theorem dX4_at_89 : decode cX4_at 89 = .ok (.getfield 13, 3) := by decide +kernel
theorem dX4_at_92 : decode cX4_at 92 = .ok (.iload_n 1, 1) := by decide +kernel
theorem dX4_at_93 : decode cX4_at 93 = .ok (.iaload, 1) := by decide +kernel
theorem dX4_at_94 : decode cX4_at 94 = .ok (.ireturn, 1) := by decide +kernel
theorem dX4_at_95 : decode cX4_at 95 = .ok (.aload_n 0, 1) := by decide +kernel
theorem dX4_at_96 : decode cX4_at 96 = .ok (.getfield 17, 3) := by decide +kernel
theorem dX4_at_99 : decode cX4_at 99 = .ok (.iload_n 1, 1) := by decide +kernel
theorem dX4_at_100 : decode cX4_at 100 = .ok (.iaload, 1) := by decide +kernel
theorem dX4_at_101 : decode cX4_at 101 = .ok (.ireturn, 1) := by decide +kernel
theorem dX4_at_102 : decode cX4_at 102 = .ok (.aload_n 0, 1) := by decide +kernel
theorem dX4_at_103 : decode cX4_at 103 = .ok (.getfield 20, 3) := by decide +kernel
theorem dX4_at_106 : decode cX4_at 106 = .ok (.iload_n 1, 1) := by decide +kernel
theorem dX4_at_107 : decode cX4_at 107 = .ok (.iaload, 1) := by decide +kernel
theorem dX4_at_108 : decode cX4_at 108 = .ok (.ireturn, 1) := by decide +kernel
theorem dX4_at_109 : decode cX4_at 109 = .ok (.aload_n 0, 1) := by decide +kernel
theorem dX4_at_110 : decode cX4_at 110 = .ok (.getfield 26, 3) := by decide +kernel
theorem dX4_at_113 : decode cX4_at 113 = .ok (.iload_n 1, 1) := by decide +kernel
theorem dX4_at_114 : decode cX4_at 114 = .ok (.laload, 1) := by decide +kernel
theorem dX4_at_115 : decode cX4_at 115 = .ok (.l2i, 1) := by decide +kernel
theorem dX4_at_116 : decode cX4_at 116 = .ok (.ireturn, 1) := by decide +kernel
theorem dX4_at_117 : decode cX4_at 117 = .ok (.aload_n 0, 1) := by decide +kernel
theorem dX4_at_118 : decode cX4_at 118 = .ok (.getfield 29, 3) := by decide +kernel
theorem dX4_at_121 : decode cX4_at 121 = .ok (.iload_n 1, 1) := by decide +kernel
theorem dX4_at_122 : decode cX4_at 122 = .ok (.laload, 1) := by decide +kernel
theorem dX4_at_123 : decode cX4_at 123 = .ok (.l2i, 1) := by decide +kernel
theorem dX4_at_124 : decode cX4_at 124 = .ok (.ireturn, 1) := by decide +kernel
theorem dX4_at_125 : decode cX4_at 125 = .ok (.aload_n 0, 1) := by decide +kernel
theorem dX4_at_126 : decode cX4_at 126 = .ok (.getfield 23, 3) := by decide +kernel
theorem dX4_at_129 : decode cX4_at 129 = .ok (.iload_n 1, 1) := by decide +kernel
theorem dX4_at_130 : decode cX4_at 130 = .ok (.iaload, 1) := by decide +kernel
theorem dX4_at_131 : decode cX4_at 131 = .ok (.ireturn, 1) := by decide +kernel
theorem dX4_at_132 : decode cX4_at 132 = .ok (.aload_n 0, 1) := by decide +kernel
theorem dX4_at_133 : decode cX4_at 133 = .ok (.getfield 32, 3) := by decide +kernel
theorem dX4_at_136 : decode cX4_at 136 = .ok (.iload_n 1, 1) := by decide +kernel
theorem dX4_at_137 : decode cX4_at 137 = .ok (.baload, 1) := by decide +kernel
theorem dX4_at_138 : decode cX4_at 138 = .ok (.ifCond .eq 7, 3) := by decide +kernel
theorem dX4_at_141 : decode cX4_at 141 = .ok (.iconst 1, 1) := by decide +kernel
theorem dX4_at_142 : decode cX4_at 142 = .ok (.goto 4, 3) := by decide +kernel
theorem dX4_at_145 : decode cX4_at 145 = .ok (.iconst 0, 1) := by decide +kernel
theorem dX4_at_146 : decode cX4_at 146 = .ok (.ireturn, 1) := by decide +kernel
set_option maxRecDepth 20000 in
theorem ggX4_warm_X4_isOpen : GoodIn wsX4_warm wsX4_isOpen := goodIn_ca (goodIn_r _ [6, 7, 8, 9, 10, 5, 11, 12, 13, 14, 15, 16, 17, 18, 19, 20, 21, 22, 23, 24, 25, 26, 27, 28, 29, 30, 31] (by decide +kernel) (by decide +kernel)) (goodIn_sub (fun _ h => List.mem_cons_of_mem _ (List.mem_append_right _ h)) (by decide +kernel))
set_option maxRecDepth 20000 in
theorem gX4_warm_X4_isOpen : GoodIn wsX4_warm (wsV RX4 72 RX4 yX4_isOpen wsX4_isOpen) := goodIn_app (goodIn_of _ (by decide +kernel)) ggX4_warm_X4_isOpen
theorem dX4_warm_0 : decode cX4_warm 0 = .ok (.aload_n 0, 1) := by decide +kernel
theorem dX4_warm_1 : decode cX4_warm 1 = .ok (.iconst 0, 1) := by decide +kernel
theorem dX4_warm_2 : decode cX4_warm 2 = .ok (.putfield 52, 3) := by decide +kernel
theorem dX4_warm_5 : decode cX4_warm 5 = .ok (.iconst 0, 1) := by decide +kernel
theorem dX4_warm_6 : decode cX4_warm 6 = .ok (.istore_n 1, 1) := by decide +kernel
theorem dX4_warm_7 : decode cX4_warm 7 = .ok (.iconst 1, 1) := by decide +kernel
theorem dX4_warm_8 : decode cX4_warm 8 = .ok (.istore_n 2, 1) := by decide +kernel
theorem dX4_warm_9 : decode cX4_warm 9 = .ok (.iload_n 2, 1) := by decide +kernel
theorem dX4_warm_10 : decode cX4_warm 10 = .ok (.bipush 60, 2) := by decide +kernel
theorem dX4_warm_12 : decode cX4_warm 12 = .ok (.if_icmp .gt 25, 3) := by decide +kernel
theorem dX4_warm_15 : decode cX4_warm 15 = .ok (.iload_n 1, 1) := by decide +kernel
theorem dX4_warm_16 : decode cX4_warm 16 = .ok (.aload_n 0, 1) := by decide +kernel
theorem dX4_warm_17 : decode cX4_warm 17 = .ok (.iload_n 2, 1) := by decide +kernel
theorem dX4_warm_18 : decode cX4_warm 18 = .ok (.invokevirtual 72, 3) := by decide +kernel
theorem dX4_warm_21 : decode cX4_warm 21 = .ok (.ifCond .eq 7, 3) := by decide +kernel
theorem dX4_warm_24 : decode cX4_warm 24 = .ok (.iconst 1, 1) := by decide +kernel
theorem dX4_warm_25 : decode cX4_warm 25 = .ok (.goto 4, 3) := by decide +kernel
theorem dX4_warm_28 : decode cX4_warm 28 = .ok (.iconst 0, 1) := by decide +kernel
theorem dX4_warm_29 : decode cX4_warm 29 = .ok (.iadd, 1) := by decide +kernel
theorem dX4_warm_30 : decode cX4_warm 30 = .ok (.istore_n 1, 1) := by decide +kernel
theorem dX4_warm_31 : decode cX4_warm 31 = .ok (.iinc 2 1, 3) := by decide +kernel
theorem dX4_warm_34 : decode cX4_warm 34 = .ok (.goto (-25), 3) := by decide +kernel
theorem dX4_warm_37 : decode cX4_warm 37 = .ok (.iload_n 1, 1) := by decide +kernel
theorem dX4_warm_38 : decode cX4_warm 38 = .ok (.ireturn, 1) := by decide +kernel
theorem dX4_synced_0 : decode cX4_synced 0 = .ok (.iconst 0, 1) := by decide +kernel
theorem dX4_synced_1 : decode cX4_synced 1 = .ok (.istore_n 1, 1) := by decide +kernel
theorem dX4_synced_2 : decode cX4_synced 2 = .ok (.iconst 1, 1) := by decide +kernel
theorem dX4_synced_3 : decode cX4_synced 3 = .ok (.istore_n 2, 1) := by decide +kernel
theorem dX4_synced_4 : decode cX4_synced 4 = .ok (.iload_n 2, 1) := by decide +kernel
theorem dX4_synced_5 : decode cX4_synced 5 = .ok (.aload_n 0, 1) := by decide +kernel
theorem dX4_synced_6 : decode cX4_synced 6 = .ok (.getfield 55, 3) := by decide +kernel
theorem dX4_synced_9 : decode cX4_synced 9 = .ok (.if_icmp .gt 27, 3) := by decide +kernel
theorem dX4_synced_12 : decode cX4_synced 12 = .ok (.iload_n 1, 1) := by decide +kernel
theorem dX4_synced_13 : decode cX4_synced 13 = .ok (.aload_n 0, 1) := by decide +kernel
theorem dX4_synced_14 : decode cX4_synced 14 = .ok (.getfield 13, 3) := by decide +kernel
theorem dX4_synced_17 : decode cX4_synced 17 = .ok (.iload_n 2, 1) := by decide +kernel
theorem dX4_synced_18 : decode cX4_synced 18 = .ok (.iaload, 1) := by decide +kernel
theorem dX4_synced_19 : decode cX4_synced 19 = .ok (.iconst 1, 1) := by decide +kernel
theorem dX4_synced_20 : decode cX4_synced 20 = .ok (.if_icmp .ne 7, 3) := by decide +kernel
theorem dX4_synced_23 : decode cX4_synced 23 = .ok (.iconst 1, 1) := by decide +kernel
theorem dX4_synced_24 : decode cX4_synced 24 = .ok (.goto 4, 3) := by decide +kernel
theorem dX4_synced_27 : decode cX4_synced 27 = .ok (.iconst 0, 1) := by decide +kernel
theorem dX4_synced_28 : decode cX4_synced 28 = .ok (.iadd, 1) := by decide +kernel
theorem dX4_synced_29 : decode cX4_synced 29 = .ok (.istore_n 1, 1) := by decide +kernel
theorem dX4_synced_30 : decode cX4_synced 30 = .ok (.iinc 2 1, 3) := by decide +kernel
theorem dX4_synced_33 : decode cX4_synced 33 = .ok (.goto (-29), 3) := by decide +kernel
theorem dX4_synced_36 : decode cX4_synced 36 = .ok (.iload_n 1, 1) := by decide +kernel
theorem dX4_synced_37 : decode cX4_synced 37 = .ok (.ireturn, 1) := by decide +kernel
set_option maxRecDepth 20000 in
theorem ggX4_count_X4_synced : GoodIn wsX4_count wsX4_synced := goodIn_ca (goodIn_r _ [9, 2, 10, 11, 12, 13, 14, 15, 16, 17, 18, 19, 20, 21, 22, 23, 24, 25, 26, 27, 28] (by decide +kernel) (by decide +kernel)) (goodIn_sub (fun _ h => List.mem_cons_of_mem _ (List.mem_append_right _ h)) (by decide +kernel))
set_option maxRecDepth 20000 in
theorem gX4_count_X4_synced : GoodIn wsX4_count (wsV RX4 108 RX4 yX4_synced wsX4_synced) := goodIn_app (goodIn_of _ (by decide +kernel)) ggX4_count_X4_synced
theorem dX4_count_0 : decode cX4_count 0 = .ok (.aload_n 0, 1) := by decide +kernel
theorem dX4_count_1 : decode cX4_count 1 = .ok (.iconst 0, 1) := by decide +kernel
theorem dX4_count_2 : decode cX4_count 2 = .ok (.putfield 52, 3) := by decide +kernel
theorem dX4_count_5 : decode cX4_count 5 = .ok (.iload_n 1, 1) := by decide +kernel
theorem dX4_count_6 : decode cX4_count 6 = .ok (.ifCond .ne 10, 3) := by decide +kernel
theorem dX4_count_9 : decode cX4_count 9 = .ok (.aload_n 0, 1) := by decide +kernel
theorem dX4_count_10 : decode cX4_count 10 = .ok (.getfield 55, 3) := by decide +kernel
theorem dX4_count_13 : decode cX4_count 13 = .ok (.goto 40, 3) := by decide +kernel
theorem dX4_count_16 : decode cX4_count 16 = .ok (.iload_n 1, 1) := by decide +kernel
theorem dX4_count_17 : decode cX4_count 17 = .ok (.iconst 1, 1) := by decide +kernel
theorem dX4_count_18 : decode cX4_count 18 = .ok (.if_icmp .ne 10, 3) := by decide +kernel
theorem dX4_count_21 : decode cX4_count 21 = .ok (.aload_n 0, 1) := by decide +kernel
theorem dX4_count_22 : decode cX4_count 22 = .ok (.getfield 99, 3) := by decide +kernel
theorem dX4_count_25 : decode cX4_count 25 = .ok (.goto 28, 3) := by decide +kernel
theorem dX4_count_28 : decode cX4_count 28 = .ok (.iload_n 1, 1) := by decide +kernel
theorem dX4_count_29 : decode cX4_count 29 = .ok (.iconst 2, 1) := by decide +kernel
theorem dX4_count_30 : decode cX4_count 30 = .ok (.if_icmp .ne 10, 3) := by decide +kernel
theorem dX4_count_33 : decode cX4_count 33 = .ok (.aload_n 0, 1) := by decide +kernel
theorem dX4_count_34 : decode cX4_count 34 = .ok (.getfield 105, 3) := by decide +kernel
theorem dX4_count_37 : decode cX4_count 37 = .ok (.goto 16, 3) := by decide +kernel
theorem dX4_count_40 : decode cX4_count 40 = .ok (.iload_n 1, 1) := by decide +kernel
theorem dX4_count_41 : decode cX4_count 41 = .ok (.iconst 3, 1) := by decide +kernel
theorem dX4_count_42 : decode cX4_count 42 = .ok (.if_icmp .ne 10, 3) := by decide +kernel
theorem dX4_count_45 : decode cX4_count 45 = .ok (.aload_n 0, 1) := by decide +kernel
theorem dX4_count_46 : decode cX4_count 46 = .ok (.invokevirtual 108, 3) := by decide +kernel
theorem dX4_count_49 : decode cX4_count 49 = .ok (.goto 4, 3) := by decide +kernel
theorem dX4_count_52 : decode cX4_count 52 = .ok (.iconst (-1), 1) := by decide +kernel
theorem dX4_count_53 : decode cX4_count 53 = .ok (.ireturn, 1) := by decide +kernel
theorem dJx00060_init_a7421_0 : decode cJx00060_init_a7421 0 = .ok (.aload_n 0, 1) := by decide +kernel
theorem dJx00060_init_a7421_1 : decode cJx00060_init_a7421 1 = .ok (.aload_n 1, 1) := by decide +kernel
theorem dJx00060_init_a7421_2 : decode cJx00060_init_a7421 2 = .ok (.invokespecial 7, 3) := by decide +kernel
theorem dJx00060_init_a7421_5 : decode cJx00060_init_a7421 5 = .ok (.return_, 1) := by decide +kernel
theorem dJ9_max_7cf53_0 : decode cJ9_max_7cf53 0 = .ok (.iload_n 0, 1) := by decide +kernel
theorem dJ9_max_7cf53_1 : decode cJ9_max_7cf53 1 = .ok (.iload_n 1, 1) := by decide +kernel
theorem dJ9_max_7cf53_2 : decode cJ9_max_7cf53 2 = .ok (.if_icmp .lt 7, 3) := by decide +kernel
theorem dJ9_max_7cf53_5 : decode cJ9_max_7cf53 5 = .ok (.iload_n 0, 1) := by decide +kernel
theorem dJ9_max_7cf53_6 : decode cJ9_max_7cf53 6 = .ok (.goto 4, 3) := by decide +kernel
theorem dJ9_max_7cf53_9 : decode cJ9_max_7cf53 9 = .ok (.iload_n 1, 1) := by decide +kernel
theorem dJ9_max_7cf53_10 : decode cJ9_max_7cf53 10 = .ok (.ireturn, 1) := by decide +kernel
theorem dJ9_min_7cf53_0 : decode cJ9_min_7cf53 0 = .ok (.iload_n 0, 1) := by decide +kernel
theorem dJ9_min_7cf53_1 : decode cJ9_min_7cf53 1 = .ok (.iload_n 1, 1) := by decide +kernel
theorem dJ9_min_7cf53_2 : decode cJ9_min_7cf53 2 = .ok (.if_icmp .gt 7, 3) := by decide +kernel
theorem dJ9_min_7cf53_5 : decode cJ9_min_7cf53 5 = .ok (.iload_n 0, 1) := by decide +kernel
theorem dJ9_min_7cf53_6 : decode cJ9_min_7cf53 6 = .ok (.goto 4, 3) := by decide +kernel
theorem dJ9_min_7cf53_9 : decode cJ9_min_7cf53 9 = .ok (.iload_n 1, 1) := by decide +kernel
theorem dJ9_min_7cf53_10 : decode cJ9_min_7cf53 10 = .ok (.ireturn, 1) := by decide +kernel
theorem dJ7_fill_53178_0 : decode cJ7_fill_53178 0 = .ok (.iconst 0, 1) := by decide +kernel
theorem dJ7_fill_53178_1 : decode cJ7_fill_53178 1 = .ok (.istore_n 2, 1) := by decide +kernel
theorem dJ7_fill_53178_2 : decode cJ7_fill_53178 2 = .ok (.aload_n 0, 1) := by decide +kernel
theorem dJ7_fill_53178_3 : decode cJ7_fill_53178 3 = .ok (.arraylength, 1) := by decide +kernel
theorem dJ7_fill_53178_4 : decode cJ7_fill_53178 4 = .ok (.istore_n 3, 1) := by decide +kernel
theorem dJ7_fill_53178_5 : decode cJ7_fill_53178 5 = .ok (.iload_n 2, 1) := by decide +kernel
theorem dJ7_fill_53178_6 : decode cJ7_fill_53178 6 = .ok (.iload_n 3, 1) := by decide +kernel
theorem dJ7_fill_53178_7 : decode cJ7_fill_53178 7 = .ok (.if_icmp .ge 13, 3) := by decide +kernel
theorem dJ7_fill_53178_10 : decode cJ7_fill_53178 10 = .ok (.aload_n 0, 1) := by decide +kernel
theorem dJ7_fill_53178_11 : decode cJ7_fill_53178 11 = .ok (.iload_n 2, 1) := by decide +kernel
theorem dJ7_fill_53178_12 : decode cJ7_fill_53178 12 = .ok (.iload_n 1, 1) := by decide +kernel
theorem dJ7_fill_53178_13 : decode cJ7_fill_53178 13 = .ok (.iastore, 1) := by decide +kernel
theorem dJ7_fill_53178_14 : decode cJ7_fill_53178 14 = .ok (.iinc 2 1, 3) := by decide +kernel
theorem dJ7_fill_53178_17 : decode cJ7_fill_53178 17 = .ok (.goto (-12), 3) := by decide +kernel
theorem dJ7_fill_53178_20 : decode cJ7_fill_53178 20 = .ok (.return_, 1) := by decide +kernel
theorem dL_cell_0 : decode cL_cell 0 = .ok (.iload_n 1, 1) := by decide +kernel
theorem dL_cell_1 : decode cL_cell 1 = .ok (.aload_n 0, 1) := by decide +kernel
theorem dL_cell_2 : decode cL_cell 2 = .ok (.arraylength, 1) := by decide +kernel
theorem dL_cell_3 : decode cL_cell 3 = .ok (.if_icmp .ge 9, 3) := by decide +kernel
theorem dL_cell_6 : decode cL_cell 6 = .ok (.aload_n 0, 1) := by decide +kernel
theorem dL_cell_7 : decode cL_cell 7 = .ok (.iload_n 1, 1) := by decide +kernel
theorem dL_cell_8 : decode cL_cell 8 = .ok (.iaload, 1) := by decide +kernel
theorem dL_cell_9 : decode cL_cell 9 = .ok (.goto 4, 3) := by decide +kernel
theorem dL_cell_12 : decode cL_cell 12 = .ok (.iconst 0, 1) := by decide +kernel
theorem dL_cell_13 : decode cL_cell 13 = .ok (.ireturn, 1) := by decide +kernel
set_option maxRecDepth 20000 in
theorem ggL_get_X3_get : GoodIn wsL_get wsX3_get := goodIn_ca (goodIn_ca (goodIn_r _ [6, 7, 8, 9, 10, 11, 5, 12, 13, 14, 15, 16, 17, 18] (by decide +kernel) (by decide +kernel)) (goodIn_sub (fun _ h => List.mem_cons_of_mem _ (List.mem_append_right _ h)) (by decide +kernel))) (goodIn_sub (fun _ h => List.mem_cons_of_mem _ (List.mem_append_left _ (List.mem_append_right _ h))) (by decide +kernel))
set_option maxRecDepth 20000 in
theorem gL_get_X3_get : GoodIn wsL_get (wsV RL 7 RX3 yX3_get wsX3_get) := goodIn_app (goodIn_of _ (by decide +kernel)) ggL_get_X3_get
theorem dL_get_0 : decode cL_get 0 = .ok (.aload_n 2, 1) := by decide +kernel
theorem dL_get_1 : decode cL_get 1 = .ok (.iconst 0, 1) := by decide +kernel
theorem dL_get_2 : decode cL_get 2 = .ok (.aload_n 0, 1) := by decide +kernel
theorem dL_get_3 : decode cL_get 3 = .ok (.iload_n 1, 1) := by decide +kernel
theorem dL_get_4 : decode cL_get 4 = .ok (.invokevirtual 7, 3) := by decide +kernel
theorem dL_get_7 : decode cL_get 7 = .ok (.lastore, 1) := by decide +kernel
theorem dL_get_8 : decode cL_get 8 = .ok (.goto 6, 3) := by decide +kernel
theorem dL_get_11 : decode cL_get 11 = .ok (.astore_n 3, 1) := by decide +kernel
theorem dL_get_12 : decode cL_get 12 = .ok (.iconst 1, 1) := by decide +kernel
theorem dL_get_13 : decode cL_get 13 = .ok (.ireturn, 1) := by decide +kernel
theorem dL_get_14 : decode cL_get 14 = .ok (.iconst 0, 1) := by decide +kernel
theorem dL_get_15 : decode cL_get 15 = .ok (.ireturn, 1) := by decide +kernel
set_option maxRecDepth 20000 in
theorem ggL_at_X3_at : GoodIn wsL_at wsX3_at := goodIn_ca (goodIn_r _ [6, 7, 8, 9, 10, 11, 12, 13, 14, 15, 16, 17, 18, 19, 20, 21, 22, 23, 24, 25, 26, 27, 28, 29, 30, 31, 32, 33, 34, 35, 36, 37, 38, 39, 40, 41, 42, 43, 44, 45, 46, 47, 48, 49] (by decide +kernel) (by decide +kernel)) (goodIn_sub (fun _ h => List.mem_cons_of_mem _ (List.mem_append_right _ h)) (by decide +kernel))
set_option maxRecDepth 20000 in
theorem gL_at_X3_at : GoodIn wsL_at (wsV RL 15 RX3 yX3_at wsX3_at) := goodIn_app (goodIn_of _ (by decide +kernel)) ggL_at_X3_at
theorem dL_at_0 : decode cL_at 0 = .ok (.aload_n 3, 1) := by decide +kernel
theorem dL_at_1 : decode cL_at 1 = .ok (.iconst 0, 1) := by decide +kernel
theorem dL_at_2 : decode cL_at 2 = .ok (.aload_n 0, 1) := by decide +kernel
theorem dL_at_3 : decode cL_at 3 = .ok (.iload_n 1, 1) := by decide +kernel
theorem dL_at_4 : decode cL_at 4 = .ok (.iload_n 2, 1) := by decide +kernel
theorem dL_at_5 : decode cL_at 5 = .ok (.invokevirtual 15, 3) := by decide +kernel
theorem dL_at_8 : decode cL_at 8 = .ok (.i2l, 1) := by decide +kernel
theorem dL_at_9 : decode cL_at 9 = .ok (.lastore, 1) := by decide +kernel
theorem dL_at_10 : decode cL_at 10 = .ok (.goto 7, 3) := by decide +kernel
theorem dL_at_13 : decode cL_at 13 = .ok (.astore 4, 2) := by decide +kernel
theorem dL_at_15 : decode cL_at 15 = .ok (.iconst 1, 1) := by decide +kernel
theorem dL_at_16 : decode cL_at 16 = .ok (.ireturn, 1) := by decide +kernel
theorem dL_at_17 : decode cL_at 17 = .ok (.iconst 0, 1) := by decide +kernel
theorem dL_at_18 : decode cL_at 18 = .ok (.ireturn, 1) := by decide +kernel
set_option maxRecDepth 20000 in
theorem ggL_law_L_cell : GoodIn wsL_law wsL_cell := goodIn_ca (goodIn_r _ [11] (by decide +kernel) (by decide +kernel)) (goodIn_sub (fun _ h => List.mem_append_left _ (List.mem_append_right _ h)) (by decide +kernel))
set_option maxRecDepth 20000 in
theorem gL_law_L_cell : GoodIn wsL_law (va_wsS RL 21 yL_cell wsL_cell) := goodIn_app (goodIn_of _ (by decide +kernel)) ggL_law_L_cell
set_option maxRecDepth 20000 in
theorem ggL_law_X3_init : GoodIn wsL_law wsX3_init := goodIn_r _ [14, 15, 16, 17, 6, 18, 19, 20, 21, 22, 23, 24, 25, 26, 27, 28, 29, 30, 31, 32, 33, 34, 35, 36, 37, 38, 39, 40, 41, 42, 43, 44, 45, 46, 47, 48, 49, 50, 51, 52, 53, 54, 55, 56, 57, 58, 59, 60, 61, 62, 63, 64, 65, 66, 67, 68, 69, 70, 71, 72, 73, 482, 483, 484, 485, 486, 487, 506, 507, 508, 509, 510, 511, 512, 513, 514, 515, 516, 517, 518, 519, 520, 521, 522] (by decide +kernel) (by decide +kernel)
set_option maxRecDepth 20000 in
theorem gL_law_X3_init : GoodIn wsL_law (wsX3_init) := ggL_law_X3_init
set_option maxRecDepth 20000 in
theorem ggL_law_X4_init : GoodIn wsL_law wsX4_init := goodIn_r _ [76, 77, 16, 17, 6, 78, 43, 79, 80, 81, 82, 83, 84, 50, 85, 86, 87, 88, 89, 90, 488, 489, 490, 491, 492, 493, 494, 495, 496, 497, 498, 499, 500, 501, 502, 503, 504, 505] (by decide +kernel) (by decide +kernel)
set_option maxRecDepth 20000 in
theorem gL_law_X4_init : GoodIn wsL_law (wsX4_init) := ggL_law_X4_init
set_option maxRecDepth 20000 in
theorem ggL_law_X3_row : GoodIn wsL_law wsX3_row := goodIn_ca (goodIn_r _ [94, 26, 18, 22, 95, 96, 2, 97, 98, 99, 100, 101, 102, 103, 25, 104, 58, 105, 106, 107, 108, 59, 109, 110, 111, 112, 113, 114, 115, 21, 116, 52, 117, 118, 119, 120, 31, 121, 122, 123, 124, 44, 45, 46, 47, 48, 51, 49, 125, 126, 127, 128, 129, 130, 131, 132, 133, 134, 135, 136, 30, 137, 67, 72, 138, 139, 140, 141, 73, 71, 142, 143, 144, 145, 68, 482, 483, 484, 485, 486, 487, 515, 516, 506, 507, 508, 509, 510, 511, 512, 513, 514, 517, 518, 519, 520, 521, 522] (by decide +kernel) (by decide +kernel)) (goodIn_sub (fun _ h => List.mem_append_left _ (List.mem_append_right _ h)) (by decide +kernel))
set_option maxRecDepth 20000 in
theorem gL_law_X3_row : GoodIn wsL_law (wsV RL 35 RX3 yX3_row wsX3_row) := goodIn_app (goodIn_of _ (by decide +kernel)) ggL_law_X3_row
set_option maxRecDepth 20000 in
theorem ggL_law_X4_row : GoodIn wsL_law wsX4_row := goodIn_ca (goodIn_r _ [149, 150, 151, 78, 152, 153, 5, 154, 155, 156, 157, 158, 159, 160, 161, 80, 79, 162, 163, 164, 165, 81, 166, 167, 168, 169, 170, 171, 172, 173, 85, 174, 175, 176, 177, 83, 84, 82, 178, 87, 179, 180, 181, 182, 86, 88, 488, 489, 490, 491, 492, 493, 494, 495, 496, 497, 498, 499, 500, 501, 502, 503, 504, 505] (by decide +kernel) (by decide +kernel)) (goodIn_sub (fun _ h => List.mem_append_left _ (List.mem_append_right _ h)) (by decide +kernel))
set_option maxRecDepth 20000 in
theorem gL_law_X4_row : GoodIn wsL_law (wsV RL 39 RX4 yX4_row wsX4_row) := goodIn_app (goodIn_of _ (by decide +kernel)) ggL_law_X4_row
set_option maxRecDepth 20000 in
theorem ggL_law_X3_sync : GoodIn wsL_law wsX3_sync := goodIn_ca (goodIn_r _ [186, 26, 22, 95, 96, 2, 97, 187, 110, 111, 25, 112, 58, 113, 114, 115, 21, 116, 52, 188, 189, 190, 191, 31, 18, 121, 122, 123, 124, 44, 45, 46, 47, 48, 51, 49, 125, 126, 127, 128, 129, 59, 99, 100, 134, 135, 136, 30, 137, 67, 72, 138, 139, 140, 141, 73, 71, 142, 143, 144, 145, 68, 482, 483, 484, 485, 486, 487, 515, 516, 506, 507, 508, 509, 510, 511, 512, 513, 514, 517, 518, 519, 520, 521, 522] (by decide +kernel) (by decide +kernel)) (goodIn_sub (fun _ h => List.mem_append_left _ (List.mem_append_right _ h)) (by decide +kernel))
set_option maxRecDepth 20000 in
theorem gL_law_X3_sync : GoodIn wsL_law (wsV RL 40 RX3 yX3_sync wsX3_sync) := goodIn_app (goodIn_of _ (by decide +kernel)) ggL_law_X3_sync
set_option maxRecDepth 20000 in
theorem ggL_law_X4_sync : GoodIn wsL_law wsX4_sync := goodIn_ca (goodIn_r _ [195, 150, 151, 152, 153, 5, 154, 166, 167, 168, 169, 158, 159, 160, 161, 80, 79, 174, 175, 176, 177, 81, 83, 84, 82, 85, 78, 178, 87, 179, 180, 181, 182, 86, 88, 488, 489, 490, 491, 492, 493, 494, 495, 496, 497, 498, 499, 500, 501, 502, 503, 504, 505] (by decide +kernel) (by decide +kernel)) (goodIn_sub (fun _ h => List.mem_append_left _ (List.mem_append_right _ h)) (by decide +kernel))
set_option maxRecDepth 20000 in
theorem gL_law_X4_sync : GoodIn wsL_law (wsV RL 44 RX4 yX4_sync wsX4_sync) := goodIn_app (goodIn_of _ (by decide +kernel)) ggL_law_X4_sync
set_option maxRecDepth 20000 in
theorem ggL_law_X3_copy : GoodIn wsL_law wsX3_copy := goodIn_ca (goodIn_r _ [199, 31, 22, 18, 200, 201, 202, 21, 203, 52, 204, 139, 140, 30, 141, 73, 71, 72, 142, 143, 144, 145, 68, 205, 206, 207, 208, 67, 482, 483, 484, 485, 486, 487, 506, 507, 508, 509, 510, 511, 512, 513, 514, 517, 518, 519, 520, 521, 522] (by decide +kernel) (by decide +kernel)) (goodIn_sub (fun _ h => List.mem_append_left _ (List.mem_append_right _ h)) (by decide +kernel))
set_option maxRecDepth 20000 in
theorem gL_law_X3_copy : GoodIn wsL_law (wsV RL 45 RX3 yX3_copy wsX3_copy) := goodIn_app (goodIn_of _ (by decide +kernel)) ggL_law_X3_copy
set_option maxRecDepth 20000 in
theorem ggL_law_X4_copy : GoodIn wsL_law wsX4_copy := goodIn_ca (goodIn_r _ [212, 150, 213, 86, 78, 87, 151, 88, 89, 178, 179, 180, 181, 5, 182, 488, 489, 490, 491, 492, 493, 494, 495, 496, 497, 498, 499, 500, 501, 502, 503, 504, 505] (by decide +kernel) (by decide +kernel)) (goodIn_sub (fun _ h => List.mem_append_left _ (List.mem_append_right _ h)) (by decide +kernel))
set_option maxRecDepth 20000 in
theorem gL_law_X4_copy : GoodIn wsL_law (wsV RL 49 RX4 yX4_copy wsX4_copy) := goodIn_app (goodIn_of _ (by decide +kernel)) ggL_law_X4_copy
set_option maxRecDepth 20000 in
theorem ggL_law_X3_recover : GoodIn wsL_law wsX3_recover := goodIn_ca (goodIn_r _ [217, 31, 22, 18, 27, 26, 200, 201, 202, 21, 203, 52, 204, 139, 140, 30, 141, 73, 71, 72, 142, 143, 144, 145, 68, 218, 219, 220, 221, 69, 222, 223, 224, 225, 226, 227, 228, 229, 230, 231, 232, 25, 233, 58, 59, 60, 61, 62, 63, 234, 235, 236, 237, 44, 238, 239, 240, 241, 242, 243, 244, 245, 45, 246, 247, 248, 249, 46, 250, 127, 128, 129, 96, 2, 97, 99, 100, 251, 252, 253, 254, 67, 255, 256, 257, 258, 259, 260, 261, 262, 49, 263, 264, 265, 266, 267, 268, 269, 270, 51, 271, 272, 273, 274, 275, 187, 110, 111, 112, 276, 277, 278, 279, 280, 281, 282, 283, 284, 285, 286, 287, 288, 289, 290, 291, 292, 293, 294, 295, 296, 297, 298, 299, 300, 301, 48, 130, 131, 132, 133, 98, 302, 303, 304, 305, 306, 307, 308, 309, 310, 33, 34, 35, 53, 311, 312, 313, 314, 315, 316, 317, 318, 319, 320, 321, 322, 323, 324, 325, 326, 47, 117, 118, 119, 120, 121, 122, 123, 124, 125, 114, 115, 116, 126, 134, 135, 136, 137, 138, 188, 189, 190, 191, 327, 482, 483, 484, 485, 486, 487, 506, 507, 508, 509, 510, 511, 512, 513, 514, 517, 518, 519, 520, 521, 522, 515, 516] (by decide +kernel) (by decide +kernel)) (goodIn_sub (fun _ h => List.mem_append_left _ (List.mem_append_right _ h)) (by decide +kernel))
set_option maxRecDepth 20000 in
theorem gL_law_X3_recover : GoodIn wsL_law (wsV RL 50 RX3 yX3_recover wsX3_recover) := goodIn_app (goodIn_of _ (by decide +kernel)) ggL_law_X3_recover
set_option maxRecDepth 20000 in
theorem ggL_law_X4_recover : GoodIn wsL_law wsX4_recover := goodIn_ca (goodIn_r _ [331, 150, 213, 89, 151, 88, 78, 86, 87, 79, 81, 84, 332, 179, 180, 181, 5, 182, 178, 333, 334, 335, 336, 85, 80, 337, 338, 339, 340, 82, 158, 159, 160, 161, 341, 342, 343, 344, 170, 171, 172, 173, 345, 346, 347, 348, 83, 174, 175, 176, 177, 349, 350, 351, 352, 488, 489, 490, 491, 492, 493, 494, 495, 496, 497, 498, 499, 500, 501, 502, 503, 504, 505] (by decide +kernel) (by decide +kernel)) (goodIn_sub (fun _ h => List.mem_append_left _ (List.mem_append_right _ h)) (by decide +kernel))
set_option maxRecDepth 20000 in
theorem gL_law_X4_recover : GoodIn wsL_law (wsV RL 54 RX4 yX4_recover wsX4_recover) := goodIn_app (goodIn_of _ (by decide +kernel)) ggL_law_X4_recover
set_option maxRecDepth 20000 in
theorem ggL_law_L_get : GoodIn wsL_law wsL_get := goodIn_ca (goodIn_ca (goodIn_r _ [355, 356, 357, 358, 359, 2, 360, 361, 362, 18, 98, 99, 100, 482, 483, 484, 485, 486, 487] (by decide +kernel) (by decide +kernel)) (goodIn_sub (fun _ h => List.mem_append_left _ (List.mem_append_right _ h)) (by decide +kernel))) (goodIn_sub (fun _ h => List.mem_append_right _ h) (by decide +kernel))
set_option maxRecDepth 20000 in
theorem gL_law_L_get : GoodIn wsL_law (va_wsS RL 55 yL_get wsL_get) := goodIn_app (goodIn_of _ (by decide +kernel)) ggL_law_L_get
set_option maxRecDepth 20000 in
theorem ggL_law_X4_get : GoodIn wsL_law wsX4_get := goodIn_ca (goodIn_r _ [366, 150, 78, 155, 156, 5, 157, 488, 489, 490, 491, 492, 493, 494, 495, 496, 497, 498, 499, 500, 501, 502, 503, 504, 505] (by decide +kernel) (by decide +kernel)) (goodIn_sub (fun _ h => List.mem_append_left _ (List.mem_append_right _ h)) (by decide +kernel))
set_option maxRecDepth 20000 in
theorem gL_law_X4_get : GoodIn wsL_law (wsV RL 58 RX4 yX4_get wsX4_get) := goodIn_app (goodIn_of _ (by decide +kernel)) ggL_law_X4_get
set_option maxRecDepth 20000 in
theorem ggL_law_X4_thrown : GoodIn wsL_law wsX4_thrown := goodIn_r _ [370, 150, 488, 489, 490, 491, 492, 493, 494, 495, 496, 497, 498, 499, 500, 501, 502, 503, 504, 505] (by decide +kernel) (by decide +kernel)
set_option maxRecDepth 20000 in
theorem gL_law_X4_thrown : GoodIn wsL_law (wsV RL 59 RX4 yX4_thrown wsX4_thrown) := goodIn_app (goodIn_of _ (by decide +kernel)) ggL_law_X4_thrown
set_option maxRecDepth 20000 in
theorem ggL_law_X3_backout : GoodIn wsL_law wsX3_backout := goodIn_ca (goodIn_r _ [374, 26, 22, 95, 96, 2, 97, 187, 110, 111, 25, 112, 58, 375, 376, 377, 378, 200, 201, 202, 21, 203, 52, 259, 260, 261, 262, 49, 238, 239, 240, 241, 267, 268, 269, 270, 51, 271, 272, 273, 274, 44, 275, 243, 244, 245, 45, 379, 380, 381, 382, 113, 114, 115, 116, 319, 320, 321, 322, 297, 247, 248, 249, 46, 298, 299, 300, 301, 48, 323, 324, 325, 326, 47, 117, 118, 119, 120, 31, 18, 121, 122, 123, 124, 125, 126, 127, 128, 129, 59, 99, 100, 130, 131, 132, 133, 98, 134, 135, 136, 30, 137, 67, 72, 138, 139, 140, 141, 73, 71, 142, 143, 144, 145, 68, 188, 189, 190, 191, 482, 483, 484, 485, 486, 487, 515, 516, 506, 507, 508, 509, 510, 511, 512, 513, 514, 517, 518, 519, 520, 521, 522] (by decide +kernel) (by decide +kernel)) (goodIn_sub (fun _ h => List.mem_append_left _ (List.mem_append_right _ h)) (by decide +kernel))
set_option maxRecDepth 20000 in
theorem gL_law_X3_backout : GoodIn wsL_law (wsV RL 63 RX3 yX3_backout wsX3_backout) := goodIn_app (goodIn_of _ (by decide +kernel)) ggL_law_X3_backout
set_option maxRecDepth 20000 in
theorem ggL_law_X4_backout : GoodIn wsL_law wsX4_backout := goodIn_ca (goodIn_r _ [386, 150, 151, 152, 153, 5, 154, 166, 167, 168, 169, 158, 159, 160, 161, 80, 79, 170, 171, 172, 173, 85, 337, 338, 339, 340, 82, 341, 342, 343, 344, 345, 346, 347, 348, 81, 84, 83, 174, 175, 176, 177, 78, 178, 87, 179, 180, 181, 182, 86, 88, 488, 489, 490, 491, 492, 493, 494, 495, 496, 497, 498, 499, 500, 501, 502, 503, 504, 505] (by decide +kernel) (by decide +kernel)) (goodIn_sub (fun _ h => List.mem_append_left _ (List.mem_append_right _ h)) (by decide +kernel))
set_option maxRecDepth 20000 in
theorem gL_law_X4_backout : GoodIn wsL_law (wsV RL 66 RX4 yX4_backout wsX4_backout) := goodIn_app (goodIn_of _ (by decide +kernel)) ggL_law_X4_backout
set_option maxRecDepth 20000 in
theorem ggL_law_X3_torn : GoodIn wsL_law wsX3_torn := goodIn_ca (goodIn_r _ [390, 22, 391, 239, 240, 21, 241, 52, 392, 393, 394, 395, 53, 396, 397, 398, 399, 49, 238, 482, 483, 484, 485, 486, 487, 506, 507, 508, 509, 510, 511, 512, 513, 514] (by decide +kernel) (by decide +kernel)) (goodIn_sub (fun _ h => List.mem_append_left _ (List.mem_append_right _ h)) (by decide +kernel))
set_option maxRecDepth 20000 in
theorem gL_law_X3_torn : GoodIn wsL_law (wsV RL 67 RX3 yX3_torn wsX3_torn) := goodIn_app (goodIn_of _ (by decide +kernel)) ggL_law_X3_torn
set_option maxRecDepth 20000 in
theorem ggL_law_X4_torn : GoodIn wsL_law wsX4_torn := goodIn_ca (goodIn_r _ [403, 150, 151, 332, 82, 488, 489, 490, 491, 492, 493, 494, 495, 496, 497, 498, 499, 500, 501, 502, 503, 504, 505] (by decide +kernel) (by decide +kernel)) (goodIn_sub (fun _ h => List.mem_append_left _ (List.mem_append_right _ h)) (by decide +kernel))
set_option maxRecDepth 20000 in
theorem gL_law_X4_torn : GoodIn wsL_law (wsV RL 70 RX4 yX4_torn wsX4_torn) := goodIn_app (goodIn_of _ (by decide +kernel)) ggL_law_X4_torn
set_option maxRecDepth 20000 in
theorem ggL_law_X3_archive : GoodIn wsL_law wsX3_archive := goodIn_r _ [407, 22, 200, 201, 202, 21, 203, 52, 408, 409, 410, 411, 53, 412, 37, 34, 38, 392, 393, 394, 395, 482, 483, 484, 485, 486, 487, 506, 507, 508, 509, 510, 511, 512, 513, 514] (by decide +kernel) (by decide +kernel)
set_option maxRecDepth 20000 in
theorem gL_law_X3_archive : GoodIn wsL_law (wsV RL 71 RX3 yX3_archive wsX3_archive) := goodIn_app (goodIn_of _ (by decide +kernel)) ggL_law_X3_archive
set_option maxRecDepth 20000 in
theorem ggL_law_X4_archive : GoodIn wsL_law wsX4_archive := goodIn_r _ [416, 150, 151, 332, 488, 489, 490, 491, 492, 493, 494, 495, 496, 497, 498, 499, 500, 501, 502, 503, 504, 505] (by decide +kernel) (by decide +kernel)
set_option maxRecDepth 20000 in
theorem gL_law_X4_archive : GoodIn wsL_law (wsV RL 74 RX4 yX4_archive wsX4_archive) := goodIn_app (goodIn_of _ (by decide +kernel)) ggL_law_X4_archive
set_option maxRecDepth 20000 in
theorem ggL_law_X3_gap : GoodIn wsL_law wsX3_gap := goodIn_ca (goodIn_r _ [420, 22, 200, 201, 202, 21, 203, 52, 259, 260, 261, 262, 49, 238, 239, 240, 241, 482, 483, 484, 485, 486, 487, 506, 507, 508, 509, 510, 511, 512, 513, 514] (by decide +kernel) (by decide +kernel)) (goodIn_sub (fun _ h => List.mem_append_left _ (List.mem_append_right _ h)) (by decide +kernel))
set_option maxRecDepth 20000 in
theorem gL_law_X3_gap : GoodIn wsL_law (wsV RL 75 RX3 yX3_gap wsX3_gap) := goodIn_app (goodIn_of _ (by decide +kernel)) ggL_law_X3_gap
set_option maxRecDepth 20000 in
theorem ggL_law_X4_gap : GoodIn wsL_law wsX4_gap := goodIn_ca (goodIn_r _ [424, 150, 151, 337, 338, 339, 5, 340, 82, 488, 489, 490, 491, 492, 493, 494, 495, 496, 497, 498, 499, 500, 501, 502, 503, 504, 505] (by decide +kernel) (by decide +kernel)) (goodIn_sub (fun _ h => List.mem_append_left _ (List.mem_append_right _ h)) (by decide +kernel))
set_option maxRecDepth 20000 in
theorem gL_law_X4_gap : GoodIn wsL_law (wsV RL 78 RX4 yX4_gap wsX4_gap) := goodIn_app (goodIn_of _ (by decide +kernel)) ggL_law_X4_gap
set_option maxRecDepth 20000 in
theorem ggL_law_X3_merge : GoodIn wsL_law wsX3_merge := goodIn_ca (goodIn_r _ [428, 22, 39, 200, 201, 202, 21, 203, 52, 275, 243, 244, 245, 45, 238, 239, 240, 241, 482, 483, 484, 485, 486, 487, 506, 507, 508, 509, 510, 511, 512, 513, 514] (by decide +kernel) (by decide +kernel)) (goodIn_sub (fun _ h => List.mem_append_left _ (List.mem_append_right _ h)) (by decide +kernel))
set_option maxRecDepth 20000 in
theorem gL_law_X3_merge : GoodIn wsL_law (wsV RL 79 RX3 yX3_merge wsX3_merge) := goodIn_app (goodIn_of _ (by decide +kernel)) ggL_law_X3_merge
set_option maxRecDepth 20000 in
theorem ggL_law_X4_merge : GoodIn wsL_law wsX4_merge := goodIn_ca (goodIn_r _ [432, 150, 151, 80, 90, 488, 489, 490, 491, 492, 493, 494, 495, 496, 497, 498, 499, 500, 501, 502, 503, 504, 505] (by decide +kernel) (by decide +kernel)) (goodIn_sub (fun _ h => List.mem_append_left _ (List.mem_append_right _ h)) (by decide +kernel))
set_option maxRecDepth 20000 in
theorem gL_law_X4_merge : GoodIn wsL_law (wsV RL 82 RX4 yX4_merge wsX4_merge) := goodIn_app (goodIn_of _ (by decide +kernel)) ggL_law_X4_merge
set_option maxRecDepth 20000 in
theorem ggL_law_L_at : GoodIn wsL_law wsL_at := goodIn_ca (goodIn_r _ [435, 436, 437, 438, 439, 2, 440, 22, 441, 442, 443, 391, 239, 240, 21, 241, 52, 444, 445, 446, 447, 44, 45, 46, 47, 48, 49, 51, 238, 482, 483, 484, 485, 486, 487, 523, 524, 525, 526, 527, 528, 506, 507, 508, 509, 510, 511, 512, 513, 514] (by decide +kernel) (by decide +kernel)) (goodIn_sub (fun _ h => List.mem_append_left _ (List.mem_append_right _ h)) (by decide +kernel))
set_option maxRecDepth 20000 in
theorem gL_law_L_at : GoodIn wsL_law (va_wsS RL 83 yL_at wsL_at) := goodIn_app (goodIn_of _ (by decide +kernel)) ggL_law_L_at
set_option maxRecDepth 20000 in
theorem ggL_law_X4_at : GoodIn wsL_law wsX4_at := goodIn_ca (goodIn_r _ [451, 151, 150, 79, 80, 81, 83, 84, 82, 85, 488, 489, 490, 491, 492, 493, 494, 495, 496, 497, 498, 499, 500, 501, 502, 503, 504, 505] (by decide +kernel) (by decide +kernel)) (goodIn_sub (fun _ h => List.mem_append_left _ (List.mem_append_right _ h)) (by decide +kernel))
set_option maxRecDepth 20000 in
theorem gL_law_X4_at : GoodIn wsL_law (wsV RL 86 RX4 yX4_at wsX4_at) := goodIn_app (goodIn_of _ (by decide +kernel)) ggL_law_X4_at
set_option maxRecDepth 20000 in
theorem ggL_law_X3_warm : GoodIn wsL_law wsX3_warm := goodIn_ca (goodIn_r _ [455, 26, 280, 281, 282, 25, 283, 284, 285, 286, 287, 58, 482, 483, 484, 485, 486, 487, 515, 516] (by decide +kernel) (by decide +kernel)) (goodIn_sub (fun _ h => List.mem_append_left _ (List.mem_append_right _ h)) (by decide +kernel))
set_option maxRecDepth 20000 in
theorem gL_law_X3_warm : GoodIn wsL_law (wsV RL 87 RX3 yX3_warm wsX3_warm) := goodIn_app (goodIn_of _ (by decide +kernel)) ggL_law_X3_warm
set_option maxRecDepth 20000 in
theorem ggL_law_X4_warm : GoodIn wsL_law wsX4_warm := goodIn_ca (goodIn_r _ [459, 150, 166, 167, 168, 5, 169, 151, 158, 159, 160, 161, 80, 79, 488, 489, 490, 491, 492, 493, 494, 495, 496, 497, 498, 499, 500, 501, 502, 503, 504, 505] (by decide +kernel) (by decide +kernel)) (goodIn_sub (fun _ h => List.mem_append_left _ (List.mem_append_right _ h)) (by decide +kernel))
set_option maxRecDepth 20000 in
theorem gL_law_X4_warm : GoodIn wsL_law (wsV RL 90 RX4 yX4_warm wsX4_warm) := goodIn_app (goodIn_of _ (by decide +kernel)) ggL_law_X4_warm
set_option maxRecDepth 20000 in
theorem ggL_law_X3_ahead : GoodIn wsL_law wsX3_ahead := goodIn_ca (goodIn_r _ [463, 464, 418, 419, 2, 420, 22, 200, 201, 202, 21, 203, 52, 259, 260, 261, 262, 49, 238, 239, 240, 241, 482, 483, 484, 485, 486, 487, 506, 507, 508, 509, 510, 511, 512, 513, 514] (by decide +kernel) (by decide +kernel)) (goodIn_sub (fun _ h => List.mem_append_left _ (List.mem_append_right _ h)) (by decide +kernel))
set_option maxRecDepth 20000 in
theorem gL_law_X3_ahead : GoodIn wsL_law (wsV RL 91 RX3 yX3_ahead wsX3_ahead) := goodIn_app (goodIn_of _ (by decide +kernel)) ggL_law_X3_ahead
set_option maxRecDepth 20000 in
theorem ggL_law_X4_ahead : GoodIn wsL_law wsX4_ahead := goodIn_ca (goodIn_r _ [468, 150, 469, 422, 423, 5, 424, 151, 337, 338, 339, 340, 82, 488, 489, 490, 491, 492, 493, 494, 495, 496, 497, 498, 499, 500, 501, 502, 503, 504, 505] (by decide +kernel) (by decide +kernel)) (goodIn_sub (fun _ h => List.mem_append_left _ (List.mem_append_right _ h)) (by decide +kernel))
set_option maxRecDepth 20000 in
theorem gL_law_X4_ahead : GoodIn wsL_law (wsV RL 95 RX4 yX4_ahead wsX4_ahead) := goodIn_app (goodIn_of _ (by decide +kernel)) ggL_law_X4_ahead
set_option maxRecDepth 20000 in
theorem ggL_law_X3_count : GoodIn wsL_law wsX3_count := goodIn_ca (goodIn_r _ [473, 22, 31, 26, 200, 201, 202, 21, 203, 52, 474, 475, 476, 30, 477, 72, 392, 393, 394, 395, 53, 327, 285, 286, 25, 287, 58, 482, 483, 484, 485, 486, 487, 506, 507, 508, 509, 510, 511, 512, 513, 514, 517, 518, 519, 520, 521, 522, 515, 516] (by decide +kernel) (by decide +kernel)) (goodIn_sub (fun _ h => List.mem_append_left _ (List.mem_append_right _ h)) (by decide +kernel))
set_option maxRecDepth 20000 in
theorem gL_law_X3_count : GoodIn wsL_law (wsV RL 96 RX3 yX3_count wsX3_count) := goodIn_app (goodIn_of _ (by decide +kernel)) ggL_law_X3_count
set_option maxRecDepth 20000 in
theorem ggL_law_X4_count : GoodIn wsL_law wsX4_count := goodIn_ca (goodIn_r _ [481, 150, 151, 213, 332, 349, 350, 351, 5, 352, 79, 488, 489, 490, 491, 492, 493, 494, 495, 496, 497, 498, 499, 500, 501, 502, 503, 504, 505] (by decide +kernel) (by decide +kernel)) (goodIn_sub (fun _ h => List.mem_append_left _ (List.mem_append_right _ h)) (by decide +kernel))
set_option maxRecDepth 20000 in
theorem gL_law_X4_count : GoodIn wsL_law (wsV RL 99 RX4 yX4_count wsX4_count) := goodIn_app (goodIn_of _ (by decide +kernel)) ggL_law_X4_count
theorem dL_law_0 : decode cL_law 0 = .ok (.new 8, 3) := by decide +kernel
theorem dL_law_3 : decode cL_law 3 = .ok (.dup, 1) := by decide +kernel
theorem dL_law_4 : decode cL_law 4 = .ok (.aload_n 0, 1) := by decide +kernel
theorem dL_law_5 : decode cL_law 5 = .ok (.iconst 0, 1) := by decide +kernel
theorem dL_law_6 : decode cL_law 6 = .ok (.invokestatic 21, 3) := by decide +kernel
theorem dL_law_9 : decode cL_law 9 = .ok (.invokespecial 27, 3) := by decide +kernel
theorem dL_law_12 : decode cL_law 12 = .ok (.astore_n 1, 1) := by decide +kernel
theorem dL_law_13 : decode cL_law 13 = .ok (.new 30, 3) := by decide +kernel
theorem dL_law_16 : decode cL_law 16 = .ok (.dup, 1) := by decide +kernel
theorem dL_law_17 : decode cL_law 17 = .ok (.aload_n 0, 1) := by decide +kernel
theorem dL_law_18 : decode cL_law 18 = .ok (.iconst 0, 1) := by decide +kernel
theorem dL_law_19 : decode cL_law 19 = .ok (.invokestatic 21, 3) := by decide +kernel
theorem dL_law_22 : decode cL_law 22 = .ok (.invokespecial 32, 3) := by decide +kernel
theorem dL_law_25 : decode cL_law 25 = .ok (.astore_n 2, 1) := by decide +kernel
theorem dL_law_26 : decode cL_law 26 = .ok (.iconst 1, 1) := by decide +kernel
theorem dL_law_27 : decode cL_law 27 = .ok (.newarray .long, 2) := by decide +kernel
theorem dL_law_29 : decode cL_law 29 = .ok (.astore_n 3, 1) := by decide +kernel
theorem dL_law_30 : decode cL_law 30 = .ok (.iconst 1, 1) := by decide +kernel
theorem dL_law_31 : decode cL_law 31 = .ok (.istore 4, 2) := by decide +kernel
theorem dL_law_33 : decode cL_law 33 = .ok (.iload 4, 2) := by decide +kernel
theorem dL_law_35 : decode cL_law 35 = .ok (.aload_n 0, 1) := by decide +kernel
theorem dL_law_36 : decode cL_law 36 = .ok (.arraylength, 1) := by decide +kernel
theorem dL_law_37 : decode cL_law 37 = .ok (.bipush 7, 2) := by decide +kernel
theorem dL_law_39 : decode cL_law 39 = .ok (.isub, 1) := by decide +kernel
theorem dL_law_40 : decode cL_law 40 = .ok (.if_icmp .gt 671, 3) := by decide +kernel
theorem dL_law_43 : decode cL_law 43 = .ok (.aload_n 0, 1) := by decide +kernel
theorem dL_law_44 : decode cL_law 44 = .ok (.iload 4, 2) := by decide +kernel
theorem dL_law_46 : decode cL_law 46 = .ok (.iaload, 1) := by decide +kernel
theorem dL_law_47 : decode cL_law 47 = .ok (.bipush 15, 2) := by decide +kernel
theorem dL_law_49 : decode cL_law 49 = .ok (.iand, 1) := by decide +kernel
theorem dL_law_50 : decode cL_law 50 = .ok (.tableswitch 655 0 13 #[70, 197, 222, 263, 332, 387, 412, 449, 474, 499, 536, 604, 617, 630], 70) := by decide +kernel
theorem dL_law_120 : decode cL_law 120 = .ok (.aload_n 1, 1) := by decide +kernel
theorem dL_law_121 : decode cL_law 121 = .ok (.aload_n 0, 1) := by decide +kernel
theorem dL_law_122 : decode cL_law 122 = .ok (.iload 4, 2) := by decide +kernel
theorem dL_law_124 : decode cL_law 124 = .ok (.iconst 1, 1) := by decide +kernel
theorem dL_law_125 : decode cL_law 125 = .ok (.iadd, 1) := by decide +kernel
theorem dL_law_126 : decode cL_law 126 = .ok (.iaload, 1) := by decide +kernel
theorem dL_law_127 : decode cL_law 127 = .ok (.aload_n 0, 1) := by decide +kernel
theorem dL_law_128 : decode cL_law 128 = .ok (.iload 4, 2) := by decide +kernel
theorem dL_law_130 : decode cL_law 130 = .ok (.iconst 2, 1) := by decide +kernel
theorem dL_law_131 : decode cL_law 131 = .ok (.iadd, 1) := by decide +kernel
theorem dL_law_132 : decode cL_law 132 = .ok (.iaload, 1) := by decide +kernel
theorem dL_law_133 : decode cL_law 133 = .ok (.aload_n 0, 1) := by decide +kernel
theorem dL_law_134 : decode cL_law 134 = .ok (.iload 4, 2) := by decide +kernel
theorem dL_law_136 : decode cL_law 136 = .ok (.iconst 3, 1) := by decide +kernel
theorem dL_law_137 : decode cL_law 137 = .ok (.iadd, 1) := by decide +kernel
theorem dL_law_138 : decode cL_law 138 = .ok (.iaload, 1) := by decide +kernel
theorem dL_law_139 : decode cL_law 139 = .ok (.i2l, 1) := by decide +kernel
theorem dL_law_140 : decode cL_law 140 = .ok (.bipush 32, 2) := by decide +kernel
theorem dL_law_142 : decode cL_law 142 = .ok (.lshl, 1) := by decide +kernel
theorem dL_law_143 : decode cL_law 143 = .ok (.aload_n 0, 1) := by decide +kernel
theorem dL_law_144 : decode cL_law 144 = .ok (.iload 4, 2) := by decide +kernel
theorem dL_law_146 : decode cL_law 146 = .ok (.iconst 4, 1) := by decide +kernel
theorem dL_law_147 : decode cL_law 147 = .ok (.iadd, 1) := by decide +kernel
theorem dL_law_148 : decode cL_law 148 = .ok (.iaload, 1) := by decide +kernel
theorem dL_law_149 : decode cL_law 149 = .ok (.i2l, 1) := by decide +kernel
theorem dL_law_150 : decode cL_law 150 = .ok (.ldc2_w 33, 3) := by decide +kernel
theorem dL_law_153 : decode cL_law 153 = .ok (.land, 1) := by decide +kernel
theorem dL_law_154 : decode cL_law 154 = .ok (.lor, 1) := by decide +kernel
theorem dL_law_155 : decode cL_law 155 = .ok (.aload_n 0, 1) := by decide +kernel
theorem dL_law_156 : decode cL_law 156 = .ok (.iload 4, 2) := by decide +kernel
theorem dL_law_158 : decode cL_law 158 = .ok (.iconst 5, 1) := by decide +kernel
theorem dL_law_159 : decode cL_law 159 = .ok (.iadd, 1) := by decide +kernel
theorem dL_law_160 : decode cL_law 160 = .ok (.iaload, 1) := by decide +kernel
theorem dL_law_161 : decode cL_law 161 = .ok (.i2l, 1) := by decide +kernel
theorem dL_law_162 : decode cL_law 162 = .ok (.bipush 32, 2) := by decide +kernel
theorem dL_law_164 : decode cL_law 164 = .ok (.lshl, 1) := by decide +kernel
theorem dL_law_165 : decode cL_law 165 = .ok (.aload_n 0, 1) := by decide +kernel
theorem dL_law_166 : decode cL_law 166 = .ok (.iload 4, 2) := by decide +kernel
theorem dL_law_168 : decode cL_law 168 = .ok (.bipush 6, 2) := by decide +kernel
theorem dL_law_170 : decode cL_law 170 = .ok (.iadd, 1) := by decide +kernel
theorem dL_law_171 : decode cL_law 171 = .ok (.iaload, 1) := by decide +kernel
theorem dL_law_172 : decode cL_law 172 = .ok (.i2l, 1) := by decide +kernel
theorem dL_law_173 : decode cL_law 173 = .ok (.ldc2_w 33, 3) := by decide +kernel
theorem dL_law_176 : decode cL_law 176 = .ok (.land, 1) := by decide +kernel
theorem dL_law_177 : decode cL_law 177 = .ok (.lor, 1) := by decide +kernel
theorem dL_law_178 : decode cL_law 178 = .ok (.invokevirtual 35, 3) := by decide +kernel
theorem dL_law_181 : decode cL_law 181 = .ok (.aload_n 2, 1) := by decide +kernel
theorem dL_law_182 : decode cL_law 182 = .ok (.aload_n 0, 1) := by decide +kernel
theorem dL_law_183 : decode cL_law 183 = .ok (.iload 4, 2) := by decide +kernel
theorem dL_law_185 : decode cL_law 185 = .ok (.iconst 1, 1) := by decide +kernel
theorem dL_law_186 : decode cL_law 186 = .ok (.iadd, 1) := by decide +kernel
theorem dL_law_187 : decode cL_law 187 = .ok (.iaload, 1) := by decide +kernel
theorem dL_law_188 : decode cL_law 188 = .ok (.aload_n 0, 1) := by decide +kernel
theorem dL_law_189 : decode cL_law 189 = .ok (.iload 4, 2) := by decide +kernel
theorem dL_law_191 : decode cL_law 191 = .ok (.iconst 2, 1) := by decide +kernel
theorem dL_law_192 : decode cL_law 192 = .ok (.iadd, 1) := by decide +kernel
theorem dL_law_193 : decode cL_law 193 = .ok (.iaload, 1) := by decide +kernel
theorem dL_law_194 : decode cL_law 194 = .ok (.aload_n 0, 1) := by decide +kernel
theorem dL_law_195 : decode cL_law 195 = .ok (.iload 4, 2) := by decide +kernel
theorem dL_law_197 : decode cL_law 197 = .ok (.iconst 3, 1) := by decide +kernel
theorem dL_law_198 : decode cL_law 198 = .ok (.iadd, 1) := by decide +kernel
theorem dL_law_199 : decode cL_law 199 = .ok (.iaload, 1) := by decide +kernel
theorem dL_law_200 : decode cL_law 200 = .ok (.i2l, 1) := by decide +kernel
theorem dL_law_201 : decode cL_law 201 = .ok (.bipush 32, 2) := by decide +kernel
theorem dL_law_203 : decode cL_law 203 = .ok (.lshl, 1) := by decide +kernel
theorem dL_law_204 : decode cL_law 204 = .ok (.aload_n 0, 1) := by decide +kernel
theorem dL_law_205 : decode cL_law 205 = .ok (.iload 4, 2) := by decide +kernel
theorem dL_law_207 : decode cL_law 207 = .ok (.iconst 4, 1) := by decide +kernel
theorem dL_law_208 : decode cL_law 208 = .ok (.iadd, 1) := by decide +kernel
theorem dL_law_209 : decode cL_law 209 = .ok (.iaload, 1) := by decide +kernel
theorem dL_law_210 : decode cL_law 210 = .ok (.i2l, 1) := by decide +kernel
theorem dL_law_211 : decode cL_law 211 = .ok (.ldc2_w 33, 3) := by decide +kernel
theorem dL_law_214 : decode cL_law 214 = .ok (.land, 1) := by decide +kernel
theorem dL_law_215 : decode cL_law 215 = .ok (.lor, 1) := by decide +kernel
theorem dL_law_216 : decode cL_law 216 = .ok (.aload_n 0, 1) := by decide +kernel
theorem dL_law_217 : decode cL_law 217 = .ok (.iload 4, 2) := by decide +kernel
theorem dL_law_219 : decode cL_law 219 = .ok (.iconst 5, 1) := by decide +kernel
theorem dL_law_220 : decode cL_law 220 = .ok (.iadd, 1) := by decide +kernel
theorem dL_law_221 : decode cL_law 221 = .ok (.iaload, 1) := by decide +kernel
theorem dL_law_222 : decode cL_law 222 = .ok (.i2l, 1) := by decide +kernel
theorem dL_law_223 : decode cL_law 223 = .ok (.bipush 32, 2) := by decide +kernel
theorem dL_law_225 : decode cL_law 225 = .ok (.lshl, 1) := by decide +kernel
theorem dL_law_226 : decode cL_law 226 = .ok (.aload_n 0, 1) := by decide +kernel
theorem dL_law_227 : decode cL_law 227 = .ok (.iload 4, 2) := by decide +kernel
theorem dL_law_229 : decode cL_law 229 = .ok (.bipush 6, 2) := by decide +kernel
theorem dL_law_231 : decode cL_law 231 = .ok (.iadd, 1) := by decide +kernel
theorem dL_law_232 : decode cL_law 232 = .ok (.iaload, 1) := by decide +kernel
theorem dL_law_233 : decode cL_law 233 = .ok (.i2l, 1) := by decide +kernel
theorem dL_law_234 : decode cL_law 234 = .ok (.ldc2_w 33, 3) := by decide +kernel
theorem dL_law_237 : decode cL_law 237 = .ok (.land, 1) := by decide +kernel
theorem dL_law_238 : decode cL_law 238 = .ok (.lor, 1) := by decide +kernel
theorem dL_law_239 : decode cL_law 239 = .ok (.invokevirtual 39, 3) := by decide +kernel
theorem dL_law_242 : decode cL_law 242 = .ok (.if_icmp .eq 463, 3) := by decide +kernel
theorem dL_law_245 : decode cL_law 245 = .ok (.iconst 0, 1) := by decide +kernel
theorem dL_law_246 : decode cL_law 246 = .ok (.ireturn, 1) := by decide +kernel
theorem dL_law_247 : decode cL_law 247 = .ok (.aload_n 1, 1) := by decide +kernel
theorem dL_law_248 : decode cL_law 248 = .ok (.aload_n 0, 1) := by decide +kernel
theorem dL_law_249 : decode cL_law 249 = .ok (.iload 4, 2) := by decide +kernel
theorem dL_law_251 : decode cL_law 251 = .ok (.iconst 1, 1) := by decide +kernel
theorem dL_law_252 : decode cL_law 252 = .ok (.iadd, 1) := by decide +kernel
theorem dL_law_253 : decode cL_law 253 = .ok (.iaload, 1) := by decide +kernel
theorem dL_law_254 : decode cL_law 254 = .ok (.invokevirtual 40, 3) := by decide +kernel
theorem dL_law_257 : decode cL_law 257 = .ok (.aload_n 2, 1) := by decide +kernel
theorem dL_law_258 : decode cL_law 258 = .ok (.aload_n 0, 1) := by decide +kernel
theorem dL_law_259 : decode cL_law 259 = .ok (.iload 4, 2) := by decide +kernel
theorem dL_law_261 : decode cL_law 261 = .ok (.iconst 1, 1) := by decide +kernel
theorem dL_law_262 : decode cL_law 262 = .ok (.iadd, 1) := by decide +kernel
theorem dL_law_263 : decode cL_law 263 = .ok (.iaload, 1) := by decide +kernel
theorem dL_law_264 : decode cL_law 264 = .ok (.invokevirtual 44, 3) := by decide +kernel
theorem dL_law_267 : decode cL_law 267 = .ok (.if_icmp .eq 438, 3) := by decide +kernel
theorem dL_law_270 : decode cL_law 270 = .ok (.iconst 0, 1) := by decide +kernel
theorem dL_law_271 : decode cL_law 271 = .ok (.ireturn, 1) := by decide +kernel
theorem dL_law_272 : decode cL_law 272 = .ok (.aload_n 1, 1) := by decide +kernel
theorem dL_law_273 : decode cL_law 273 = .ok (.aload_n 0, 1) := by decide +kernel
theorem dL_law_274 : decode cL_law 274 = .ok (.iload 4, 2) := by decide +kernel
theorem dL_law_276 : decode cL_law 276 = .ok (.iconst 1, 1) := by decide +kernel
theorem dL_law_277 : decode cL_law 277 = .ok (.iadd, 1) := by decide +kernel
theorem dL_law_278 : decode cL_law 278 = .ok (.iaload, 1) := by decide +kernel
theorem dL_law_279 : decode cL_law 279 = .ok (.ifCond .eq 7, 3) := by decide +kernel
theorem dL_law_282 : decode cL_law 282 = .ok (.iconst 1, 1) := by decide +kernel
theorem dL_law_283 : decode cL_law 283 = .ok (.goto 4, 3) := by decide +kernel
theorem dL_law_286 : decode cL_law 286 = .ok (.iconst 0, 1) := by decide +kernel
theorem dL_law_287 : decode cL_law 287 = .ok (.invokevirtual 45, 3) := by decide +kernel
theorem dL_law_290 : decode cL_law 290 = .ok (.aload_n 2, 1) := by decide +kernel
theorem dL_law_291 : decode cL_law 291 = .ok (.aload_n 0, 1) := by decide +kernel
theorem dL_law_292 : decode cL_law 292 = .ok (.iload 4, 2) := by decide +kernel
theorem dL_law_294 : decode cL_law 294 = .ok (.iconst 1, 1) := by decide +kernel
theorem dL_law_295 : decode cL_law 295 = .ok (.iadd, 1) := by decide +kernel
theorem dL_law_296 : decode cL_law 296 = .ok (.iaload, 1) := by decide +kernel
theorem dL_law_297 : decode cL_law 297 = .ok (.ifCond .eq 7, 3) := by decide +kernel
theorem dL_law_300 : decode cL_law 300 = .ok (.iconst 1, 1) := by decide +kernel
theorem dL_law_301 : decode cL_law 301 = .ok (.goto 4, 3) := by decide +kernel
theorem dL_law_304 : decode cL_law 304 = .ok (.iconst 0, 1) := by decide +kernel
theorem dL_law_305 : decode cL_law 305 = .ok (.invokevirtual 49, 3) := by decide +kernel
theorem dL_law_308 : decode cL_law 308 = .ok (.if_icmp .eq 397, 3) := by decide +kernel
theorem dL_law_311 : decode cL_law 311 = .ok (.iconst 0, 1) := by decide +kernel
theorem dL_law_312 : decode cL_law 312 = .ok (.ireturn, 1) := by decide +kernel
theorem dL_law_313 : decode cL_law 313 = .ok (.aload_n 1, 1) := by decide +kernel
theorem dL_law_314 : decode cL_law 314 = .ok (.aload_n 0, 1) := by decide +kernel
theorem dL_law_315 : decode cL_law 315 = .ok (.iload 4, 2) := by decide +kernel
theorem dL_law_317 : decode cL_law 317 = .ok (.iconst 1, 1) := by decide +kernel
theorem dL_law_318 : decode cL_law 318 = .ok (.iadd, 1) := by decide +kernel
theorem dL_law_319 : decode cL_law 319 = .ok (.iaload, 1) := by decide +kernel
theorem dL_law_320 : decode cL_law 320 = .ok (.aload_n 0, 1) := by decide +kernel
theorem dL_law_321 : decode cL_law 321 = .ok (.iload 4, 2) := by decide +kernel
theorem dL_law_323 : decode cL_law 323 = .ok (.iconst 2, 1) := by decide +kernel
theorem dL_law_324 : decode cL_law 324 = .ok (.iadd, 1) := by decide +kernel
theorem dL_law_325 : decode cL_law 325 = .ok (.iaload, 1) := by decide +kernel
theorem dL_law_326 : decode cL_law 326 = .ok (.i2l, 1) := by decide +kernel
theorem dL_law_327 : decode cL_law 327 = .ok (.bipush 32, 2) := by decide +kernel
theorem dL_law_329 : decode cL_law 329 = .ok (.lshl, 1) := by decide +kernel
theorem dL_law_330 : decode cL_law 330 = .ok (.aload_n 0, 1) := by decide +kernel
theorem dL_law_331 : decode cL_law 331 = .ok (.iload 4, 2) := by decide +kernel
theorem dL_law_333 : decode cL_law 333 = .ok (.iconst 3, 1) := by decide +kernel
theorem dL_law_334 : decode cL_law 334 = .ok (.iadd, 1) := by decide +kernel
theorem dL_law_335 : decode cL_law 335 = .ok (.iaload, 1) := by decide +kernel
theorem dL_law_336 : decode cL_law 336 = .ok (.i2l, 1) := by decide +kernel
theorem dL_law_337 : decode cL_law 337 = .ok (.ldc2_w 33, 3) := by decide +kernel
theorem dL_law_340 : decode cL_law 340 = .ok (.land, 1) := by decide +kernel
theorem dL_law_341 : decode cL_law 341 = .ok (.lor, 1) := by decide +kernel
theorem dL_law_342 : decode cL_law 342 = .ok (.invokevirtual 50, 3) := by decide +kernel
theorem dL_law_345 : decode cL_law 345 = .ok (.aload_n 2, 1) := by decide +kernel
theorem dL_law_346 : decode cL_law 346 = .ok (.aload_n 0, 1) := by decide +kernel
theorem dL_law_347 : decode cL_law 347 = .ok (.iload 4, 2) := by decide +kernel
theorem dL_law_349 : decode cL_law 349 = .ok (.iconst 1, 1) := by decide +kernel
theorem dL_law_350 : decode cL_law 350 = .ok (.iadd, 1) := by decide +kernel
theorem dL_law_351 : decode cL_law 351 = .ok (.iaload, 1) := by decide +kernel
theorem dL_law_352 : decode cL_law 352 = .ok (.aload_n 0, 1) := by decide +kernel
theorem dL_law_353 : decode cL_law 353 = .ok (.iload 4, 2) := by decide +kernel
theorem dL_law_355 : decode cL_law 355 = .ok (.iconst 2, 1) := by decide +kernel
theorem dL_law_356 : decode cL_law 356 = .ok (.iadd, 1) := by decide +kernel
theorem dL_law_357 : decode cL_law 357 = .ok (.iaload, 1) := by decide +kernel
theorem dL_law_358 : decode cL_law 358 = .ok (.i2l, 1) := by decide +kernel
theorem dL_law_359 : decode cL_law 359 = .ok (.bipush 32, 2) := by decide +kernel
theorem dL_law_361 : decode cL_law 361 = .ok (.lshl, 1) := by decide +kernel
theorem dL_law_362 : decode cL_law 362 = .ok (.aload_n 0, 1) := by decide +kernel
theorem dL_law_363 : decode cL_law 363 = .ok (.iload 4, 2) := by decide +kernel
theorem dL_law_365 : decode cL_law 365 = .ok (.iconst 3, 1) := by decide +kernel
theorem dL_law_366 : decode cL_law 366 = .ok (.iadd, 1) := by decide +kernel
theorem dL_law_367 : decode cL_law 367 = .ok (.iaload, 1) := by decide +kernel
theorem dL_law_368 : decode cL_law 368 = .ok (.i2l, 1) := by decide +kernel
theorem dL_law_369 : decode cL_law 369 = .ok (.ldc2_w 33, 3) := by decide +kernel
theorem dL_law_372 : decode cL_law 372 = .ok (.land, 1) := by decide +kernel
theorem dL_law_373 : decode cL_law 373 = .ok (.lor, 1) := by decide +kernel
theorem dL_law_374 : decode cL_law 374 = .ok (.invokevirtual 54, 3) := by decide +kernel
theorem dL_law_377 : decode cL_law 377 = .ok (.if_icmp .eq 328, 3) := by decide +kernel
theorem dL_law_380 : decode cL_law 380 = .ok (.iconst 0, 1) := by decide +kernel
theorem dL_law_381 : decode cL_law 381 = .ok (.ireturn, 1) := by decide +kernel
theorem dL_law_382 : decode cL_law 382 = .ok (.aload_n 1, 1) := by decide +kernel
theorem dL_law_383 : decode cL_law 383 = .ok (.aload_n 0, 1) := by decide +kernel
theorem dL_law_384 : decode cL_law 384 = .ok (.iload 4, 2) := by decide +kernel
theorem dL_law_386 : decode cL_law 386 = .ok (.iconst 1, 1) := by decide +kernel
theorem dL_law_387 : decode cL_law 387 = .ok (.iadd, 1) := by decide +kernel
theorem dL_law_388 : decode cL_law 388 = .ok (.iaload, 1) := by decide +kernel
theorem dL_law_389 : decode cL_law 389 = .ok (.aload_n 3, 1) := by decide +kernel
theorem dL_law_390 : decode cL_law 390 = .ok (.invokestatic 55, 3) := by decide +kernel
theorem dL_law_393 : decode cL_law 393 = .ok (.istore 5, 2) := by decide +kernel
theorem dL_law_395 : decode cL_law 395 = .ok (.aload_n 2, 1) := by decide +kernel
theorem dL_law_396 : decode cL_law 396 = .ok (.aload_n 0, 1) := by decide +kernel
theorem dL_law_397 : decode cL_law 397 = .ok (.iload 4, 2) := by decide +kernel
theorem dL_law_399 : decode cL_law 399 = .ok (.iconst 1, 1) := by decide +kernel
theorem dL_law_400 : decode cL_law 400 = .ok (.iadd, 1) := by decide +kernel
theorem dL_law_401 : decode cL_law 401 = .ok (.iaload, 1) := by decide +kernel
theorem dL_law_402 : decode cL_law 402 = .ok (.invokevirtual 58, 3) := by decide +kernel
theorem dL_law_405 : decode cL_law 405 = .ok (.lstore 6, 2) := by decide +kernel
theorem dL_law_407 : decode cL_law 407 = .ok (.aload_n 2, 1) := by decide +kernel
theorem dL_law_408 : decode cL_law 408 = .ok (.invokevirtual 59, 3) := by decide +kernel
theorem dL_law_411 : decode cL_law 411 = .ok (.iload 5, 2) := by decide +kernel
theorem dL_law_413 : decode cL_law 413 = .ok (.if_icmp .eq 5, 3) := by decide +kernel
theorem dL_law_416 : decode cL_law 416 = .ok (.iconst 0, 1) := by decide +kernel
theorem dL_law_417 : decode cL_law 417 = .ok (.ireturn, 1) := by decide +kernel
theorem dL_law_418 : decode cL_law 418 = .ok (.iload 5, 2) := by decide +kernel
theorem dL_law_420 : decode cL_law 420 = .ok (.ifCond .ne 14, 3) := by decide +kernel
theorem dL_law_423 : decode cL_law 423 = .ok (.aload_n 3, 1) := by decide +kernel
theorem dL_law_424 : decode cL_law 424 = .ok (.iconst 0, 1) := by decide +kernel
theorem dL_law_425 : decode cL_law 425 = .ok (.laload, 1) := by decide +kernel
theorem dL_law_426 : decode cL_law 426 = .ok (.lload 6, 2) := by decide +kernel
theorem dL_law_428 : decode cL_law 428 = .ok (.lcmp, 1) := by decide +kernel
theorem dL_law_429 : decode cL_law 429 = .ok (.ifCond .eq 5, 3) := by decide +kernel
theorem dL_law_432 : decode cL_law 432 = .ok (.iconst 0, 1) := by decide +kernel
theorem dL_law_433 : decode cL_law 433 = .ok (.ireturn, 1) := by decide +kernel
theorem dL_law_434 : decode cL_law 434 = .ok (.goto 271, 3) := by decide +kernel
theorem dL_law_437 : decode cL_law 437 = .ok (.aload_n 1, 1) := by decide +kernel
theorem dL_law_438 : decode cL_law 438 = .ok (.aload_n 0, 1) := by decide +kernel
theorem dL_law_439 : decode cL_law 439 = .ok (.iload 4, 2) := by decide +kernel
theorem dL_law_441 : decode cL_law 441 = .ok (.iconst 1, 1) := by decide +kernel
theorem dL_law_442 : decode cL_law 442 = .ok (.iadd, 1) := by decide +kernel
theorem dL_law_443 : decode cL_law 443 = .ok (.iaload, 1) := by decide +kernel
theorem dL_law_444 : decode cL_law 444 = .ok (.invokevirtual 63, 3) := by decide +kernel
theorem dL_law_447 : decode cL_law 447 = .ok (.aload_n 2, 1) := by decide +kernel
theorem dL_law_448 : decode cL_law 448 = .ok (.aload_n 0, 1) := by decide +kernel
theorem dL_law_449 : decode cL_law 449 = .ok (.iload 4, 2) := by decide +kernel
theorem dL_law_451 : decode cL_law 451 = .ok (.iconst 1, 1) := by decide +kernel
theorem dL_law_452 : decode cL_law 452 = .ok (.iadd, 1) := by decide +kernel
theorem dL_law_453 : decode cL_law 453 = .ok (.iaload, 1) := by decide +kernel
theorem dL_law_454 : decode cL_law 454 = .ok (.invokevirtual 66, 3) := by decide +kernel
theorem dL_law_457 : decode cL_law 457 = .ok (.if_icmp .eq 248, 3) := by decide +kernel
theorem dL_law_460 : decode cL_law 460 = .ok (.iconst 0, 1) := by decide +kernel
theorem dL_law_461 : decode cL_law 461 = .ok (.ireturn, 1) := by decide +kernel
theorem dL_law_462 : decode cL_law 462 = .ok (.aload_n 1, 1) := by decide +kernel
theorem dL_law_463 : decode cL_law 463 = .ok (.aload_n 0, 1) := by decide +kernel
theorem dL_law_464 : decode cL_law 464 = .ok (.iload 4, 2) := by decide +kernel
theorem dL_law_466 : decode cL_law 466 = .ok (.iconst 1, 1) := by decide +kernel
theorem dL_law_467 : decode cL_law 467 = .ok (.iadd, 1) := by decide +kernel
theorem dL_law_468 : decode cL_law 468 = .ok (.iaload, 1) := by decide +kernel
theorem dL_law_469 : decode cL_law 469 = .ok (.aload_n 0, 1) := by decide +kernel
theorem dL_law_470 : decode cL_law 470 = .ok (.iload 4, 2) := by decide +kernel
theorem dL_law_472 : decode cL_law 472 = .ok (.iconst 2, 1) := by decide +kernel
theorem dL_law_473 : decode cL_law 473 = .ok (.iadd, 1) := by decide +kernel
theorem dL_law_474 : decode cL_law 474 = .ok (.iaload, 1) := by decide +kernel
theorem dL_law_475 : decode cL_law 475 = .ok (.invokevirtual 67, 3) := by decide +kernel
theorem dL_law_478 : decode cL_law 478 = .ok (.aload_n 2, 1) := by decide +kernel
theorem dL_law_479 : decode cL_law 479 = .ok (.aload_n 0, 1) := by decide +kernel
theorem dL_law_480 : decode cL_law 480 = .ok (.iload 4, 2) := by decide +kernel
theorem dL_law_482 : decode cL_law 482 = .ok (.iconst 1, 1) := by decide +kernel
theorem dL_law_483 : decode cL_law 483 = .ok (.iadd, 1) := by decide +kernel
theorem dL_law_484 : decode cL_law 484 = .ok (.iaload, 1) := by decide +kernel
theorem dL_law_485 : decode cL_law 485 = .ok (.aload_n 0, 1) := by decide +kernel
theorem dL_law_486 : decode cL_law 486 = .ok (.iload 4, 2) := by decide +kernel
theorem dL_law_488 : decode cL_law 488 = .ok (.iconst 2, 1) := by decide +kernel
theorem dL_law_489 : decode cL_law 489 = .ok (.iadd, 1) := by decide +kernel
theorem dL_law_490 : decode cL_law 490 = .ok (.iaload, 1) := by decide +kernel
theorem dL_law_491 : decode cL_law 491 = .ok (.invokevirtual 70, 3) := by decide +kernel
theorem dL_law_494 : decode cL_law 494 = .ok (.if_icmp .eq 211, 3) := by decide +kernel
theorem dL_law_497 : decode cL_law 497 = .ok (.iconst 0, 1) := by decide +kernel
theorem dL_law_498 : decode cL_law 498 = .ok (.ireturn, 1) := by decide +kernel
theorem dL_law_499 : decode cL_law 499 = .ok (.aload_n 1, 1) := by decide +kernel
theorem dL_law_500 : decode cL_law 500 = .ok (.aload_n 0, 1) := by decide +kernel
theorem dL_law_501 : decode cL_law 501 = .ok (.iload 4, 2) := by decide +kernel
theorem dL_law_503 : decode cL_law 503 = .ok (.iconst 1, 1) := by decide +kernel
theorem dL_law_504 : decode cL_law 504 = .ok (.iadd, 1) := by decide +kernel
theorem dL_law_505 : decode cL_law 505 = .ok (.iaload, 1) := by decide +kernel
theorem dL_law_506 : decode cL_law 506 = .ok (.invokevirtual 71, 3) := by decide +kernel
theorem dL_law_509 : decode cL_law 509 = .ok (.aload_n 2, 1) := by decide +kernel
theorem dL_law_510 : decode cL_law 510 = .ok (.aload_n 0, 1) := by decide +kernel
theorem dL_law_511 : decode cL_law 511 = .ok (.iload 4, 2) := by decide +kernel
theorem dL_law_513 : decode cL_law 513 = .ok (.iconst 1, 1) := by decide +kernel
theorem dL_law_514 : decode cL_law 514 = .ok (.iadd, 1) := by decide +kernel
theorem dL_law_515 : decode cL_law 515 = .ok (.iaload, 1) := by decide +kernel
theorem dL_law_516 : decode cL_law 516 = .ok (.invokevirtual 74, 3) := by decide +kernel
theorem dL_law_519 : decode cL_law 519 = .ok (.if_icmp .eq 186, 3) := by decide +kernel
theorem dL_law_522 : decode cL_law 522 = .ok (.iconst 0, 1) := by decide +kernel
theorem dL_law_523 : decode cL_law 523 = .ok (.ireturn, 1) := by decide +kernel
theorem dL_law_524 : decode cL_law 524 = .ok (.aload_n 1, 1) := by decide +kernel
theorem dL_law_525 : decode cL_law 525 = .ok (.aload_n 0, 1) := by decide +kernel
theorem dL_law_526 : decode cL_law 526 = .ok (.iload 4, 2) := by decide +kernel
theorem dL_law_528 : decode cL_law 528 = .ok (.iconst 1, 1) := by decide +kernel
theorem dL_law_529 : decode cL_law 529 = .ok (.iadd, 1) := by decide +kernel
theorem dL_law_530 : decode cL_law 530 = .ok (.iaload, 1) := by decide +kernel
theorem dL_law_531 : decode cL_law 531 = .ok (.invokevirtual 75, 3) := by decide +kernel
theorem dL_law_534 : decode cL_law 534 = .ok (.aload_n 2, 1) := by decide +kernel
theorem dL_law_535 : decode cL_law 535 = .ok (.aload_n 0, 1) := by decide +kernel
theorem dL_law_536 : decode cL_law 536 = .ok (.iload 4, 2) := by decide +kernel
theorem dL_law_538 : decode cL_law 538 = .ok (.iconst 1, 1) := by decide +kernel
theorem dL_law_539 : decode cL_law 539 = .ok (.iadd, 1) := by decide +kernel
theorem dL_law_540 : decode cL_law 540 = .ok (.iaload, 1) := by decide +kernel
theorem dL_law_541 : decode cL_law 541 = .ok (.invokevirtual 78, 3) := by decide +kernel
theorem dL_law_544 : decode cL_law 544 = .ok (.if_icmp .eq 161, 3) := by decide +kernel
theorem dL_law_547 : decode cL_law 547 = .ok (.iconst 0, 1) := by decide +kernel
theorem dL_law_548 : decode cL_law 548 = .ok (.ireturn, 1) := by decide +kernel
theorem dL_law_549 : decode cL_law 549 = .ok (.aload_n 1, 1) := by decide +kernel
theorem dL_law_550 : decode cL_law 550 = .ok (.aload_n 0, 1) := by decide +kernel
theorem dL_law_551 : decode cL_law 551 = .ok (.iload 4, 2) := by decide +kernel
theorem dL_law_553 : decode cL_law 553 = .ok (.iconst 1, 1) := by decide +kernel
theorem dL_law_554 : decode cL_law 554 = .ok (.iadd, 1) := by decide +kernel
theorem dL_law_555 : decode cL_law 555 = .ok (.iaload, 1) := by decide +kernel
theorem dL_law_556 : decode cL_law 556 = .ok (.aload_n 0, 1) := by decide +kernel
theorem dL_law_557 : decode cL_law 557 = .ok (.iload 4, 2) := by decide +kernel
theorem dL_law_559 : decode cL_law 559 = .ok (.iconst 2, 1) := by decide +kernel
theorem dL_law_560 : decode cL_law 560 = .ok (.iadd, 1) := by decide +kernel
theorem dL_law_561 : decode cL_law 561 = .ok (.iaload, 1) := by decide +kernel
theorem dL_law_562 : decode cL_law 562 = .ok (.invokevirtual 79, 3) := by decide +kernel
theorem dL_law_565 : decode cL_law 565 = .ok (.aload_n 2, 1) := by decide +kernel
theorem dL_law_566 : decode cL_law 566 = .ok (.aload_n 0, 1) := by decide +kernel
theorem dL_law_567 : decode cL_law 567 = .ok (.iload 4, 2) := by decide +kernel
theorem dL_law_569 : decode cL_law 569 = .ok (.iconst 1, 1) := by decide +kernel
theorem dL_law_570 : decode cL_law 570 = .ok (.iadd, 1) := by decide +kernel
theorem dL_law_571 : decode cL_law 571 = .ok (.iaload, 1) := by decide +kernel
theorem dL_law_572 : decode cL_law 572 = .ok (.aload_n 0, 1) := by decide +kernel
theorem dL_law_573 : decode cL_law 573 = .ok (.iload 4, 2) := by decide +kernel
theorem dL_law_575 : decode cL_law 575 = .ok (.iconst 2, 1) := by decide +kernel
theorem dL_law_576 : decode cL_law 576 = .ok (.iadd, 1) := by decide +kernel
theorem dL_law_577 : decode cL_law 577 = .ok (.iaload, 1) := by decide +kernel
theorem dL_law_578 : decode cL_law 578 = .ok (.invokevirtual 82, 3) := by decide +kernel
theorem dL_law_581 : decode cL_law 581 = .ok (.if_icmp .eq 124, 3) := by decide +kernel
theorem dL_law_584 : decode cL_law 584 = .ok (.iconst 0, 1) := by decide +kernel
theorem dL_law_585 : decode cL_law 585 = .ok (.ireturn, 1) := by decide +kernel
theorem dL_law_586 : decode cL_law 586 = .ok (.aload_n 1, 1) := by decide +kernel
theorem dL_law_587 : decode cL_law 587 = .ok (.aload_n 0, 1) := by decide +kernel
theorem dL_law_588 : decode cL_law 588 = .ok (.iload 4, 2) := by decide +kernel
theorem dL_law_590 : decode cL_law 590 = .ok (.iconst 1, 1) := by decide +kernel
theorem dL_law_591 : decode cL_law 591 = .ok (.iadd, 1) := by decide +kernel
theorem dL_law_592 : decode cL_law 592 = .ok (.iaload, 1) := by decide +kernel
theorem dL_law_593 : decode cL_law 593 = .ok (.aload_n 0, 1) := by decide +kernel
theorem dL_law_594 : decode cL_law 594 = .ok (.iload 4, 2) := by decide +kernel
theorem dL_law_596 : decode cL_law 596 = .ok (.iconst 2, 1) := by decide +kernel
theorem dL_law_597 : decode cL_law 597 = .ok (.iadd, 1) := by decide +kernel
theorem dL_law_598 : decode cL_law 598 = .ok (.iaload, 1) := by decide +kernel
theorem dL_law_599 : decode cL_law 599 = .ok (.aload_n 3, 1) := by decide +kernel
theorem dL_law_600 : decode cL_law 600 = .ok (.invokestatic 83, 3) := by decide +kernel
theorem dL_law_603 : decode cL_law 603 = .ok (.istore 5, 2) := by decide +kernel
theorem dL_law_605 : decode cL_law 605 = .ok (.aload_n 2, 1) := by decide +kernel
theorem dL_law_606 : decode cL_law 606 = .ok (.aload_n 0, 1) := by decide +kernel
theorem dL_law_607 : decode cL_law 607 = .ok (.iload 4, 2) := by decide +kernel
theorem dL_law_609 : decode cL_law 609 = .ok (.iconst 1, 1) := by decide +kernel
theorem dL_law_610 : decode cL_law 610 = .ok (.iadd, 1) := by decide +kernel
theorem dL_law_611 : decode cL_law 611 = .ok (.iaload, 1) := by decide +kernel
theorem dL_law_612 : decode cL_law 612 = .ok (.aload_n 0, 1) := by decide +kernel
theorem dL_law_613 : decode cL_law 613 = .ok (.iload 4, 2) := by decide +kernel
theorem dL_law_615 : decode cL_law 615 = .ok (.iconst 2, 1) := by decide +kernel
theorem dL_law_616 : decode cL_law 616 = .ok (.iadd, 1) := by decide +kernel
theorem dL_law_617 : decode cL_law 617 = .ok (.iaload, 1) := by decide +kernel
theorem dL_law_618 : decode cL_law 618 = .ok (.invokevirtual 86, 3) := by decide +kernel
theorem dL_law_621 : decode cL_law 621 = .ok (.istore 6, 2) := by decide +kernel
theorem dL_law_623 : decode cL_law 623 = .ok (.aload_n 2, 1) := by decide +kernel
theorem dL_law_624 : decode cL_law 624 = .ok (.invokevirtual 59, 3) := by decide +kernel
theorem dL_law_627 : decode cL_law 627 = .ok (.iload 5, 2) := by decide +kernel
theorem dL_law_629 : decode cL_law 629 = .ok (.if_icmp .eq 5, 3) := by decide +kernel
theorem dL_law_632 : decode cL_law 632 = .ok (.iconst 0, 1) := by decide +kernel
theorem dL_law_633 : decode cL_law 633 = .ok (.ireturn, 1) := by decide +kernel
theorem dL_law_634 : decode cL_law 634 = .ok (.iload 5, 2) := by decide +kernel
theorem dL_law_636 : decode cL_law 636 = .ok (.ifCond .ne 15, 3) := by decide +kernel
theorem dL_law_639 : decode cL_law 639 = .ok (.aload_n 3, 1) := by decide +kernel
theorem dL_law_640 : decode cL_law 640 = .ok (.iconst 0, 1) := by decide +kernel
theorem dL_law_641 : decode cL_law 641 = .ok (.laload, 1) := by decide +kernel
theorem dL_law_642 : decode cL_law 642 = .ok (.iload 6, 2) := by decide +kernel
theorem dL_law_644 : decode cL_law 644 = .ok (.i2l, 1) := by decide +kernel
theorem dL_law_645 : decode cL_law 645 = .ok (.lcmp, 1) := by decide +kernel
theorem dL_law_646 : decode cL_law 646 = .ok (.ifCond .eq 5, 3) := by decide +kernel
theorem dL_law_649 : decode cL_law 649 = .ok (.iconst 0, 1) := by decide +kernel
theorem dL_law_650 : decode cL_law 650 = .ok (.ireturn, 1) := by decide +kernel
theorem dL_law_651 : decode cL_law 651 = .ok (.goto 54, 3) := by decide +kernel
theorem dL_law_654 : decode cL_law 654 = .ok (.aload_n 1, 1) := by decide +kernel
theorem dL_law_655 : decode cL_law 655 = .ok (.invokevirtual 87, 3) := by decide +kernel
theorem dL_law_658 : decode cL_law 658 = .ok (.aload_n 2, 1) := by decide +kernel
theorem dL_law_659 : decode cL_law 659 = .ok (.invokevirtual 90, 3) := by decide +kernel
theorem dL_law_662 : decode cL_law 662 = .ok (.if_icmp .eq 43, 3) := by decide +kernel
theorem dL_law_665 : decode cL_law 665 = .ok (.iconst 0, 1) := by decide +kernel
theorem dL_law_666 : decode cL_law 666 = .ok (.ireturn, 1) := by decide +kernel
theorem dL_law_667 : decode cL_law 667 = .ok (.aload_n 1, 1) := by decide +kernel
theorem dL_law_668 : decode cL_law 668 = .ok (.invokevirtual 91, 3) := by decide +kernel
theorem dL_law_671 : decode cL_law 671 = .ok (.aload_n 2, 1) := by decide +kernel
theorem dL_law_672 : decode cL_law 672 = .ok (.invokevirtual 95, 3) := by decide +kernel
theorem dL_law_675 : decode cL_law 675 = .ok (.if_icmp .eq 30, 3) := by decide +kernel
theorem dL_law_678 : decode cL_law 678 = .ok (.iconst 0, 1) := by decide +kernel
theorem dL_law_679 : decode cL_law 679 = .ok (.ireturn, 1) := by decide +kernel
theorem dL_law_680 : decode cL_law 680 = .ok (.aload_n 1, 1) := by decide +kernel
theorem dL_law_681 : decode cL_law 681 = .ok (.aload_n 0, 1) := by decide +kernel
theorem dL_law_682 : decode cL_law 682 = .ok (.iload 4, 2) := by decide +kernel
theorem dL_law_684 : decode cL_law 684 = .ok (.iconst 1, 1) := by decide +kernel
theorem dL_law_685 : decode cL_law 685 = .ok (.iadd, 1) := by decide +kernel
theorem dL_law_686 : decode cL_law 686 = .ok (.iaload, 1) := by decide +kernel
theorem dL_law_687 : decode cL_law 687 = .ok (.invokevirtual 96, 3) := by decide +kernel
theorem dL_law_690 : decode cL_law 690 = .ok (.aload_n 2, 1) := by decide +kernel
theorem dL_law_691 : decode cL_law 691 = .ok (.aload_n 0, 1) := by decide +kernel
theorem dL_law_692 : decode cL_law 692 = .ok (.iload 4, 2) := by decide +kernel
theorem dL_law_694 : decode cL_law 694 = .ok (.iconst 1, 1) := by decide +kernel
theorem dL_law_695 : decode cL_law 695 = .ok (.iadd, 1) := by decide +kernel
theorem dL_law_696 : decode cL_law 696 = .ok (.iaload, 1) := by decide +kernel
theorem dL_law_697 : decode cL_law 697 = .ok (.invokevirtual 99, 3) := by decide +kernel
theorem dL_law_700 : decode cL_law 700 = .ok (.if_icmp .eq 5, 3) := by decide +kernel
theorem dL_law_703 : decode cL_law 703 = .ok (.iconst 0, 1) := by decide +kernel
theorem dL_law_704 : decode cL_law 704 = .ok (.ireturn, 1) := by decide +kernel
theorem dL_law_705 : decode cL_law 705 = .ok (.iinc 4 7, 3) := by decide +kernel
theorem dL_law_708 : decode cL_law 708 = .ok (.goto (-675), 3) := by decide +kernel
theorem dL_law_711 : decode cL_law 711 = .ok (.iconst 1, 1) := by decide +kernel
theorem dL_law_712 : decode cL_law 712 = .ok (.ireturn, 1) := by decide +kernel
end
section
/-! the words of this proof: class numbers and array classes (GG), what stays true of the tables (KK), the worlds of each class -/
abbrev GG : Type := (Nat → ClassId) × (Nat → Nat → Nat) × ClassId × ClassId × ClassId × ClassId
abbrev gD (g : GG) : va_G := (g.1, g.2.1)
abbrev gI (g : GG) : ClassId := g.2.2.1
abbrev gJ (g : GG) : ClassId := g.2.2.2.1
abbrev gZ (g : GG) : ClassId := g.2.2.2.2.1
abbrev gG (g : GG) : ClassId := g.2.2.2.2.2
abbrev tyS (g : GG) : List (ClassId × FieldType) := [(gI g, .int), (gJ g, .long), (gZ g, .boolean), (gG g, .array .long)]
abbrev nwU : Cond := .methodLinkNest RX2 24 yX3_isUnit "LogForward"
abbrev nwC : Cond := .methodLinkNest RX2 28 yX3_isCell "LogForward"
def KK (g : GG) (U : State) : Prop := va_K (gD g) vwCl (tyS g) U ∧ va_Nw nwU U ∧ va_Nw nwC U
theorem KK.warm {g : GG} {s U : State} (hW : s.WarmedH U.vm) (h : KK g s) : KK g U := ⟨va_K.moved hW.alike h.1, va_Nw.warmM hW h.2.1, va_Nw.warmM hW h.2.2⟩
theorem KK.same {g : GG} {u U : State} (hv : u.vm = U.vm) (h : KK g u) : KK g U := ⟨va_K.moved (by rw [hv]; exact Vm.Alike.refl U.vm) h.1, va_Nw.same rfl hv h.2.1, va_Nw.same rfl hv h.2.2⟩
/-- a method's start: it reads a world -/
def Pr (g : GG) (ws : va_W) : State → Prop := fun U => va_P (gD g) vwCl ws U.heap ∧ KK g U
/-- a method's start: it writes a world -/
def Pw (g : GG) (ws : va_W) (sz : Nat) : State → Prop := fun U => U.heap.size = sz ∧ va_P (gD g) vwCl ws U.heap ∧ KK g U ∧ va_D (fun _ => True) ws
/-- the world behind a method that writes -/
def Bw {S : Type} (g : GG) (A : Nat → Prop) (wf : S → va_W) : S → State → Prop := fun u t => va_P (gD g) vwCl (wf u) t.heap ∧ va_D A (wf u)
theorem fb_r {g : GG} {av : List Value} {ws : va_W} : FrameBlind (va_Pc av (Pr g ws)) := fun _ U _ _ q => ⟨q.1, q.2.1, KK.same (u := U) rfl q.2.2⟩
theorem fb_w {g : GG} {av : List Value} {ws : va_W} {sz : Nat} : FrameBlind (va_Pc av (Pw g ws sz)) := fun _ U _ _ q => ⟨q.1, q.2.1, q.2.2.1, KK.same (u := U) rfl q.2.2.2.1, q.2.2.2.2⟩
theorem pv_r {g : GG} {s : State} {H : Heap} {ws wc : va_W} {b q0 ci : Nat} {q : vw_C} {fs : List Value} {As : List Value} (hK : KK g s) (hP : va_P (gD g) vwCl ws H) (hc : vwCl[ci]? = some q) (he : ws[q0]? = some (b, .inr (ci, fs))) (is : List Nat) (hs : is.filterMap (fun i => ws[i]?) = wc) : PreV s H q.1 b (va_Pc (.ref b :: As) (Pr g wc)) As :=
  ⟨fb_r, va_recv hK.1 hP hc he, fun U hU hW => ⟨rfl, by rw [hU]; exact hP.sub is hs, hK.warm hW⟩⟩
theorem ps_r {g : GG} {s : State} {H : Heap} {ws wc : va_W} {As : List Value} (hK : KK g s) (hP : va_P (gD g) vwCl ws H) (is : List Nat) (hs : is.filterMap (fun i => ws[i]?) = wc) : PreS s H (va_Pc As (Pr g wc)) As :=
  ⟨fb_r, fun U hU hW => ⟨rfl, by rw [hU]; exact hP.sub is hs, hK.warm hW⟩⟩
theorem pv_w {g : GG} {s : State} {H : Heap} {ws wc : va_W} {b q0 ci : Nat} {q : vw_C} {fs : List Value} {As : List Value} {A : Nat → Prop} (hK : KK g s) (hP : va_P (gD g) vwCl ws H) (hc : vwCl[ci]? = some q) (he : ws[q0]? = some (b, .inr (ci, fs))) (hPc : va_P (gD g) vwCl wc H) (hDc : va_D A wc) : PreV s H q.1 b (va_Pc (.ref b :: As) (Pw g wc H.size)) As :=
  ⟨fb_w, va_recv hK.1 hP hc he, fun U hU hW => ⟨rfl, by rw [hU], by rw [hU]; exact hPc, hK.warm hW, hDc.weaken (fun _ _ _ _ => trivial)⟩⟩
theorem ps_w {g : GG} {s : State} {H : Heap} {wc : va_W} {As : List Value} {A : Nat → Prop} (hK : KK g s) (hPc : va_P (gD g) vwCl wc H) (hDc : va_D A wc) : PreS s H (va_Pc As (Pw g wc H.size)) As :=
  ⟨fb_w, fun U hU hW => ⟨rfl, by rw [hU], by rw [hU]; exact hPc, hK.warm hW, hDc.weaken (fun _ _ _ _ => trivial)⟩⟩
/-- a truth value as the machine has it -/
def bI (P : Prop) [Decidable P] : Int32 := if P then 1 else 0
theorem bI_1 {P : Prop} [Decidable P] (h : P) : (1 : Int32) = bI P := by simp [bI, h]
theorem bI_0 {P : Prop} [Decidable P] (h : ¬ P) : (0 : Int32) = bI P := by simp [bI, h]
theorem bI_t {P : Prop} [Decidable P] {r : Int32} (hr : r = bI P) (c : ¬ r = 0) : P := by
  by_cases h : P
  · exact h
  · exact absurd (by rw [hr, ← bI_0 h]) c
theorem bI_f {P : Prop} [Decidable P] {r : Int32} (hr : r = bI P) (c : r = 0) : ¬ P := fun h => by
  rw [← bI_1 h] at hr
  rw [hr] at c
  exact absurd c (by decide)
theorem q_lt {x y : Int32} {a b : Int} (h : x < y) (hx : x.toInt = a) (hy : y.toInt = b) : a < b := by rw [← hx, ← hy]; exact Int32.lt_iff_toInt_lt.mp h
theorem q_nlt {x y : Int32} {a b : Int} (h : ¬ x < y) (hx : x.toInt = a) (hy : y.toInt = b) : b ≤ a := by rw [Int32.lt_iff_toInt_lt, hx, hy] at h; omega
theorem q_le {x y : Int32} {a b : Int} (h : x ≤ y) (hx : x.toInt = a) (hy : y.toInt = b) : a ≤ b := by rw [← hx, ← hy]; exact Int32.le_iff_toInt_le.mp h
theorem q_nle {x y : Int32} {a b : Int} (h : ¬ x ≤ y) (hx : x.toInt = a) (hy : y.toInt = b) : b < a := by rw [Int32.le_iff_toInt_le, hx, hy] at h; omega
theorem q_eq {x y : Int32} {a b : Int} (h : x = y) (hx : x.toInt = a) (hy : y.toInt = b) : a = b := by rw [← hx, ← hy, h]
theorem q_ne {x y : Int32} {a b : Int} (h : ¬ x = y) (hx : x.toInt = a) (hy : y.toInt = b) : a ≠ b := fun q => h (Int32.toInt_inj.mp (by rw [hx, hy, q]))
theorem l_nI {n : Nat} (h : n ≤ 2000000) : (nI n).toInt = (n : Int) := nI_toInt (by omega)
theorem c_nI {n : Nat} (h : n ≤ 2000000) : (nI n).toNatClampNeg = n := nI_clamp (by omega)
theorem v_nI {n N : Nat} (h : n < N) (hN : N ≤ 2000000) : vp_in (nI n) N := vp_in_nI h (by omega)
theorem v_p {x : Int32} {N : Nat} (h0 : 0 ≤ x.toInt) (h : x.toInt < N) : vp_in x N := vp_in_iff.mpr ⟨h0, h⟩
/-- an int that isn't negative is its number -/
theorem p_nI {x : Int32} (h : 0 ≤ x.toInt) : x = nI x.toNatClampNeg := by
  obtain ⟨j, hj, e⟩ := nI_of (x := x) (by rw [Int32.lt_iff_toInt_lt]; show ¬ x.toInt < 0; omega)
  subst e
  rw [nI_clamp hj]
section GRows
variable {p : Program} {l : Launch} {e : Env} {R : Room} {s : State} {m : MethodId} {args : Array Value} {below : List Frame} {meth : Method} {c : Code} {H : Heap} {locs : List Loc} {cells slots : Nat} {Q : State → Prop}
variable {cc : ByteArray} {pc : Nat} {ls : Array Slot} {rest : List Value} {D : va_G} {cl : List vw_C} {A : Nat → Prop} {a : Nat} {tys : List (ClassId × FieldType)} {ws : va_W} {H0 : Heap}
theorem ga_iald (hexec : p.tables.exec = Jvm.exec) (hb : c.code = cc) (hK : va_K D cl tys s) (hP : va_P D cl ws H) (q0 t0 : Nat) {cA : ClassId} {n : Nat} {f : Nat → Int32} (ha : ws[q0]? = some (a, .inl (cA, n, .inl f))) (ht : tys[t0]? = some (cA, .int)) {i v : Int32} (hin : vp_in i n) (hv : f i.toNatClampNeg = v) (hdg : decode cc pc = .ok (.iaload, 1))
    (kk : W p l e R s m args below meth c H locs cells slots Q (F0 m (pc + 1) ls (.int v :: rest))) : W p l e R s m args below meth c H locs cells slots Q (F0 m pc ls (.int i :: .ref a :: rest)) := by
  subst hv
  exact va_iald hexec hb hK hP q0 t0 ha ht hin hdg kk
theorem ga_zald (hexec : p.tables.exec = Jvm.exec) (hb : c.code = cc) (hK : va_K D cl tys s) (hP : va_P D cl ws H) (q0 t0 : Nat) {cA : ClassId} {n : Nat} {f : Nat → Int32} (ha : ws[q0]? = some (a, .inl (cA, n, .inl f))) (ht : tys[t0]? = some (cA, .boolean)) {i v : Int32} (hin : vp_in i n) (hv : f i.toNatClampNeg = v) (hdg : decode cc pc = .ok (.baload, 1))
    (kk : W p l e R s m args below meth c H locs cells slots Q (F0 m (pc + 1) ls (.int v :: rest))) : W p l e R s m args below meth c H locs cells slots Q (F0 m pc ls (.int i :: .ref a :: rest)) := by
  subst hv
  exact va_zald hexec hb hK hP q0 t0 ha ht hin hdg kk
theorem ga_lald (hexec : p.tables.exec = Jvm.exec) (hb : c.code = cc) (hK : va_K D cl tys s) (hP : va_P D cl ws H) (q0 t0 : Nat) {cA : ClassId} {n : Nat} {f : Nat → Int64} (ha : ws[q0]? = some (a, .inl (cA, n, .inr (.inl f)))) (ht : tys[t0]? = some (cA, .long)) {i : Int32} {v : Int64} (hin : vp_in i n) (hv : f i.toNatClampNeg = v) (hdg : decode cc pc = .ok (.laload, 1))
    (kk : W p l e R s m args below meth c H locs cells slots Q (F0 m (pc + 1) ls (.long v :: rest))) : W p l e R s m args below meth c H locs cells slots Q (F0 m pc ls (.int i :: .ref a :: rest)) := by
  subst hv
  exact va_lald hexec hb hK hP q0 t0 ha ht hin hdg kk
theorem ga_iast (hexec : p.tables.exec = Jvm.exec) (hb : c.code = cc) (hK : va_K D cl tys s) (hP : va_P D cl ws H) (hD : va_D A ws) (hS : va_S A H0 H locs) (q0 t0 : Nat) {cA : ClassId} {n j : Nat} {f : Nat → Int32} (ha : ws[q0]? = some (a, .inl (cA, n, .inl f))) (ht : tys[t0]? = some (cA, .int)) {i : Int32} {x : Int32} (hin : vp_in i n) (hj : i.toNatClampNeg = j) (hdg : decode cc pc = .ok (.iastore, 1))
    (kk : ∀ (H1 : Heap) (locs1 : List Loc), va_P D cl (ws.set q0 (a, .inl (cA, n, .inl (upd f j x)))) H1 → va_D A (ws.set q0 (a, .inl (cA, n, .inl (upd f j x)))) → va_S A H0 H1 locs1 → W p l e R s m args below meth c H1 locs1 cells slots Q (F0 m (pc + 1) ls rest)) : W p l e R s m args below meth c H locs cells slots Q (F0 m pc ls (.int x :: .int i :: .ref a :: rest)) := by
  subst hj
  exact va_iast hexec hb hK hP hD hS q0 t0 ha ht hin hdg kk
theorem ga_last (hexec : p.tables.exec = Jvm.exec) (hb : c.code = cc) (hK : va_K D cl tys s) (hP : va_P D cl ws H) (hD : va_D A ws) (hS : va_S A H0 H locs) (q0 t0 : Nat) {cA : ClassId} {n j : Nat} {f : Nat → Int64} (ha : ws[q0]? = some (a, .inl (cA, n, .inr (.inl f)))) (ht : tys[t0]? = some (cA, .long)) {i : Int32} {x : Int64} (hin : vp_in i n) (hj : i.toNatClampNeg = j) (hdg : decode cc pc = .ok (.lastore, 1))
    (kk : ∀ (H1 : Heap) (locs1 : List Loc), va_P D cl (ws.set q0 (a, .inl (cA, n, .inr (.inl (vp_updL f j x))))) H1 → va_D A (ws.set q0 (a, .inl (cA, n, .inr (.inl (vp_updL f j x))))) → va_S A H0 H1 locs1 → W p l e R s m args below meth c H1 locs1 cells slots Q (F0 m (pc + 1) ls rest)) : W p l e R s m args below meth c H locs cells slots Q (F0 m pc ls (.long x :: .int i :: .ref a :: rest)) := by
  subst hj
  exact va_last hexec hb hK hP hD hS q0 t0 ha ht hin hdg kk
theorem ga_iadd (hexec : p.tables.exec = Jvm.exec) (hb : c.code = cc) {x y v : Int32} (hv : x + y = v) (hdg : decode cc pc = .ok (.iadd, 1))
    (k : W p l e R s m args below meth c H locs cells slots Q (F0 m (pc + 1) ls (.int v :: rest))) : W p l e R s m args below meth c H locs cells slots Q (F0 m pc ls (.int y :: .int x :: rest)) := by
  subst hv
  exact lv_iadd hexec hb hdg k
theorem ga_isub (hexec : p.tables.exec = Jvm.exec) (hb : c.code = cc) {x y v : Int32} (hv : x - y = v) (hdg : decode cc pc = .ok (.isub, 1))
    (k : W p l e R s m args below meth c H locs cells slots Q (F0 m (pc + 1) ls (.int v :: rest))) : W p l e R s m args below meth c H locs cells slots Q (F0 m pc ls (.int y :: .int x :: rest)) := by
  subst hv
  exact lv_isub hexec hb hdg k
theorem ga_zast (hexec : p.tables.exec = Jvm.exec) (hb : c.code = cc) (hK : va_K D cl tys s) (hP : va_P D cl ws H) (hD : va_D A ws) (hS : va_S A H0 H locs) (q0 t0 : Nat) {cA : ClassId} {n j : Nat} {f : Nat → Int32} (ha : ws[q0]? = some (a, .inl (cA, n, .inl f))) (ht : tys[t0]? = some (cA, .boolean)) {i : Int32} {x : Int32} (hin : vp_in i n) (hj : i.toNatClampNeg = j) (hz : vp_nar .boolean x = x) (hdg : decode cc pc = .ok (.bastore, 1))
    (kk : ∀ (H1 : Heap) (locs1 : List Loc), va_P D cl (ws.set q0 (a, .inl (cA, n, .inl (upd f j x)))) H1 → va_D A (ws.set q0 (a, .inl (cA, n, .inl (upd f j x)))) → va_S A H0 H1 locs1 → W p l e R s m args below meth c H1 locs1 cells slots Q (F0 m (pc + 1) ls rest)) : W p l e R s m args below meth c H locs cells slots Q (F0 m pc ls (.int x :: .int i :: .ref a :: rest)) := by
  subst hj
  refine va_zast hexec hb hK hP hD hS q0 t0 ha ht hin hdg ?_
  rw [hz]
  exact kk
end GRows
/-! the worlds -/
abbrev RS : Type := (Nat → Int32) × (Nat → Int32) × (Nat → Int32) × (Nat → Int64) × (Nat → Int64) × (Nat → Int32) × (Nat → Int32) × Nat × Nat
abbrev RS.kd (S : RS) : Nat → Int32 := S.1
abbrev RS.un (S : RS) : Nat → Int32 := S.2.1
abbrev RS.ce (S : RS) : Nat → Int32 := S.2.2.1
abbrev RS.bf (S : RS) : Nat → Int64 := S.2.2.2.1
abbrev RS.af (S : RS) : Nat → Int64 := S.2.2.2.2.1
abbrev RS.tn (S : RS) : Nat → Int32 := S.2.2.2.2.2.1
abbrev RS.bk (S : RS) : Nat → Int32 := S.2.2.2.2.2.2.1
abbrev RS.n (S : RS) : Nat := S.2.2.2.2.2.2.2.1
abbrev RS.ar (S : RS) : Nat := S.2.2.2.2.2.2.2.2
/-- Rows: the object, its seven arrays -/
abbrev wR (g : GG) (a : Nat → Nat) (S : RS) : va_W := [(a 0, .inr (3, [.ref (a 1), .ref (a 2), .ref (a 3), .ref (a 4), .ref (a 5), .ref (a 6), .ref (a 7), .int (nI S.n), .int (nI S.ar)])), (a 1, .inl (gI g, 2001, .inl S.kd)), (a 2, .inl (gI g, 2001, .inl S.un)), (a 3, .inl (gI g, 2001, .inl S.ce)), (a 4, .inl (gJ g, 2001, .inr (.inl S.bf))), (a 5, .inl (gJ g, 2001, .inr (.inl S.af))), (a 6, .inl (gI g, 2001, .inl S.tn)), (a 7, .inl (gZ g, 2001, .inl S.bk))]
/-- Units: the object, its two arrays -/
abbrev US : Type := (Nat → Int32) × (Nat → Int32)
abbrev US.lk (U : US) : Nat → Int32 := U.1
abbrev US.ch (U : US) : Nat → Int32 := U.2
abbrev wU (g : GG) (a : Nat → Nat) (U : US) : va_W := [(a 0, .inr (4, [.ref (a 1), .ref (a 2)])), (a 1, .inl (gI g, 61, .inl U.lk)), (a 2, .inl (gI g, 32, .inl U.ch))]
end
section
/-! calls of methods that write: the callee's cells out of the caller's, and back beside the rest -/
section GCalls
variable {p : Program} {l : Launch} {e : Env} {R : Room} {s : State} {m : MethodId} {args : Array Value} {below : List Frame} {meth : Method} {c : Code} {H : Heap} {locs : List Loc} {cells slots : Nat} {Q : State → Prop}
variable {pc : Nat} {ls : Array Slot} {rest st0 : List Value} {a : Array Value} {A0 : Nat → Prop} {H0 : Heap} {mc ms : Nat} {g : GG}
theorem cq_free {X cx pl : va_W} (hD : va_D A0 (X ++ pl)) (hS : va_S A0 H0 H locs) (hA : ∀ q, H0.size ≤ q → A0 q) (isC : List Nat) (hC : isC.map (fun i => X[i]?) = cx.map some) : ∀ q, va_A cx H.size q → A0 q := by
  intro q h
  rcases h with ⟨k, e, h⟩ | h
  · obtain ⟨i, -, hi⟩ := va_in_of isC hC h
    exact hD.2 i (q, e) (by rw [List.getElem?_append_left (List.getElem?_eq_some_iff.mp hi).1]; exact hi)
  · exact hA q (Nat.le_trans hS.1 h)
/-- the callee has no pool -/
theorem cq_i {S : Type} {post : Int32 → S → Prop} {wf : S → va_W} {X cx wr pl : va_W} (hr : va_Run p l e R s m args below meth c H locs cells slots mc ms (F0 m pc ls st0) rest (va_Qi post (Bw g (va_A cx H.size) wf) (va_A cx H.size) a) (va_A cx H.size)) (hP : va_P (gD g) vwCl (X ++ pl) H) (hD : va_D A0 (X ++ pl)) (hS : va_S A0 H0 H locs) (hA : ∀ q, H0.size ≤ q → A0 q) (isC isR : List Nat) (hC : isC.map (fun i => X[i]?) = cx.map some) (hR : isR.map (fun i => X[i]?) = wr.map some) (hn : va_nd isR = true) (hdis : ∀ i ∈ isR, i ∉ isC)
    (kk : ∀ (r : Int32) (u : S) (H1 : Heap) (locs1 : List Loc), post r u → va_P (gD g) vwCl ((wr ++ wf u) ++ pl) H1 → va_D A0 ((wr ++ wf u) ++ pl) → va_S A0 H0 H1 locs1 → W p l e R s m args below meth c H1 locs1 (cells + mc) (slots + ms) Q (F0 m (pc + 3) ls (.int r :: rest))) : W p l e R s m args below meth c H locs cells slots Q (F0 m pc ls st0) := by
  have hF := cq_free hD hS hA isC hC
  refine va_calli hr hS (fun q _ h => hF q h) hF (fun r u t H1 locs1 ht hvm hp hB hz hk hS1 => ?_)
  obtain ⟨hP1, hD1⟩ := hB
  rw [ht] at hP1
  obtain ⟨hP2, hD2⟩ := va_joinQ hP hD isC isR hC hR hn hdis hk hF hP1 hD1
  exact kk r u H1 locs1 hp hP2 hD2 hS1
theorem cq_v {S : Type} {post : S → Prop} {wf : S → va_W} {X cx wr pl : va_W} (hr : va_Run p l e R s m args below meth c H locs cells slots mc ms (F0 m pc ls st0) rest (va_Qv post (Bw g (va_A cx H.size) wf) (va_A cx H.size) a) (va_A cx H.size)) (hP : va_P (gD g) vwCl (X ++ pl) H) (hD : va_D A0 (X ++ pl)) (hS : va_S A0 H0 H locs) (hA : ∀ q, H0.size ≤ q → A0 q) (isC isR : List Nat) (hC : isC.map (fun i => X[i]?) = cx.map some) (hR : isR.map (fun i => X[i]?) = wr.map some) (hn : va_nd isR = true) (hdis : ∀ i ∈ isR, i ∉ isC)
    (kk : ∀ (u : S) (H1 : Heap) (locs1 : List Loc), post u → va_P (gD g) vwCl ((wr ++ wf u) ++ pl) H1 → va_D A0 ((wr ++ wf u) ++ pl) → va_S A0 H0 H1 locs1 → W p l e R s m args below meth c H1 locs1 (cells + mc) (slots + ms) Q (F0 m (pc + 3) ls rest)) : W p l e R s m args below meth c H locs cells slots Q (F0 m pc ls st0) := by
  have hF := cq_free hD hS hA isC hC
  refine va_callv hr hS (fun q _ h => hF q h) hF (fun u t H1 locs1 ht hvm hp hB hz hk hS1 => ?_)
  obtain ⟨hP1, hD1⟩ := hB
  rw [ht] at hP1
  obtain ⟨hP2, hD2⟩ := va_joinQ hP hD isC isR hC hR hn hdis hk hF hP1 hD1
  exact kk u H1 locs1 hp hP2 hD2 hS1
/-- the callee has the pool, too -/
theorem cp_i {S : Type} {post : Int32 → S → Prop} {rx plf : S → va_W} {X cx wr pl : va_W} (hr : va_Run p l e R s m args below meth c H locs cells slots mc ms (F0 m pc ls st0) rest (va_Qi post (Bw g (va_A (cx ++ pl) H.size) (fun u => rx u ++ plf u)) (va_A (cx ++ pl) H.size) a) (va_A (cx ++ pl) H.size)) (hP : va_P (gD g) vwCl (X ++ pl) H) (hD : va_D A0 (X ++ pl)) (hS : va_S A0 H0 H locs) (hA : ∀ q, H0.size ≤ q → A0 q) (isC isR : List Nat) (hC : isC.map (fun i => X[i]?) = cx.map some) (hR : isR.map (fun i => X[i]?) = wr.map some) (hn : va_nd isR = true) (hdis : ∀ i ∈ isR, i ∉ isC)
    (kk : ∀ (r : Int32) (u : S) (H1 : Heap) (locs1 : List Loc), post r u → va_P (gD g) vwCl ((wr ++ rx u) ++ plf u) H1 → va_D A0 ((wr ++ rx u) ++ plf u) → va_S A0 H0 H1 locs1 → W p l e R s m args below meth c H1 locs1 (cells + mc) (slots + ms) Q (F0 m (pc + 3) ls (.int r :: rest))) : W p l e R s m args below meth c H locs cells slots Q (F0 m pc ls st0) := by
  have hF := va_freeP hD hS hA isC hC
  refine va_calli hr hS (fun q _ h => hF q h) hF (fun r u t H1 locs1 ht hvm hp hB hz hk hS1 => ?_)
  obtain ⟨hP1, hD1⟩ := hB
  rw [ht] at hP1
  obtain ⟨hP2, hD2⟩ := va_joinP hP hD isC isR hC hR hn hdis hk hF hP1 hD1
  exact kk r u H1 locs1 hp hP2 hD2 hS1
theorem cp_v {S : Type} {post : S → Prop} {rx plf : S → va_W} {X cx wr pl : va_W} (hr : va_Run p l e R s m args below meth c H locs cells slots mc ms (F0 m pc ls st0) rest (va_Qv post (Bw g (va_A (cx ++ pl) H.size) (fun u => rx u ++ plf u)) (va_A (cx ++ pl) H.size) a) (va_A (cx ++ pl) H.size)) (hP : va_P (gD g) vwCl (X ++ pl) H) (hD : va_D A0 (X ++ pl)) (hS : va_S A0 H0 H locs) (hA : ∀ q, H0.size ≤ q → A0 q) (isC isR : List Nat) (hC : isC.map (fun i => X[i]?) = cx.map some) (hR : isR.map (fun i => X[i]?) = wr.map some) (hn : va_nd isR = true) (hdis : ∀ i ∈ isR, i ∉ isC)
    (kk : ∀ (u : S) (H1 : Heap) (locs1 : List Loc), post u → va_P (gD g) vwCl ((wr ++ rx u) ++ plf u) H1 → va_D A0 ((wr ++ rx u) ++ plf u) → va_S A0 H0 H1 locs1 → W p l e R s m args below meth c H1 locs1 (cells + mc) (slots + ms) Q (F0 m (pc + 3) ls rest)) : W p l e R s m args below meth c H locs cells slots Q (F0 m pc ls st0) := by
  have hF := va_freeP hD hS hA isC hC
  refine va_callv hr hS (fun q _ h => hF q h) hF (fun u t H1 locs1 ht hvm hp hB hz hk hS1 => ?_)
  obtain ⟨hP1, hD1⟩ := hB
  rw [ht] at hP1
  obtain ⟨hP2, hD2⟩ := va_joinP hP hD isC isR hC hR hn hdis hk hF hP1 hD1
  exact kk u H1 locs1 hp hP2 hD2 hS1
theorem ca_free {ws : va_W} (hD : va_D A0 ws) (hS : va_S A0 H0 H locs) (hA : ∀ q, H0.size ≤ q → A0 q) : ∀ q, va_A ws H.size q → A0 q := by
  intro q h
  rcases h with ⟨k, e, h⟩ | h
  · exact hD.2 k (q, e) h
  · exact hA q (Nat.le_trans hS.1 h)
/-- the callee's world is the caller's whole one -/
theorem ca_i {S : Type} {post : Int32 → S → Prop} {wf : S → va_W} {ws : va_W} (hr : va_Run p l e R s m args below meth c H locs cells slots mc ms (F0 m pc ls st0) rest (va_Qi post (Bw g (va_A ws H.size) wf) (va_A ws H.size) a) (va_A ws H.size)) (hD : va_D A0 ws) (hS : va_S A0 H0 H locs) (hA : ∀ q, H0.size ≤ q → A0 q)
    (kk : ∀ (r : Int32) (u : S) (H1 : Heap) (locs1 : List Loc), post r u → va_P (gD g) vwCl (wf u) H1 → va_D A0 (wf u) → va_S A0 H0 H1 locs1 → W p l e R s m args below meth c H1 locs1 (cells + mc) (slots + ms) Q (F0 m (pc + 3) ls (.int r :: rest))) : W p l e R s m args below meth c H locs cells slots Q (F0 m pc ls st0) := by
  have hF := ca_free hD hS hA
  refine va_calli hr hS (fun q _ h => hF q h) hF (fun r u t H1 locs1 ht hvm hp hB hz hk hS1 => ?_)
  obtain ⟨hP1, hD1⟩ := hB
  rw [ht] at hP1
  exact kk r u H1 locs1 hp hP1 (hD1.weaken (fun _ q _ h => hF q.1 h)) hS1
theorem ca_v {S : Type} {post : S → Prop} {wf : S → va_W} {ws : va_W} (hr : va_Run p l e R s m args below meth c H locs cells slots mc ms (F0 m pc ls st0) rest (va_Qv post (Bw g (va_A ws H.size) wf) (va_A ws H.size) a) (va_A ws H.size)) (hD : va_D A0 ws) (hS : va_S A0 H0 H locs) (hA : ∀ q, H0.size ≤ q → A0 q)
    (kk : ∀ (u : S) (H1 : Heap) (locs1 : List Loc), post u → va_P (gD g) vwCl (wf u) H1 → va_D A0 (wf u) → va_S A0 H0 H1 locs1 → W p l e R s m args below meth c H1 locs1 (cells + mc) (slots + ms) Q (F0 m (pc + 3) ls rest)) : W p l e R s m args below meth c H locs cells slots Q (F0 m pc ls st0) := by
  have hF := ca_free hD hS hA
  refine va_callv hr hS (fun q _ h => hF q h) hF (fun u t H1 locs1 ht hvm hp hB hz hk hS1 => ?_)
  obtain ⟨hP1, hD1⟩ := hB
  rw [ht] at hP1
  exact kk u H1 locs1 hp hP1 (hD1.weaken (fun _ q _ h => hF q.1 h)) hS1
end GCalls
section GMath
variable {p : Program} {l : Launch} {e : Env} {R : Room} {s : State} {m : MethodId} {args : Array Value} {below : List Frame} {meth : Method} {c : Code} {H : Heap} {locs : List Loc} {cells slots : Nat} {Q : State → Prop}
variable {cc : ByteArray} {pc : Nat} {ls : Array Slot} {rest : List Value}
theorem ga_mmax (hexec : p.tables.exec = Jvm.exec) (hb : c.code = cc) (hml : c.maxLocals = ls.size) {own : String} {index : Nat} (hown : s.vm.findClass own = some m.cls) (hlink : (Cond.methodLink own index Lib.Math.max.name).before args s = true) (hstat : (Cond.static Lib.Math.max.name).before args s = true) (hini : (Cond.initialized "java/lang/Math").before args s = true) (hcode : (Cond.code Lib.Math.max.name Lib.Math.max.code 2 (some .int)).before args s = true)
    (hframes : 1 ≤ R.frames) (hlocals : (rest.map fun v => v.category).sum + 13 ≤ R.locals) (hc : cells ≤ R.cells) (hs : slots ≤ R.slots) {x y v : Int32} (hv : (if x < y then y else x) = v) (hdg : decode cc pc = .ok (.invokestatic index, 3))
    (kk : W p l e R s m args below meth c H locs cells slots Q (F0 m (pc + 3) ls (.int v :: rest))) : W p l e R s m args below meth c H locs cells slots Q (F0 m pc ls (.int y :: .int x :: rest)) := by
  subst hv
  exact va_mmax hexec hb hml hown hlink hstat hini hcode hframes hlocals hc hs hdg kk
theorem ga_mmin (hexec : p.tables.exec = Jvm.exec) (hb : c.code = cc) (hml : c.maxLocals = ls.size) {own : String} {index : Nat} (hown : s.vm.findClass own = some m.cls) (hlink : (Cond.methodLink own index Lib.Math.min.name).before args s = true) (hstat : (Cond.static Lib.Math.min.name).before args s = true) (hini : (Cond.initialized "java/lang/Math").before args s = true) (hcode : (Cond.code Lib.Math.min.name Lib.Math.min.code 2 (some .int)).before args s = true)
    (hframes : 1 ≤ R.frames) (hlocals : (rest.map fun v => v.category).sum + 13 ≤ R.locals) (hc : cells ≤ R.cells) (hs : slots ≤ R.slots) {x y v : Int32} (hv : (if y < x then y else x) = v) (hdg : decode cc pc = .ok (.invokestatic index, 3))
    (kk : W p l e R s m args below meth c H locs cells slots Q (F0 m (pc + 3) ls (.int v :: rest))) : W p l e R s m args below meth c H locs cells slots Q (F0 m pc ls (.int y :: .int x :: rest)) := by
  subst hv
  exact va_mmin hexec hb hml hown hlink hstat hini hcode hframes hlocals hc hs hdg kk
end GMath
theorem mx_nI {a b : Nat} (ha : a ≤ 2000000) (hb : b ≤ 2000000) : (if nI a < nI b then nI b else nI a) = nI (max a b) := by
  by_cases h : a < b
  · rw [if_pos (nI_lt h (by omega)), Nat.max_eq_right (by omega)]
  · rw [if_neg (nI_nlt (by omega) (by omega)), Nat.max_eq_left (by omega)]
theorem mn_nI {a b : Nat} (ha : a ≤ 2000000) (hb : b ≤ 2000000) : (if nI b < nI a then nI b else nI a) = nI (min a b) := by
  by_cases h : b < a
  · rw [if_pos (nI_lt h (by omega)), Nat.min_eq_right (by omega)]
  · rw [if_neg (nI_nlt (by omega) (by omega)), Nat.min_eq_left (by omega)]
/-- the heap and what was written, by names -/
theorem g_heap {p : Program} {l : Launch} {e : Env} {R : Room} {s : State} {m : MethodId} {args : Array Value} {below : List Frame} {meth : Method} {c : Code} {H : Heap} {locs : List Loc} {cells slots : Nat} {Q : State → Prop} {fr : JFrame} (k : ∀ (H1 : Heap) (locs1 : List Loc), H1 = H → locs1 = locs → W p l e R s m args below meth c H1 locs1 cells slots Q fr) : W p l e R s m args below meth c H locs cells slots Q fr := k H locs rfl rfl
end
section
set_option maxHeartbeats 4000000 in
set_option maxRecDepth 100000 in
theorem c_X1_latest (l : Launch) (g : GG) (a : Nat → Nat) (S : RS)  : Met l yX1_latest wsX1_latest { frames := 0, cells := 0, slots := 0, locals := 0 } (va_Pc [.ref (a 0)] (Pr g (wR g a S))) (vp_Si (fun rv => rv = nI S.n)) 0 0 (fun _ => False) := by
  refine Met.ofW (cc := cX1_latest) (maxL := 1) (ret := (some .int)) (by decide) rfl ?_
  intro p e s m args below meth c s₁ B hml hv
  obtain ⟨rfl, hP, hK⟩ := hv
  have hx := B.exec
  have hb := B.bytes
  have hr := B.returns
  have hts := atoms_spec (ws := wsX1_latest) B.pre
  have hown : s.vm.findClass RX1 = some m.cls := findClass_of_methodNamed B.named
  have hlocks := B.notSynchronized
  have hl := lv_entry ([.ref (a 0)]) (n := 1) (Nat.le_of_ble_eq_true rfl)
  rw [lg_entry_eq]
  generalize (lg_sl ([.ref (a 0)]) ++ List.replicate (1 - (lg_sl ([.ref (a 0)])).length) Slot.unset).toArray = ls at hl ⊢
  have hl : lv_has ls 1 [(0, .ref (a 0))] := hl
  refine lv_aload_n hx hb dX1_latest_0 rfl (lv_at hl 0 rfl) ?_
  refine va_get (D := gD g) (ci := 3) (v := .int (nI (S.n))) (C := RX1) (T := TX1) (N := 9) hx hb hts (by decide +kernel) hown hK.1 hP 0 rfl rfl 7 (by decide) (hts (.fieldLink RX1 35 "LogForward$Rows" "latest" "I") (by decide +kernel)) (fun _ h9 => h9) rfl dX1_latest_1 ?_
  exact W.iret (v := (nI (S.n))) hx hb hr (fun tz htz hWz => ⟨(nI (S.n)), rfl, rfl, htz⟩) (fun _ h => nomatch h) dX1_latest_4
set_option maxHeartbeats 4000000 in
set_option maxRecDepth 100000 in
theorem c_X1_archived (l : Launch) (g : GG) (a : Nat → Nat) (S : RS)  : Met l yX1_archived wsX1_archived { frames := 0, cells := 0, slots := 0, locals := 0 } (va_Pc [.ref (a 0)] (Pr g (wR g a S))) (vp_Si (fun rv => rv = nI S.ar)) 0 0 (fun _ => False) := by
  refine Met.ofW (cc := cX1_archived) (maxL := 1) (ret := (some .int)) (by decide) rfl ?_
  intro p e s m args below meth c s₁ B hml hv
  obtain ⟨rfl, hP, hK⟩ := hv
  have hx := B.exec
  have hb := B.bytes
  have hr := B.returns
  have hts := atoms_spec (ws := wsX1_archived) B.pre
  have hown : s.vm.findClass RX1 = some m.cls := findClass_of_methodNamed B.named
  have hlocks := B.notSynchronized
  have hl := lv_entry ([.ref (a 0)]) (n := 1) (Nat.le_of_ble_eq_true rfl)
  rw [lg_entry_eq]
  generalize (lg_sl ([.ref (a 0)]) ++ List.replicate (1 - (lg_sl ([.ref (a 0)])).length) Slot.unset).toArray = ls at hl ⊢
  have hl : lv_has ls 1 [(0, .ref (a 0))] := hl
  refine lv_aload_n hx hb dX1_archived_0 rfl (lv_at hl 0 rfl) ?_
  refine va_get (D := gD g) (ci := 3) (v := .int (nI (S.ar))) (C := RX1) (T := TX1) (N := 9) hx hb hts (by decide +kernel) hown hK.1 hP 0 rfl rfl 8 (by decide) (hts (.fieldLink RX1 39 "LogForward$Rows" "archived" "I") (by decide +kernel)) (fun _ h9 => h9) rfl dX1_archived_1 ?_
  exact W.iret (v := (nI (S.ar))) hx hb hr (fun tz htz hWz => ⟨(nI (S.ar)), rfl, rfl, htz⟩) (fun _ h => nomatch h) dX1_archived_4
set_option maxHeartbeats 4000000 in
set_option maxRecDepth 100000 in
theorem c_X1_has (l : Launch) (g : GG) (a : Nat → Nat) (S : RS) (p1 : Int32) (hn : S.n ≤ 2000) : Met l yX1_has wsX1_has { frames := 0, cells := 0, slots := 0, locals := 0 } (va_Pc [.ref (a 0), .int p1] (Pr g (wR g a S))) (vp_Si (fun rv => rv = bI (1 ≤ p1.toInt ∧ p1.toInt ≤ (S.n : Int)))) 0 0 (fun _ => False) := by
  refine Met.ofW (cc := cX1_has) (maxL := 2) (ret := (some .boolean)) (by decide) rfl ?_
  intro p e s m args below meth c s₁ B hml hv
  obtain ⟨rfl, hP, hK⟩ := hv
  have hx := B.exec
  have hb := B.bytes
  have hr := B.returns
  have hts := atoms_spec (ws := wsX1_has) B.pre
  have hown : s.vm.findClass RX1 = some m.cls := findClass_of_methodNamed B.named
  have hlocks := B.notSynchronized
  have hl := lv_entry ([.ref (a 0), .int p1]) (n := 2) (Nat.le_of_ble_eq_true rfl)
  rw [lg_entry_eq]
  generalize (lg_sl ([.ref (a 0), .int p1]) ++ List.replicate (2 - (lg_sl ([.ref (a 0), .int p1])).length) Slot.unset).toArray = ls at hl ⊢
  have hl : lv_has ls 2 [(0, .ref (a 0)), (1, .int p1)] := hl
  refine lv_iload_n hx hb dX1_has_0 rfl (lv_at hl 1 rfl) ?_
  refine lv_iconst (v := 1) hx hb dX1_has_1 (by decide) ?_
  refine lv_icmp_lt (tgt := 17) hx hb dX1_has_2 (by decide) (fun c_2_1 => ?_) (fun c_2_1 => ?_)
  · have i_2 : (p1.toInt : Int) < 1 := q_lt c_2_1 rfl rfl
    refine lv_iconst (v := 0) hx hb dX1_has_17 (by decide) ?_
    exact W.zret (v := 0) hx hb hr rfl (fun tz htz hWz => ⟨0, rfl, (bI_0 (by first | omega | assumption | simp_all)), htz⟩) (fun _ h => nomatch h) dX1_has_18
  · have i_2 : (1 : Int) ≤ p1.toInt := q_nlt c_2_1 rfl rfl
    refine lv_iload_n hx hb dX1_has_5 rfl (lv_at hl 1 rfl) ?_
    refine lv_aload_n hx hb dX1_has_6 rfl (lv_at hl 0 rfl) ?_
    refine va_get (D := gD g) (ci := 3) (v := .int (nI (S.n))) (C := RX1) (T := TX1) (N := 9) hx hb hts (by decide +kernel) hown hK.1 hP 0 rfl rfl 7 (by decide) (hts (.fieldLink RX1 35 "LogForward$Rows" "latest" "I") (by decide +kernel)) (fun _ h9 => h9) rfl dX1_has_7 ?_
    refine lv_icmp_gt (tgt := 17) hx hb dX1_has_10 (by decide) (fun c_10_2 => ?_) (fun c_10_2 => ?_)
    · have i_10 : (((S.n : Nat) : Int) : Int) < p1.toInt := q_lt c_10_2 (l_nI (by omega)) rfl
      refine lv_iconst (v := 0) hx hb dX1_has_17 (by decide) ?_
      exact W.zret (v := 0) hx hb hr rfl (fun tz htz hWz => ⟨0, rfl, (bI_0 (by first | omega | assumption | simp_all)), htz⟩) (fun _ h => nomatch h) dX1_has_18
    · have i_10 : (p1.toInt : Int) ≤ ((S.n : Nat) : Int) := q_nlt c_10_2 (l_nI (by omega)) rfl
      refine lv_iconst (v := 1) hx hb dX1_has_13 (by decide) ?_
      refine lv_goto (tgt := 18) hx hb dX1_has_14 (by decide) ?_
      exact W.zret (v := 1) hx hb hr rfl (fun tz htz hWz => ⟨1, rfl, (bI_1 (by first | omega | assumption | simp_all)), htz⟩) (fun _ h => nomatch h) dX1_has_18
set_option maxHeartbeats 4000000 in
set_option maxRecDepth 100000 in
theorem c_X1_has_n (l : Launch) (g : GG) (a : Nat → Nat) (S : RS) (r : Nat) (hr1 : 1 ≤ r) (hr2 : r ≤ S.n) (hn : S.n ≤ 2000) : Met l yX1_has wsX1_has { frames := 0, cells := 0, slots := 0, locals := 0 } (va_Pc [.ref (a 0), .int (nI (r))] (Pr g (wR g a S))) (vp_Si (fun rv => rv = 1)) 0 0 (fun _ => False) := by
  refine Met.ofW (cc := cX1_has) (maxL := 2) (ret := (some .boolean)) (by decide) rfl ?_
  intro p e s m args below meth c s₁ B hml hv
  obtain ⟨rfl, hP, hK⟩ := hv
  have hx := B.exec
  have hb := B.bytes
  have hr := B.returns
  have hts := atoms_spec (ws := wsX1_has) B.pre
  have hown : s.vm.findClass RX1 = some m.cls := findClass_of_methodNamed B.named
  have hlocks := B.notSynchronized
  have hl := lv_entry ([.ref (a 0), .int (nI (r))]) (n := 2) (Nat.le_of_ble_eq_true rfl)
  rw [lg_entry_eq]
  generalize (lg_sl ([.ref (a 0), .int (nI (r))]) ++ List.replicate (2 - (lg_sl ([.ref (a 0), .int (nI (r))])).length) Slot.unset).toArray = ls at hl ⊢
  have hl : lv_has ls 2 [(0, .ref (a 0)), (1, .int (nI (r)))] := hl
  refine lv_iload_n hx hb dX1_has_0 rfl (lv_at hl 1 rfl) ?_
  refine lv_iconst (v := 1) hx hb dX1_has_1 (by decide) ?_
  refine lv_icmp_lt (tgt := 17) hx hb dX1_has_2 (by decide) (fun c_2_1 => ?_) (fun c_2_1 => ?_)
  · have i_2 : (((r : Nat) : Int) : Int) < 1 := q_lt c_2_1 (l_nI (by omega)) rfl
    refine lv_iconst (v := 0) hx hb dX1_has_17 (by decide) ?_
    exact W.zret (v := 0) hx hb hr rfl (fun tz htz hWz => ⟨0, rfl, (by exfalso; omega), htz⟩) (fun _ h => nomatch h) dX1_has_18
  · have i_2 : (1 : Int) ≤ ((r : Nat) : Int) := q_nlt c_2_1 (l_nI (by omega)) rfl
    refine lv_iload_n hx hb dX1_has_5 rfl (lv_at hl 1 rfl) ?_
    refine lv_aload_n hx hb dX1_has_6 rfl (lv_at hl 0 rfl) ?_
    refine va_get (D := gD g) (ci := 3) (v := .int (nI (S.n))) (C := RX1) (T := TX1) (N := 9) hx hb hts (by decide +kernel) hown hK.1 hP 0 rfl rfl 7 (by decide) (hts (.fieldLink RX1 35 "LogForward$Rows" "latest" "I") (by decide +kernel)) (fun _ h9 => h9) rfl dX1_has_7 ?_
    refine lv_icmp_gt (tgt := 17) hx hb dX1_has_10 (by decide) (fun c_10_2 => ?_) (fun c_10_2 => ?_)
    · have i_10 : (((S.n : Nat) : Int) : Int) < ((r : Nat) : Int) := q_lt c_10_2 (l_nI (by omega)) (l_nI (by omega))
      refine lv_iconst (v := 0) hx hb dX1_has_17 (by decide) ?_
      exact W.zret (v := 0) hx hb hr rfl (fun tz htz hWz => ⟨0, rfl, (by exfalso; omega), htz⟩) (fun _ h => nomatch h) dX1_has_18
    · have i_10 : (((r : Nat) : Int) : Int) ≤ ((S.n : Nat) : Int) := q_nlt c_10_2 (l_nI (by omega)) (l_nI (by omega))
      refine lv_iconst (v := 1) hx hb dX1_has_13 (by decide) ?_
      refine lv_goto (tgt := 18) hx hb dX1_has_14 (by decide) ?_
      exact W.zret (v := 1) hx hb hr rfl (fun tz htz hWz => ⟨1, rfl, rfl, htz⟩) (fun _ h => nomatch h) dX1_has_18
set_option maxHeartbeats 4000000 in
set_option maxRecDepth 100000 in
theorem c_X1_hasRoomFor (l : Launch) (g : GG) (a : Nat → Nat) (S : RS) (k : Nat) (hk : k ≤ 1000000) (hn : S.n ≤ 2000) : Met l yX1_hasRoomFor wsX1_hasRoomFor { frames := 0, cells := 0, slots := 0, locals := 0 } (va_Pc [.ref (a 0), .int (nI (k))] (Pr g (wR g a S))) (vp_Si (fun rv => rv = bI (k + S.n ≤ 2000))) 0 0 (fun _ => False) := by
  refine Met.ofW (cc := cX1_hasRoomFor) (maxL := 2) (ret := (some .boolean)) (by decide) rfl ?_
  intro p e s m args below meth c s₁ B hml hv
  obtain ⟨rfl, hP, hK⟩ := hv
  have hx := B.exec
  have hb := B.bytes
  have hr := B.returns
  have hts := atoms_spec (ws := wsX1_hasRoomFor) B.pre
  have hown : s.vm.findClass RX1 = some m.cls := findClass_of_methodNamed B.named
  have hlocks := B.notSynchronized
  have hl := lv_entry ([.ref (a 0), .int (nI (k))]) (n := 2) (Nat.le_of_ble_eq_true rfl)
  rw [lg_entry_eq]
  generalize (lg_sl ([.ref (a 0), .int (nI (k))]) ++ List.replicate (2 - (lg_sl ([.ref (a 0), .int (nI (k))])).length) Slot.unset).toArray = ls at hl ⊢
  have hl : lv_has ls 2 [(0, .ref (a 0)), (1, .int (nI (k)))] := hl
  refine lv_iload_n hx hb dX1_hasRoomFor_0 rfl (lv_at hl 1 rfl) ?_
  refine lv_sipush (v := 2000) hx hb dX1_hasRoomFor_1 (by decide) ?_
  refine lv_aload_n hx hb dX1_hasRoomFor_4 rfl (lv_at hl 0 rfl) ?_
  refine va_get (D := gD g) (ci := 3) (v := .int (nI (S.n))) (C := RX1) (T := TX1) (N := 9) hx hb hts (by decide +kernel) hown hK.1 hP 0 rfl rfl 7 (by decide) (hts (.fieldLink RX1 35 "LogForward$Rows" "latest" "I") (by decide +kernel)) (fun _ h9 => h9) rfl dX1_hasRoomFor_5 ?_
  refine ga_isub (v := (nI (2000 - S.n))) hx hb (pk_sub (a := 2000) (by omega)) dX1_hasRoomFor_8 ?_
  refine lv_icmp_gt (tgt := 16) hx hb dX1_hasRoomFor_9 (by decide) (fun c_9_1 => ?_) (fun c_9_1 => ?_)
  · have i_9 : (((2000 - S.n : Nat) : Int) : Int) < ((k : Nat) : Int) := q_lt c_9_1 (l_nI (by omega)) (l_nI (by omega))
    refine lv_iconst (v := 0) hx hb dX1_hasRoomFor_16 (by decide) ?_
    exact W.zret (v := 0) hx hb hr rfl (fun tz htz hWz => ⟨0, rfl, (bI_0 (by first | omega | assumption | simp_all)), htz⟩) (fun _ h => nomatch h) dX1_hasRoomFor_17
  · have i_9 : (((k : Nat) : Int) : Int) ≤ ((2000 - S.n : Nat) : Int) := q_nlt c_9_1 (l_nI (by omega)) (l_nI (by omega))
    refine lv_iconst (v := 1) hx hb dX1_hasRoomFor_12 (by decide) ?_
    refine lv_goto (tgt := 17) hx hb dX1_hasRoomFor_13 (by decide) ?_
    exact W.zret (v := 1) hx hb hr rfl (fun tz htz hWz => ⟨1, rfl, (bI_1 (by first | omega | assumption | simp_all)), htz⟩) (fun _ h => nomatch h) dX1_hasRoomFor_17
set_option maxHeartbeats 4000000 in
set_option maxRecDepth 100000 in
theorem c_X1_isMissing (l : Launch) (g : GG) (a : Nat → Nat) (S : RS) (r : Nat) (hr1 : 1 ≤ r) (hr2 : r ≤ S.n) (hn : S.n ≤ 2000) : Met l yX1_isMissing wsX1_isMissing { frames := 1, cells := 0, slots := 0, locals := 21 } (va_Pc [.ref (a 0), .int (nI (r))] (Pr g (wR g a S))) (vp_Si (fun rv => rv = bI (S.tn r = 3))) 0 0 (fun _ => False) := by
  refine Met.ofW (cc := cX1_isMissing) (maxL := 2) (ret := (some .boolean)) (by decide) rfl ?_
  intro p e s m args below meth c s₁ B hml hv
  obtain ⟨rfl, hP, hK⟩ := hv
  have hx := B.exec
  have hb := B.bytes
  have hr := B.returns
  have hts := atoms_spec (ws := wsX1_isMissing) B.pre
  have hown : s.vm.findClass RX1 = some m.cls := findClass_of_methodNamed B.named
  have hlocks := B.notSynchronized
  have hl := lv_entry ([.ref (a 0), .int (nI (r))]) (n := 2) (Nat.le_of_ble_eq_true rfl)
  rw [lg_entry_eq]
  generalize (lg_sl ([.ref (a 0), .int (nI (r))]) ++ List.replicate (2 - (lg_sl ([.ref (a 0), .int (nI (r))])).length) Slot.unset).toArray = ls at hl ⊢
  have hl : lv_has ls 2 [(0, .ref (a 0)), (1, .int (nI (r)))] := hl
  refine lv_aload_n hx hb dX1_isMissing_0 rfl (lv_at hl 0 rfl) ?_
  refine lv_iload_n hx hb dX1_isMissing_1 rfl (lv_at hl 1 rfl) ?_
  refine vp_callSi (va_Run.run (va_runV (As := [.int (nI (r))]) (rest := []) ⟨hx, hb, hml, hown, hts⟩ (c_X1_has_n l g a S (r) (by omega) (by omega) (by omega)) (cwV 1 hts gX1_isMissing_X1_has rfl rfl rfl (by decide +kernel) ⟨Nat.le_of_ble_eq_true rfl, Nat.le_of_ble_eq_true rfl⟩) (pv_r hK hP (ci := 3) (q0 := 0) rfl rfl [0, 1, 2, 3, 4, 5, 6, 7] rfl) rfl rfl hl.1 rfl (lv_room (Nat.le_of_ble_eq_true rfl)) dX1_isMissing_2 ⟨Nat.zero_le _, Nat.zero_le _⟩)) (fun r_2_1 h_2_1 => ?_)
  subst h_2_1
  refine lv_if_eq (tgt := 22) hx hb dX1_isMissing_5 (by decide) (fun c_5_1 => ?_) (fun c_5_1 => ?_)
  · exact absurd c_5_1 (by decide)
  · skip
    refine lv_aload_n hx hb dX1_isMissing_8 rfl (lv_at hl 0 rfl) ?_
    refine va_get (D := gD g) (ci := 3) (v := .ref (a 6)) (C := RX1) (T := TX1) (N := 9) hx hb hts (by decide +kernel) hown hK.1 hP 0 rfl rfl 5 (by decide) (hts (.fieldLink RX1 28 "LogForward$Rows" "tornCopies" "[I") (by decide +kernel)) (fun _ h9 => h9) rfl dX1_isMissing_9 ?_
    refine lv_iload_n hx hb dX1_isMissing_12 rfl (lv_at hl 1 rfl) ?_
    refine ga_iald (v := (S.tn r)) hx hb hK.1 hP 6 0 rfl rfl (v_nI (by omega) (by omega)) (by rw [(c_nI (by omega))]) dX1_isMissing_13 ?_
    refine lv_iconst (v := 3) hx hb dX1_isMissing_14 (by decide) ?_
    refine lv_icmp_ne (tgt := 22) hx hb dX1_isMissing_15 (by decide) (fun c_15_2 => ?_) (fun c_15_2 => ?_)
    · have i_15 : ((S.tn r).toInt : Int) ≠ 3 := q_ne c_15_2 rfl rfl
      refine lv_iconst (v := 0) hx hb dX1_isMissing_22 (by decide) ?_
      exact W.zret (v := 0) hx hb hr rfl (fun tz htz hWz => ⟨0, rfl, (bI_0 (by first | omega | assumption | simp_all)), htz⟩) (fun _ h => nomatch h) dX1_isMissing_23
    · have i_15 : ((S.tn r).toInt : Int) = 3 := q_eq c_15_2 rfl rfl
      refine lv_iconst (v := 1) hx hb dX1_isMissing_18 (by decide) ?_
      refine lv_goto (tgt := 23) hx hb dX1_isMissing_19 (by decide) ?_
      exact W.zret (v := 1) hx hb hr rfl (fun tz htz hWz => ⟨1, rfl, (bI_1 (by first | omega | assumption | simp_all)), htz⟩) (fun _ h => nomatch h) dX1_isMissing_23
set_option maxHeartbeats 4000000 in
set_option maxRecDepth 100000 in
theorem c_X1_isChange (l : Launch) (g : GG) (a : Nat → Nat) (S : RS) (r : Nat) (hr1 : 1 ≤ r) (hr2 : r ≤ S.n) (hn : S.n ≤ 2000) : Met l yX1_isChange wsX1_isChange { frames := 1, cells := 0, slots := 0, locals := 21 } (va_Pc [.ref (a 0), .int (nI (r))] (Pr g (wR g a S))) (vp_Si (fun rv => rv = bI (S.kd r = 0))) 0 0 (fun _ => False) := by
  refine Met.ofW (cc := cX1_isChange) (maxL := 2) (ret := (some .boolean)) (by decide) rfl ?_
  intro p e s m args below meth c s₁ B hml hv
  obtain ⟨rfl, hP, hK⟩ := hv
  have hx := B.exec
  have hb := B.bytes
  have hr := B.returns
  have hts := atoms_spec (ws := wsX1_isChange) B.pre
  have hown : s.vm.findClass RX1 = some m.cls := findClass_of_methodNamed B.named
  have hlocks := B.notSynchronized
  have hl := lv_entry ([.ref (a 0), .int (nI (r))]) (n := 2) (Nat.le_of_ble_eq_true rfl)
  rw [lg_entry_eq]
  generalize (lg_sl ([.ref (a 0), .int (nI (r))]) ++ List.replicate (2 - (lg_sl ([.ref (a 0), .int (nI (r))])).length) Slot.unset).toArray = ls at hl ⊢
  have hl : lv_has ls 2 [(0, .ref (a 0)), (1, .int (nI (r)))] := hl
  refine lv_aload_n hx hb dX1_isChange_0 rfl (lv_at hl 0 rfl) ?_
  refine lv_iload_n hx hb dX1_isChange_1 rfl (lv_at hl 1 rfl) ?_
  refine vp_callSi (va_Run.run (va_runV (As := [.int (nI (r))]) (rest := []) ⟨hx, hb, hml, hown, hts⟩ (c_X1_has_n l g a S (r) (by omega) (by omega) (by omega)) (cwV 1 hts gX1_isChange_X1_has rfl rfl rfl (by decide +kernel) ⟨Nat.le_of_ble_eq_true rfl, Nat.le_of_ble_eq_true rfl⟩) (pv_r hK hP (ci := 3) (q0 := 0) rfl rfl [0, 1, 2, 3, 4, 5, 6, 7] rfl) rfl rfl hl.1 rfl (lv_room (Nat.le_of_ble_eq_true rfl)) dX1_isChange_2 ⟨Nat.zero_le _, Nat.zero_le _⟩)) (fun r_2_1 h_2_1 => ?_)
  subst h_2_1
  refine lv_if_eq (tgt := 21) hx hb dX1_isChange_5 (by decide) (fun c_5_1 => ?_) (fun c_5_1 => ?_)
  · exact absurd c_5_1 (by decide)
  · skip
    refine lv_aload_n hx hb dX1_isChange_8 rfl (lv_at hl 0 rfl) ?_
    refine va_get (D := gD g) (ci := 3) (v := .ref (a 1)) (C := RX1) (T := TX1) (N := 9) hx hb hts (by decide +kernel) hown hK.1 hP 0 rfl rfl 0 (by decide) (hts (.fieldLink RX1 9 "LogForward$Rows" "kind" "[I") (by decide +kernel)) (fun _ h9 => h9) rfl dX1_isChange_9 ?_
    refine lv_iload_n hx hb dX1_isChange_12 rfl (lv_at hl 1 rfl) ?_
    refine ga_iald (v := (S.kd r)) hx hb hK.1 hP 1 0 rfl rfl (v_nI (by omega) (by omega)) (by rw [(c_nI (by omega))]) dX1_isChange_13 ?_
    refine lv_if_ne (tgt := 21) hx hb dX1_isChange_14 (by decide) (fun c_14_2 => ?_) (fun c_14_2 => ?_)
    · have i_14 : ((S.kd r).toInt : Int) ≠ 0 := q_ne c_14_2 rfl rfl
      refine lv_iconst (v := 0) hx hb dX1_isChange_21 (by decide) ?_
      exact W.zret (v := 0) hx hb hr rfl (fun tz htz hWz => ⟨0, rfl, (bI_0 (by first | omega | assumption | simp_all)), htz⟩) (fun _ h => nomatch h) dX1_isChange_22
    · have i_14 : ((S.kd r).toInt : Int) = 0 := q_eq c_14_2 rfl rfl
      refine lv_iconst (v := 1) hx hb dX1_isChange_17 (by decide) ?_
      refine lv_goto (tgt := 22) hx hb dX1_isChange_18 (by decide) ?_
      exact W.zret (v := 1) hx hb hr rfl (fun tz htz hWz => ⟨1, rfl, (bI_1 (by first | omega | assumption | simp_all)), htz⟩) (fun _ h => nomatch h) dX1_isChange_22
set_option maxHeartbeats 4000000 in
set_option maxRecDepth 100000 in
theorem c_X1_isBackable (l : Launch) (g : GG) (a : Nat → Nat) (S : RS) (r : Nat) (hr1 : 1 ≤ r) (hr2 : r ≤ S.n) (hn : S.n ≤ 2000) : Met l yX1_isBackable wsX1_isBackable { frames := 2, cells := 0, slots := 0, locals := 42 } (va_Pc [.ref (a 0), .int (nI (r))] (Pr g (wR g a S))) (vp_Si (fun rv => rv = bI (S.kd r = 0 ∧ S.bk r = 0))) 0 0 (fun _ => False) := by
  refine Met.ofW (cc := cX1_isBackable) (maxL := 2) (ret := (some .boolean)) (by decide) rfl ?_
  intro p e s m args below meth c s₁ B hml hv
  obtain ⟨rfl, hP, hK⟩ := hv
  have hx := B.exec
  have hb := B.bytes
  have hr := B.returns
  have hts := atoms_spec (ws := wsX1_isBackable) B.pre
  have hown : s.vm.findClass RX1 = some m.cls := findClass_of_methodNamed B.named
  have hlocks := B.notSynchronized
  have hl := lv_entry ([.ref (a 0), .int (nI (r))]) (n := 2) (Nat.le_of_ble_eq_true rfl)
  rw [lg_entry_eq]
  generalize (lg_sl ([.ref (a 0), .int (nI (r))]) ++ List.replicate (2 - (lg_sl ([.ref (a 0), .int (nI (r))])).length) Slot.unset).toArray = ls at hl ⊢
  have hl : lv_has ls 2 [(0, .ref (a 0)), (1, .int (nI (r)))] := hl
  refine lv_aload_n hx hb dX1_isBackable_0 rfl (lv_at hl 0 rfl) ?_
  refine lv_iload_n hx hb dX1_isBackable_1 rfl (lv_at hl 1 rfl) ?_
  refine vp_callSi (va_Run.run (va_runV (As := [.int (nI (r))]) (rest := []) ⟨hx, hb, hml, hown, hts⟩ (c_X1_isChange l g a S (r) (by omega) (by omega) (by omega)) (cwV 1 hts gX1_isBackable_X1_isChange rfl rfl rfl (by decide +kernel) ⟨Nat.le_of_ble_eq_true rfl, Nat.le_of_ble_eq_true rfl⟩) (pv_r hK hP (ci := 3) (q0 := 0) rfl rfl [0, 1, 2, 3, 4, 5, 6, 7] rfl) rfl rfl hl.1 rfl (lv_room (Nat.le_of_ble_eq_true rfl)) dX1_isBackable_2 ⟨Nat.zero_le _, Nat.zero_le _⟩)) (fun r_2_1 h_2_1 => ?_)
  refine lv_if_eq (tgt := 21) hx hb dX1_isBackable_5 (by decide) (fun c_5_1 => ?_) (fun c_5_1 => ?_)
  · have b_5 : ¬ (S.kd (r) = 0) := bI_f h_2_1 c_5_1
    refine lv_iconst (v := 0) hx hb dX1_isBackable_21 (by decide) ?_
    exact W.zret (v := 0) hx hb hr rfl (fun tz htz hWz => ⟨0, rfl, (bI_0 (by first | omega | assumption | simp_all)), htz⟩) (fun _ h => nomatch h) dX1_isBackable_22
  · have b_5 : S.kd (r) = 0 := bI_t h_2_1 c_5_1
    refine lv_aload_n hx hb dX1_isBackable_8 rfl (lv_at hl 0 rfl) ?_
    refine va_get (D := gD g) (ci := 3) (v := .ref (a 7)) (C := RX1) (T := TX1) (N := 9) hx hb hts (by decide +kernel) hown hK.1 hP 0 rfl rfl 6 (by decide) (hts (.fieldLink RX1 31 "LogForward$Rows" "backingOut" "[Z") (by decide +kernel)) (fun _ h9 => h9) rfl dX1_isBackable_9 ?_
    refine lv_iload_n hx hb dX1_isBackable_12 rfl (lv_at hl 1 rfl) ?_
    refine ga_zald (v := (S.bk r)) hx hb hK.1 hP 7 2 rfl rfl (v_nI (by omega) (by omega)) (by rw [(c_nI (by omega))]) dX1_isBackable_13 ?_
    refine lv_if_ne (tgt := 21) hx hb dX1_isBackable_14 (by decide) (fun c_14_2 => ?_) (fun c_14_2 => ?_)
    · have i_14 : ((S.bk r).toInt : Int) ≠ 0 := q_ne c_14_2 rfl rfl
      refine lv_iconst (v := 0) hx hb dX1_isBackable_21 (by decide) ?_
      exact W.zret (v := 0) hx hb hr rfl (fun tz htz hWz => ⟨0, rfl, (bI_0 (by first | omega | assumption | simp_all)), htz⟩) (fun _ h => nomatch h) dX1_isBackable_22
    · have i_14 : ((S.bk r).toInt : Int) = 0 := q_eq c_14_2 rfl rfl
      refine lv_iconst (v := 1) hx hb dX1_isBackable_17 (by decide) ?_
      refine lv_goto (tgt := 22) hx hb dX1_isBackable_18 (by decide) ?_
      exact W.zret (v := 1) hx hb hr rfl (fun tz htz hWz => ⟨1, rfl, (bI_1 (by first | omega | assumption | simp_all)), htz⟩) (fun _ h => nomatch h) dX1_isBackable_22
set_option maxHeartbeats 4000000 in
set_option maxRecDepth 100000 in
theorem c_X1_kindOf (l : Launch) (g : GG) (a : Nat → Nat) (S : RS) (r : Nat) (hr1 : 1 ≤ r) (hr2 : r ≤ S.n) (hn : S.n ≤ 2000) : Met l yX1_kindOf wsX1_kindOf { frames := 1, cells := 0, slots := 0, locals := 21 } (va_Pc [.ref (a 0), .int (nI (r))] (Pr g (wR g a S))) (vp_Si (fun rv => rv = S.kd r)) 0 0 (fun _ => False) := by
  refine Met.ofW (cc := cX1_kindOf) (maxL := 2) (ret := (some .int)) (by decide) rfl ?_
  intro p e s m args below meth c s₁ B hml hv
  obtain ⟨rfl, hP, hK⟩ := hv
  have hx := B.exec
  have hb := B.bytes
  have hr := B.returns
  have hts := atoms_spec (ws := wsX1_kindOf) B.pre
  have hown : s.vm.findClass RX1 = some m.cls := findClass_of_methodNamed B.named
  have hlocks := B.notSynchronized
  have hl := lv_entry ([.ref (a 0), .int (nI (r))]) (n := 2) (Nat.le_of_ble_eq_true rfl)
  rw [lg_entry_eq]
  generalize (lg_sl ([.ref (a 0), .int (nI (r))]) ++ List.replicate (2 - (lg_sl ([.ref (a 0), .int (nI (r))])).length) Slot.unset).toArray = ls at hl ⊢
  have hl : lv_has ls 2 [(0, .ref (a 0)), (1, .int (nI (r)))] := hl
  refine lv_aload_n hx hb dX1_kindOf_0 rfl (lv_at hl 0 rfl) ?_
  refine lv_iload_n hx hb dX1_kindOf_1 rfl (lv_at hl 1 rfl) ?_
  refine vp_callSi (va_Run.run (va_runV (As := [.int (nI (r))]) (rest := []) ⟨hx, hb, hml, hown, hts⟩ (c_X1_has_n l g a S (r) (by omega) (by omega) (by omega)) (cwV 1 hts gX1_kindOf_X1_has rfl rfl rfl (by decide +kernel) ⟨Nat.le_of_ble_eq_true rfl, Nat.le_of_ble_eq_true rfl⟩) (pv_r hK hP (ci := 3) (q0 := 0) rfl rfl [0, 1, 2, 3, 4, 5, 6, 7] rfl) rfl rfl hl.1 rfl (lv_room (Nat.le_of_ble_eq_true rfl)) dX1_kindOf_2 ⟨Nat.zero_le _, Nat.zero_le _⟩)) (fun r_2_1 h_2_1 => ?_)
  subst h_2_1
  refine lv_if_eq (tgt := 17) hx hb dX1_kindOf_5 (by decide) (fun c_5_1 => ?_) (fun c_5_1 => ?_)
  · exact absurd c_5_1 (by decide)
  · skip
    refine lv_aload_n hx hb dX1_kindOf_8 rfl (lv_at hl 0 rfl) ?_
    refine va_get (D := gD g) (ci := 3) (v := .ref (a 1)) (C := RX1) (T := TX1) (N := 9) hx hb hts (by decide +kernel) hown hK.1 hP 0 rfl rfl 0 (by decide) (hts (.fieldLink RX1 9 "LogForward$Rows" "kind" "[I") (by decide +kernel)) (fun _ h9 => h9) rfl dX1_kindOf_9 ?_
    refine lv_iload_n hx hb dX1_kindOf_12 rfl (lv_at hl 1 rfl) ?_
    refine ga_iald (v := (S.kd r)) hx hb hK.1 hP 1 0 rfl rfl (v_nI (by omega) (by omega)) (by rw [(c_nI (by omega))]) dX1_kindOf_13 ?_
    refine lv_goto (tgt := 18) hx hb dX1_kindOf_14 (by decide) ?_
    exact W.iret (v := (S.kd r)) hx hb hr (fun tz htz hWz => ⟨(S.kd r), rfl, rfl, htz⟩) (fun _ h => nomatch h) dX1_kindOf_18
set_option maxHeartbeats 4000000 in
set_option maxRecDepth 100000 in
theorem c_X1_unitOf (l : Launch) (g : GG) (a : Nat → Nat) (S : RS) (r : Nat) (hr1 : 1 ≤ r) (hr2 : r ≤ S.n) (hn : S.n ≤ 2000) : Met l yX1_unitOf wsX1_unitOf { frames := 1, cells := 0, slots := 0, locals := 21 } (va_Pc [.ref (a 0), .int (nI (r))] (Pr g (wR g a S))) (vp_Si (fun rv => rv = S.un r)) 0 0 (fun _ => False) := by
  refine Met.ofW (cc := cX1_unitOf) (maxL := 2) (ret := (some .int)) (by decide) rfl ?_
  intro p e s m args below meth c s₁ B hml hv
  obtain ⟨rfl, hP, hK⟩ := hv
  have hx := B.exec
  have hb := B.bytes
  have hr := B.returns
  have hts := atoms_spec (ws := wsX1_unitOf) B.pre
  have hown : s.vm.findClass RX1 = some m.cls := findClass_of_methodNamed B.named
  have hlocks := B.notSynchronized
  have hl := lv_entry ([.ref (a 0), .int (nI (r))]) (n := 2) (Nat.le_of_ble_eq_true rfl)
  rw [lg_entry_eq]
  generalize (lg_sl ([.ref (a 0), .int (nI (r))]) ++ List.replicate (2 - (lg_sl ([.ref (a 0), .int (nI (r))])).length) Slot.unset).toArray = ls at hl ⊢
  have hl : lv_has ls 2 [(0, .ref (a 0)), (1, .int (nI (r)))] := hl
  refine lv_aload_n hx hb dX1_unitOf_0 rfl (lv_at hl 0 rfl) ?_
  refine lv_iload_n hx hb dX1_unitOf_1 rfl (lv_at hl 1 rfl) ?_
  refine vp_callSi (va_Run.run (va_runV (As := [.int (nI (r))]) (rest := []) ⟨hx, hb, hml, hown, hts⟩ (c_X1_has_n l g a S (r) (by omega) (by omega) (by omega)) (cwV 1 hts gX1_unitOf_X1_has rfl rfl rfl (by decide +kernel) ⟨Nat.le_of_ble_eq_true rfl, Nat.le_of_ble_eq_true rfl⟩) (pv_r hK hP (ci := 3) (q0 := 0) rfl rfl [0, 1, 2, 3, 4, 5, 6, 7] rfl) rfl rfl hl.1 rfl (lv_room (Nat.le_of_ble_eq_true rfl)) dX1_unitOf_2 ⟨Nat.zero_le _, Nat.zero_le _⟩)) (fun r_2_1 h_2_1 => ?_)
  subst h_2_1
  refine lv_if_eq (tgt := 17) hx hb dX1_unitOf_5 (by decide) (fun c_5_1 => ?_) (fun c_5_1 => ?_)
  · exact absurd c_5_1 (by decide)
  · skip
    refine lv_aload_n hx hb dX1_unitOf_8 rfl (lv_at hl 0 rfl) ?_
    refine va_get (D := gD g) (ci := 3) (v := .ref (a 2)) (C := RX1) (T := TX1) (N := 9) hx hb hts (by decide +kernel) hown hK.1 hP 0 rfl rfl 1 (by decide) (hts (.fieldLink RX1 15 "LogForward$Rows" "unit" "[I") (by decide +kernel)) (fun _ h9 => h9) rfl dX1_unitOf_9 ?_
    refine lv_iload_n hx hb dX1_unitOf_12 rfl (lv_at hl 1 rfl) ?_
    refine ga_iald (v := (S.un r)) hx hb hK.1 hP 2 0 rfl rfl (v_nI (by omega) (by omega)) (by rw [(c_nI (by omega))]) dX1_unitOf_13 ?_
    refine lv_goto (tgt := 18) hx hb dX1_unitOf_14 (by decide) ?_
    exact W.iret (v := (S.un r)) hx hb hr (fun tz htz hWz => ⟨(S.un r), rfl, rfl, htz⟩) (fun _ h => nomatch h) dX1_unitOf_18
set_option maxHeartbeats 4000000 in
set_option maxRecDepth 100000 in
theorem c_X1_cellOf (l : Launch) (g : GG) (a : Nat → Nat) (S : RS) (r : Nat) (hr1 : 1 ≤ r) (hr2 : r ≤ S.n) (hn : S.n ≤ 2000) : Met l yX1_cellOf wsX1_cellOf { frames := 1, cells := 0, slots := 0, locals := 21 } (va_Pc [.ref (a 0), .int (nI (r))] (Pr g (wR g a S))) (vp_Si (fun rv => rv = S.ce r)) 0 0 (fun _ => False) := by
  refine Met.ofW (cc := cX1_cellOf) (maxL := 2) (ret := (some .int)) (by decide) rfl ?_
  intro p e s m args below meth c s₁ B hml hv
  obtain ⟨rfl, hP, hK⟩ := hv
  have hx := B.exec
  have hb := B.bytes
  have hr := B.returns
  have hts := atoms_spec (ws := wsX1_cellOf) B.pre
  have hown : s.vm.findClass RX1 = some m.cls := findClass_of_methodNamed B.named
  have hlocks := B.notSynchronized
  have hl := lv_entry ([.ref (a 0), .int (nI (r))]) (n := 2) (Nat.le_of_ble_eq_true rfl)
  rw [lg_entry_eq]
  generalize (lg_sl ([.ref (a 0), .int (nI (r))]) ++ List.replicate (2 - (lg_sl ([.ref (a 0), .int (nI (r))])).length) Slot.unset).toArray = ls at hl ⊢
  have hl : lv_has ls 2 [(0, .ref (a 0)), (1, .int (nI (r)))] := hl
  refine lv_aload_n hx hb dX1_cellOf_0 rfl (lv_at hl 0 rfl) ?_
  refine lv_iload_n hx hb dX1_cellOf_1 rfl (lv_at hl 1 rfl) ?_
  refine vp_callSi (va_Run.run (va_runV (As := [.int (nI (r))]) (rest := []) ⟨hx, hb, hml, hown, hts⟩ (c_X1_has_n l g a S (r) (by omega) (by omega) (by omega)) (cwV 1 hts gX1_cellOf_X1_has rfl rfl rfl (by decide +kernel) ⟨Nat.le_of_ble_eq_true rfl, Nat.le_of_ble_eq_true rfl⟩) (pv_r hK hP (ci := 3) (q0 := 0) rfl rfl [0, 1, 2, 3, 4, 5, 6, 7] rfl) rfl rfl hl.1 rfl (lv_room (Nat.le_of_ble_eq_true rfl)) dX1_cellOf_2 ⟨Nat.zero_le _, Nat.zero_le _⟩)) (fun r_2_1 h_2_1 => ?_)
  subst h_2_1
  refine lv_if_eq (tgt := 17) hx hb dX1_cellOf_5 (by decide) (fun c_5_1 => ?_) (fun c_5_1 => ?_)
  · exact absurd c_5_1 (by decide)
  · skip
    refine lv_aload_n hx hb dX1_cellOf_8 rfl (lv_at hl 0 rfl) ?_
    refine va_get (D := gD g) (ci := 3) (v := .ref (a 3)) (C := RX1) (T := TX1) (N := 9) hx hb hts (by decide +kernel) hown hK.1 hP 0 rfl rfl 2 (by decide) (hts (.fieldLink RX1 18 "LogForward$Rows" "cell" "[I") (by decide +kernel)) (fun _ h9 => h9) rfl dX1_cellOf_9 ?_
    refine lv_iload_n hx hb dX1_cellOf_12 rfl (lv_at hl 1 rfl) ?_
    refine ga_iald (v := (S.ce r)) hx hb hK.1 hP 3 0 rfl rfl (v_nI (by omega) (by omega)) (by rw [(c_nI (by omega))]) dX1_cellOf_13 ?_
    refine lv_goto (tgt := 18) hx hb dX1_cellOf_14 (by decide) ?_
    exact W.iret (v := (S.ce r)) hx hb hr (fun tz htz hWz => ⟨(S.ce r), rfl, rfl, htz⟩) (fun _ h => nomatch h) dX1_cellOf_18
set_option maxHeartbeats 4000000 in
set_option maxRecDepth 100000 in
theorem c_X1_beforeOf (l : Launch) (g : GG) (a : Nat → Nat) (S : RS) (r : Nat) (hr1 : 1 ≤ r) (hr2 : r ≤ S.n) (hn : S.n ≤ 2000) : Met l yX1_beforeOf wsX1_beforeOf { frames := 1, cells := 0, slots := 0, locals := 21 } (va_Pc [.ref (a 0), .int (nI (r))] (Pr g (wR g a S))) (vp_Sl (fun rv => rv = S.bf r)) 0 0 (fun _ => False) := by
  refine Met.ofW (cc := cX1_beforeOf) (maxL := 2) (ret := (some .long)) (by decide) rfl ?_
  intro p e s m args below meth c s₁ B hml hv
  obtain ⟨rfl, hP, hK⟩ := hv
  have hx := B.exec
  have hb := B.bytes
  have hr := B.returns
  have hts := atoms_spec (ws := wsX1_beforeOf) B.pre
  have hown : s.vm.findClass RX1 = some m.cls := findClass_of_methodNamed B.named
  have hlocks := B.notSynchronized
  have hl := lv_entry ([.ref (a 0), .int (nI (r))]) (n := 2) (Nat.le_of_ble_eq_true rfl)
  rw [lg_entry_eq]
  generalize (lg_sl ([.ref (a 0), .int (nI (r))]) ++ List.replicate (2 - (lg_sl ([.ref (a 0), .int (nI (r))])).length) Slot.unset).toArray = ls at hl ⊢
  have hl : lv_has ls 2 [(0, .ref (a 0)), (1, .int (nI (r)))] := hl
  refine lv_aload_n hx hb dX1_beforeOf_0 rfl (lv_at hl 0 rfl) ?_
  refine lv_iload_n hx hb dX1_beforeOf_1 rfl (lv_at hl 1 rfl) ?_
  refine vp_callSi (va_Run.run (va_runV (As := [.int (nI (r))]) (rest := []) ⟨hx, hb, hml, hown, hts⟩ (c_X1_has_n l g a S (r) (by omega) (by omega) (by omega)) (cwV 1 hts gX1_beforeOf_X1_has rfl rfl rfl (by decide +kernel) ⟨Nat.le_of_ble_eq_true rfl, Nat.le_of_ble_eq_true rfl⟩) (pv_r hK hP (ci := 3) (q0 := 0) rfl rfl [0, 1, 2, 3, 4, 5, 6, 7] rfl) rfl rfl hl.1 rfl (lv_room (Nat.le_of_ble_eq_true rfl)) dX1_beforeOf_2 ⟨Nat.zero_le _, Nat.zero_le _⟩)) (fun r_2_1 h_2_1 => ?_)
  subst h_2_1
  refine lv_if_eq (tgt := 17) hx hb dX1_beforeOf_5 (by decide) (fun c_5_1 => ?_) (fun c_5_1 => ?_)
  · exact absurd c_5_1 (by decide)
  · skip
    refine lv_aload_n hx hb dX1_beforeOf_8 rfl (lv_at hl 0 rfl) ?_
    refine va_get (D := gD g) (ci := 3) (v := .ref (a 4)) (C := RX1) (T := TX1) (N := 9) hx hb hts (by decide +kernel) hown hK.1 hP 0 rfl rfl 3 (by decide) (hts (.fieldLink RX1 21 "LogForward$Rows" "before" "[J") (by decide +kernel)) (fun _ h9 => h9) rfl dX1_beforeOf_9 ?_
    refine lv_iload_n hx hb dX1_beforeOf_12 rfl (lv_at hl 1 rfl) ?_
    refine ga_lald (v := (S.bf r)) hx hb hK.1 hP 4 1 rfl rfl (v_nI (by omega) (by omega)) (by rw [(c_nI (by omega))]) dX1_beforeOf_13 ?_
    refine lv_goto (tgt := 18) hx hb dX1_beforeOf_14 (by decide) ?_
    exact W.lret (v := (S.bf r)) hx hb hr (fun tz htz hWz => ⟨(S.bf r), rfl, rfl, htz⟩) (fun _ h => nomatch h) dX1_beforeOf_18
set_option maxHeartbeats 4000000 in
set_option maxRecDepth 100000 in
theorem c_X1_afterOf (l : Launch) (g : GG) (a : Nat → Nat) (S : RS) (r : Nat) (hr1 : 1 ≤ r) (hr2 : r ≤ S.n) (hn : S.n ≤ 2000) : Met l yX1_afterOf wsX1_afterOf { frames := 1, cells := 0, slots := 0, locals := 21 } (va_Pc [.ref (a 0), .int (nI (r))] (Pr g (wR g a S))) (vp_Sl (fun rv => rv = S.af r)) 0 0 (fun _ => False) := by
  refine Met.ofW (cc := cX1_afterOf) (maxL := 2) (ret := (some .long)) (by decide) rfl ?_
  intro p e s m args below meth c s₁ B hml hv
  obtain ⟨rfl, hP, hK⟩ := hv
  have hx := B.exec
  have hb := B.bytes
  have hr := B.returns
  have hts := atoms_spec (ws := wsX1_afterOf) B.pre
  have hown : s.vm.findClass RX1 = some m.cls := findClass_of_methodNamed B.named
  have hlocks := B.notSynchronized
  have hl := lv_entry ([.ref (a 0), .int (nI (r))]) (n := 2) (Nat.le_of_ble_eq_true rfl)
  rw [lg_entry_eq]
  generalize (lg_sl ([.ref (a 0), .int (nI (r))]) ++ List.replicate (2 - (lg_sl ([.ref (a 0), .int (nI (r))])).length) Slot.unset).toArray = ls at hl ⊢
  have hl : lv_has ls 2 [(0, .ref (a 0)), (1, .int (nI (r)))] := hl
  refine lv_aload_n hx hb dX1_afterOf_0 rfl (lv_at hl 0 rfl) ?_
  refine lv_iload_n hx hb dX1_afterOf_1 rfl (lv_at hl 1 rfl) ?_
  refine vp_callSi (va_Run.run (va_runV (As := [.int (nI (r))]) (rest := []) ⟨hx, hb, hml, hown, hts⟩ (c_X1_has_n l g a S (r) (by omega) (by omega) (by omega)) (cwV 1 hts gX1_afterOf_X1_has rfl rfl rfl (by decide +kernel) ⟨Nat.le_of_ble_eq_true rfl, Nat.le_of_ble_eq_true rfl⟩) (pv_r hK hP (ci := 3) (q0 := 0) rfl rfl [0, 1, 2, 3, 4, 5, 6, 7] rfl) rfl rfl hl.1 rfl (lv_room (Nat.le_of_ble_eq_true rfl)) dX1_afterOf_2 ⟨Nat.zero_le _, Nat.zero_le _⟩)) (fun r_2_1 h_2_1 => ?_)
  subst h_2_1
  refine lv_if_eq (tgt := 17) hx hb dX1_afterOf_5 (by decide) (fun c_5_1 => ?_) (fun c_5_1 => ?_)
  · exact absurd c_5_1 (by decide)
  · skip
    refine lv_aload_n hx hb dX1_afterOf_8 rfl (lv_at hl 0 rfl) ?_
    refine va_get (D := gD g) (ci := 3) (v := .ref (a 5)) (C := RX1) (T := TX1) (N := 9) hx hb hts (by decide +kernel) hown hK.1 hP 0 rfl rfl 4 (by decide) (hts (.fieldLink RX1 25 "LogForward$Rows" "after" "[J") (by decide +kernel)) (fun _ h9 => h9) rfl dX1_afterOf_9 ?_
    refine lv_iload_n hx hb dX1_afterOf_12 rfl (lv_at hl 1 rfl) ?_
    refine ga_lald (v := (S.af r)) hx hb hK.1 hP 5 1 rfl rfl (v_nI (by omega) (by omega)) (by rw [(c_nI (by omega))]) dX1_afterOf_13 ?_
    refine lv_goto (tgt := 18) hx hb dX1_afterOf_14 (by decide) ?_
    exact W.lret (v := (S.af r)) hx hb hr (fun tz htz hWz => ⟨(S.af r), rfl, rfl, htz⟩) (fun _ h => nomatch h) dX1_afterOf_18
/-- a row written behind the latest -/
def rsW (S : RS) (k u c : Int32) (b f : Int64) (z : Int32) : RS := (upd S.kd (S.n + 1) k, upd S.un (S.n + 1) u, upd S.ce (S.n + 1) c, vp_updL S.bf (S.n + 1) b, vp_updL S.af (S.n + 1) f, upd S.tn (S.n + 1) 0, upd S.bk (S.n + 1) z, S.n + 1, S.ar)
def rsT (S : RS) (r : Nat) (x : Int32) : RS := (S.kd, S.un, S.ce, S.bf, S.af, upd S.tn r x, S.bk, S.n, S.ar)
def rsP (S : RS) (k : Nat) : RS := (S.kd, S.un, S.ce, S.bf, S.af, S.tn, S.bk, S.n, max S.ar k)
def rsD (S : RS) (k : Nat) : RS := (S.kd, S.un, S.ce, S.bf, S.af, S.tn, S.bk, min S.n k, min S.ar k)
set_option maxHeartbeats 4000000 in
set_option maxRecDepth 100000 in
theorem c_X1_write (l : Launch) (g : GG) (a : Nat → Nat) (S : RS) (sz : Nat) (p1 p2 p3 : Int32) (p4 p6 : Int64) (z : Int32) (hn : S.n < 2000) (hz : vp_nar .boolean z = z) : Met l yX1_write wsX1_write { frames := 1, cells := 0, slots := 0, locals := 21 } (va_Pc [.ref (a 0), .int p1, .int p2, .int p3, .long p4, .long p6, .int z] (Pw g (wR g a S) sz)) (va_Qi (fun rv u => rv = nI (S.n + 1) ∧ u = rsW S p1 p2 p3 p4 p6 z) (Bw g (va_A (wR g a S) sz) (wR g a)) (va_A (wR g a S) sz)) 0 0 (va_A (wR g a S) sz) := by
  refine Met.ofW (cc := cX1_write) (maxL := 9) (ret := (some .int)) (by decide) rfl ?_
  intro p e s m args below meth c s₁ B hml hv
  obtain ⟨rfl, hsz, hP, hK, hD0⟩ := hv
  have hx := B.exec
  have hb := B.bytes
  have hr := B.returns
  have hts := atoms_spec (ws := wsX1_write) B.pre
  have hown : s.vm.findClass RX1 = some m.cls := findClass_of_methodNamed B.named
  have hlocks := B.notSynchronized
  subst hsz
  have hD := hD0.self (sz := s.heap.size)
  generalize hAe : va_A (wR g a S) s.heap.size = A at hD ⊢
  have hA : ∀ q : Nat, s.heap.size ≤ q → A q := fun q h => by rw [← hAe]; exact Or.inr h
  have hS : va_S A s.heap s.heap [] := va_S.rf
  have hl := lv_entry ([.ref (a 0), .int p1, .int p2, .int p3, .long p4, .long p6, .int z]) (n := 9) (Nat.le_of_ble_eq_true rfl)
  rw [lg_entry_eq]
  generalize (lg_sl ([.ref (a 0), .int p1, .int p2, .int p3, .long p4, .long p6, .int z]) ++ List.replicate (9 - (lg_sl ([.ref (a 0), .int p1, .int p2, .int p3, .long p4, .long p6, .int z])).length) Slot.unset).toArray = ls at hl ⊢
  have hl : lv_has ls 9 [(0, .ref (a 0)), (1, .int p1), (2, .int p2), (3, .int p3), (4, .long p4), (6, .long p6), (8, .int z)] := hl
  refine lv_aload_n hx hb dX1_write_0 rfl (lv_at hl 0 rfl) ?_
  refine lv_iconst (v := 1) hx hb dX1_write_1 (by decide) ?_
  refine vp_callSi (va_Run.run (va_runV (As := [.int 1]) (rest := []) ⟨hx, hb, hml, hown, hts⟩ (c_X1_hasRoomFor l g a S (1) (by omega) (by omega)) (cwV 1 hts gX1_write_X1_hasRoomFor rfl rfl rfl (by decide +kernel) ⟨Nat.le_of_ble_eq_true rfl, Nat.le_of_ble_eq_true rfl⟩) (pv_r hK hP (ci := 3) (q0 := 0) rfl rfl [0, 1, 2, 3, 4, 5, 6, 7] rfl) rfl rfl hl.1 rfl (lv_room (Nat.le_of_ble_eq_true rfl)) dX1_write_2 ⟨Nat.zero_le _, Nat.zero_le _⟩)) (fun r_2_1 h_2_1 => ?_)
  refine lv_if_ne (tgt := 10) hx hb dX1_write_5 (by decide) (fun c_5_1 => ?_) (fun c_5_1 => ?_)
  · have b_5 : (1) + S.n ≤ 2000 := bI_t h_2_1 c_5_1
    refine lv_aload_n hx hb dX1_write_10 rfl (lv_at hl 0 rfl) ?_
    refine lv_dup hx hb dX1_write_11 rfl ?_
    refine va_get (D := gD g) (ci := 3) (v := .int (nI (S.n))) (C := RX1) (T := TX1) (N := 9) hx hb hts (by decide +kernel) hown hK.1 hP 0 rfl rfl 7 (by decide) (hts (.fieldLink RX1 35 "LogForward$Rows" "latest" "I") (by decide +kernel)) (fun _ h9 => h9) rfl dX1_write_12 ?_
    refine lv_iconst (v := 1) hx hb dX1_write_15 (by decide) ?_
    refine ga_iadd (v := (nI (S.n + 1))) hx hb (nI_1 _) dX1_write_16 ?_
    refine va_put (D := gD g) (ci := 3) (v := .int (nI (S.n + 1))) (ty := .int) (C := RX1) (T := TX1) (N := 9) hx hb hts (by decide +kernel) tyX1 tyX1_ok nmX1 hown hK.1 hP hD hS 0 rfl rfl 7 (by decide) (hts (.fieldLink RX1 35 "LogForward$Rows" "latest" "I") (by decide +kernel)) (fun _ h9 => h9) rfl (by decide +kernel) rfl rfl (Nat.le_of_ble_eq_true rfl) dX1_write_17 (fun H locs hP hD hS => ?_)
    have hP : va_P (gD g) vwCl ([((a 0), .inr (3, [.ref (a 1), .ref (a 2), .ref (a 3), .ref (a 4), .ref (a 5), .ref (a 6), .ref (a 7), .int (nI (S.n + 1)), .int (nI (S.ar))])), ((a 1), .inl (gI g, 2001, .inl S.kd)), ((a 2), .inl (gI g, 2001, .inl S.un)), ((a 3), .inl (gI g, 2001, .inl S.ce)), ((a 4), .inl (gJ g, 2001, .inr (.inl S.bf))), ((a 5), .inl (gJ g, 2001, .inr (.inl S.af))), ((a 6), .inl (gI g, 2001, .inl S.tn)), ((a 7), .inl (gZ g, 2001, .inl S.bk))]) H := hP
    have hD : va_D A ([((a 0), .inr (3, [.ref (a 1), .ref (a 2), .ref (a 3), .ref (a 4), .ref (a 5), .ref (a 6), .ref (a 7), .int (nI (S.n + 1)), .int (nI (S.ar))])), ((a 1), .inl (gI g, 2001, .inl S.kd)), ((a 2), .inl (gI g, 2001, .inl S.un)), ((a 3), .inl (gI g, 2001, .inl S.ce)), ((a 4), .inl (gJ g, 2001, .inr (.inl S.bf))), ((a 5), .inl (gJ g, 2001, .inr (.inl S.af))), ((a 6), .inl (gI g, 2001, .inl S.tn)), ((a 7), .inl (gZ g, 2001, .inl S.bk))]) := hD
    refine lv_aload_n hx hb dX1_write_20 rfl (lv_at hl 0 rfl) ?_
    refine va_get (D := gD g) (ci := 3) (v := .ref (a 1)) (C := RX1) (T := TX1) (N := 9) hx hb hts (by decide +kernel) hown hK.1 hP 0 rfl rfl 0 (by decide) (hts (.fieldLink RX1 9 "LogForward$Rows" "kind" "[I") (by decide +kernel)) (fun _ h9 => h9) rfl dX1_write_21 ?_
    refine lv_aload_n hx hb dX1_write_24 rfl (lv_at hl 0 rfl) ?_
    refine va_get (D := gD g) (ci := 3) (v := .int (nI (S.n + 1))) (C := RX1) (T := TX1) (N := 9) hx hb hts (by decide +kernel) hown hK.1 hP 0 rfl rfl 7 (by decide) (hts (.fieldLink RX1 35 "LogForward$Rows" "latest" "I") (by decide +kernel)) (fun _ h9 => h9) rfl dX1_write_25 ?_
    refine lv_iload_n hx hb dX1_write_28 rfl (lv_at hl 1 rfl) ?_
    refine ga_iast (j := S.n + 1) hx hb hK.1 hP hD hS 1 0 rfl rfl (v_nI (by omega) (by omega)) (c_nI (by omega)) dX1_write_29 (fun H locs hP hD hS => ?_)
    have hP : va_P (gD g) vwCl ([((a 0), .inr (3, [.ref (a 1), .ref (a 2), .ref (a 3), .ref (a 4), .ref (a 5), .ref (a 6), .ref (a 7), .int (nI (S.n + 1)), .int (nI (S.ar))])), ((a 1), .inl (gI g, 2001, .inl (upd S.kd (S.n + 1) p1))), ((a 2), .inl (gI g, 2001, .inl S.un)), ((a 3), .inl (gI g, 2001, .inl S.ce)), ((a 4), .inl (gJ g, 2001, .inr (.inl S.bf))), ((a 5), .inl (gJ g, 2001, .inr (.inl S.af))), ((a 6), .inl (gI g, 2001, .inl S.tn)), ((a 7), .inl (gZ g, 2001, .inl S.bk))]) H := hP
    have hD : va_D A ([((a 0), .inr (3, [.ref (a 1), .ref (a 2), .ref (a 3), .ref (a 4), .ref (a 5), .ref (a 6), .ref (a 7), .int (nI (S.n + 1)), .int (nI (S.ar))])), ((a 1), .inl (gI g, 2001, .inl (upd S.kd (S.n + 1) p1))), ((a 2), .inl (gI g, 2001, .inl S.un)), ((a 3), .inl (gI g, 2001, .inl S.ce)), ((a 4), .inl (gJ g, 2001, .inr (.inl S.bf))), ((a 5), .inl (gJ g, 2001, .inr (.inl S.af))), ((a 6), .inl (gI g, 2001, .inl S.tn)), ((a 7), .inl (gZ g, 2001, .inl S.bk))]) := hD
    refine lv_aload_n hx hb dX1_write_30 rfl (lv_at hl 0 rfl) ?_
    refine va_get (D := gD g) (ci := 3) (v := .ref (a 2)) (C := RX1) (T := TX1) (N := 9) hx hb hts (by decide +kernel) hown hK.1 hP 0 rfl rfl 1 (by decide) (hts (.fieldLink RX1 15 "LogForward$Rows" "unit" "[I") (by decide +kernel)) (fun _ h9 => h9) rfl dX1_write_31 ?_
    refine lv_aload_n hx hb dX1_write_34 rfl (lv_at hl 0 rfl) ?_
    refine va_get (D := gD g) (ci := 3) (v := .int (nI (S.n + 1))) (C := RX1) (T := TX1) (N := 9) hx hb hts (by decide +kernel) hown hK.1 hP 0 rfl rfl 7 (by decide) (hts (.fieldLink RX1 35 "LogForward$Rows" "latest" "I") (by decide +kernel)) (fun _ h9 => h9) rfl dX1_write_35 ?_
    refine lv_iload_n hx hb dX1_write_38 rfl (lv_at hl 2 rfl) ?_
    refine ga_iast (j := S.n + 1) hx hb hK.1 hP hD hS 2 0 rfl rfl (v_nI (by omega) (by omega)) (c_nI (by omega)) dX1_write_39 (fun H locs hP hD hS => ?_)
    have hP : va_P (gD g) vwCl ([((a 0), .inr (3, [.ref (a 1), .ref (a 2), .ref (a 3), .ref (a 4), .ref (a 5), .ref (a 6), .ref (a 7), .int (nI (S.n + 1)), .int (nI (S.ar))])), ((a 1), .inl (gI g, 2001, .inl (upd S.kd (S.n + 1) p1))), ((a 2), .inl (gI g, 2001, .inl (upd S.un (S.n + 1) p2))), ((a 3), .inl (gI g, 2001, .inl S.ce)), ((a 4), .inl (gJ g, 2001, .inr (.inl S.bf))), ((a 5), .inl (gJ g, 2001, .inr (.inl S.af))), ((a 6), .inl (gI g, 2001, .inl S.tn)), ((a 7), .inl (gZ g, 2001, .inl S.bk))]) H := hP
    have hD : va_D A ([((a 0), .inr (3, [.ref (a 1), .ref (a 2), .ref (a 3), .ref (a 4), .ref (a 5), .ref (a 6), .ref (a 7), .int (nI (S.n + 1)), .int (nI (S.ar))])), ((a 1), .inl (gI g, 2001, .inl (upd S.kd (S.n + 1) p1))), ((a 2), .inl (gI g, 2001, .inl (upd S.un (S.n + 1) p2))), ((a 3), .inl (gI g, 2001, .inl S.ce)), ((a 4), .inl (gJ g, 2001, .inr (.inl S.bf))), ((a 5), .inl (gJ g, 2001, .inr (.inl S.af))), ((a 6), .inl (gI g, 2001, .inl S.tn)), ((a 7), .inl (gZ g, 2001, .inl S.bk))]) := hD
    refine lv_aload_n hx hb dX1_write_40 rfl (lv_at hl 0 rfl) ?_
    refine va_get (D := gD g) (ci := 3) (v := .ref (a 3)) (C := RX1) (T := TX1) (N := 9) hx hb hts (by decide +kernel) hown hK.1 hP 0 rfl rfl 2 (by decide) (hts (.fieldLink RX1 18 "LogForward$Rows" "cell" "[I") (by decide +kernel)) (fun _ h9 => h9) rfl dX1_write_41 ?_
    refine lv_aload_n hx hb dX1_write_44 rfl (lv_at hl 0 rfl) ?_
    refine va_get (D := gD g) (ci := 3) (v := .int (nI (S.n + 1))) (C := RX1) (T := TX1) (N := 9) hx hb hts (by decide +kernel) hown hK.1 hP 0 rfl rfl 7 (by decide) (hts (.fieldLink RX1 35 "LogForward$Rows" "latest" "I") (by decide +kernel)) (fun _ h9 => h9) rfl dX1_write_45 ?_
    refine lv_iload_n hx hb dX1_write_48 rfl (lv_at hl 3 rfl) ?_
    refine ga_iast (j := S.n + 1) hx hb hK.1 hP hD hS 3 0 rfl rfl (v_nI (by omega) (by omega)) (c_nI (by omega)) dX1_write_49 (fun H locs hP hD hS => ?_)
    have hP : va_P (gD g) vwCl ([((a 0), .inr (3, [.ref (a 1), .ref (a 2), .ref (a 3), .ref (a 4), .ref (a 5), .ref (a 6), .ref (a 7), .int (nI (S.n + 1)), .int (nI (S.ar))])), ((a 1), .inl (gI g, 2001, .inl (upd S.kd (S.n + 1) p1))), ((a 2), .inl (gI g, 2001, .inl (upd S.un (S.n + 1) p2))), ((a 3), .inl (gI g, 2001, .inl (upd S.ce (S.n + 1) p3))), ((a 4), .inl (gJ g, 2001, .inr (.inl S.bf))), ((a 5), .inl (gJ g, 2001, .inr (.inl S.af))), ((a 6), .inl (gI g, 2001, .inl S.tn)), ((a 7), .inl (gZ g, 2001, .inl S.bk))]) H := hP
    have hD : va_D A ([((a 0), .inr (3, [.ref (a 1), .ref (a 2), .ref (a 3), .ref (a 4), .ref (a 5), .ref (a 6), .ref (a 7), .int (nI (S.n + 1)), .int (nI (S.ar))])), ((a 1), .inl (gI g, 2001, .inl (upd S.kd (S.n + 1) p1))), ((a 2), .inl (gI g, 2001, .inl (upd S.un (S.n + 1) p2))), ((a 3), .inl (gI g, 2001, .inl (upd S.ce (S.n + 1) p3))), ((a 4), .inl (gJ g, 2001, .inr (.inl S.bf))), ((a 5), .inl (gJ g, 2001, .inr (.inl S.af))), ((a 6), .inl (gI g, 2001, .inl S.tn)), ((a 7), .inl (gZ g, 2001, .inl S.bk))]) := hD
    refine lv_aload_n hx hb dX1_write_50 rfl (lv_at hl 0 rfl) ?_
    refine va_get (D := gD g) (ci := 3) (v := .ref (a 4)) (C := RX1) (T := TX1) (N := 9) hx hb hts (by decide +kernel) hown hK.1 hP 0 rfl rfl 3 (by decide) (hts (.fieldLink RX1 21 "LogForward$Rows" "before" "[J") (by decide +kernel)) (fun _ h9 => h9) rfl dX1_write_51 ?_
    refine lv_aload_n hx hb dX1_write_54 rfl (lv_at hl 0 rfl) ?_
    refine va_get (D := gD g) (ci := 3) (v := .int (nI (S.n + 1))) (C := RX1) (T := TX1) (N := 9) hx hb hts (by decide +kernel) hown hK.1 hP 0 rfl rfl 7 (by decide) (hts (.fieldLink RX1 35 "LogForward$Rows" "latest" "I") (by decide +kernel)) (fun _ h9 => h9) rfl dX1_write_55 ?_
    refine lv_lload hx hb dX1_write_58 (lv_at hl 4 rfl) ?_
    refine ga_last (j := S.n + 1) hx hb hK.1 hP hD hS 4 1 rfl rfl (v_nI (by omega) (by omega)) (c_nI (by omega)) dX1_write_60 (fun H locs hP hD hS => ?_)
    have hP : va_P (gD g) vwCl ([((a 0), .inr (3, [.ref (a 1), .ref (a 2), .ref (a 3), .ref (a 4), .ref (a 5), .ref (a 6), .ref (a 7), .int (nI (S.n + 1)), .int (nI (S.ar))])), ((a 1), .inl (gI g, 2001, .inl (upd S.kd (S.n + 1) p1))), ((a 2), .inl (gI g, 2001, .inl (upd S.un (S.n + 1) p2))), ((a 3), .inl (gI g, 2001, .inl (upd S.ce (S.n + 1) p3))), ((a 4), .inl (gJ g, 2001, .inr (.inl (vp_updL S.bf (S.n + 1) p4)))), ((a 5), .inl (gJ g, 2001, .inr (.inl S.af))), ((a 6), .inl (gI g, 2001, .inl S.tn)), ((a 7), .inl (gZ g, 2001, .inl S.bk))]) H := hP
    have hD : va_D A ([((a 0), .inr (3, [.ref (a 1), .ref (a 2), .ref (a 3), .ref (a 4), .ref (a 5), .ref (a 6), .ref (a 7), .int (nI (S.n + 1)), .int (nI (S.ar))])), ((a 1), .inl (gI g, 2001, .inl (upd S.kd (S.n + 1) p1))), ((a 2), .inl (gI g, 2001, .inl (upd S.un (S.n + 1) p2))), ((a 3), .inl (gI g, 2001, .inl (upd S.ce (S.n + 1) p3))), ((a 4), .inl (gJ g, 2001, .inr (.inl (vp_updL S.bf (S.n + 1) p4)))), ((a 5), .inl (gJ g, 2001, .inr (.inl S.af))), ((a 6), .inl (gI g, 2001, .inl S.tn)), ((a 7), .inl (gZ g, 2001, .inl S.bk))]) := hD
    refine lv_aload_n hx hb dX1_write_61 rfl (lv_at hl 0 rfl) ?_
    refine va_get (D := gD g) (ci := 3) (v := .ref (a 5)) (C := RX1) (T := TX1) (N := 9) hx hb hts (by decide +kernel) hown hK.1 hP 0 rfl rfl 4 (by decide) (hts (.fieldLink RX1 25 "LogForward$Rows" "after" "[J") (by decide +kernel)) (fun _ h9 => h9) rfl dX1_write_62 ?_
    refine lv_aload_n hx hb dX1_write_65 rfl (lv_at hl 0 rfl) ?_
    refine va_get (D := gD g) (ci := 3) (v := .int (nI (S.n + 1))) (C := RX1) (T := TX1) (N := 9) hx hb hts (by decide +kernel) hown hK.1 hP 0 rfl rfl 7 (by decide) (hts (.fieldLink RX1 35 "LogForward$Rows" "latest" "I") (by decide +kernel)) (fun _ h9 => h9) rfl dX1_write_66 ?_
    refine lv_lload hx hb dX1_write_69 (lv_at hl 5 rfl) ?_
    refine ga_last (j := S.n + 1) hx hb hK.1 hP hD hS 5 1 rfl rfl (v_nI (by omega) (by omega)) (c_nI (by omega)) dX1_write_71 (fun H locs hP hD hS => ?_)
    have hP : va_P (gD g) vwCl ([((a 0), .inr (3, [.ref (a 1), .ref (a 2), .ref (a 3), .ref (a 4), .ref (a 5), .ref (a 6), .ref (a 7), .int (nI (S.n + 1)), .int (nI (S.ar))])), ((a 1), .inl (gI g, 2001, .inl (upd S.kd (S.n + 1) p1))), ((a 2), .inl (gI g, 2001, .inl (upd S.un (S.n + 1) p2))), ((a 3), .inl (gI g, 2001, .inl (upd S.ce (S.n + 1) p3))), ((a 4), .inl (gJ g, 2001, .inr (.inl (vp_updL S.bf (S.n + 1) p4)))), ((a 5), .inl (gJ g, 2001, .inr (.inl (vp_updL S.af (S.n + 1) p6)))), ((a 6), .inl (gI g, 2001, .inl S.tn)), ((a 7), .inl (gZ g, 2001, .inl S.bk))]) H := hP
    have hD : va_D A ([((a 0), .inr (3, [.ref (a 1), .ref (a 2), .ref (a 3), .ref (a 4), .ref (a 5), .ref (a 6), .ref (a 7), .int (nI (S.n + 1)), .int (nI (S.ar))])), ((a 1), .inl (gI g, 2001, .inl (upd S.kd (S.n + 1) p1))), ((a 2), .inl (gI g, 2001, .inl (upd S.un (S.n + 1) p2))), ((a 3), .inl (gI g, 2001, .inl (upd S.ce (S.n + 1) p3))), ((a 4), .inl (gJ g, 2001, .inr (.inl (vp_updL S.bf (S.n + 1) p4)))), ((a 5), .inl (gJ g, 2001, .inr (.inl (vp_updL S.af (S.n + 1) p6)))), ((a 6), .inl (gI g, 2001, .inl S.tn)), ((a 7), .inl (gZ g, 2001, .inl S.bk))]) := hD
    refine lv_aload_n hx hb dX1_write_72 rfl (lv_at hl 0 rfl) ?_
    refine va_get (D := gD g) (ci := 3) (v := .ref (a 7)) (C := RX1) (T := TX1) (N := 9) hx hb hts (by decide +kernel) hown hK.1 hP 0 rfl rfl 6 (by decide) (hts (.fieldLink RX1 31 "LogForward$Rows" "backingOut" "[Z") (by decide +kernel)) (fun _ h9 => h9) rfl dX1_write_73 ?_
    refine lv_aload_n hx hb dX1_write_76 rfl (lv_at hl 0 rfl) ?_
    refine va_get (D := gD g) (ci := 3) (v := .int (nI (S.n + 1))) (C := RX1) (T := TX1) (N := 9) hx hb hts (by decide +kernel) hown hK.1 hP 0 rfl rfl 7 (by decide) (hts (.fieldLink RX1 35 "LogForward$Rows" "latest" "I") (by decide +kernel)) (fun _ h9 => h9) rfl dX1_write_77 ?_
    refine lv_iload hx hb dX1_write_80 (lv_at hl 6 rfl) ?_
    refine ga_zast (j := S.n + 1) hx hb hK.1 hP hD hS 7 2 rfl rfl (v_nI (by omega) (by omega)) (c_nI (by omega)) hz dX1_write_82 (fun H locs hP hD hS => ?_)
    have hP : va_P (gD g) vwCl ([((a 0), .inr (3, [.ref (a 1), .ref (a 2), .ref (a 3), .ref (a 4), .ref (a 5), .ref (a 6), .ref (a 7), .int (nI (S.n + 1)), .int (nI (S.ar))])), ((a 1), .inl (gI g, 2001, .inl (upd S.kd (S.n + 1) p1))), ((a 2), .inl (gI g, 2001, .inl (upd S.un (S.n + 1) p2))), ((a 3), .inl (gI g, 2001, .inl (upd S.ce (S.n + 1) p3))), ((a 4), .inl (gJ g, 2001, .inr (.inl (vp_updL S.bf (S.n + 1) p4)))), ((a 5), .inl (gJ g, 2001, .inr (.inl (vp_updL S.af (S.n + 1) p6)))), ((a 6), .inl (gI g, 2001, .inl S.tn)), ((a 7), .inl (gZ g, 2001, .inl (upd S.bk (S.n + 1) z)))]) H := hP
    have hD : va_D A ([((a 0), .inr (3, [.ref (a 1), .ref (a 2), .ref (a 3), .ref (a 4), .ref (a 5), .ref (a 6), .ref (a 7), .int (nI (S.n + 1)), .int (nI (S.ar))])), ((a 1), .inl (gI g, 2001, .inl (upd S.kd (S.n + 1) p1))), ((a 2), .inl (gI g, 2001, .inl (upd S.un (S.n + 1) p2))), ((a 3), .inl (gI g, 2001, .inl (upd S.ce (S.n + 1) p3))), ((a 4), .inl (gJ g, 2001, .inr (.inl (vp_updL S.bf (S.n + 1) p4)))), ((a 5), .inl (gJ g, 2001, .inr (.inl (vp_updL S.af (S.n + 1) p6)))), ((a 6), .inl (gI g, 2001, .inl S.tn)), ((a 7), .inl (gZ g, 2001, .inl (upd S.bk (S.n + 1) z)))]) := hD
    refine lv_aload_n hx hb dX1_write_83 rfl (lv_at hl 0 rfl) ?_
    refine va_get (D := gD g) (ci := 3) (v := .ref (a 6)) (C := RX1) (T := TX1) (N := 9) hx hb hts (by decide +kernel) hown hK.1 hP 0 rfl rfl 5 (by decide) (hts (.fieldLink RX1 28 "LogForward$Rows" "tornCopies" "[I") (by decide +kernel)) (fun _ h9 => h9) rfl dX1_write_84 ?_
    refine lv_aload_n hx hb dX1_write_87 rfl (lv_at hl 0 rfl) ?_
    refine va_get (D := gD g) (ci := 3) (v := .int (nI (S.n + 1))) (C := RX1) (T := TX1) (N := 9) hx hb hts (by decide +kernel) hown hK.1 hP 0 rfl rfl 7 (by decide) (hts (.fieldLink RX1 35 "LogForward$Rows" "latest" "I") (by decide +kernel)) (fun _ h9 => h9) rfl dX1_write_88 ?_
    refine lv_iconst (v := 0) hx hb dX1_write_91 (by decide) ?_
    refine ga_iast (j := S.n + 1) hx hb hK.1 hP hD hS 6 0 rfl rfl (v_nI (by omega) (by omega)) (c_nI (by omega)) dX1_write_92 (fun H locs hP hD hS => ?_)
    have hP : va_P (gD g) vwCl ([((a 0), .inr (3, [.ref (a 1), .ref (a 2), .ref (a 3), .ref (a 4), .ref (a 5), .ref (a 6), .ref (a 7), .int (nI (S.n + 1)), .int (nI (S.ar))])), ((a 1), .inl (gI g, 2001, .inl (upd S.kd (S.n + 1) p1))), ((a 2), .inl (gI g, 2001, .inl (upd S.un (S.n + 1) p2))), ((a 3), .inl (gI g, 2001, .inl (upd S.ce (S.n + 1) p3))), ((a 4), .inl (gJ g, 2001, .inr (.inl (vp_updL S.bf (S.n + 1) p4)))), ((a 5), .inl (gJ g, 2001, .inr (.inl (vp_updL S.af (S.n + 1) p6)))), ((a 6), .inl (gI g, 2001, .inl (upd S.tn (S.n + 1) 0))), ((a 7), .inl (gZ g, 2001, .inl (upd S.bk (S.n + 1) z)))]) H := hP
    have hD : va_D A ([((a 0), .inr (3, [.ref (a 1), .ref (a 2), .ref (a 3), .ref (a 4), .ref (a 5), .ref (a 6), .ref (a 7), .int (nI (S.n + 1)), .int (nI (S.ar))])), ((a 1), .inl (gI g, 2001, .inl (upd S.kd (S.n + 1) p1))), ((a 2), .inl (gI g, 2001, .inl (upd S.un (S.n + 1) p2))), ((a 3), .inl (gI g, 2001, .inl (upd S.ce (S.n + 1) p3))), ((a 4), .inl (gJ g, 2001, .inr (.inl (vp_updL S.bf (S.n + 1) p4)))), ((a 5), .inl (gJ g, 2001, .inr (.inl (vp_updL S.af (S.n + 1) p6)))), ((a 6), .inl (gI g, 2001, .inl (upd S.tn (S.n + 1) 0))), ((a 7), .inl (gZ g, 2001, .inl (upd S.bk (S.n + 1) z)))]) := hD
    refine lv_aload_n hx hb dX1_write_93 rfl (lv_at hl 0 rfl) ?_
    refine va_get (D := gD g) (ci := 3) (v := .int (nI (S.n + 1))) (C := RX1) (T := TX1) (N := 9) hx hb hts (by decide +kernel) hown hK.1 hP 0 rfl rfl 7 (by decide) (hts (.fieldLink RX1 35 "LogForward$Rows" "latest" "I") (by decide +kernel)) (fun _ h9 => h9) rfl dX1_write_94 ?_
    have hP9 : va_P (gD g) vwCl (wR g a ((upd S.kd (S.n + 1) p1), (upd S.un (S.n + 1) p2), (upd S.ce (S.n + 1) p3), (vp_updL S.bf (S.n + 1) p4), (vp_updL S.af (S.n + 1) p6), (upd S.tn (S.n + 1) 0), (upd S.bk (S.n + 1) z), S.n + 1, S.ar)) H := hP
    have hD9 : va_D A (wR g a ((upd S.kd (S.n + 1) p1), (upd S.un (S.n + 1) p2), (upd S.ce (S.n + 1) p3), (vp_updL S.bf (S.n + 1) p4), (vp_updL S.af (S.n + 1) p6), (upd S.tn (S.n + 1) 0), (upd S.bk (S.n + 1) z), S.n + 1, S.ar)) := hD
    exact W.iret (v := (nI (S.n + 1))) hx hb hr (fun t ht hW => ⟨⟨(nI (S.n + 1)), ((upd S.kd (S.n + 1) p1), (upd S.un (S.n + 1) p2), (upd S.ce (S.n + 1) p3), (vp_updL S.bf (S.n + 1) p4), (vp_updL S.af (S.n + 1) p6), (upd S.tn (S.n + 1) 0), (upd S.bk (S.n + 1) z), S.n + 1, S.ar), rfl, ⟨rfl, rfl⟩, by rw [ht]; exact hP9, hD9⟩, hS.F ht⟩) hS.2.2 dX1_write_97
  · have b_5 : ¬ ((1) + S.n ≤ 2000) := bI_f h_2_1 c_5_1
    exact absurd b_5 (by omega)
set_option maxHeartbeats 4000000 in
set_option maxRecDepth 100000 in
theorem c_X1_putAway (l : Launch) (g : GG) (a : Nat → Nat) (S : RS) (sz : Nat) (k : Nat) (hk : k ≤ 2000) (ha : S.ar ≤ 2000) : Met l yX1_putAway wsX1_putAway { frames := 1, cells := 0, slots := 0, locals := 21 } (va_Pc [.ref (a 0), .int (nI (k))] (Pw g (wR g a S) sz)) (va_Qv (fun u => u = rsP S k) (Bw g (va_A (wR g a S) sz) (wR g a)) (va_A (wR g a S) sz)) 0 0 (va_A (wR g a S) sz) := by
  refine Met.ofW (cc := cX1_putAway) (maxL := 2) (ret := none) (by decide) rfl ?_
  intro p e s m args below meth c s₁ B hml hv
  obtain ⟨rfl, hsz, hP, hK, hD0⟩ := hv
  have hx := B.exec
  have hb := B.bytes
  have hr := B.returns
  have hts := atoms_spec (ws := wsX1_putAway) B.pre
  have hown : s.vm.findClass RX1 = some m.cls := findClass_of_methodNamed B.named
  have hlocks := B.notSynchronized
  subst hsz
  have hD := hD0.self (sz := s.heap.size)
  generalize hAe : va_A (wR g a S) s.heap.size = A at hD ⊢
  have hA : ∀ q : Nat, s.heap.size ≤ q → A q := fun q h => by rw [← hAe]; exact Or.inr h
  have hS : va_S A s.heap s.heap [] := va_S.rf
  have hl := lv_entry ([.ref (a 0), .int (nI (k))]) (n := 2) (Nat.le_of_ble_eq_true rfl)
  rw [lg_entry_eq]
  generalize (lg_sl ([.ref (a 0), .int (nI (k))]) ++ List.replicate (2 - (lg_sl ([.ref (a 0), .int (nI (k))])).length) Slot.unset).toArray = ls at hl ⊢
  have hl : lv_has ls 2 [(0, .ref (a 0)), (1, .int (nI (k)))] := hl
  refine lv_aload_n hx hb dX1_putAway_0 rfl (lv_at hl 0 rfl) ?_
  refine lv_aload_n hx hb dX1_putAway_1 rfl (lv_at hl 0 rfl) ?_
  refine va_get (D := gD g) (ci := 3) (v := .int (nI (S.ar))) (C := RX1) (T := TX1) (N := 9) hx hb hts (by decide +kernel) hown hK.1 hP 0 rfl rfl 8 (by decide) (hts (.fieldLink RX1 39 "LogForward$Rows" "archived" "I") (by decide +kernel)) (fun _ h9 => h9) rfl dX1_putAway_2 ?_
  refine lv_iload_n hx hb dX1_putAway_5 rfl (lv_at hl 1 rfl) ?_
  refine ga_mmax (v := (nI (max (S.ar) (k)))) hx hb (hml.trans hl.1.symm) hown (hts (.methodLink RX1 49 Lib.Math.max.name) (by decide +kernel)) (hts (.static Lib.Math.max.name) (by decide +kernel)) (hts (.initialized "java/lang/Math") (by decide +kernel)) (hts (.code Lib.Math.max.name Lib.Math.max.code 2 (some .int)) (by decide +kernel)) (Nat.le_of_ble_eq_true rfl) (Nat.le_of_ble_eq_true rfl) (Nat.zero_le _) (Nat.zero_le _) (mx_nI (by omega) (by omega)) dX1_putAway_6 ?_
  refine va_put (D := gD g) (ci := 3) (v := .int (nI (max (S.ar) (k)))) (ty := .int) (C := RX1) (T := TX1) (N := 9) hx hb hts (by decide +kernel) tyX1 tyX1_ok nmX1 hown hK.1 hP hD hS 0 rfl rfl 8 (by decide) (hts (.fieldLink RX1 39 "LogForward$Rows" "archived" "I") (by decide +kernel)) (fun _ h9 => h9) rfl (by decide +kernel) rfl rfl (Nat.le_of_ble_eq_true rfl) dX1_putAway_9 (fun H locs hP hD hS => ?_)
  have hP : va_P (gD g) vwCl ([((a 0), .inr (3, [.ref (a 1), .ref (a 2), .ref (a 3), .ref (a 4), .ref (a 5), .ref (a 6), .ref (a 7), .int (nI (S.n)), .int (nI (max (S.ar) (k)))])), ((a 1), .inl (gI g, 2001, .inl S.kd)), ((a 2), .inl (gI g, 2001, .inl S.un)), ((a 3), .inl (gI g, 2001, .inl S.ce)), ((a 4), .inl (gJ g, 2001, .inr (.inl S.bf))), ((a 5), .inl (gJ g, 2001, .inr (.inl S.af))), ((a 6), .inl (gI g, 2001, .inl S.tn)), ((a 7), .inl (gZ g, 2001, .inl S.bk))]) H := hP
  have hD : va_D A ([((a 0), .inr (3, [.ref (a 1), .ref (a 2), .ref (a 3), .ref (a 4), .ref (a 5), .ref (a 6), .ref (a 7), .int (nI (S.n)), .int (nI (max (S.ar) (k)))])), ((a 1), .inl (gI g, 2001, .inl S.kd)), ((a 2), .inl (gI g, 2001, .inl S.un)), ((a 3), .inl (gI g, 2001, .inl S.ce)), ((a 4), .inl (gJ g, 2001, .inr (.inl S.bf))), ((a 5), .inl (gJ g, 2001, .inr (.inl S.af))), ((a 6), .inl (gI g, 2001, .inl S.tn)), ((a 7), .inl (gZ g, 2001, .inl S.bk))]) := hD
  have hP9 : va_P (gD g) vwCl (wR g a (S.kd, S.un, S.ce, S.bf, S.af, S.tn, S.bk, S.n, max (S.ar) (k))) H := hP
  have hD9 : va_D A (wR g a (S.kd, S.un, S.ce, S.bf, S.af, S.tn, S.bk, S.n, max (S.ar) (k))) := hD
  exact W.vret hx hb hr (fun t ht hW => ⟨⟨(S.kd, S.un, S.ce, S.bf, S.af, S.tn, S.bk, S.n, max (S.ar) (k)), rfl, rfl, by rw [ht]; exact hP9, hD9⟩, hS.F ht⟩) hS.2.2 dX1_putAway_12
set_option maxHeartbeats 4000000 in
set_option maxRecDepth 100000 in
theorem c_X1_dropBehind (l : Launch) (g : GG) (a : Nat → Nat) (S : RS) (sz : Nat) (k : Nat) (hk : k ≤ 2000) (hn : S.n ≤ 2000) (ha : S.ar ≤ 2000) : Met l yX1_dropBehind wsX1_dropBehind { frames := 1, cells := 0, slots := 0, locals := 21 } (va_Pc [.ref (a 0), .int (nI (k))] (Pw g (wR g a S) sz)) (va_Qv (fun u => u = rsD S k) (Bw g (va_A (wR g a S) sz) (wR g a)) (va_A (wR g a S) sz)) 0 0 (va_A (wR g a S) sz) := by
  refine Met.ofW (cc := cX1_dropBehind) (maxL := 2) (ret := none) (by decide) rfl ?_
  intro p e s m args below meth c s₁ B hml hv
  obtain ⟨rfl, hsz, hP, hK, hD0⟩ := hv
  have hx := B.exec
  have hb := B.bytes
  have hr := B.returns
  have hts := atoms_spec (ws := wsX1_dropBehind) B.pre
  have hown : s.vm.findClass RX1 = some m.cls := findClass_of_methodNamed B.named
  have hlocks := B.notSynchronized
  subst hsz
  have hD := hD0.self (sz := s.heap.size)
  generalize hAe : va_A (wR g a S) s.heap.size = A at hD ⊢
  have hA : ∀ q : Nat, s.heap.size ≤ q → A q := fun q h => by rw [← hAe]; exact Or.inr h
  have hS : va_S A s.heap s.heap [] := va_S.rf
  have hl := lv_entry ([.ref (a 0), .int (nI (k))]) (n := 2) (Nat.le_of_ble_eq_true rfl)
  rw [lg_entry_eq]
  generalize (lg_sl ([.ref (a 0), .int (nI (k))]) ++ List.replicate (2 - (lg_sl ([.ref (a 0), .int (nI (k))])).length) Slot.unset).toArray = ls at hl ⊢
  have hl : lv_has ls 2 [(0, .ref (a 0)), (1, .int (nI (k)))] := hl
  refine lv_aload_n hx hb dX1_dropBehind_0 rfl (lv_at hl 0 rfl) ?_
  refine lv_aload_n hx hb dX1_dropBehind_1 rfl (lv_at hl 0 rfl) ?_
  refine va_get (D := gD g) (ci := 3) (v := .int (nI (S.n))) (C := RX1) (T := TX1) (N := 9) hx hb hts (by decide +kernel) hown hK.1 hP 0 rfl rfl 7 (by decide) (hts (.fieldLink RX1 35 "LogForward$Rows" "latest" "I") (by decide +kernel)) (fun _ h9 => h9) rfl dX1_dropBehind_2 ?_
  refine lv_iload_n hx hb dX1_dropBehind_5 rfl (lv_at hl 1 rfl) ?_
  refine ga_mmin (v := (nI (min (S.n) (k)))) hx hb (hml.trans hl.1.symm) hown (hts (.methodLink RX1 55 Lib.Math.min.name) (by decide +kernel)) (hts (.static Lib.Math.min.name) (by decide +kernel)) (hts (.initialized "java/lang/Math") (by decide +kernel)) (hts (.code Lib.Math.min.name Lib.Math.min.code 2 (some .int)) (by decide +kernel)) (Nat.le_of_ble_eq_true rfl) (Nat.le_of_ble_eq_true rfl) (Nat.zero_le _) (Nat.zero_le _) (mn_nI (by omega) (by omega)) dX1_dropBehind_6 ?_
  refine va_put (D := gD g) (ci := 3) (v := .int (nI (min (S.n) (k)))) (ty := .int) (C := RX1) (T := TX1) (N := 9) hx hb hts (by decide +kernel) tyX1 tyX1_ok nmX1 hown hK.1 hP hD hS 0 rfl rfl 7 (by decide) (hts (.fieldLink RX1 35 "LogForward$Rows" "latest" "I") (by decide +kernel)) (fun _ h9 => h9) rfl (by decide +kernel) rfl rfl (Nat.le_of_ble_eq_true rfl) dX1_dropBehind_9 (fun H locs hP hD hS => ?_)
  have hP : va_P (gD g) vwCl ([((a 0), .inr (3, [.ref (a 1), .ref (a 2), .ref (a 3), .ref (a 4), .ref (a 5), .ref (a 6), .ref (a 7), .int (nI (min (S.n) (k))), .int (nI (S.ar))])), ((a 1), .inl (gI g, 2001, .inl S.kd)), ((a 2), .inl (gI g, 2001, .inl S.un)), ((a 3), .inl (gI g, 2001, .inl S.ce)), ((a 4), .inl (gJ g, 2001, .inr (.inl S.bf))), ((a 5), .inl (gJ g, 2001, .inr (.inl S.af))), ((a 6), .inl (gI g, 2001, .inl S.tn)), ((a 7), .inl (gZ g, 2001, .inl S.bk))]) H := hP
  have hD : va_D A ([((a 0), .inr (3, [.ref (a 1), .ref (a 2), .ref (a 3), .ref (a 4), .ref (a 5), .ref (a 6), .ref (a 7), .int (nI (min (S.n) (k))), .int (nI (S.ar))])), ((a 1), .inl (gI g, 2001, .inl S.kd)), ((a 2), .inl (gI g, 2001, .inl S.un)), ((a 3), .inl (gI g, 2001, .inl S.ce)), ((a 4), .inl (gJ g, 2001, .inr (.inl S.bf))), ((a 5), .inl (gJ g, 2001, .inr (.inl S.af))), ((a 6), .inl (gI g, 2001, .inl S.tn)), ((a 7), .inl (gZ g, 2001, .inl S.bk))]) := hD
  refine lv_aload_n hx hb dX1_dropBehind_12 rfl (lv_at hl 0 rfl) ?_
  refine lv_aload_n hx hb dX1_dropBehind_13 rfl (lv_at hl 0 rfl) ?_
  refine va_get (D := gD g) (ci := 3) (v := .int (nI (S.ar))) (C := RX1) (T := TX1) (N := 9) hx hb hts (by decide +kernel) hown hK.1 hP 0 rfl rfl 8 (by decide) (hts (.fieldLink RX1 39 "LogForward$Rows" "archived" "I") (by decide +kernel)) (fun _ h9 => h9) rfl dX1_dropBehind_14 ?_
  refine lv_iload_n hx hb dX1_dropBehind_17 rfl (lv_at hl 1 rfl) ?_
  refine ga_mmin (v := (nI (min (S.ar) (k)))) hx hb (hml.trans hl.1.symm) hown (hts (.methodLink RX1 55 Lib.Math.min.name) (by decide +kernel)) (hts (.static Lib.Math.min.name) (by decide +kernel)) (hts (.initialized "java/lang/Math") (by decide +kernel)) (hts (.code Lib.Math.min.name Lib.Math.min.code 2 (some .int)) (by decide +kernel)) (Nat.le_of_ble_eq_true rfl) (Nat.le_of_ble_eq_true rfl) (Nat.zero_le _) (Nat.zero_le _) (mn_nI (by omega) (by omega)) dX1_dropBehind_18 ?_
  refine va_put (D := gD g) (ci := 3) (v := .int (nI (min (S.ar) (k)))) (ty := .int) (C := RX1) (T := TX1) (N := 9) hx hb hts (by decide +kernel) tyX1 tyX1_ok nmX1 hown hK.1 hP hD hS 0 rfl rfl 8 (by decide) (hts (.fieldLink RX1 39 "LogForward$Rows" "archived" "I") (by decide +kernel)) (fun _ h9 => h9) rfl (by decide +kernel) rfl rfl (Nat.le_of_ble_eq_true rfl) dX1_dropBehind_21 (fun H locs hP hD hS => ?_)
  have hP : va_P (gD g) vwCl ([((a 0), .inr (3, [.ref (a 1), .ref (a 2), .ref (a 3), .ref (a 4), .ref (a 5), .ref (a 6), .ref (a 7), .int (nI (min (S.n) (k))), .int (nI (min (S.ar) (k)))])), ((a 1), .inl (gI g, 2001, .inl S.kd)), ((a 2), .inl (gI g, 2001, .inl S.un)), ((a 3), .inl (gI g, 2001, .inl S.ce)), ((a 4), .inl (gJ g, 2001, .inr (.inl S.bf))), ((a 5), .inl (gJ g, 2001, .inr (.inl S.af))), ((a 6), .inl (gI g, 2001, .inl S.tn)), ((a 7), .inl (gZ g, 2001, .inl S.bk))]) H := hP
  have hD : va_D A ([((a 0), .inr (3, [.ref (a 1), .ref (a 2), .ref (a 3), .ref (a 4), .ref (a 5), .ref (a 6), .ref (a 7), .int (nI (min (S.n) (k))), .int (nI (min (S.ar) (k)))])), ((a 1), .inl (gI g, 2001, .inl S.kd)), ((a 2), .inl (gI g, 2001, .inl S.un)), ((a 3), .inl (gI g, 2001, .inl S.ce)), ((a 4), .inl (gJ g, 2001, .inr (.inl S.bf))), ((a 5), .inl (gJ g, 2001, .inr (.inl S.af))), ((a 6), .inl (gI g, 2001, .inl S.tn)), ((a 7), .inl (gZ g, 2001, .inl S.bk))]) := hD
  have hP9 : va_P (gD g) vwCl (wR g a (S.kd, S.un, S.ce, S.bf, S.af, S.tn, S.bk, min (S.n) (k), min (S.ar) (k))) H := hP
  have hD9 : va_D A (wR g a (S.kd, S.un, S.ce, S.bf, S.af, S.tn, S.bk, min (S.n) (k), min (S.ar) (k))) := hD
  exact W.vret hx hb hr (fun t ht hW => ⟨⟨(S.kd, S.un, S.ce, S.bf, S.af, S.tn, S.bk, min (S.n) (k), min (S.ar) (k)), rfl, rfl, by rw [ht]; exact hP9, hD9⟩, hS.F ht⟩) hS.2.2 dX1_dropBehind_24
set_option maxHeartbeats 4000000 in
set_option maxRecDepth 100000 in
theorem c_X1_tear (l : Launch) (g : GG) (a : Nat → Nat) (S : RS) (sz : Nat) (p1 : Int32) (r : Nat) (hr1 : 1 ≤ r) (hr2 : r ≤ S.n) (hn : S.n ≤ 2000) : Met l yX1_tear wsX1_tear { frames := 1, cells := 0, slots := 0, locals := 21 } (va_Pc [.ref (a 0), .int p1, .int (nI (r))] (Pw g (wR g a S) sz)) (va_Qi (fun rv u => (rv = 0 ∧ u = S ∧ ¬ S.tn r >>> (p1 &&& 31) &&& 1 = 0) ∨ (rv = 1 ∧ u = rsT S r (S.tn r ||| 1 <<< (p1 &&& 31)) ∧ S.tn r >>> (p1 &&& 31) &&& 1 = 0)) (Bw g (va_A (wR g a S) sz) (wR g a)) (va_A (wR g a S) sz)) 0 0 (va_A (wR g a S) sz) := by
  refine Met.ofW (cc := cX1_tear) (maxL := 3) (ret := (some .boolean)) (by decide) rfl ?_
  intro p e s m args below meth c s₁ B hml hv
  obtain ⟨rfl, hsz, hP, hK, hD0⟩ := hv
  have hx := B.exec
  have hb := B.bytes
  have hr := B.returns
  have hts := atoms_spec (ws := wsX1_tear) B.pre
  have hown : s.vm.findClass RX1 = some m.cls := findClass_of_methodNamed B.named
  have hlocks := B.notSynchronized
  subst hsz
  have hD := hD0.self (sz := s.heap.size)
  generalize hAe : va_A (wR g a S) s.heap.size = A at hD ⊢
  have hA : ∀ q : Nat, s.heap.size ≤ q → A q := fun q h => by rw [← hAe]; exact Or.inr h
  have hS : va_S A s.heap s.heap [] := va_S.rf
  have hl := lv_entry ([.ref (a 0), .int p1, .int (nI (r))]) (n := 3) (Nat.le_of_ble_eq_true rfl)
  rw [lg_entry_eq]
  generalize (lg_sl ([.ref (a 0), .int p1, .int (nI (r))]) ++ List.replicate (3 - (lg_sl ([.ref (a 0), .int p1, .int (nI (r))])).length) Slot.unset).toArray = ls at hl ⊢
  have hl : lv_has ls 3 [(0, .ref (a 0)), (1, .int p1), (2, .int (nI (r)))] := hl
  refine lv_aload_n hx hb dX1_tear_0 rfl (lv_at hl 0 rfl) ?_
  refine lv_iload_n hx hb dX1_tear_1 rfl (lv_at hl 2 rfl) ?_
  refine vp_callSi (va_Run.run (va_runV (As := [.int (nI (r))]) (rest := []) ⟨hx, hb, hml, hown, hts⟩ (c_X1_has_n l g a S (r) (by omega) (by omega) (by omega)) (cwV 1 hts gX1_tear_X1_has rfl rfl rfl (by decide +kernel) ⟨Nat.le_of_ble_eq_true rfl, Nat.le_of_ble_eq_true rfl⟩) (pv_r hK hP (ci := 3) (q0 := 0) rfl rfl [0, 1, 2, 3, 4, 5, 6, 7] rfl) rfl rfl hl.1 rfl (lv_room (Nat.le_of_ble_eq_true rfl)) dX1_tear_2 ⟨Nat.zero_le _, Nat.zero_le _⟩)) (fun r_2_1 h_2_1 => ?_)
  subst h_2_1
  refine lv_if_eq (tgt := 21) hx hb dX1_tear_5 (by decide) (fun c_5_1 => ?_) (fun c_5_1 => ?_)
  · exact absurd c_5_1 (by decide)
  · skip
    refine lv_aload_n hx hb dX1_tear_8 rfl (lv_at hl 0 rfl) ?_
    refine va_get (D := gD g) (ci := 3) (v := .ref (a 6)) (C := RX1) (T := TX1) (N := 9) hx hb hts (by decide +kernel) hown hK.1 hP 0 rfl rfl 5 (by decide) (hts (.fieldLink RX1 28 "LogForward$Rows" "tornCopies" "[I") (by decide +kernel)) (fun _ h9 => h9) rfl dX1_tear_9 ?_
    refine lv_iload_n hx hb dX1_tear_12 rfl (lv_at hl 2 rfl) ?_
    refine ga_iald (v := (S.tn r)) hx hb hK.1 hP 6 0 rfl rfl (v_nI (by omega) (by omega)) (by rw [(c_nI (by omega))]) dX1_tear_13 ?_
    refine lv_iload_n hx hb dX1_tear_14 rfl (lv_at hl 1 rfl) ?_
    refine lv_ishr hx hb dX1_tear_15 ?_
    refine lv_iconst (v := 1) hx hb dX1_tear_16 (by decide) ?_
    refine lv_iand hx hb dX1_tear_17 ?_
    refine lv_if_eq (tgt := 23) hx hb dX1_tear_18 (by decide) (fun c_18_2 => ?_) (fun c_18_2 => ?_)
    · have i_18 : ((((S.tn r) >>> (p1 &&& 31)) &&& 1).toInt : Int) = 0 := q_eq c_18_2 rfl rfl
      refine lv_aload_n hx hb dX1_tear_23 rfl (lv_at hl 0 rfl) ?_
      refine va_get (D := gD g) (ci := 3) (v := .ref (a 6)) (C := RX1) (T := TX1) (N := 9) hx hb hts (by decide +kernel) hown hK.1 hP 0 rfl rfl 5 (by decide) (hts (.fieldLink RX1 28 "LogForward$Rows" "tornCopies" "[I") (by decide +kernel)) (fun _ h9 => h9) rfl dX1_tear_24 ?_
      refine lv_iload_n hx hb dX1_tear_27 rfl (lv_at hl 2 rfl) ?_
      refine lv_dup2_11 hx hb dX1_tear_28 rfl rfl ?_
      refine ga_iald (v := (S.tn r)) hx hb hK.1 hP 6 0 rfl rfl (v_nI (by omega) (by omega)) (by rw [(c_nI (by omega))]) dX1_tear_29 ?_
      refine lv_iconst (v := 1) hx hb dX1_tear_30 (by decide) ?_
      refine lv_iload_n hx hb dX1_tear_31 rfl (lv_at hl 1 rfl) ?_
      refine lv_ishl hx hb dX1_tear_32 ?_
      refine lv_ior hx hb dX1_tear_33 ?_
      refine ga_iast (j := r) hx hb hK.1 hP hD hS 6 0 rfl rfl (v_nI (by omega) (by omega)) (c_nI (by omega)) dX1_tear_34 (fun H locs hP hD hS => ?_)
      have hP : va_P (gD g) vwCl ([((a 0), .inr (3, [.ref (a 1), .ref (a 2), .ref (a 3), .ref (a 4), .ref (a 5), .ref (a 6), .ref (a 7), .int (nI (S.n)), .int (nI (S.ar))])), ((a 1), .inl (gI g, 2001, .inl S.kd)), ((a 2), .inl (gI g, 2001, .inl S.un)), ((a 3), .inl (gI g, 2001, .inl S.ce)), ((a 4), .inl (gJ g, 2001, .inr (.inl S.bf))), ((a 5), .inl (gJ g, 2001, .inr (.inl S.af))), ((a 6), .inl (gI g, 2001, .inl (upd S.tn (r) ((S.tn r) ||| (1 <<< (p1 &&& 31)))))), ((a 7), .inl (gZ g, 2001, .inl S.bk))]) H := hP
      have hD : va_D A ([((a 0), .inr (3, [.ref (a 1), .ref (a 2), .ref (a 3), .ref (a 4), .ref (a 5), .ref (a 6), .ref (a 7), .int (nI (S.n)), .int (nI (S.ar))])), ((a 1), .inl (gI g, 2001, .inl S.kd)), ((a 2), .inl (gI g, 2001, .inl S.un)), ((a 3), .inl (gI g, 2001, .inl S.ce)), ((a 4), .inl (gJ g, 2001, .inr (.inl S.bf))), ((a 5), .inl (gJ g, 2001, .inr (.inl S.af))), ((a 6), .inl (gI g, 2001, .inl (upd S.tn (r) ((S.tn r) ||| (1 <<< (p1 &&& 31)))))), ((a 7), .inl (gZ g, 2001, .inl S.bk))]) := hD
      refine lv_iconst (v := 1) hx hb dX1_tear_35 (by decide) ?_
      have hP9 : va_P (gD g) vwCl (wR g a (S.kd, S.un, S.ce, S.bf, S.af, (upd S.tn (r) ((S.tn r) ||| (1 <<< (p1 &&& 31)))), S.bk, S.n, S.ar)) H := hP
      have hD9 : va_D A (wR g a (S.kd, S.un, S.ce, S.bf, S.af, (upd S.tn (r) ((S.tn r) ||| (1 <<< (p1 &&& 31)))), S.bk, S.n, S.ar)) := hD
      exact W.zret (v := 1) hx hb hr rfl (fun t ht hW => ⟨⟨1, (S.kd, S.un, S.ce, S.bf, S.af, (upd S.tn (r) ((S.tn r) ||| (1 <<< (p1 &&& 31)))), S.bk, S.n, S.ar), rfl, Or.inr ⟨rfl, rfl, c_18_2⟩, by rw [ht]; exact hP9, hD9⟩, hS.F ht⟩) hS.2.2 dX1_tear_36
    · have i_18 : ((((S.tn r) >>> (p1 &&& 31)) &&& 1).toInt : Int) ≠ 0 := q_ne c_18_2 rfl rfl
      refine lv_iconst (v := 0) hx hb dX1_tear_21 (by decide) ?_
      have hP9 : va_P (gD g) vwCl (wR g a S) s.heap := hP
      have hD9 : va_D A (wR g a S) := hD
      exact W.zret (v := 0) hx hb hr rfl (fun t ht hW => ⟨⟨0, S, rfl, Or.inl ⟨rfl, rfl, c_18_2⟩, by rw [ht]; exact hP9, hD9⟩, hS.F ht⟩) hS.2.2 dX1_tear_22
/-- what 'at' tells of a row -/
def teR (S : RS) (r w : Nat) : Int32 := match w with
  | 0 => S.kd r
  | 1 => S.un r
  | 2 => S.ce r
  | 3 => (S.bf r).toInt32
  | 4 => (S.af r).toInt32
  | 5 => S.tn r
  | _ => bI (¬ S.bk r = 0)
set_option maxHeartbeats 4000000 in
set_option maxRecDepth 100000 in
theorem c_X1_tell (l : Launch) (g : GG) (a : Nat → Nat) (S : RS) (r : Nat) (hr1 : 1 ≤ r) (hr2 : r ≤ S.n) (hn : S.n ≤ 2000) (w : Nat) (hw : w ≤ 6) : Met l yX1_tell wsX1_tell { frames := 1, cells := 0, slots := 0, locals := 21 } (va_Pc [.ref (a 0), .int (nI (r)), .int (nI (w))] (Pr g (wR g a S))) (vp_Si (fun rv => rv = teR S r w)) 0 0 (fun _ => False) := by
  refine Met.ofW (cc := cX1_tell) (maxL := 3) (ret := (some .int)) (by decide) rfl ?_
  intro p e s m args below meth c s₁ B hml hv
  obtain ⟨rfl, hP, hK⟩ := hv
  have hx := B.exec
  have hb := B.bytes
  have hr := B.returns
  have hts := atoms_spec (ws := wsX1_tell) B.pre
  have hown : s.vm.findClass RX1 = some m.cls := findClass_of_methodNamed B.named
  have hlocks := B.notSynchronized
  have hl := lv_entry ([.ref (a 0), .int (nI (r)), .int (nI (w))]) (n := 3) (Nat.le_of_ble_eq_true rfl)
  rw [lg_entry_eq]
  generalize (lg_sl ([.ref (a 0), .int (nI (r)), .int (nI (w))]) ++ List.replicate (3 - (lg_sl ([.ref (a 0), .int (nI (r)), .int (nI (w))])).length) Slot.unset).toArray = ls at hl ⊢
  have hl : lv_has ls 3 [(0, .ref (a 0)), (1, .int (nI (r))), (2, .int (nI (w)))] := hl
  refine lv_aload_n hx hb dX1_tell_0 rfl (lv_at hl 0 rfl) ?_
  refine lv_iload_n hx hb dX1_tell_1 rfl (lv_at hl 1 rfl) ?_
  refine vp_callSi (va_Run.run (va_runV (As := [.int (nI (r))]) (rest := []) ⟨hx, hb, hml, hown, hts⟩ (c_X1_has_n l g a S (r) (by omega) (by omega) (by omega)) (cwV 1 hts gX1_tell_X1_has rfl rfl rfl (by decide +kernel) ⟨Nat.le_of_ble_eq_true rfl, Nat.le_of_ble_eq_true rfl⟩) (pv_r hK hP (ci := 3) (q0 := 0) rfl rfl [0, 1, 2, 3, 4, 5, 6, 7] rfl) rfl rfl hl.1 rfl (lv_room (Nat.le_of_ble_eq_true rfl)) dX1_tell_2 ⟨Nat.zero_le _, Nat.zero_le _⟩)) (fun r_2_1 h_2_1 => ?_)
  subst h_2_1
  refine lv_if_ne (tgt := 10) hx hb dX1_tell_5 (by decide) (fun c_5_1 => ?_) (fun c_5_1 => ?_)
  · skip
    refine lv_iload_n hx hb dX1_tell_10 rfl (lv_at hl 2 rfl) ?_
    rcases (show w = 0 ∨ w = 1 ∨ w = 2 ∨ w = 3 ∨ w = 4 ∨ w = 5 ∨ w = 6 by omega) with rfl | rfl | rfl | rfl | rfl | rfl | rfl
    · refine lv_tableIn (tgt := 48) hx hb dX1_tell_11 (by decide) (by decide) rfl (by decide) ?_
      refine lv_aload_n hx hb dX1_tell_48 rfl (lv_at hl 0 rfl) ?_
      refine va_get (D := gD g) (ci := 3) (v := .ref (a 1)) (C := RX1) (T := TX1) (N := 9) hx hb hts (by decide +kernel) hown hK.1 hP 0 rfl rfl 0 (by decide) (hts (.fieldLink RX1 9 "LogForward$Rows" "kind" "[I") (by decide +kernel)) (fun _ h9 => h9) rfl dX1_tell_49 ?_
      refine lv_iload_n hx hb dX1_tell_52 rfl (lv_at hl 1 rfl) ?_
      refine ga_iald (v := (S.kd r)) hx hb hK.1 hP 1 0 rfl rfl (v_nI (by omega) (by omega)) (by rw [(c_nI (by omega))]) dX1_tell_53 ?_
      exact W.iret (v := (S.kd r)) hx hb hr (fun tz htz hWz => ⟨(S.kd r), rfl, rfl, htz⟩) (fun _ h => nomatch h) dX1_tell_54
    · refine lv_tableIn (tgt := 55) hx hb dX1_tell_11 (by decide) (by decide) rfl (by decide) ?_
      refine lv_aload_n hx hb dX1_tell_55 rfl (lv_at hl 0 rfl) ?_
      refine va_get (D := gD g) (ci := 3) (v := .ref (a 2)) (C := RX1) (T := TX1) (N := 9) hx hb hts (by decide +kernel) hown hK.1 hP 0 rfl rfl 1 (by decide) (hts (.fieldLink RX1 15 "LogForward$Rows" "unit" "[I") (by decide +kernel)) (fun _ h9 => h9) rfl dX1_tell_56 ?_
      refine lv_iload_n hx hb dX1_tell_59 rfl (lv_at hl 1 rfl) ?_
      refine ga_iald (v := (S.un r)) hx hb hK.1 hP 2 0 rfl rfl (v_nI (by omega) (by omega)) (by rw [(c_nI (by omega))]) dX1_tell_60 ?_
      exact W.iret (v := (S.un r)) hx hb hr (fun tz htz hWz => ⟨(S.un r), rfl, rfl, htz⟩) (fun _ h => nomatch h) dX1_tell_61
    · refine lv_tableIn (tgt := 62) hx hb dX1_tell_11 (by decide) (by decide) rfl (by decide) ?_
      refine lv_aload_n hx hb dX1_tell_62 rfl (lv_at hl 0 rfl) ?_
      refine va_get (D := gD g) (ci := 3) (v := .ref (a 3)) (C := RX1) (T := TX1) (N := 9) hx hb hts (by decide +kernel) hown hK.1 hP 0 rfl rfl 2 (by decide) (hts (.fieldLink RX1 18 "LogForward$Rows" "cell" "[I") (by decide +kernel)) (fun _ h9 => h9) rfl dX1_tell_63 ?_
      refine lv_iload_n hx hb dX1_tell_66 rfl (lv_at hl 1 rfl) ?_
      refine ga_iald (v := (S.ce r)) hx hb hK.1 hP 3 0 rfl rfl (v_nI (by omega) (by omega)) (by rw [(c_nI (by omega))]) dX1_tell_67 ?_
      exact W.iret (v := (S.ce r)) hx hb hr (fun tz htz hWz => ⟨(S.ce r), rfl, rfl, htz⟩) (fun _ h => nomatch h) dX1_tell_68
    · refine lv_tableIn (tgt := 69) hx hb dX1_tell_11 (by decide) (by decide) rfl (by decide) ?_
      refine lv_aload_n hx hb dX1_tell_69 rfl (lv_at hl 0 rfl) ?_
      refine va_get (D := gD g) (ci := 3) (v := .ref (a 4)) (C := RX1) (T := TX1) (N := 9) hx hb hts (by decide +kernel) hown hK.1 hP 0 rfl rfl 3 (by decide) (hts (.fieldLink RX1 21 "LogForward$Rows" "before" "[J") (by decide +kernel)) (fun _ h9 => h9) rfl dX1_tell_70 ?_
      refine lv_iload_n hx hb dX1_tell_73 rfl (lv_at hl 1 rfl) ?_
      refine ga_lald (v := (S.bf r)) hx hb hK.1 hP 4 1 rfl rfl (v_nI (by omega) (by omega)) (by rw [(c_nI (by omega))]) dX1_tell_74 ?_
      refine lv_l2i (v := (((S.bf r)).toInt32)) hx hb dX1_tell_75 (rfl) ?_
      exact W.iret (v := (((S.bf r)).toInt32)) hx hb hr (fun tz htz hWz => ⟨(((S.bf r)).toInt32), rfl, rfl, htz⟩) (fun _ h => nomatch h) dX1_tell_76
    · refine lv_tableIn (tgt := 77) hx hb dX1_tell_11 (by decide) (by decide) rfl (by decide) ?_
      refine lv_aload_n hx hb dX1_tell_77 rfl (lv_at hl 0 rfl) ?_
      refine va_get (D := gD g) (ci := 3) (v := .ref (a 5)) (C := RX1) (T := TX1) (N := 9) hx hb hts (by decide +kernel) hown hK.1 hP 0 rfl rfl 4 (by decide) (hts (.fieldLink RX1 25 "LogForward$Rows" "after" "[J") (by decide +kernel)) (fun _ h9 => h9) rfl dX1_tell_78 ?_
      refine lv_iload_n hx hb dX1_tell_81 rfl (lv_at hl 1 rfl) ?_
      refine ga_lald (v := (S.af r)) hx hb hK.1 hP 5 1 rfl rfl (v_nI (by omega) (by omega)) (by rw [(c_nI (by omega))]) dX1_tell_82 ?_
      refine lv_l2i (v := (((S.af r)).toInt32)) hx hb dX1_tell_83 (rfl) ?_
      exact W.iret (v := (((S.af r)).toInt32)) hx hb hr (fun tz htz hWz => ⟨(((S.af r)).toInt32), rfl, rfl, htz⟩) (fun _ h => nomatch h) dX1_tell_84
    · refine lv_tableIn (tgt := 85) hx hb dX1_tell_11 (by decide) (by decide) rfl (by decide) ?_
      refine lv_aload_n hx hb dX1_tell_85 rfl (lv_at hl 0 rfl) ?_
      refine va_get (D := gD g) (ci := 3) (v := .ref (a 6)) (C := RX1) (T := TX1) (N := 9) hx hb hts (by decide +kernel) hown hK.1 hP 0 rfl rfl 5 (by decide) (hts (.fieldLink RX1 28 "LogForward$Rows" "tornCopies" "[I") (by decide +kernel)) (fun _ h9 => h9) rfl dX1_tell_86 ?_
      refine lv_iload_n hx hb dX1_tell_89 rfl (lv_at hl 1 rfl) ?_
      refine ga_iald (v := (S.tn r)) hx hb hK.1 hP 6 0 rfl rfl (v_nI (by omega) (by omega)) (by rw [(c_nI (by omega))]) dX1_tell_90 ?_
      exact W.iret (v := (S.tn r)) hx hb hr (fun tz htz hWz => ⟨(S.tn r), rfl, rfl, htz⟩) (fun _ h => nomatch h) dX1_tell_91
    · refine lv_tableOut (tgt := 92) hx hb dX1_tell_11 (by decide) (by decide) ?_
      refine lv_aload_n hx hb dX1_tell_92 rfl (lv_at hl 0 rfl) ?_
      refine va_get (D := gD g) (ci := 3) (v := .ref (a 7)) (C := RX1) (T := TX1) (N := 9) hx hb hts (by decide +kernel) hown hK.1 hP 0 rfl rfl 6 (by decide) (hts (.fieldLink RX1 31 "LogForward$Rows" "backingOut" "[Z") (by decide +kernel)) (fun _ h9 => h9) rfl dX1_tell_93 ?_
      refine lv_iload_n hx hb dX1_tell_96 rfl (lv_at hl 1 rfl) ?_
      refine ga_zald (v := (S.bk r)) hx hb hK.1 hP 7 2 rfl rfl (v_nI (by omega) (by omega)) (by rw [(c_nI (by omega))]) dX1_tell_97 ?_
      refine lv_if_eq (tgt := 105) hx hb dX1_tell_98 (by decide) (fun c_98_3 => ?_) (fun c_98_3 => ?_)
      · have i_98 : ((S.bk r).toInt : Int) = 0 := q_eq c_98_3 rfl rfl
        refine lv_iconst (v := 0) hx hb dX1_tell_105 (by decide) ?_
        exact W.iret (v := 0) hx hb hr (fun tz htz hWz => ⟨0, rfl, (by show (0 : Int32) = bI (¬ S.bk r = 0); exact bI_0 (by simp_all)), htz⟩) (fun _ h => nomatch h) dX1_tell_106
      · have i_98 : ((S.bk r).toInt : Int) ≠ 0 := q_ne c_98_3 rfl rfl
        refine lv_iconst (v := 1) hx hb dX1_tell_101 (by decide) ?_
        refine lv_goto (tgt := 106) hx hb dX1_tell_102 (by decide) ?_
        exact W.iret (v := 1) hx hb hr (fun tz htz hWz => ⟨1, rfl, (by show (1 : Int32) = bI (¬ S.bk r = 0); exact bI_1 (by assumption)), htz⟩) (fun _ h => nomatch h) dX1_tell_106
  · exact absurd c_5_1 (by decide)
end
section
set_option maxHeartbeats 4000000 in
set_option maxRecDepth 100000 in
theorem c_X3_isUnit (l : Launch) (g : GG) (p1 : Int32) : Met l yX3_isUnit wsX3_isUnit { frames := 0, cells := 0, slots := 0, locals := 0 } (va_Pc [.int p1] (Pr g [])) (vp_Si (fun rv => rv = bI (1 ≤ p1.toInt ∧ p1.toInt ≤ 60))) 0 0 (fun _ => False) := by
  refine Met.ofW (cc := cX3_isUnit) (maxL := 1) (ret := (some .boolean)) (by decide) rfl ?_
  intro p e s m args below meth c s₁ B hml hv
  obtain ⟨rfl, hP, hK⟩ := hv
  have hx := B.exec
  have hb := B.bytes
  have hr := B.returns
  have hts := atoms_spec (ws := wsX3_isUnit) B.pre
  have hown : s.vm.findClass RX3 = some m.cls := findClass_of_methodNamed B.named
  have hlocks := B.notSynchronized
  have hl := lv_entry ([.int p1]) (n := 1) (Nat.le_of_ble_eq_true rfl)
  rw [lg_entry_eq]
  generalize (lg_sl ([.int p1]) ++ List.replicate (1 - (lg_sl ([.int p1])).length) Slot.unset).toArray = ls at hl ⊢
  have hl : lv_has ls 1 [(0, .int p1)] := hl
  refine lv_iload_n hx hb dX3_isUnit_0 rfl (lv_at hl 0 rfl) ?_
  refine lv_iconst (v := 1) hx hb dX3_isUnit_1 (by decide) ?_
  refine lv_icmp_lt (tgt := 15) hx hb dX3_isUnit_2 (by decide) (fun c_2_1 => ?_) (fun c_2_1 => ?_)
  · have i_2 : (p1.toInt : Int) < 1 := q_lt c_2_1 rfl rfl
    refine lv_iconst (v := 0) hx hb dX3_isUnit_15 (by decide) ?_
    exact W.zret (v := 0) hx hb hr rfl (fun tz htz hWz => ⟨0, rfl, (bI_0 (by first | omega | assumption | simp_all)), htz⟩) (fun _ h => nomatch h) dX3_isUnit_16
  · have i_2 : (1 : Int) ≤ p1.toInt := q_nlt c_2_1 rfl rfl
    refine lv_iload_n hx hb dX3_isUnit_5 rfl (lv_at hl 0 rfl) ?_
    refine lv_bipush (v := 60) hx hb dX3_isUnit_6 (by decide) ?_
    refine lv_icmp_gt (tgt := 15) hx hb dX3_isUnit_8 (by decide) (fun c_8_2 => ?_) (fun c_8_2 => ?_)
    · have i_8 : (60 : Int) < p1.toInt := q_lt c_8_2 rfl rfl
      refine lv_iconst (v := 0) hx hb dX3_isUnit_15 (by decide) ?_
      exact W.zret (v := 0) hx hb hr rfl (fun tz htz hWz => ⟨0, rfl, (bI_0 (by first | omega | assumption | simp_all)), htz⟩) (fun _ h => nomatch h) dX3_isUnit_16
    · have i_8 : (p1.toInt : Int) ≤ 60 := q_nlt c_8_2 rfl rfl
      refine lv_iconst (v := 1) hx hb dX3_isUnit_11 (by decide) ?_
      refine lv_goto (tgt := 16) hx hb dX3_isUnit_12 (by decide) ?_
      exact W.zret (v := 1) hx hb hr rfl (fun tz htz hWz => ⟨1, rfl, (bI_1 (by first | omega | assumption | simp_all)), htz⟩) (fun _ h => nomatch h) dX3_isUnit_16
set_option maxHeartbeats 4000000 in
set_option maxRecDepth 100000 in
theorem c_X3_isCell (l : Launch) (g : GG) (p1 : Int32) : Met l yX3_isCell wsX3_isCell { frames := 0, cells := 0, slots := 0, locals := 0 } (va_Pc [.int p1] (Pr g [])) (vp_Si (fun rv => rv = bI (0 ≤ p1.toInt ∧ p1.toInt < 32))) 0 0 (fun _ => False) := by
  refine Met.ofW (cc := cX3_isCell) (maxL := 1) (ret := (some .boolean)) (by decide) rfl ?_
  intro p e s m args below meth c s₁ B hml hv
  obtain ⟨rfl, hP, hK⟩ := hv
  have hx := B.exec
  have hb := B.bytes
  have hr := B.returns
  have hts := atoms_spec (ws := wsX3_isCell) B.pre
  have hown : s.vm.findClass RX3 = some m.cls := findClass_of_methodNamed B.named
  have hlocks := B.notSynchronized
  have hl := lv_entry ([.int p1]) (n := 1) (Nat.le_of_ble_eq_true rfl)
  rw [lg_entry_eq]
  generalize (lg_sl ([.int p1]) ++ List.replicate (1 - (lg_sl ([.int p1])).length) Slot.unset).toArray = ls at hl ⊢
  have hl : lv_has ls 1 [(0, .int p1)] := hl
  refine lv_iload_n hx hb dX3_isCell_0 rfl (lv_at hl 0 rfl) ?_
  refine lv_if_lt (tgt := 14) hx hb dX3_isCell_1 (by decide) (fun c_1_1 => ?_) (fun c_1_1 => ?_)
  · have i_1 : (p1.toInt : Int) < 0 := q_lt c_1_1 rfl rfl
    refine lv_iconst (v := 0) hx hb dX3_isCell_14 (by decide) ?_
    exact W.zret (v := 0) hx hb hr rfl (fun tz htz hWz => ⟨0, rfl, (bI_0 (by first | omega | assumption | simp_all)), htz⟩) (fun _ h => nomatch h) dX3_isCell_15
  · have i_1 : (0 : Int) ≤ p1.toInt := q_nlt c_1_1 rfl rfl
    refine lv_iload_n hx hb dX3_isCell_4 rfl (lv_at hl 0 rfl) ?_
    refine lv_bipush (v := 32) hx hb dX3_isCell_5 (by decide) ?_
    refine lv_icmp_ge (tgt := 14) hx hb dX3_isCell_7 (by decide) (fun c_7_2 => ?_) (fun c_7_2 => ?_)
    · have i_7 : (32 : Int) ≤ p1.toInt := q_le c_7_2 rfl rfl
      refine lv_iconst (v := 0) hx hb dX3_isCell_14 (by decide) ?_
      exact W.zret (v := 0) hx hb hr rfl (fun tz htz hWz => ⟨0, rfl, (bI_0 (by first | omega | assumption | simp_all)), htz⟩) (fun _ h => nomatch h) dX3_isCell_15
    · have i_7 : (p1.toInt : Int) < 32 := q_nle c_7_2 rfl rfl
      refine lv_iconst (v := 1) hx hb dX3_isCell_10 (by decide) ?_
      refine lv_goto (tgt := 15) hx hb dX3_isCell_11 (by decide) ?_
      exact W.zret (v := 1) hx hb hr rfl (fun tz htz hWz => ⟨1, rfl, (bI_1 (by first | omega | assumption | simp_all)), htz⟩) (fun _ h => nomatch h) dX3_isCell_15
/-- a unit that is open; one that is over -/
abbrev opU (U : US) (p : Int32) : Prop := (1 ≤ p.toInt ∧ p.toInt ≤ 60) ∧ U.lk p.toNatClampNeg = 0
abbrev ovU (U : US) (p : Int32) : Prop := (1 ≤ p.toInt ∧ p.toInt ≤ 60) ∧ 0 < U.lk p.toNatClampNeg
abbrev cbU (U : US) (c p : Int32) : Prop := (0 ≤ c.toInt ∧ c.toInt < 32) ∧ U.ch c.toNatClampNeg ≠ p ∧ opU U (U.ch c.toNatClampNeg)
/-- how many units up to k have x as their latest kind -/
def cntU (U : US) (x : Int32) : Nat → Nat
  | 0 => 0
  | k + 1 => if U.lk (k + 1) = x then cntU U x k + 1 else cntU U x k
theorem cntU_le (U : US) (x : Int32) : ∀ k, cntU U x k ≤ k
  | 0 => Nat.le_refl 0
  | k + 1 => by
    have := cntU_le U x k
    simp only [cntU]
    split <;> omega
set_option maxHeartbeats 4000000 in
set_option maxRecDepth 100000 in
theorem c_X2_isOpen (l : Launch) (g : GG) (a : Nat → Nat) (U : US) (p1 : Int32) : Met l yX2_isOpen wsX2_isOpen { frames := 1, cells := 0, slots := 0, locals := 20 } (va_Pc [.ref (a 0), .int p1] (Pr g (wU g a U))) (vp_Si (fun rv => rv = bI (opU U p1))) 0 0 (fun _ => False) := by
  refine Met.ofW (cc := cX2_isOpen) (maxL := 2) (ret := (some .boolean)) (by decide) rfl ?_
  intro p e s m args below meth c s₁ B hml hv
  obtain ⟨rfl, hP, hK⟩ := hv
  have hx := B.exec
  have hb := B.bytes
  have hr := B.returns
  have hts := atoms_spec (ws := wsX2_isOpen) B.pre
  have hown : s.vm.findClass RX2 = some m.cls := findClass_of_methodNamed B.named
  have hlocks := B.notSynchronized
  have hl := lv_entry ([.ref (a 0), .int p1]) (n := 2) (Nat.le_of_ble_eq_true rfl)
  rw [lg_entry_eq]
  generalize (lg_sl ([.ref (a 0), .int p1]) ++ List.replicate (2 - (lg_sl ([.ref (a 0), .int p1])).length) Slot.unset).toArray = ls at hl ⊢
  have hl : lv_has ls 2 [(0, .ref (a 0)), (1, .int p1)] := hl
  refine lv_iload_n hx hb dX2_isOpen_0 rfl (lv_at hl 1 rfl) ?_
  refine vp_callSi (va_Run.run (va_runSN (host := "LogForward") (As := [.int p1]) (rest := []) ⟨hx, hb, hml, hown, hts⟩ (c_X3_isUnit l g p1) ⟨va_cnB 1 hts gX2_isOpen_X3_isUnit_n24 rfl rfl rfl hK.2.1 (hts (.initialized RX3) (by decide +kernel)) (by decide +kernel) ⟨Nat.le_of_ble_eq_true rfl, Nat.le_of_ble_eq_true rfl⟩, hts (.static yX3_isUnit) (by decide +kernel), trivial⟩ (ps_r hK hP [] rfl) rfl rfl hl.1 rfl (lv_room (Nat.le_of_ble_eq_true rfl)) dX2_isOpen_1 ⟨Nat.zero_le _, Nat.zero_le _⟩)) (fun r_1_1 h_1_1 => ?_)
  refine lv_if_eq (tgt := 20) hx hb dX2_isOpen_4 (by decide) (fun c_4_1 => ?_) (fun c_4_1 => ?_)
  · have b_4 : ¬ (1 ≤ (p1).toInt ∧ (p1).toInt ≤ 60) := bI_f h_1_1 c_4_1
    refine lv_iconst (v := 0) hx hb dX2_isOpen_20 (by decide) ?_
    exact W.zret (v := 0) hx hb hr rfl (fun tz htz hWz => ⟨0, rfl, (bI_0 (by first | exact ⟨by assumption, by assumption⟩ | exact ⟨by assumption, by assumption, by assumption⟩ | exact fun h => absurd h.1 (by assumption) | exact fun h => absurd h.2 (by assumption) | exact fun h => absurd h.2.1 (by assumption) | exact fun h => h.2.1 (by assumption) | simp_all [opU])), htz⟩) (fun _ h => nomatch h) dX2_isOpen_21
  · have b_4 : 1 ≤ (p1).toInt ∧ (p1).toInt ≤ 60 := bI_t h_1_1 c_4_1
    refine lv_aload_n hx hb dX2_isOpen_7 rfl (lv_at hl 0 rfl) ?_
    refine va_get (D := gD g) (ci := 4) (v := .ref (a 1)) (C := RX2) (T := TX2) (N := 2) hx hb hts (by decide +kernel) hown hK.1 hP 0 rfl rfl 0 (by decide) (hts (.fieldLink RX2 9 "LogForward$Units" "latestKind" "[I") (by decide +kernel)) (fun _ h9 => h9) rfl dX2_isOpen_8 ?_
    refine lv_iload_n hx hb dX2_isOpen_11 rfl (lv_at hl 1 rfl) ?_
    refine ga_iald (v := (U.lk p1.toNatClampNeg)) hx hb hK.1 hP 1 0 rfl rfl (v_p (by omega) (by omega)) rfl dX2_isOpen_12 ?_
    refine lv_if_ne (tgt := 20) hx hb dX2_isOpen_13 (by decide) (fun c_13_2 => ?_) (fun c_13_2 => ?_)
    · have i_13 : ((U.lk p1.toNatClampNeg).toInt : Int) ≠ 0 := q_ne c_13_2 rfl rfl
      refine lv_iconst (v := 0) hx hb dX2_isOpen_20 (by decide) ?_
      exact W.zret (v := 0) hx hb hr rfl (fun tz htz hWz => ⟨0, rfl, (bI_0 (by first | exact ⟨by assumption, by assumption⟩ | exact ⟨by assumption, by assumption, by assumption⟩ | exact fun h => absurd h.1 (by assumption) | exact fun h => absurd h.2 (by assumption) | exact fun h => absurd h.2.1 (by assumption) | exact fun h => h.2.1 (by assumption) | simp_all [opU])), htz⟩) (fun _ h => nomatch h) dX2_isOpen_21
    · have i_13 : ((U.lk p1.toNatClampNeg).toInt : Int) = 0 := q_eq c_13_2 rfl rfl
      refine lv_iconst (v := 1) hx hb dX2_isOpen_16 (by decide) ?_
      refine lv_goto (tgt := 21) hx hb dX2_isOpen_17 (by decide) ?_
      exact W.zret (v := 1) hx hb hr rfl (fun tz htz hWz => ⟨1, rfl, (bI_1 (by first | exact ⟨by assumption, by assumption⟩ | exact ⟨by assumption, by assumption, by assumption⟩ | exact fun h => absurd h.1 (by assumption) | exact fun h => absurd h.2 (by assumption) | exact fun h => absurd h.2.1 (by assumption) | exact fun h => h.2.1 (by assumption) | simp_all [opU])), htz⟩) (fun _ h => nomatch h) dX2_isOpen_21
set_option maxHeartbeats 4000000 in
set_option maxRecDepth 100000 in
theorem c_X2_isOver (l : Launch) (g : GG) (a : Nat → Nat) (U : US) (p1 : Int32) : Met l yX2_isOver wsX2_isOver { frames := 1, cells := 0, slots := 0, locals := 20 } (va_Pc [.ref (a 0), .int p1] (Pr g (wU g a U))) (vp_Si (fun rv => rv = bI (ovU U p1))) 0 0 (fun _ => False) := by
  refine Met.ofW (cc := cX2_isOver) (maxL := 2) (ret := (some .boolean)) (by decide) rfl ?_
  intro p e s m args below meth c s₁ B hml hv
  obtain ⟨rfl, hP, hK⟩ := hv
  have hx := B.exec
  have hb := B.bytes
  have hr := B.returns
  have hts := atoms_spec (ws := wsX2_isOver) B.pre
  have hown : s.vm.findClass RX2 = some m.cls := findClass_of_methodNamed B.named
  have hlocks := B.notSynchronized
  have hl := lv_entry ([.ref (a 0), .int p1]) (n := 2) (Nat.le_of_ble_eq_true rfl)
  rw [lg_entry_eq]
  generalize (lg_sl ([.ref (a 0), .int p1]) ++ List.replicate (2 - (lg_sl ([.ref (a 0), .int p1])).length) Slot.unset).toArray = ls at hl ⊢
  have hl : lv_has ls 2 [(0, .ref (a 0)), (1, .int p1)] := hl
  refine lv_iload_n hx hb dX2_isOver_0 rfl (lv_at hl 1 rfl) ?_
  refine vp_callSi (va_Run.run (va_runSN (host := "LogForward") (As := [.int p1]) (rest := []) ⟨hx, hb, hml, hown, hts⟩ (c_X3_isUnit l g p1) ⟨va_cnB 1 hts gX2_isOver_X3_isUnit_n24 rfl rfl rfl hK.2.1 (hts (.initialized RX3) (by decide +kernel)) (by decide +kernel) ⟨Nat.le_of_ble_eq_true rfl, Nat.le_of_ble_eq_true rfl⟩, hts (.static yX3_isUnit) (by decide +kernel), trivial⟩ (ps_r hK hP [] rfl) rfl rfl hl.1 rfl (lv_room (Nat.le_of_ble_eq_true rfl)) dX2_isOver_1 ⟨Nat.zero_le _, Nat.zero_le _⟩)) (fun r_1_1 h_1_1 => ?_)
  refine lv_if_eq (tgt := 20) hx hb dX2_isOver_4 (by decide) (fun c_4_1 => ?_) (fun c_4_1 => ?_)
  · have b_4 : ¬ (1 ≤ (p1).toInt ∧ (p1).toInt ≤ 60) := bI_f h_1_1 c_4_1
    refine lv_iconst (v := 0) hx hb dX2_isOver_20 (by decide) ?_
    exact W.zret (v := 0) hx hb hr rfl (fun tz htz hWz => ⟨0, rfl, (bI_0 (by first | exact ⟨by assumption, by assumption⟩ | exact ⟨by assumption, by assumption, by assumption⟩ | exact fun h => absurd h.1 (by assumption) | exact fun h => absurd h.2 (by assumption) | exact fun h => absurd h.2.1 (by assumption) | exact fun h => h.2.1 (by assumption) | simp_all [ovU])), htz⟩) (fun _ h => nomatch h) dX2_isOver_21
  · have b_4 : 1 ≤ (p1).toInt ∧ (p1).toInt ≤ 60 := bI_t h_1_1 c_4_1
    refine lv_aload_n hx hb dX2_isOver_7 rfl (lv_at hl 0 rfl) ?_
    refine va_get (D := gD g) (ci := 4) (v := .ref (a 1)) (C := RX2) (T := TX2) (N := 2) hx hb hts (by decide +kernel) hown hK.1 hP 0 rfl rfl 0 (by decide) (hts (.fieldLink RX2 9 "LogForward$Units" "latestKind" "[I") (by decide +kernel)) (fun _ h9 => h9) rfl dX2_isOver_8 ?_
    refine lv_iload_n hx hb dX2_isOver_11 rfl (lv_at hl 1 rfl) ?_
    refine ga_iald (v := (U.lk p1.toNatClampNeg)) hx hb hK.1 hP 1 0 rfl rfl (v_p (by omega) (by omega)) rfl dX2_isOver_12 ?_
    refine lv_if_le (tgt := 20) hx hb dX2_isOver_13 (by decide) (fun c_13_2 => ?_) (fun c_13_2 => ?_)
    · have i_13 : ((U.lk p1.toNatClampNeg).toInt : Int) ≤ 0 := q_le c_13_2 rfl rfl
      refine lv_iconst (v := 0) hx hb dX2_isOver_20 (by decide) ?_
      exact W.zret (v := 0) hx hb hr rfl (fun tz htz hWz => ⟨0, rfl, (bI_0 (by first | exact ⟨by assumption, by assumption⟩ | exact ⟨by assumption, by assumption, by assumption⟩ | exact fun h => absurd h.1 (by assumption) | exact fun h => absurd h.2 (by assumption) | exact fun h => absurd h.2.1 (by assumption) | exact fun h => h.2.1 (by assumption) | simp_all [ovU])), htz⟩) (fun _ h => nomatch h) dX2_isOver_21
    · have i_13 : (0 : Int) < (U.lk p1.toNatClampNeg).toInt := q_nle c_13_2 rfl rfl
      refine lv_iconst (v := 1) hx hb dX2_isOver_16 (by decide) ?_
      refine lv_goto (tgt := 21) hx hb dX2_isOver_17 (by decide) ?_
      exact W.zret (v := 1) hx hb hr rfl (fun tz htz hWz => ⟨1, rfl, (bI_1 (by first | exact ⟨by assumption, by assumption⟩ | exact ⟨by assumption, by assumption, by assumption⟩ | exact fun h => absurd h.1 (by assumption) | exact fun h => absurd h.2 (by assumption) | exact fun h => absurd h.2.1 (by assumption) | exact fun h => h.2.1 (by assumption) | simp_all [ovU])), htz⟩) (fun _ h => nomatch h) dX2_isOver_21
set_option maxHeartbeats 4000000 in
set_option maxRecDepth 100000 in
theorem c_X2_isChangedByAnother (l : Launch) (g : GG) (a : Nat → Nat) (U : US) (p1 p2 : Int32) : Met l yX2_isChangedByAnother wsX2_isChangedByAnother { frames := 2, cells := 0, slots := 0, locals := 41 } (va_Pc [.ref (a 0), .int p1, .int p2] (Pr g (wU g a U))) (vp_Si (fun rv => rv = bI (cbU U p1 p2))) 0 0 (fun _ => False) := by
  refine Met.ofW (cc := cX2_isChangedByAnother) (maxL := 3) (ret := (some .boolean)) (by decide) rfl ?_
  intro p e s m args below meth c s₁ B hml hv
  obtain ⟨rfl, hP, hK⟩ := hv
  have hx := B.exec
  have hb := B.bytes
  have hr := B.returns
  have hts := atoms_spec (ws := wsX2_isChangedByAnother) B.pre
  have hown : s.vm.findClass RX2 = some m.cls := findClass_of_methodNamed B.named
  have hlocks := B.notSynchronized
  have hl := lv_entry ([.ref (a 0), .int p1, .int p2]) (n := 3) (Nat.le_of_ble_eq_true rfl)
  rw [lg_entry_eq]
  generalize (lg_sl ([.ref (a 0), .int p1, .int p2]) ++ List.replicate (3 - (lg_sl ([.ref (a 0), .int p1, .int p2])).length) Slot.unset).toArray = ls at hl ⊢
  have hl : lv_has ls 3 [(0, .ref (a 0)), (1, .int p1), (2, .int p2)] := hl
  refine lv_iload_n hx hb dX2_isChangedByAnother_0 rfl (lv_at hl 1 rfl) ?_
  refine vp_callSi (va_Run.run (va_runSN (host := "LogForward") (As := [.int p1]) (rest := []) ⟨hx, hb, hml, hown, hts⟩ (c_X3_isCell l g p1) ⟨va_cnB 1 hts gX2_isChangedByAnother_X3_isCell_n28 rfl rfl rfl hK.2.2 (hts (.initialized RX3) (by decide +kernel)) (by decide +kernel) ⟨Nat.le_of_ble_eq_true rfl, Nat.le_of_ble_eq_true rfl⟩, hts (.static yX3_isCell) (by decide +kernel), trivial⟩ (ps_r hK hP [] rfl) rfl rfl hl.1 rfl (lv_room (Nat.le_of_ble_eq_true rfl)) dX2_isChangedByAnother_1 ⟨Nat.zero_le _, Nat.zero_le _⟩)) (fun r_1_1 h_1_1 => ?_)
  refine lv_if_eq (tgt := 34) hx hb dX2_isChangedByAnother_4 (by decide) (fun c_4_1 => ?_) (fun c_4_1 => ?_)
  · have b_4 : ¬ (0 ≤ (p1).toInt ∧ (p1).toInt < 32) := bI_f h_1_1 c_4_1
    refine lv_iconst (v := 0) hx hb dX2_isChangedByAnother_34 (by decide) ?_
    exact W.zret (v := 0) hx hb hr rfl (fun tz htz hWz => ⟨0, rfl, (bI_0 (by first | exact ⟨by assumption, by assumption⟩ | exact ⟨by assumption, by assumption, by assumption⟩ | exact fun h => absurd h.1 (by assumption) | exact fun h => absurd h.2 (by assumption) | exact fun h => absurd h.2.1 (by assumption) | exact fun h => h.2.1 (by assumption) | simp_all [cbU])), htz⟩) (fun _ h => nomatch h) dX2_isChangedByAnother_35
  · have b_4 : 0 ≤ (p1).toInt ∧ (p1).toInt < 32 := bI_t h_1_1 c_4_1
    refine lv_aload_n hx hb dX2_isChangedByAnother_7 rfl (lv_at hl 0 rfl) ?_
    refine va_get (D := gD g) (ci := 4) (v := .ref (a 2)) (C := RX2) (T := TX2) (N := 2) hx hb hts (by decide +kernel) hown hK.1 hP 0 rfl rfl 1 (by decide) (hts (.fieldLink RX2 15 "LogForward$Units" "changer" "[I") (by decide +kernel)) (fun _ h9 => h9) rfl dX2_isChangedByAnother_8 ?_
    refine lv_iload_n hx hb dX2_isChangedByAnother_11 rfl (lv_at hl 1 rfl) ?_
    refine ga_iald (v := (U.ch p1.toNatClampNeg)) hx hb hK.1 hP 2 0 rfl rfl (v_p (by omega) (by omega)) rfl dX2_isChangedByAnother_12 ?_
    refine lv_iload_n hx hb dX2_isChangedByAnother_13 rfl (lv_at hl 2 rfl) ?_
    refine lv_icmp_eq (tgt := 34) hx hb dX2_isChangedByAnother_14 (by decide) (fun c_14_2 => ?_) (fun c_14_2 => ?_)
    · have i_14 : ((U.ch p1.toNatClampNeg).toInt : Int) = p2.toInt := q_eq c_14_2 rfl rfl
      refine lv_iconst (v := 0) hx hb dX2_isChangedByAnother_34 (by decide) ?_
      exact W.zret (v := 0) hx hb hr rfl (fun tz htz hWz => ⟨0, rfl, (bI_0 (by first | exact ⟨by assumption, by assumption⟩ | exact ⟨by assumption, by assumption, by assumption⟩ | exact fun h => absurd h.1 (by assumption) | exact fun h => absurd h.2 (by assumption) | exact fun h => absurd h.2.1 (by assumption) | exact fun h => h.2.1 (by assumption) | simp_all [cbU])), htz⟩) (fun _ h => nomatch h) dX2_isChangedByAnother_35
    · have i_14 : ((U.ch p1.toNatClampNeg).toInt : Int) ≠ p2.toInt := q_ne c_14_2 rfl rfl
      refine lv_aload_n hx hb dX2_isChangedByAnother_17 rfl (lv_at hl 0 rfl) ?_
      refine lv_aload_n hx hb dX2_isChangedByAnother_18 rfl (lv_at hl 0 rfl) ?_
      refine va_get (D := gD g) (ci := 4) (v := .ref (a 2)) (C := RX2) (T := TX2) (N := 2) hx hb hts (by decide +kernel) hown hK.1 hP 0 rfl rfl 1 (by decide) (hts (.fieldLink RX2 15 "LogForward$Units" "changer" "[I") (by decide +kernel)) (fun _ h9 => h9) rfl dX2_isChangedByAnother_19 ?_
      refine lv_iload_n hx hb dX2_isChangedByAnother_22 rfl (lv_at hl 1 rfl) ?_
      refine ga_iald (v := (U.ch p1.toNatClampNeg)) hx hb hK.1 hP 2 0 rfl rfl (v_p (by omega) (by omega)) rfl dX2_isChangedByAnother_23 ?_
      refine vp_callSi (va_Run.run (va_runV (As := [.int (U.ch p1.toNatClampNeg)]) (rest := []) ⟨hx, hb, hml, hown, hts⟩ (c_X2_isOpen l g a U (U.ch p1.toNatClampNeg)) (cwV 1 hts gX2_isChangedByAnother_X2_isOpen rfl rfl rfl (by decide +kernel) ⟨Nat.le_of_ble_eq_true rfl, Nat.le_of_ble_eq_true rfl⟩) (pv_r hK hP (ci := 4) (q0 := 0) rfl rfl [0, 1, 2] rfl) rfl rfl hl.1 rfl (lv_room (Nat.le_of_ble_eq_true rfl)) dX2_isChangedByAnother_24 ⟨Nat.zero_le _, Nat.zero_le _⟩)) (fun r_24_3 h_24_3 => ?_)
      refine lv_if_eq (tgt := 34) hx hb dX2_isChangedByAnother_27 (by decide) (fun c_27_3 => ?_) (fun c_27_3 => ?_)
      · have b_27 : ¬ (opU U (U.ch p1.toNatClampNeg)) := bI_f h_24_3 c_27_3
        refine lv_iconst (v := 0) hx hb dX2_isChangedByAnother_34 (by decide) ?_
        exact W.zret (v := 0) hx hb hr rfl (fun tz htz hWz => ⟨0, rfl, (bI_0 (by first | exact ⟨by assumption, by assumption⟩ | exact ⟨by assumption, by assumption, by assumption⟩ | exact fun h => absurd h.1 (by assumption) | exact fun h => absurd h.2 (by assumption) | exact fun h => absurd h.2.1 (by assumption) | exact fun h => h.2.1 (by assumption) | simp_all [cbU])), htz⟩) (fun _ h => nomatch h) dX2_isChangedByAnother_35
      · have b_27 : opU U (U.ch p1.toNatClampNeg) := bI_t h_24_3 c_27_3
        refine lv_iconst (v := 1) hx hb dX2_isChangedByAnother_30 (by decide) ?_
        refine lv_goto (tgt := 35) hx hb dX2_isChangedByAnother_31 (by decide) ?_
        exact W.zret (v := 1) hx hb hr rfl (fun tz htz hWz => ⟨1, rfl, (bI_1 (by first | exact ⟨by assumption, by assumption⟩ | exact ⟨by assumption, by assumption, by assumption⟩ | exact fun h => absurd h.1 (by assumption) | exact fun h => absurd h.2 (by assumption) | exact fun h => absurd h.2.1 (by assumption) | exact fun h => h.2.1 (by assumption) | simp_all [cbU])), htz⟩) (fun _ h => nomatch h) dX2_isChangedByAnother_35
set_option maxHeartbeats 4000000 in
set_option maxRecDepth 100000 in
theorem c_X2_howManyEndedBy (l : Launch) (g : GG) (a : Nat → Nat) (U : US) (p1 : Int32) : Met l yX2_howManyEndedBy wsX2_howManyEndedBy { frames := 0, cells := 0, slots := 0, locals := 0 } (va_Pc [.ref (a 0), .int p1] (Pr g (wU g a U))) (vp_Si (fun rv => rv = nI (cntU U p1 60))) 0 0 (fun _ => False) := by
  refine Met.ofW (cc := cX2_howManyEndedBy) (maxL := 4) (ret := (some .int)) (by decide) rfl ?_
  intro p e s m args below meth c s₁ B hml hv
  obtain ⟨rfl, hP, hK⟩ := hv
  have hx := B.exec
  have hb := B.bytes
  have hr := B.returns
  have hts := atoms_spec (ws := wsX2_howManyEndedBy) B.pre
  have hown : s.vm.findClass RX2 = some m.cls := findClass_of_methodNamed B.named
  have hlocks := B.notSynchronized
  have hl := lv_entry ([.ref (a 0), .int p1]) (n := 4) (Nat.le_of_ble_eq_true rfl)
  rw [lg_entry_eq]
  generalize (lg_sl ([.ref (a 0), .int p1]) ++ List.replicate (4 - (lg_sl ([.ref (a 0), .int p1])).length) Slot.unset).toArray = ls at hl ⊢
  have hl : lv_has ls 4 [(0, .ref (a 0)), (1, .int p1)] := hl
  refine lv_iconst (v := 0) hx hb dX2_howManyEndedBy_0 (by decide) ?_
  refine lv_istore_n (lv' := [(2, .int 0), (0, .ref (a 0)), (1, .int p1)]) hx hb dX2_howManyEndedBy_1 rfl hl (by decide) rfl (fun ls hl => ?_)
  refine lv_iconst (v := 1) hx hb dX2_howManyEndedBy_2 (by decide) ?_
  refine lv_istore_n (lv' := [(3, .int 1), (2, .int 0), (0, .ref (a 0)), (1, .int p1)]) hx hb dX2_howManyEndedBy_3 rfl hl (by decide) rfl (fun ls hl => ?_)
  obtain ⟨i, hi⟩ : ∃ i : Nat, i = 1 := ⟨1, rfl⟩
  replace hl : lv_has ls 4 [(0, .ref (a 0)), (1, .int p1), (2, .int (nI (cntU U p1 (i - 1)))), (3, .int (nI (i)))] := by subst hi; exact lv_sub hl [2, 3, 1, 0] rfl
  have hi1 : 1 ≤ i := by omega
  have hi2 : i ≤ 61 := by omega
  clear hi
  obtain ⟨d, hd⟩ : ∃ d, 61 - i = d := ⟨_, rfl⟩
  induction d using Nat.strongRecOn generalizing i ls with
  | ind d ih =>
    refine lv_iload_n hx hb dX2_howManyEndedBy_4 rfl (lv_at hl 3 rfl) ?_
    refine lv_bipush (v := 60) hx hb dX2_howManyEndedBy_5 (by decide) ?_
    refine lv_icmp_gt (tgt := 29) hx hb dX2_howManyEndedBy_7 (by decide) (fun c_7_2 => ?_) (fun c_7_2 => ?_)
    · have i_7 : (60 : Int) < ((i : Nat) : Int) := q_lt c_7_2 rfl (l_nI (by omega))
      refine lv_iload_n hx hb dX2_howManyEndedBy_29 rfl (lv_at hl 2 rfl) ?_
      exact W.iret (v := (nI (cntU U p1 (i - 1)))) hx hb hr (fun tz htz hWz => ⟨(nI (cntU U p1 (i - 1))), rfl, (by rw [show i - 1 = 60 by omega]), htz⟩) (fun _ h => nomatch h) dX2_howManyEndedBy_30
    · have i_7 : (((i : Nat) : Int) : Int) ≤ 60 := q_nlt c_7_2 rfl (l_nI (by omega))
      refine lv_aload_n hx hb dX2_howManyEndedBy_10 rfl (lv_at hl 0 rfl) ?_
      refine va_get (D := gD g) (ci := 4) (v := .ref (a 1)) (C := RX2) (T := TX2) (N := 2) hx hb hts (by decide +kernel) hown hK.1 hP 0 rfl rfl 0 (by decide) (hts (.fieldLink RX2 9 "LogForward$Units" "latestKind" "[I") (by decide +kernel)) (fun _ h9 => h9) rfl dX2_howManyEndedBy_11 ?_
      refine lv_iload_n hx hb dX2_howManyEndedBy_14 rfl (lv_at hl 3 rfl) ?_
      refine ga_iald (v := (U.lk i)) hx hb hK.1 hP 1 0 rfl rfl (v_nI (by omega) (by omega)) (by rw [(c_nI (by omega))]) dX2_howManyEndedBy_15 ?_
      refine lv_iload_n hx hb dX2_howManyEndedBy_16 rfl (lv_at hl 1 rfl) ?_
      refine lv_icmp_ne (tgt := 23) hx hb dX2_howManyEndedBy_17 (by decide) (fun c_17_3 => ?_) (fun c_17_3 => ?_)
      · have i_17 : ((U.lk i).toInt : Int) ≠ p1.toInt := q_ne c_17_3 rfl rfl
        refine lv_iinc (v := (nI (i + 1))) (lv' := [(3, .int (nI (i + 1))), (0, .ref (a 0)), (1, .int p1), (2, .int (nI (cntU U p1 (i - 1))))]) hx hb dX2_howManyEndedBy_23 hl (k := 3) rfl (nI_1 _) (by decide) rfl (fun ls hl => ?_)
        refine lv_goto (tgt := 4) hx hb dX2_howManyEndedBy_26 (by decide) ?_
        exact ih (61 - (i + 1)) (by omega) ls (i + 1) (by rw [Nat.add_sub_cancel]; rw [show cntU U p1 i = cntU U p1 (i - 1) from by obtain ⟨j, rfl⟩ : ∃ j, i = j + 1 := ⟨i - 1, by omega⟩; simp only [cntU, Nat.add_sub_cancel]; simp_all]; exact lv_sub hl [1, 2, 3, 0] rfl) (by omega) (by omega) rfl
      · have i_17 : ((U.lk i).toInt : Int) = p1.toInt := q_eq c_17_3 rfl rfl
        refine lv_iinc (v := (nI (cntU U p1 (i - 1) + 1))) (lv' := [(2, .int (nI (cntU U p1 (i - 1) + 1))), (0, .ref (a 0)), (1, .int p1), (3, .int (nI (i)))]) hx hb dX2_howManyEndedBy_20 hl (k := 2) rfl (nI_1 _) (by decide) rfl (fun ls hl => ?_)
        refine lv_iinc (v := (nI (i + 1))) (lv' := [(3, .int (nI (i + 1))), (2, .int (nI (cntU U p1 (i - 1) + 1))), (0, .ref (a 0)), (1, .int p1)]) hx hb dX2_howManyEndedBy_23 hl (k := 3) rfl (nI_1 _) (by decide) rfl (fun ls hl => ?_)
        refine lv_goto (tgt := 4) hx hb dX2_howManyEndedBy_26 (by decide) ?_
        exact ih (61 - (i + 1)) (by omega) ls (i + 1) (by rw [Nat.add_sub_cancel]; rw [show cntU U p1 i = cntU U p1 (i - 1) + 1 from by obtain ⟨j, rfl⟩ : ∃ j, i = j + 1 := ⟨i - 1, by omega⟩; simp only [cntU, Nat.add_sub_cancel]; simp_all]; exact lv_sub hl [2, 3, 1, 0] rfl) (by omega) (by omega) rfl
set_option maxHeartbeats 4000000 in
set_option maxRecDepth 100000 in
theorem c_X2_howManyOpen (l : Launch) (g : GG) (a : Nat → Nat) (U : US)  : Met l yX2_howManyOpen wsX2_howManyOpen { frames := 1, cells := 0, slots := 0, locals := 23 } (va_Pc [.ref (a 0)] (Pr g (wU g a U))) (vp_Si (fun rv => rv = nI (cntU U 0 60))) 0 0 (fun _ => False) := by
  refine Met.ofW (cc := cX2_howManyOpen) (maxL := 1) (ret := (some .int)) (by decide) rfl ?_
  intro p e s m args below meth c s₁ B hml hv
  obtain ⟨rfl, hP, hK⟩ := hv
  have hx := B.exec
  have hb := B.bytes
  have hr := B.returns
  have hts := atoms_spec (ws := wsX2_howManyOpen) B.pre
  have hown : s.vm.findClass RX2 = some m.cls := findClass_of_methodNamed B.named
  have hlocks := B.notSynchronized
  have hl := lv_entry ([.ref (a 0)]) (n := 1) (Nat.le_of_ble_eq_true rfl)
  rw [lg_entry_eq]
  generalize (lg_sl ([.ref (a 0)]) ++ List.replicate (1 - (lg_sl ([.ref (a 0)])).length) Slot.unset).toArray = ls at hl ⊢
  have hl : lv_has ls 1 [(0, .ref (a 0))] := hl
  refine lv_aload_n hx hb dX2_howManyOpen_0 rfl (lv_at hl 0 rfl) ?_
  refine lv_iconst (v := 0) hx hb dX2_howManyOpen_1 (by decide) ?_
  refine vp_callSi (va_Run.run (va_runV (As := [.int 0]) (rest := []) ⟨hx, hb, hml, hown, hts⟩ (c_X2_howManyEndedBy l g a U 0) (cwV 1 hts gX2_howManyOpen_X2_howManyEndedBy rfl rfl rfl (by decide +kernel) ⟨Nat.le_of_ble_eq_true rfl, Nat.le_of_ble_eq_true rfl⟩) (pv_r hK hP (ci := 4) (q0 := 0) rfl rfl [0, 1, 2] rfl) rfl rfl hl.1 rfl (lv_room (Nat.le_of_ble_eq_true rfl)) dX2_howManyOpen_2 ⟨Nat.zero_le _, Nat.zero_le _⟩)) (fun r_2_1 h_2_1 => ?_)
  subst h_2_1
  exact W.iret (v := (nI (cntU U 0 60))) hx hb hr (fun tz htz hWz => ⟨(nI (cntU U 0 60)), rfl, rfl, htz⟩) (fun _ h => nomatch h) dX2_howManyOpen_5
theorem up_lt {f : Nat → Int32} {i : Nat} {v : Int32} (h : ∀ j, j < i → f j = v) : ∀ j, j < i + 1 → upd f i v j = v := fun j hj => by
  by_cases e : j = i
  · rw [e, pk_us]
  · rw [pk_un e]
    exact h j (by omega)
set_option maxHeartbeats 4000000 in
set_option maxRecDepth 100000 in
theorem c_J7_fill_53178 (l : Launch) (g : GG) (q N : Nat) (f : Nat → Int32) (v : Int32) (sz : Nat) (hN : N ≤ 2000) : Met l yJ7_fill_53178 wsJ7_fill_53178 { frames := 0, cells := 0, slots := 0, locals := 0 } (va_Pc [.ref q, .int v] (Pw g [(q, .inl (gI g, N, .inl f))] sz)) (va_Qv (fun u => ∀ j, j < N → u j = v) (Bw g (va_A [(q, .inl (gI g, N, .inl f))] sz) (fun u : Nat → Int32 => [(q, .inl (gI g, N, .inl u))])) (va_A [(q, .inl (gI g, N, .inl f))] sz)) 0 0 (va_A [(q, .inl (gI g, N, .inl f))] sz) := by
  refine Met.ofW (cc := cJ7_fill_53178) (maxL := 4) (ret := none) (by decide) rfl ?_
  intro p e s m args below meth c s₁ B hml hv
  obtain ⟨rfl, hsz, hP, hK, hD0⟩ := hv
  have hx := B.exec
  have hb := B.bytes
  have hr := B.returns
  have hts := atoms_spec (ws := wsJ7_fill_53178) B.pre
  have hown : s.vm.findClass RJ7 = some m.cls := findClass_of_methodNamed B.named
  have hlocks := B.notSynchronized
  subst hsz
  have hD := hD0.self (sz := s.heap.size)
  generalize hAe : va_A ([(q, .inl (gI g, N, .inl f))]) s.heap.size = A at hD ⊢
  have hA : ∀ q : Nat, s.heap.size ≤ q → A q := fun q h => by rw [← hAe]; exact Or.inr h
  have hS : va_S A s.heap s.heap [] := va_S.rf
  have hl := lv_entry ([.ref q, .int v]) (n := 4) (Nat.le_of_ble_eq_true rfl)
  rw [lg_entry_eq]
  generalize (lg_sl ([.ref q, .int v]) ++ List.replicate (4 - (lg_sl ([.ref q, .int v])).length) Slot.unset).toArray = ls at hl ⊢
  have hl : lv_has ls 4 [(0, .ref q), (1, .int v)] := hl
  refine lv_iconst (v := 0) hx hb dJ7_fill_53178_0 (by decide) ?_
  refine lv_istore_n (lv' := [(2, .int 0), (0, .ref q), (1, .int v)]) hx hb dJ7_fill_53178_1 rfl hl (by decide) rfl (fun ls hl => ?_)
  refine lv_aload_n hx hb dJ7_fill_53178_2 rfl (lv_at hl 1 rfl) ?_
  refine va_alen (v := (nI (N))) hx hb hK.1 hP 0 0 rfl rfl rfl dJ7_fill_53178_3 ?_
  refine lv_istore_n (lv' := [(3, .int (nI (N))), (2, .int 0), (0, .ref q), (1, .int v)]) hx hb dJ7_fill_53178_4 rfl hl (by decide) rfl (fun ls hl => ?_)
  refine g_heap (fun H locs hH1 hL1 => ?_)
  obtain ⟨f1, hf1⟩ : ∃ f1 : Nat → Int32, f1 = f := ⟨f, rfl⟩
  obtain ⟨i, hi⟩ : ∃ i : Nat, i = 0 := ⟨0, rfl⟩
  replace hl : lv_has ls 4 [(0, .ref q), (1, .int v), (2, .int (nI (i))), (3, .int (nI (N)))] := by subst hi; exact lv_sub hl [2, 3, 1, 0] rfl
  replace hP : va_P (gD g) vwCl [(q, .inl (gI g, N, .inl f1))] H := by rw [hH1, hf1]; exact hP
  replace hD : va_D A [(q, .inl (gI g, N, .inl f1))] := by rw [hf1]; exact hD
  replace hS : va_S A s.heap H locs := by rw [hH1, hL1]; exact hS
  have hF : ∀ j, j < i → f1 j = v := fun j h => by omega
  have hi2 : i ≤ N := by omega
  clear hi hf1 hH1 hL1
  obtain ⟨d, hd⟩ : ∃ d, N - i = d := ⟨_, rfl⟩
  induction d using Nat.strongRecOn generalizing i f1 ls H locs with
  | ind d ih =>
    refine lv_iload_n hx hb dJ7_fill_53178_5 rfl (lv_at hl 2 rfl) ?_
    refine lv_iload_n hx hb dJ7_fill_53178_6 rfl (lv_at hl 3 rfl) ?_
    refine lv_icmp_ge (tgt := 20) hx hb dJ7_fill_53178_7 (by decide) (fun c_7_2 => ?_) (fun c_7_2 => ?_)
    · have i_7 : (((N : Nat) : Int) : Int) ≤ ((i : Nat) : Int) := q_le c_7_2 (l_nI (by omega)) (l_nI (by omega))
      exact W.vret hx hb hr (fun t ht hW => ⟨⟨f1, rfl, fun j h => hF j (by omega), by rw [ht]; exact hP, hD⟩, hS.F ht⟩) hS.2.2 dJ7_fill_53178_20
    · have i_7 : (((i : Nat) : Int) : Int) < ((N : Nat) : Int) := q_nle c_7_2 (l_nI (by omega)) (l_nI (by omega))
      refine lv_aload_n hx hb dJ7_fill_53178_10 rfl (lv_at hl 0 rfl) ?_
      refine lv_iload_n hx hb dJ7_fill_53178_11 rfl (lv_at hl 2 rfl) ?_
      refine lv_iload_n hx hb dJ7_fill_53178_12 rfl (lv_at hl 1 rfl) ?_
      refine ga_iast (j := i) hx hb hK.1 hP hD hS 0 0 rfl rfl (v_nI (by omega) (by omega)) (c_nI (by omega)) dJ7_fill_53178_13 (fun H locs hP hD hS => ?_)
      have hP : va_P (gD g) vwCl ([(q, .inl (gI g, N, .inl (upd f1 (i) v)))]) H := hP
      have hD : va_D A ([(q, .inl (gI g, N, .inl (upd f1 (i) v)))]) := hD
      refine lv_iinc (v := (nI (i + 1))) (lv' := [(2, .int (nI (i + 1))), (0, .ref q), (1, .int v), (3, .int (nI (N)))]) hx hb dJ7_fill_53178_14 hl (k := 2) rfl (nI_1 _) (by decide) rfl (fun ls hl => ?_)
      refine lv_goto (tgt := 5) hx hb dJ7_fill_53178_17 (by decide) ?_
      exact ih (N - (i + 1)) (by omega) ls H locs (upd f1 i v) (i + 1) (lv_sub hl [1, 2, 0, 3] rfl) hP hD hS (up_lt hF) (by omega) rfl
/-- the units behind a row -/
def usF (U : US) (k u c : Int32) : US := (if 1 ≤ u.toInt ∧ u.toInt ≤ 60 then upd U.lk u.toNatClampNeg k else U.lk, if 0 ≤ c.toInt ∧ c.toInt < 32 then upd U.ch c.toNatClampNeg u else U.ch)
/-- the units as the first k rows leave them -/
def usA (S : RS) (U : US) : Nat → US
  | 0 => U
  | k + 1 => usF (usA S U k) (S.kd (k + 1)) (S.un (k + 1)) (S.ce (k + 1))
set_option maxHeartbeats 4000000 in
set_option maxRecDepth 100000 in
theorem c_X2_follow (l : Launch) (g : GG) (a : Nat → Nat) (U : US) (sz : Nat) (p1 p2 p3 : Int32) : Met l yX2_follow wsX2_follow { frames := 1, cells := 0, slots := 0, locals := 20 } (va_Pc [.ref (a 0), .int p1, .int p2, .int p3] (Pw g (wU g a U) sz)) (va_Qv (fun u => u = usF U p1 p2 p3) (Bw g (va_A (wU g a U) sz) (wU g a)) (va_A (wU g a U) sz)) 0 0 (va_A (wU g a U) sz) := by
  refine Met.ofW (cc := cX2_follow) (maxL := 4) (ret := none) (by decide) rfl ?_
  intro p e s m args below meth c s₁ B hml hv
  obtain ⟨rfl, hsz, hP, hK, hD0⟩ := hv
  have hx := B.exec
  have hb := B.bytes
  have hr := B.returns
  have hts := atoms_spec (ws := wsX2_follow) B.pre
  have hown : s.vm.findClass RX2 = some m.cls := findClass_of_methodNamed B.named
  have hlocks := B.notSynchronized
  subst hsz
  have hD := hD0.self (sz := s.heap.size)
  generalize hAe : va_A (wU g a U) s.heap.size = A at hD ⊢
  have hA : ∀ q : Nat, s.heap.size ≤ q → A q := fun q h => by rw [← hAe]; exact Or.inr h
  have hS : va_S A s.heap s.heap [] := va_S.rf
  have hl := lv_entry ([.ref (a 0), .int p1, .int p2, .int p3]) (n := 4) (Nat.le_of_ble_eq_true rfl)
  rw [lg_entry_eq]
  generalize (lg_sl ([.ref (a 0), .int p1, .int p2, .int p3]) ++ List.replicate (4 - (lg_sl ([.ref (a 0), .int p1, .int p2, .int p3])).length) Slot.unset).toArray = ls at hl ⊢
  have hl : lv_has ls 4 [(0, .ref (a 0)), (1, .int p1), (2, .int p2), (3, .int p3)] := hl
  refine lv_iload_n hx hb dX2_follow_0 rfl (lv_at hl 2 rfl) ?_
  refine vp_callSi (va_Run.run (va_runSN (host := "LogForward") (As := [.int p2]) (rest := []) ⟨hx, hb, hml, hown, hts⟩ (c_X3_isUnit l g p2) ⟨va_cnB 1 hts gX2_follow_X3_isUnit_n24 rfl rfl rfl hK.2.1 (hts (.initialized RX3) (by decide +kernel)) (by decide +kernel) ⟨Nat.le_of_ble_eq_true rfl, Nat.le_of_ble_eq_true rfl⟩, hts (.static yX3_isUnit) (by decide +kernel), trivial⟩ (ps_r hK hP [] rfl) rfl rfl hl.1 rfl (lv_room (Nat.le_of_ble_eq_true rfl)) dX2_follow_1 ⟨Nat.zero_le _, Nat.zero_le _⟩)) (fun r_1_1 h_1_1 => ?_)
  refine lv_if_eq (tgt := 14) hx hb dX2_follow_4 (by decide) (fun c_4_1 => ?_) (fun c_4_1 => ?_)
  · have b_4 : ¬ (1 ≤ (p2).toInt ∧ (p2).toInt ≤ 60) := bI_f h_1_1 c_4_1
    refine lv_iload_n hx hb dX2_follow_14 rfl (lv_at hl 3 rfl) ?_
    refine vp_callSi (va_Run.run (va_runSN (host := "LogForward") (As := [.int p3]) (rest := []) ⟨hx, hb, hml, hown, hts⟩ (c_X3_isCell l g p3) ⟨va_cnB 1 hts gX2_follow_X3_isCell_n28 rfl rfl rfl hK.2.2 (hts (.initialized RX3) (by decide +kernel)) (by decide +kernel) ⟨Nat.le_of_ble_eq_true rfl, Nat.le_of_ble_eq_true rfl⟩, hts (.static yX3_isCell) (by decide +kernel), trivial⟩ (ps_r hK hP [] rfl) rfl rfl hl.1 rfl (lv_room (Nat.le_of_ble_eq_true rfl)) dX2_follow_15 ⟨Nat.zero_le _, Nat.zero_le _⟩)) (fun r_15_2 h_15_2 => ?_)
    refine lv_if_eq (tgt := 28) hx hb dX2_follow_18 (by decide) (fun c_18_2 => ?_) (fun c_18_2 => ?_)
    · have b_18 : ¬ (0 ≤ (p3).toInt ∧ (p3).toInt < 32) := bI_f h_15_2 c_18_2
      have hP9 : va_P (gD g) vwCl (wU g a U) s.heap := hP
      have hD9 : va_D A (wU g a U) := hD
      exact W.vret hx hb hr (fun t ht hW => ⟨⟨U, rfl, (by simp [usF, b_4, b_18]), by rw [ht]; exact hP9, hD9⟩, hS.F ht⟩) hS.2.2 dX2_follow_28
    · have b_18 : 0 ≤ (p3).toInt ∧ (p3).toInt < 32 := bI_t h_15_2 c_18_2
      refine lv_aload_n hx hb dX2_follow_21 rfl (lv_at hl 0 rfl) ?_
      refine va_get (D := gD g) (ci := 4) (v := .ref (a 2)) (C := RX2) (T := TX2) (N := 2) hx hb hts (by decide +kernel) hown hK.1 hP 0 rfl rfl 1 (by decide) (hts (.fieldLink RX2 15 "LogForward$Units" "changer" "[I") (by decide +kernel)) (fun _ h9 => h9) rfl dX2_follow_22 ?_
      refine lv_iload_n hx hb dX2_follow_25 rfl (lv_at hl 3 rfl) ?_
      refine lv_iload_n hx hb dX2_follow_26 rfl (lv_at hl 2 rfl) ?_
      refine ga_iast (j := p3.toNatClampNeg) hx hb hK.1 hP hD hS 2 0 rfl rfl (v_p (by omega) (by omega)) rfl dX2_follow_27 (fun H locs hP hD hS => ?_)
      have hP : va_P (gD g) vwCl ([((a 0), .inr (4, [.ref (a 1), .ref (a 2)])), ((a 1), .inl (gI g, 61, .inl U.lk)), ((a 2), .inl (gI g, 32, .inl (upd U.ch (p3.toNatClampNeg) p2)))]) H := hP
      have hD : va_D A ([((a 0), .inr (4, [.ref (a 1), .ref (a 2)])), ((a 1), .inl (gI g, 61, .inl U.lk)), ((a 2), .inl (gI g, 32, .inl (upd U.ch (p3.toNatClampNeg) p2)))]) := hD
      have hP9 : va_P (gD g) vwCl (wU g a (U.lk, (upd U.ch (p3.toNatClampNeg) p2))) H := hP
      have hD9 : va_D A (wU g a (U.lk, (upd U.ch (p3.toNatClampNeg) p2))) := hD
      exact W.vret hx hb hr (fun t ht hW => ⟨⟨(U.lk, (upd U.ch (p3.toNatClampNeg) p2)), rfl, (by simp [usF, b_4, b_18]), by rw [ht]; exact hP9, hD9⟩, hS.F ht⟩) hS.2.2 dX2_follow_28
  · have b_4 : 1 ≤ (p2).toInt ∧ (p2).toInt ≤ 60 := bI_t h_1_1 c_4_1
    refine lv_aload_n hx hb dX2_follow_7 rfl (lv_at hl 0 rfl) ?_
    refine va_get (D := gD g) (ci := 4) (v := .ref (a 1)) (C := RX2) (T := TX2) (N := 2) hx hb hts (by decide +kernel) hown hK.1 hP 0 rfl rfl 0 (by decide) (hts (.fieldLink RX2 9 "LogForward$Units" "latestKind" "[I") (by decide +kernel)) (fun _ h9 => h9) rfl dX2_follow_8 ?_
    refine lv_iload_n hx hb dX2_follow_11 rfl (lv_at hl 2 rfl) ?_
    refine lv_iload_n hx hb dX2_follow_12 rfl (lv_at hl 1 rfl) ?_
    refine ga_iast (j := p2.toNatClampNeg) hx hb hK.1 hP hD hS 1 0 rfl rfl (v_p (by omega) (by omega)) rfl dX2_follow_13 (fun H locs hP hD hS => ?_)
    have hP : va_P (gD g) vwCl ([((a 0), .inr (4, [.ref (a 1), .ref (a 2)])), ((a 1), .inl (gI g, 61, .inl (upd U.lk (p2.toNatClampNeg) p1))), ((a 2), .inl (gI g, 32, .inl U.ch))]) H := hP
    have hD : va_D A ([((a 0), .inr (4, [.ref (a 1), .ref (a 2)])), ((a 1), .inl (gI g, 61, .inl (upd U.lk (p2.toNatClampNeg) p1))), ((a 2), .inl (gI g, 32, .inl U.ch))]) := hD
    refine lv_iload_n hx hb dX2_follow_14 rfl (lv_at hl 3 rfl) ?_
    refine vp_callSi (va_Run.run (va_runSN (host := "LogForward") (As := [.int p3]) (rest := []) ⟨hx, hb, hml, hown, hts⟩ (c_X3_isCell l g p3) ⟨va_cnB 1 hts gX2_follow_X3_isCell_n28 rfl rfl rfl hK.2.2 (hts (.initialized RX3) (by decide +kernel)) (by decide +kernel) ⟨Nat.le_of_ble_eq_true rfl, Nat.le_of_ble_eq_true rfl⟩, hts (.static yX3_isCell) (by decide +kernel), trivial⟩ (ps_r hK hP [] rfl) rfl rfl hl.1 rfl (lv_room (Nat.le_of_ble_eq_true rfl)) dX2_follow_15 ⟨Nat.zero_le _, Nat.zero_le _⟩)) (fun r_15_2 h_15_2 => ?_)
    refine lv_if_eq (tgt := 28) hx hb dX2_follow_18 (by decide) (fun c_18_2 => ?_) (fun c_18_2 => ?_)
    · have b_18 : ¬ (0 ≤ (p3).toInt ∧ (p3).toInt < 32) := bI_f h_15_2 c_18_2
      have hP9 : va_P (gD g) vwCl (wU g a ((upd U.lk (p2.toNatClampNeg) p1), U.ch)) H := hP
      have hD9 : va_D A (wU g a ((upd U.lk (p2.toNatClampNeg) p1), U.ch)) := hD
      exact W.vret hx hb hr (fun t ht hW => ⟨⟨((upd U.lk (p2.toNatClampNeg) p1), U.ch), rfl, (by simp [usF, b_4, b_18]), by rw [ht]; exact hP9, hD9⟩, hS.F ht⟩) hS.2.2 dX2_follow_28
    · have b_18 : 0 ≤ (p3).toInt ∧ (p3).toInt < 32 := bI_t h_15_2 c_18_2
      refine lv_aload_n hx hb dX2_follow_21 rfl (lv_at hl 0 rfl) ?_
      refine va_get (D := gD g) (ci := 4) (v := .ref (a 2)) (C := RX2) (T := TX2) (N := 2) hx hb hts (by decide +kernel) hown hK.1 hP 0 rfl rfl 1 (by decide) (hts (.fieldLink RX2 15 "LogForward$Units" "changer" "[I") (by decide +kernel)) (fun _ h9 => h9) rfl dX2_follow_22 ?_
      refine lv_iload_n hx hb dX2_follow_25 rfl (lv_at hl 3 rfl) ?_
      refine lv_iload_n hx hb dX2_follow_26 rfl (lv_at hl 2 rfl) ?_
      refine ga_iast (j := p3.toNatClampNeg) hx hb hK.1 hP hD hS 2 0 rfl rfl (v_p (by omega) (by omega)) rfl dX2_follow_27 (fun H locs hP hD hS => ?_)
      have hP : va_P (gD g) vwCl ([((a 0), .inr (4, [.ref (a 1), .ref (a 2)])), ((a 1), .inl (gI g, 61, .inl (upd U.lk (p2.toNatClampNeg) p1))), ((a 2), .inl (gI g, 32, .inl (upd U.ch (p3.toNatClampNeg) p2)))]) H := hP
      have hD : va_D A ([((a 0), .inr (4, [.ref (a 1), .ref (a 2)])), ((a 1), .inl (gI g, 61, .inl (upd U.lk (p2.toNatClampNeg) p1))), ((a 2), .inl (gI g, 32, .inl (upd U.ch (p3.toNatClampNeg) p2)))]) := hD
      have hP9 : va_P (gD g) vwCl (wU g a ((upd U.lk (p2.toNatClampNeg) p1), (upd U.ch (p3.toNatClampNeg) p2))) H := hP
      have hD9 : va_D A (wU g a ((upd U.lk (p2.toNatClampNeg) p1), (upd U.ch (p3.toNatClampNeg) p2))) := hD
      exact W.vret hx hb hr (fun t ht hW => ⟨⟨((upd U.lk (p2.toNatClampNeg) p1), (upd U.ch (p3.toNatClampNeg) p2)), rfl, (by simp [usF, b_4, b_18]), by rw [ht]; exact hP9, hD9⟩, hS.F ht⟩) hS.2.2 dX2_follow_28
set_option maxHeartbeats 4000000 in
set_option maxRecDepth 100000 in
theorem c_X2_followAll (l : Launch) (g : GG) (a b : Nat → Nat) (U : US) (S : RS) (sz t : Nat) (ht : t ≤ S.n) (hn : S.n ≤ 2000) : Met l yX2_followAll wsX2_followAll { frames := 2, cells := 0, slots := 0, locals := 43 } (va_Pc [.ref (a 0), .ref (b 0), .int (nI t)] (Pw g (wU g a U ++ wR g b S) sz)) (va_Qv (fun u => ∃ U0 : US, (∀ j, j < 61 → U0.lk j = -1) ∧ (∀ j, j < 32 → U0.ch j = 0) ∧ u = usA S U0 t) (Bw g (va_A (wU g a U ++ wR g b S) sz) (fun u => wU g a u ++ wR g b S)) (va_A (wU g a U ++ wR g b S) sz)) 0 0 (va_A (wU g a U ++ wR g b S) sz) := by
  refine Met.ofW (cc := cX2_followAll) (maxL := 4) (ret := none) (by decide) rfl ?_
  intro p e s m args below meth c s₁ B hml hv
  obtain ⟨rfl, hsz, hP, hK, hD0⟩ := hv
  have hx := B.exec
  have hb := B.bytes
  have hr := B.returns
  have hts := atoms_spec (ws := wsX2_followAll) B.pre
  have hown : s.vm.findClass RX2 = some m.cls := findClass_of_methodNamed B.named
  have hlocks := B.notSynchronized
  subst hsz
  have hD := hD0.self (sz := s.heap.size)
  generalize hAe : va_A (wU g a U ++ wR g b S) s.heap.size = A at hD ⊢
  have hA : ∀ q : Nat, s.heap.size ≤ q → A q := fun q h => by rw [← hAe]; exact Or.inr h
  have hS : va_S A s.heap s.heap [] := va_S.rf
  have hl := lv_entry ([.ref (a 0), .ref (b 0), .int (nI (t))]) (n := 4) (Nat.le_of_ble_eq_true rfl)
  rw [lg_entry_eq]
  generalize (lg_sl ([.ref (a 0), .ref (b 0), .int (nI (t))]) ++ List.replicate (4 - (lg_sl ([.ref (a 0), .ref (b 0), .int (nI (t))])).length) Slot.unset).toArray = ls at hl ⊢
  have hl : lv_has ls 4 [(0, .ref (a 0)), (1, .ref (b 0)), (2, .int (nI (t)))] := hl
  refine lv_aload_n hx hb dX2_followAll_0 rfl (lv_at hl 0 rfl) ?_
  refine va_get (D := gD g) (ci := 4) (v := .ref (a 1)) (C := RX2) (T := TX2) (N := 2) hx hb hts (by decide +kernel) hown hK.1 hP 0 rfl rfl 0 (by decide) (hts (.fieldLink RX2 9 "LogForward$Units" "latestKind" "[I") (by decide +kernel)) (fun _ h9 => h9) rfl dX2_followAll_1 ?_
  refine lv_iconst (v := (-1)) hx hb dX2_followAll_4 (by decide) ?_
  have hPc := hP.sub (ws' := [((a 1), .inl (gI g, 61, .inl U.lk))]) [1] rfl
  have hDc := hD.sub (ws' := [((a 1), .inl (gI g, 61, .inl U.lk))]) [1] (by decide) rfl
  refine cq_v (X := [((a 0), .inr (4, [.ref (a 1), .ref (a 2)])), ((a 1), .inl (gI g, 61, .inl U.lk)), ((a 2), .inl (gI g, 32, .inl U.ch)), ((b 0), .inr (3, [.ref (b 1), .ref (b 2), .ref (b 3), .ref (b 4), .ref (b 5), .ref (b 6), .ref (b 7), .int (nI (S.n)), .int (nI (S.ar))])), ((b 1), .inl (gI g, 2001, .inl S.kd)), ((b 2), .inl (gI g, 2001, .inl S.un)), ((b 3), .inl (gI g, 2001, .inl S.ce)), ((b 4), .inl (gJ g, 2001, .inr (.inl S.bf))), ((b 5), .inl (gJ g, 2001, .inr (.inl S.af))), ((b 6), .inl (gI g, 2001, .inl S.tn)), ((b 7), .inl (gZ g, 2001, .inl S.bk))]) (pl := []) (cx := [((a 1), .inl (gI g, 61, .inl U.lk))]) (wr := [((a 0), .inr (4, [.ref (a 1), .ref (a 2)])), ((a 2), .inl (gI g, 32, .inl U.ch)), ((b 0), .inr (3, [.ref (b 1), .ref (b 2), .ref (b 3), .ref (b 4), .ref (b 5), .ref (b 6), .ref (b 7), .int (nI (S.n)), .int (nI (S.ar))])), ((b 1), .inl (gI g, 2001, .inl S.kd)), ((b 2), .inl (gI g, 2001, .inl S.un)), ((b 3), .inl (gI g, 2001, .inl S.ce)), ((b 4), .inl (gJ g, 2001, .inr (.inl S.bf))), ((b 5), .inl (gJ g, 2001, .inr (.inl S.af))), ((b 6), .inl (gI g, 2001, .inl S.tn)), ((b 7), .inl (gZ g, 2001, .inl S.bk))]) (va_runS (As := [.ref (a 1), .int (-1)]) (rest := []) ⟨hx, hb, hml, hown, hts⟩ (c_J7_fill_53178 l g (a 1) 61 U.lk (-1) s.heap.size (by decide)) (va_cwS 2 hts gX2_followAll_J7_fill_53178 rfl rfl rfl (by decide +kernel) ⟨Nat.le_of_ble_eq_true rfl, Nat.le_of_ble_eq_true rfl⟩) (ps_w hK hPc hDc) rfl rfl hl.1 rfl (lv_room (Nat.le_of_ble_eq_true rfl)) dX2_followAll_5 ⟨Nat.zero_le _, Nat.zero_le _⟩) hP hD hS hA [1] [0, 2, 3, 4, 5, 6, 7, 8, 9, 10] rfl rfl (by decide) (by decide) (fun u_5_1 H locs h_5_1 hP hD hS => ?_)
  replace hP := hP.sub (ws' := [((a 0), .inr (4, [.ref (a 1), .ref (a 2)])), ((a 1), .inl (gI g, 61, .inl u_5_1)), ((a 2), .inl (gI g, 32, .inl U.ch)), ((b 0), .inr (3, [.ref (b 1), .ref (b 2), .ref (b 3), .ref (b 4), .ref (b 5), .ref (b 6), .ref (b 7), .int (nI (S.n)), .int (nI (S.ar))])), ((b 1), .inl (gI g, 2001, .inl S.kd)), ((b 2), .inl (gI g, 2001, .inl S.un)), ((b 3), .inl (gI g, 2001, .inl S.ce)), ((b 4), .inl (gJ g, 2001, .inr (.inl S.bf))), ((b 5), .inl (gJ g, 2001, .inr (.inl S.af))), ((b 6), .inl (gI g, 2001, .inl S.tn)), ((b 7), .inl (gZ g, 2001, .inl S.bk))]) [0, 10, 1, 2, 3, 4, 5, 6, 7, 8, 9] rfl
  replace hD := hD.sub (ws' := [((a 0), .inr (4, [.ref (a 1), .ref (a 2)])), ((a 1), .inl (gI g, 61, .inl u_5_1)), ((a 2), .inl (gI g, 32, .inl U.ch)), ((b 0), .inr (3, [.ref (b 1), .ref (b 2), .ref (b 3), .ref (b 4), .ref (b 5), .ref (b 6), .ref (b 7), .int (nI (S.n)), .int (nI (S.ar))])), ((b 1), .inl (gI g, 2001, .inl S.kd)), ((b 2), .inl (gI g, 2001, .inl S.un)), ((b 3), .inl (gI g, 2001, .inl S.ce)), ((b 4), .inl (gJ g, 2001, .inr (.inl S.bf))), ((b 5), .inl (gJ g, 2001, .inr (.inl S.af))), ((b 6), .inl (gI g, 2001, .inl S.tn)), ((b 7), .inl (gZ g, 2001, .inl S.bk))]) [0, 10, 1, 2, 3, 4, 5, 6, 7, 8, 9] (by decide) rfl
  refine lv_aload_n hx hb dX2_followAll_8 rfl (lv_at hl 0 rfl) ?_
  refine va_get (D := gD g) (ci := 4) (v := .ref (a 2)) (C := RX2) (T := TX2) (N := 2) hx hb hts (by decide +kernel) hown hK.1 hP 0 rfl rfl 1 (by decide) (hts (.fieldLink RX2 15 "LogForward$Units" "changer" "[I") (by decide +kernel)) (fun _ h9 => h9) rfl dX2_followAll_9 ?_
  refine lv_iconst (v := 0) hx hb dX2_followAll_12 (by decide) ?_
  have hPc := hP.sub (ws' := [((a 2), .inl (gI g, 32, .inl U.ch))]) [2] rfl
  have hDc := hD.sub (ws' := [((a 2), .inl (gI g, 32, .inl U.ch))]) [2] (by decide) rfl
  refine cq_v (X := [((a 0), .inr (4, [.ref (a 1), .ref (a 2)])), ((a 1), .inl (gI g, 61, .inl u_5_1)), ((a 2), .inl (gI g, 32, .inl U.ch)), ((b 0), .inr (3, [.ref (b 1), .ref (b 2), .ref (b 3), .ref (b 4), .ref (b 5), .ref (b 6), .ref (b 7), .int (nI (S.n)), .int (nI (S.ar))])), ((b 1), .inl (gI g, 2001, .inl S.kd)), ((b 2), .inl (gI g, 2001, .inl S.un)), ((b 3), .inl (gI g, 2001, .inl S.ce)), ((b 4), .inl (gJ g, 2001, .inr (.inl S.bf))), ((b 5), .inl (gJ g, 2001, .inr (.inl S.af))), ((b 6), .inl (gI g, 2001, .inl S.tn)), ((b 7), .inl (gZ g, 2001, .inl S.bk))]) (pl := []) (cx := [((a 2), .inl (gI g, 32, .inl U.ch))]) (wr := [((a 0), .inr (4, [.ref (a 1), .ref (a 2)])), ((a 1), .inl (gI g, 61, .inl u_5_1)), ((b 0), .inr (3, [.ref (b 1), .ref (b 2), .ref (b 3), .ref (b 4), .ref (b 5), .ref (b 6), .ref (b 7), .int (nI (S.n)), .int (nI (S.ar))])), ((b 1), .inl (gI g, 2001, .inl S.kd)), ((b 2), .inl (gI g, 2001, .inl S.un)), ((b 3), .inl (gI g, 2001, .inl S.ce)), ((b 4), .inl (gJ g, 2001, .inr (.inl S.bf))), ((b 5), .inl (gJ g, 2001, .inr (.inl S.af))), ((b 6), .inl (gI g, 2001, .inl S.tn)), ((b 7), .inl (gZ g, 2001, .inl S.bk))]) (va_runS (As := [.ref (a 2), .int 0]) (rest := []) ⟨hx, hb, hml, hown, hts⟩ (c_J7_fill_53178 l g (a 2) 32 U.ch 0 H.size (by decide)) (va_cwS 2 hts gX2_followAll_J7_fill_53178 rfl rfl rfl (by decide +kernel) ⟨Nat.le_of_ble_eq_true rfl, Nat.le_of_ble_eq_true rfl⟩) (ps_w hK hPc hDc) rfl rfl hl.1 rfl (lv_room (Nat.le_of_ble_eq_true rfl)) dX2_followAll_13 ⟨Nat.zero_le _, Nat.zero_le _⟩) hP hD hS hA [2] [0, 1, 3, 4, 5, 6, 7, 8, 9, 10] rfl rfl (by decide) (by decide) (fun u_13_1 H locs h_13_1 hP hD hS => ?_)
  replace hP := hP.sub (ws' := [((a 0), .inr (4, [.ref (a 1), .ref (a 2)])), ((a 1), .inl (gI g, 61, .inl u_5_1)), ((a 2), .inl (gI g, 32, .inl u_13_1)), ((b 0), .inr (3, [.ref (b 1), .ref (b 2), .ref (b 3), .ref (b 4), .ref (b 5), .ref (b 6), .ref (b 7), .int (nI (S.n)), .int (nI (S.ar))])), ((b 1), .inl (gI g, 2001, .inl S.kd)), ((b 2), .inl (gI g, 2001, .inl S.un)), ((b 3), .inl (gI g, 2001, .inl S.ce)), ((b 4), .inl (gJ g, 2001, .inr (.inl S.bf))), ((b 5), .inl (gJ g, 2001, .inr (.inl S.af))), ((b 6), .inl (gI g, 2001, .inl S.tn)), ((b 7), .inl (gZ g, 2001, .inl S.bk))]) [0, 1, 10, 2, 3, 4, 5, 6, 7, 8, 9] rfl
  replace hD := hD.sub (ws' := [((a 0), .inr (4, [.ref (a 1), .ref (a 2)])), ((a 1), .inl (gI g, 61, .inl u_5_1)), ((a 2), .inl (gI g, 32, .inl u_13_1)), ((b 0), .inr (3, [.ref (b 1), .ref (b 2), .ref (b 3), .ref (b 4), .ref (b 5), .ref (b 6), .ref (b 7), .int (nI (S.n)), .int (nI (S.ar))])), ((b 1), .inl (gI g, 2001, .inl S.kd)), ((b 2), .inl (gI g, 2001, .inl S.un)), ((b 3), .inl (gI g, 2001, .inl S.ce)), ((b 4), .inl (gJ g, 2001, .inr (.inl S.bf))), ((b 5), .inl (gJ g, 2001, .inr (.inl S.af))), ((b 6), .inl (gI g, 2001, .inl S.tn)), ((b 7), .inl (gZ g, 2001, .inl S.bk))]) [0, 1, 10, 2, 3, 4, 5, 6, 7, 8, 9] (by decide) rfl
  refine lv_iconst (v := 1) hx hb dX2_followAll_16 (by decide) ?_
  refine lv_istore_n (lv' := [(3, .int 1), (0, .ref (a 0)), (1, .ref (b 0)), (2, .int (nI (t)))]) hx hb dX2_followAll_17 rfl hl (by decide) rfl (fun ls hl => ?_)
  obtain ⟨U0, hU0⟩ : ∃ U0 : US, U0 = (u_5_1, u_13_1) := ⟨_, rfl⟩
  have hz : (∀ j, j < 61 → U0.lk j = -1) ∧ (∀ j, j < 32 → U0.ch j = 0) := by rw [hU0]; exact ⟨h_5_1, h_13_1⟩
  refine g_heap (fun H locs hH1 hL1 => ?_)
  obtain ⟨U1, hU1⟩ : ∃ U1 : US, U1 = usA S U0 0 := ⟨_, rfl⟩
  obtain ⟨i, hi⟩ : ∃ i : Nat, i = 1 := ⟨1, rfl⟩
  replace hl : lv_has ls 4 [(0, .ref (a 0)), (1, .ref (b 0)), (2, .int (nI (t))), (3, .int (nI (i)))] := by subst hi; exact lv_sub hl [1, 2, 3, 0] rfl
  replace hP : va_P (gD g) vwCl [((a 0), .inr (4, [.ref (a 1), .ref (a 2)])), ((a 1), .inl (gI g, 61, .inl U1.lk)), ((a 2), .inl (gI g, 32, .inl U1.ch)), ((b 0), .inr (3, [.ref (b 1), .ref (b 2), .ref (b 3), .ref (b 4), .ref (b 5), .ref (b 6), .ref (b 7), .int (nI (S.n)), .int (nI (S.ar))])), ((b 1), .inl (gI g, 2001, .inl S.kd)), ((b 2), .inl (gI g, 2001, .inl S.un)), ((b 3), .inl (gI g, 2001, .inl S.ce)), ((b 4), .inl (gJ g, 2001, .inr (.inl S.bf))), ((b 5), .inl (gJ g, 2001, .inr (.inl S.af))), ((b 6), .inl (gI g, 2001, .inl S.tn)), ((b 7), .inl (gZ g, 2001, .inl S.bk))] H := by rw [hH1, hU1, show usA S U0 0 = U0 from rfl, hU0]; exact hP
  replace hD : va_D A [((a 0), .inr (4, [.ref (a 1), .ref (a 2)])), ((a 1), .inl (gI g, 61, .inl U1.lk)), ((a 2), .inl (gI g, 32, .inl U1.ch)), ((b 0), .inr (3, [.ref (b 1), .ref (b 2), .ref (b 3), .ref (b 4), .ref (b 5), .ref (b 6), .ref (b 7), .int (nI (S.n)), .int (nI (S.ar))])), ((b 1), .inl (gI g, 2001, .inl S.kd)), ((b 2), .inl (gI g, 2001, .inl S.un)), ((b 3), .inl (gI g, 2001, .inl S.ce)), ((b 4), .inl (gJ g, 2001, .inr (.inl S.bf))), ((b 5), .inl (gJ g, 2001, .inr (.inl S.af))), ((b 6), .inl (gI g, 2001, .inl S.tn)), ((b 7), .inl (gZ g, 2001, .inl S.bk))] := by rw [hU1, show usA S U0 0 = U0 from rfl, hU0]; exact hD
  replace hS : va_S A s.heap H locs := by rw [hH1, hL1]; exact hS
  replace hU1 : U1 = usA S U0 (i - 1) := by rw [hi]; exact hU1
  have hi1 : 1 ≤ i := by omega
  have hi2 : i ≤ t + 1 := by omega
  clear hi hH1 hL1 hU0
  obtain ⟨d, hd⟩ : ∃ d, t + 1 - i = d := ⟨_, rfl⟩
  induction d using Nat.strongRecOn generalizing i U1 ls H locs with
  | ind d ih =>
    refine lv_iload_n hx hb dX2_followAll_18 rfl (lv_at hl 3 rfl) ?_
    refine lv_iload_n hx hb dX2_followAll_19 rfl (lv_at hl 2 rfl) ?_
    refine lv_icmp_gt (tgt := 48) hx hb dX2_followAll_20 (by decide) (fun c_20_2 => ?_) (fun c_20_2 => ?_)
    · have i_20 : (((t : Nat) : Int) : Int) < ((i : Nat) : Int) := q_lt c_20_2 (l_nI (by omega)) (l_nI (by omega))
      exact W.vret hx hb hr (fun t9 ht hW => ⟨⟨U1, rfl, ⟨U0, hz.1, hz.2, by rw [hU1, show i - 1 = t by omega]⟩, by rw [ht]; exact hP, hD⟩, hS.F ht⟩) hS.2.2 dX2_followAll_48
    · have i_20 : (((i : Nat) : Int) : Int) ≤ ((t : Nat) : Int) := q_nlt c_20_2 (l_nI (by omega)) (l_nI (by omega))
      refine lv_aload_n hx hb dX2_followAll_23 rfl (lv_at hl 0 rfl) ?_
      refine lv_aload_n hx hb dX2_followAll_24 rfl (lv_at hl 1 rfl) ?_
      refine lv_iload_n hx hb dX2_followAll_25 rfl (lv_at hl 3 rfl) ?_
      refine vp_callSi (va_Run.run (va_runV (As := [.int (nI (i))]) (rest := [.ref (a 0)]) ⟨hx, hb, hml, hown, hts⟩ (c_X1_kindOf l g b S (i) (by omega) (by omega) (by omega)) (cwV 1 hts gX2_followAll_X1_kindOf rfl rfl rfl (by decide +kernel) ⟨Nat.le_of_ble_eq_true rfl, Nat.le_of_ble_eq_true rfl⟩) (pv_r hK hP (ci := 3) (q0 := 3) rfl rfl [3, 4, 5, 6, 7, 8, 9, 10] rfl) rfl rfl hl.1 rfl (lv_room (Nat.le_of_ble_eq_true rfl)) dX2_followAll_26 ⟨Nat.zero_le _, Nat.zero_le _⟩)) (fun r_26_3 h_26_3 => ?_)
      subst h_26_3
      refine lv_aload_n hx hb dX2_followAll_29 rfl (lv_at hl 1 rfl) ?_
      refine lv_iload_n hx hb dX2_followAll_30 rfl (lv_at hl 3 rfl) ?_
      refine vp_callSi (va_Run.run (va_runV (As := [.int (nI (i))]) (rest := [.int (S.kd (i)), .ref (a 0)]) ⟨hx, hb, hml, hown, hts⟩ (c_X1_unitOf l g b S (i) (by omega) (by omega) (by omega)) (cwV 1 hts gX2_followAll_X1_unitOf rfl rfl rfl (by decide +kernel) ⟨Nat.le_of_ble_eq_true rfl, Nat.le_of_ble_eq_true rfl⟩) (pv_r hK hP (ci := 3) (q0 := 3) rfl rfl [3, 4, 5, 6, 7, 8, 9, 10] rfl) rfl rfl hl.1 rfl (lv_room (Nat.le_of_ble_eq_true rfl)) dX2_followAll_31 ⟨Nat.zero_le _, Nat.zero_le _⟩)) (fun r_31_3 h_31_3 => ?_)
      subst h_31_3
      refine lv_aload_n hx hb dX2_followAll_34 rfl (lv_at hl 1 rfl) ?_
      refine lv_iload_n hx hb dX2_followAll_35 rfl (lv_at hl 3 rfl) ?_
      refine vp_callSi (va_Run.run (va_runV (As := [.int (nI (i))]) (rest := [.int (S.un (i)), .int (S.kd (i)), .ref (a 0)]) ⟨hx, hb, hml, hown, hts⟩ (c_X1_cellOf l g b S (i) (by omega) (by omega) (by omega)) (cwV 1 hts gX2_followAll_X1_cellOf rfl rfl rfl (by decide +kernel) ⟨Nat.le_of_ble_eq_true rfl, Nat.le_of_ble_eq_true rfl⟩) (pv_r hK hP (ci := 3) (q0 := 3) rfl rfl [3, 4, 5, 6, 7, 8, 9, 10] rfl) rfl rfl hl.1 rfl (lv_room (Nat.le_of_ble_eq_true rfl)) dX2_followAll_36 ⟨Nat.zero_le _, Nat.zero_le _⟩)) (fun r_36_3 h_36_3 => ?_)
      subst h_36_3
      have hPc := hP.sub (ws' := [((a 0), .inr (4, [.ref (a 1), .ref (a 2)])), ((a 1), .inl (gI g, 61, .inl U1.lk)), ((a 2), .inl (gI g, 32, .inl U1.ch))]) [0, 1, 2] rfl
      have hDc := hD.sub (ws' := [((a 0), .inr (4, [.ref (a 1), .ref (a 2)])), ((a 1), .inl (gI g, 61, .inl U1.lk)), ((a 2), .inl (gI g, 32, .inl U1.ch))]) [0, 1, 2] (by decide) rfl
      refine cq_v (X := [((a 0), .inr (4, [.ref (a 1), .ref (a 2)])), ((a 1), .inl (gI g, 61, .inl U1.lk)), ((a 2), .inl (gI g, 32, .inl U1.ch)), ((b 0), .inr (3, [.ref (b 1), .ref (b 2), .ref (b 3), .ref (b 4), .ref (b 5), .ref (b 6), .ref (b 7), .int (nI (S.n)), .int (nI (S.ar))])), ((b 1), .inl (gI g, 2001, .inl S.kd)), ((b 2), .inl (gI g, 2001, .inl S.un)), ((b 3), .inl (gI g, 2001, .inl S.ce)), ((b 4), .inl (gJ g, 2001, .inr (.inl S.bf))), ((b 5), .inl (gJ g, 2001, .inr (.inl S.af))), ((b 6), .inl (gI g, 2001, .inl S.tn)), ((b 7), .inl (gZ g, 2001, .inl S.bk))]) (pl := []) (cx := [((a 0), .inr (4, [.ref (a 1), .ref (a 2)])), ((a 1), .inl (gI g, 61, .inl U1.lk)), ((a 2), .inl (gI g, 32, .inl U1.ch))]) (wr := [((b 0), .inr (3, [.ref (b 1), .ref (b 2), .ref (b 3), .ref (b 4), .ref (b 5), .ref (b 6), .ref (b 7), .int (nI (S.n)), .int (nI (S.ar))])), ((b 1), .inl (gI g, 2001, .inl S.kd)), ((b 2), .inl (gI g, 2001, .inl S.un)), ((b 3), .inl (gI g, 2001, .inl S.ce)), ((b 4), .inl (gJ g, 2001, .inr (.inl S.bf))), ((b 5), .inl (gJ g, 2001, .inr (.inl S.af))), ((b 6), .inl (gI g, 2001, .inl S.tn)), ((b 7), .inl (gZ g, 2001, .inl S.bk))]) (va_runV (As := [.int (S.kd (i)), .int (S.un (i)), .int (S.ce (i))]) (rest := []) ⟨hx, hb, hml, hown, hts⟩ (c_X2_follow l g a U1 H.size (S.kd (i)) (S.un (i)) (S.ce (i))) (cwV 3 hts gX2_followAll_X2_follow rfl rfl rfl (by decide +kernel) ⟨Nat.le_of_ble_eq_true rfl, Nat.le_of_ble_eq_true rfl⟩) (pv_w hK hP (ci := 4) (q0 := 0) rfl rfl hPc hDc) rfl rfl hl.1 rfl (lv_room (Nat.le_of_ble_eq_true rfl)) dX2_followAll_39 ⟨Nat.zero_le _, Nat.zero_le _⟩) hP hD hS hA [0, 1, 2] [3, 4, 5, 6, 7, 8, 9, 10] rfl rfl (by decide) (by decide) (fun u_39_3 H locs h_39_3 hP hD hS => ?_)
      replace hP := hP.sub (ws' := [((a 0), .inr (4, [.ref (a 1), .ref (a 2)])), ((a 1), .inl (gI g, 61, .inl u_39_3.lk)), ((a 2), .inl (gI g, 32, .inl u_39_3.ch)), ((b 0), .inr (3, [.ref (b 1), .ref (b 2), .ref (b 3), .ref (b 4), .ref (b 5), .ref (b 6), .ref (b 7), .int (nI (S.n)), .int (nI (S.ar))])), ((b 1), .inl (gI g, 2001, .inl S.kd)), ((b 2), .inl (gI g, 2001, .inl S.un)), ((b 3), .inl (gI g, 2001, .inl S.ce)), ((b 4), .inl (gJ g, 2001, .inr (.inl S.bf))), ((b 5), .inl (gJ g, 2001, .inr (.inl S.af))), ((b 6), .inl (gI g, 2001, .inl S.tn)), ((b 7), .inl (gZ g, 2001, .inl S.bk))]) [8, 9, 10, 0, 1, 2, 3, 4, 5, 6, 7] rfl
      replace hD := hD.sub (ws' := [((a 0), .inr (4, [.ref (a 1), .ref (a 2)])), ((a 1), .inl (gI g, 61, .inl u_39_3.lk)), ((a 2), .inl (gI g, 32, .inl u_39_3.ch)), ((b 0), .inr (3, [.ref (b 1), .ref (b 2), .ref (b 3), .ref (b 4), .ref (b 5), .ref (b 6), .ref (b 7), .int (nI (S.n)), .int (nI (S.ar))])), ((b 1), .inl (gI g, 2001, .inl S.kd)), ((b 2), .inl (gI g, 2001, .inl S.un)), ((b 3), .inl (gI g, 2001, .inl S.ce)), ((b 4), .inl (gJ g, 2001, .inr (.inl S.bf))), ((b 5), .inl (gJ g, 2001, .inr (.inl S.af))), ((b 6), .inl (gI g, 2001, .inl S.tn)), ((b 7), .inl (gZ g, 2001, .inl S.bk))]) [8, 9, 10, 0, 1, 2, 3, 4, 5, 6, 7] (by decide) rfl
      refine lv_iinc (v := (nI (i + 1))) (lv' := [(3, .int (nI (i + 1))), (0, .ref (a 0)), (1, .ref (b 0)), (2, .int (nI (t)))]) hx hb dX2_followAll_42 hl (k := 3) rfl (nI_1 _) (by decide) rfl (fun ls hl => ?_)
      refine lv_goto (tgt := 18) hx hb dX2_followAll_45 (by decide) ?_
      exact ih (t + 1 - (i + 1)) (by omega) ls H locs u_39_3 (i + 1) (lv_sub hl [1, 2, 3, 0] rfl) hP hD hS (by obtain ⟨j, rfl⟩ : ∃ j, i = j + 1 := ⟨i - 1, by omega⟩; rw [h_39_3, hU1]; rfl) (by omega) (by omega) rfl
end
section
/-! Images: the state, the grid of held cells, rows for it -/
abbrev IS : Type := (Nat → Int32) × (Nat → Int32) × (Nat → Int32) × (Nat → Nat → Int64) × Nat × Int32
abbrev IS.st (I : IS) : Nat → Int32 := I.1
abbrev IS.en (I : IS) : Nat → Int32 := I.2.1
abbrev IS.sp (I : IS) : Nat → Int32 := I.2.2.1
abbrev IS.M (I : IS) : Nat → Nat → Int64 := I.2.2.2.1
abbrev IS.k (I : IS) : Nat := I.2.2.2.2.1
abbrev IS.uf (I : IS) : Int32 := I.2.2.2.2.2
/-- which rows the grid's outer array holds -/
def gRow (r : Nat → Nat) : Nat → Option Nat := fun i => if i < 21 then some (r i) else none
theorem gRow_at {r : Nat → Nat} {i : Nat} (h : i < 21) : gRow r i = some (r i) := if_pos h
abbrev wI (g : GG) (a r : Nat → Nat) (I : IS) : va_W := [(a 0, .inr (2, [.ref (a 1), .ref (a 2), .ref (a 3), .ref (a 4), .int (nI I.k), .int I.uf])), (a 1, .inl (gI g, 21, .inl I.st)), (a 2, .inl (gI g, 21, .inl I.en)), (a 3, .inl (gZ g, 21, .inl I.sp)), (a 4, .inl (gG g, 21, .inr (.inr (.inr (.inr (gRow r))))))]
/-- the rows of the grid: the pool -/
def wG (g : GG) (r : Nat → Nat) (M : Nat → Nat → Int64) : va_W := (List.range 21).map (fun i => (r i, .inl (gJ g, 32, .inr (.inl (M i)))))
theorem wG_at {g : GG} {r : Nat → Nat} {M : Nat → Nat → Int64} {X : va_W} {n i : Nat} (hn : X.length = n) (hi : i < 21) : (X ++ wG g r M)[n + i]? = some (r i, .inl (gJ g, 32, .inr (.inl (M i)))) := by
  subst hn
  rw [List.getElem?_append_right (by omega), Nat.add_sub_cancel_left]
  simp [wG, hi]
theorem wG_set {g : GG} {r : Nat → Nat} {M : Nat → Nat → Int64} {X : va_W} {n i : Nat} (hn : X.length = n) (hi : i < 21) (v : Nat → Int64) : (X ++ wG g r M).set (n + i) (r i, .inl (gJ g, 32, .inr (.inl v))) = X ++ wG g r (va_up M i v) := by
  subst hn
  rw [List.set_append_right (X.length + i) _ (by omega), Nat.add_sub_cancel_left]
  congr 1
  apply List.ext_getElem?
  intro j
  by_cases e : j = i
  · subst e
    rw [List.getElem?_set_self (by simp [wG, hi])]
    simp [wG, hi, va_up]
  · rw [List.getElem?_set_ne (Ne.symm e)]
    by_cases hj : j < 21
    · simp [wG, hj, va_up, e]
    · simp [wG, hj]
section GGrid
variable {p : Program} {l : Launch} {e : Env} {R : Room} {s : State} {m : MethodId} {args : Array Value} {below : List Frame} {meth : Method} {c : Code} {H : Heap} {locs : List Loc} {cells slots : Nat} {Q : State → Prop}
variable {cc : ByteArray} {pc : Nat} {ls : Array Slot} {rest : List Value} {D : va_G} {cl : List vw_C} {A : Nat → Prop} {a : Nat} {tys : List (ClassId × FieldType)} {ws : va_W} {H0 : Heap}
theorem ga_aald (hexec : p.tables.exec = Jvm.exec) (hb : c.code = cc) (hK : va_K D cl tys s) (hP : va_P D cl ws H) (q0 t0 : Nat) {cA : ClassId} {n v : Nat} {f : Nat → Option Nat} (ha : ws[q0]? = some (a, .inl (cA, n, .inr (.inr (.inr (.inr f)))))) (ht : tys[t0]? = some (cA, .array .long)) {i : Int32} (hin : vp_in i n) (hv : f i.toNatClampNeg = some v) (hdg : decode cc pc = .ok (.aaload, 1))
    (kk : W p l e R s m args below meth c H locs cells slots Q (F0 m (pc + 1) ls (.ref v :: rest))) : W p l e R s m args below meth c H locs cells slots Q (F0 m pc ls (.int i :: .ref a :: rest)) := by
  have hlt : i.toNatClampNeg < n := Nat.not_le.mp fun q => hin (Or.inr q)
  have e1 : va_rf (f i.toNatClampNeg) = .ref v := by rw [hv]; rfl
  exact W.aald (v := .ref v) (ty := .array .long) hexec hb (hP q0 _ ha) ((hK.2 t0 _ ht).1 n (fun j => va_rf (f j))) rfl (fun q => by cases q) (by show ¬ (i < 0 ∨ (arrV _ _ _).slots.size ≤ _); rw [arrV_size]; exact hin) (by show (arrV _ _ _).slots[_]? = _; rw [arrV_read _ _ hlt, e1]) rfl rfl hdg kk
/-- cells into a row of the grid -/
theorem ga_cpTo {g : GG} {r : Nat → Nat} {M : Nat → Nat → Int64} {X : va_W} (hexec : p.tables.exec = Jvm.exec) (hb : c.code = cc) (hml : c.maxLocals = ls.size) {own : String} {index : Nat} (hown : s.vm.findClass own = some m.cls) (hlink : (Cond.methodLink own index arraycopyName).before args s = true) (hnat : (Cond.native arraycopyName).before args s = true) (hstat : (Cond.static arraycopyName).before args s = true) (hini : (Cond.initialized "java/lang/System").before args s = true)
    (hK : va_K D cl (tyS g) s) (hP : va_P D cl (X ++ wG g r M) H) (hD : va_D A (X ++ wG g r M)) (hS : va_S A H0 H locs) (q0 n0 : Nat) {a0 xn i : Nat} {f : Nat → Int64} (hx0 : (X ++ wG g r M)[q0]? = some (a0, .inl (gJ g, n0, .inr (.inl f)))) (hxn : X.length = xn) (hi : i < 21)
    {sp dp n : Int32} {sp' dp' n' : Nat} (e1 : sp.toNatClampNeg = sp') (e2 : dp.toNatClampNeg = dp') (e3 : n.toNatClampNeg = n') (h1 : ¬ sp < 0) (h2 : ¬ dp < 0) (h3 : ¬ n < 0) (h4 : sp' + n' ≤ n0) (h5 : dp' + n' ≤ 32)
    (hframes : 1 ≤ R.frames) (hlocals : (rest.map fun v => v.category).sum + (nativeFrameWords "java/lang/System" "arraycopy" 5 + 11) ≤ R.locals) (hdg : decode cc pc = .ok (.invokestatic index, 3))
    (kk : ∀ (H1 : Heap) (locs1 : List Loc), va_P D cl (X ++ wG g r (va_up M i (va_cpy f (M i) sp' dp' n'))) H1 → va_D A (X ++ wG g r (va_up M i (va_cpy f (M i) sp' dp' n'))) → va_S A H0 H1 locs1 → W p l e R s m args below meth c H1 locs1 cells slots Q (F0 m (pc + 3) ls rest)) : W p l e R s m args below meth c H locs cells slots Q (F0 m pc ls (.int n :: .int dp :: .ref (r i) :: .int sp :: .ref a0 :: rest)) := by
  subst e1
  subst e2
  subst e3
  refine va_copyl hexec hb hml hown hlink hnat hstat hini hK hP hD hS q0 (xn + i) 1 1 hx0 (wG_at hxn hi) rfl rfl rfl h1 h2 h3 h4 h5 (fun _ _ => rfl) hframes hlocals hdg ?_
  rw [wG_set hxn hi]
  exact kk
/-- a row of the grid into cells -/
theorem ga_cpOf {g : GG} {r : Nat → Nat} {M : Nat → Nat → Int64} {X : va_W} (hexec : p.tables.exec = Jvm.exec) (hb : c.code = cc) (hml : c.maxLocals = ls.size) {own : String} {index : Nat} (hown : s.vm.findClass own = some m.cls) (hlink : (Cond.methodLink own index arraycopyName).before args s = true) (hnat : (Cond.native arraycopyName).before args s = true) (hstat : (Cond.static arraycopyName).before args s = true) (hini : (Cond.initialized "java/lang/System").before args s = true)
    (hK : va_K D cl (tyS g) s) (hP : va_P D cl (X ++ wG g r M) H) (hD : va_D A (X ++ wG g r M)) (hS : va_S A H0 H locs) (q1 n1 : Nat) {a1 xn i : Nat} {f : Nat → Int64} (hx1 : (X ++ wG g r M)[q1]? = some (a1, .inl (gJ g, n1, .inr (.inl f)))) (hxn : X.length = xn) (hi : i < 21)
    {sp dp n : Int32} {sp' dp' n' : Nat} (e1 : sp.toNatClampNeg = sp') (e2 : dp.toNatClampNeg = dp') (e3 : n.toNatClampNeg = n') (h1 : ¬ sp < 0) (h2 : ¬ dp < 0) (h3 : ¬ n < 0) (h4 : sp' + n' ≤ 32) (h5 : dp' + n' ≤ n1)
    (hframes : 1 ≤ R.frames) (hlocals : (rest.map fun v => v.category).sum + (nativeFrameWords "java/lang/System" "arraycopy" 5 + 11) ≤ R.locals) (hdg : decode cc pc = .ok (.invokestatic index, 3))
    (kk : ∀ (H1 : Heap) (locs1 : List Loc), va_P D cl ((X ++ wG g r M).set q1 (a1, .inl (gJ g, n1, .inr (.inl (va_cpy (M i) f sp' dp' n'))))) H1 → va_D A ((X ++ wG g r M).set q1 (a1, .inl (gJ g, n1, .inr (.inl (va_cpy (M i) f sp' dp' n'))))) → va_S A H0 H1 locs1 → W p l e R s m args below meth c H1 locs1 cells slots Q (F0 m (pc + 3) ls rest)) : W p l e R s m args below meth c H locs cells slots Q (F0 m pc ls (.int n :: .int dp :: .ref a1 :: .int sp :: .ref (r i) :: rest)) := by
  subst e1
  subst e2
  subst e3
  exact va_copyl hexec hb hml hown hlink hnat hstat hini hK hP hD hS (xn + i) q1 1 1 (wG_at hxn hi) hx1 rfl rfl rfl h1 h2 h3 h4 h5 (fun _ _ => rfl) hframes hlocals hdg kk
end GGrid
/-- an image more; the latest one finished; images spoiled -/
def isT (I : IS) (z : Int32) (row : Nat) (cs : Nat → Int64) : IS := (upd I.st (I.k + 1) (nI row), upd I.en (I.k + 1) (nI row), I.sp, va_up I.M (I.k + 1) (va_cpy cs (I.M (I.k + 1)) 0 0 (if z = 0 then 32 else 16)), I.k + 1, z)
def isF (I : IS) (row : Nat) (cs : Nat → Int64) : IS := if I.uf = 0 then I else (I.st, upd I.en I.k (nI row), I.sp, va_up I.M I.k (va_cpy cs (I.M I.k) 16 16 16), I.k, 0)
set_option maxHeartbeats 4000000 in
set_option maxRecDepth 100000 in
theorem c_X0_howMany (l : Launch) (g : GG) (a r : Nat → Nat) (I : IS)  : Met l yX0_howMany wsX0_howMany { frames := 0, cells := 0, slots := 0, locals := 0 } (va_Pc [.ref (a 0)] (Pr g (wI g a r I))) (vp_Si (fun rv => rv = nI I.k)) 0 0 (fun _ => False) := by
  refine Met.ofW (cc := cX0_howMany) (maxL := 1) (ret := (some .int)) (by decide) rfl ?_
  intro p e s m args below meth c s₁ B hml hv
  obtain ⟨rfl, hP, hK⟩ := hv
  have hx := B.exec
  have hb := B.bytes
  have hr := B.returns
  have hts := atoms_spec (ws := wsX0_howMany) B.pre
  have hown : s.vm.findClass RX0 = some m.cls := findClass_of_methodNamed B.named
  have hlocks := B.notSynchronized
  have hl := lv_entry ([.ref (a 0)]) (n := 1) (Nat.le_of_ble_eq_true rfl)
  rw [lg_entry_eq]
  generalize (lg_sl ([.ref (a 0)]) ++ List.replicate (1 - (lg_sl ([.ref (a 0)])).length) Slot.unset).toArray = ls at hl ⊢
  have hl : lv_has ls 1 [(0, .ref (a 0))] := hl
  refine lv_aload_n hx hb dX0_howMany_0 rfl (lv_at hl 0 rfl) ?_
  refine va_get (D := gD g) (ci := 2) (v := .int (nI (I.k))) (C := RX0) (T := TX0) (N := 6) hx hb hts (by decide +kernel) hown hK.1 hP 0 rfl rfl 4 (by decide) (hts (.fieldLink RX0 27 "LogForward$Images" "many" "I") (by decide +kernel)) (fun _ h9 => h9) rfl dX0_howMany_1 ?_
  exact W.iret (v := (nI (I.k))) hx hb hr (fun tz htz hWz => ⟨(nI (I.k)), rfl, rfl, htz⟩) (fun _ h => nomatch h) dX0_howMany_4
set_option maxHeartbeats 4000000 in
set_option maxRecDepth 100000 in
theorem c_X0_has (l : Launch) (g : GG) (a r : Nat → Nat) (I : IS) (p1 : Int32) (hk : I.k ≤ 20) : Met l yX0_has wsX0_has { frames := 0, cells := 0, slots := 0, locals := 0 } (va_Pc [.ref (a 0), .int p1] (Pr g (wI g a r I))) (vp_Si (fun rv => rv = bI (1 ≤ p1.toInt ∧ p1.toInt ≤ (I.k : Int)))) 0 0 (fun _ => False) := by
  refine Met.ofW (cc := cX0_has) (maxL := 2) (ret := (some .boolean)) (by decide) rfl ?_
  intro p e s m args below meth c s₁ B hml hv
  obtain ⟨rfl, hP, hK⟩ := hv
  have hx := B.exec
  have hb := B.bytes
  have hr := B.returns
  have hts := atoms_spec (ws := wsX0_has) B.pre
  have hown : s.vm.findClass RX0 = some m.cls := findClass_of_methodNamed B.named
  have hlocks := B.notSynchronized
  have hl := lv_entry ([.ref (a 0), .int p1]) (n := 2) (Nat.le_of_ble_eq_true rfl)
  rw [lg_entry_eq]
  generalize (lg_sl ([.ref (a 0), .int p1]) ++ List.replicate (2 - (lg_sl ([.ref (a 0), .int p1])).length) Slot.unset).toArray = ls at hl ⊢
  have hl : lv_has ls 2 [(0, .ref (a 0)), (1, .int p1)] := hl
  refine lv_iload_n hx hb dX0_has_0 rfl (lv_at hl 1 rfl) ?_
  refine lv_iconst (v := 1) hx hb dX0_has_1 (by decide) ?_
  refine lv_icmp_lt (tgt := 17) hx hb dX0_has_2 (by decide) (fun c_2_1 => ?_) (fun c_2_1 => ?_)
  · have i_2 : (p1.toInt : Int) < 1 := q_lt c_2_1 rfl rfl
    refine lv_iconst (v := 0) hx hb dX0_has_17 (by decide) ?_
    exact W.zret (v := 0) hx hb hr rfl (fun tz htz hWz => ⟨0, rfl, (bI_0 (by first | omega | assumption | simp_all)), htz⟩) (fun _ h => nomatch h) dX0_has_18
  · have i_2 : (1 : Int) ≤ p1.toInt := q_nlt c_2_1 rfl rfl
    refine lv_iload_n hx hb dX0_has_5 rfl (lv_at hl 1 rfl) ?_
    refine lv_aload_n hx hb dX0_has_6 rfl (lv_at hl 0 rfl) ?_
    refine va_get (D := gD g) (ci := 2) (v := .int (nI (I.k))) (C := RX0) (T := TX0) (N := 6) hx hb hts (by decide +kernel) hown hK.1 hP 0 rfl rfl 4 (by decide) (hts (.fieldLink RX0 27 "LogForward$Images" "many" "I") (by decide +kernel)) (fun _ h9 => h9) rfl dX0_has_7 ?_
    refine lv_icmp_gt (tgt := 17) hx hb dX0_has_10 (by decide) (fun c_10_2 => ?_) (fun c_10_2 => ?_)
    · have i_10 : (((I.k : Nat) : Int) : Int) < p1.toInt := q_lt c_10_2 (l_nI (by omega)) rfl
      refine lv_iconst (v := 0) hx hb dX0_has_17 (by decide) ?_
      exact W.zret (v := 0) hx hb hr rfl (fun tz htz hWz => ⟨0, rfl, (bI_0 (by first | omega | assumption | simp_all)), htz⟩) (fun _ h => nomatch h) dX0_has_18
    · have i_10 : (p1.toInt : Int) ≤ ((I.k : Nat) : Int) := q_nlt c_10_2 (l_nI (by omega)) rfl
      refine lv_iconst (v := 1) hx hb dX0_has_13 (by decide) ?_
      refine lv_goto (tgt := 18) hx hb dX0_has_14 (by decide) ?_
      exact W.zret (v := 1) hx hb hr rfl (fun tz htz hWz => ⟨1, rfl, (bI_1 (by first | omega | assumption | simp_all)), htz⟩) (fun _ h => nomatch h) dX0_has_18
set_option maxHeartbeats 4000000 in
set_option maxRecDepth 100000 in
theorem c_X0_has_n (l : Launch) (g : GG) (a r : Nat → Nat) (I : IS) (i : Nat) (hi1 : 1 ≤ i) (hi2 : i ≤ I.k) (hk : I.k ≤ 20) : Met l yX0_has wsX0_has { frames := 0, cells := 0, slots := 0, locals := 0 } (va_Pc [.ref (a 0), .int (nI (i))] (Pr g (wI g a r I))) (vp_Si (fun rv => rv = 1)) 0 0 (fun _ => False) := by
  refine Met.ofW (cc := cX0_has) (maxL := 2) (ret := (some .boolean)) (by decide) rfl ?_
  intro p e s m args below meth c s₁ B hml hv
  obtain ⟨rfl, hP, hK⟩ := hv
  have hx := B.exec
  have hb := B.bytes
  have hr := B.returns
  have hts := atoms_spec (ws := wsX0_has) B.pre
  have hown : s.vm.findClass RX0 = some m.cls := findClass_of_methodNamed B.named
  have hlocks := B.notSynchronized
  have hl := lv_entry ([.ref (a 0), .int (nI (i))]) (n := 2) (Nat.le_of_ble_eq_true rfl)
  rw [lg_entry_eq]
  generalize (lg_sl ([.ref (a 0), .int (nI (i))]) ++ List.replicate (2 - (lg_sl ([.ref (a 0), .int (nI (i))])).length) Slot.unset).toArray = ls at hl ⊢
  have hl : lv_has ls 2 [(0, .ref (a 0)), (1, .int (nI (i)))] := hl
  refine lv_iload_n hx hb dX0_has_0 rfl (lv_at hl 1 rfl) ?_
  refine lv_iconst (v := 1) hx hb dX0_has_1 (by decide) ?_
  refine lv_icmp_lt (tgt := 17) hx hb dX0_has_2 (by decide) (fun c_2_1 => ?_) (fun c_2_1 => ?_)
  · have i_2 : (((i : Nat) : Int) : Int) < 1 := q_lt c_2_1 (l_nI (by omega)) rfl
    refine lv_iconst (v := 0) hx hb dX0_has_17 (by decide) ?_
    exact W.zret (v := 0) hx hb hr rfl (fun tz htz hWz => ⟨0, rfl, (by exfalso; omega), htz⟩) (fun _ h => nomatch h) dX0_has_18
  · have i_2 : (1 : Int) ≤ ((i : Nat) : Int) := q_nlt c_2_1 (l_nI (by omega)) rfl
    refine lv_iload_n hx hb dX0_has_5 rfl (lv_at hl 1 rfl) ?_
    refine lv_aload_n hx hb dX0_has_6 rfl (lv_at hl 0 rfl) ?_
    refine va_get (D := gD g) (ci := 2) (v := .int (nI (I.k))) (C := RX0) (T := TX0) (N := 6) hx hb hts (by decide +kernel) hown hK.1 hP 0 rfl rfl 4 (by decide) (hts (.fieldLink RX0 27 "LogForward$Images" "many" "I") (by decide +kernel)) (fun _ h9 => h9) rfl dX0_has_7 ?_
    refine lv_icmp_gt (tgt := 17) hx hb dX0_has_10 (by decide) (fun c_10_2 => ?_) (fun c_10_2 => ?_)
    · have i_10 : (((I.k : Nat) : Int) : Int) < ((i : Nat) : Int) := q_lt c_10_2 (l_nI (by omega)) (l_nI (by omega))
      refine lv_iconst (v := 0) hx hb dX0_has_17 (by decide) ?_
      exact W.zret (v := 0) hx hb hr rfl (fun tz htz hWz => ⟨0, rfl, (by exfalso; omega), htz⟩) (fun _ h => nomatch h) dX0_has_18
    · have i_10 : (((i : Nat) : Int) : Int) ≤ ((I.k : Nat) : Int) := q_nlt c_10_2 (l_nI (by omega)) (l_nI (by omega))
      refine lv_iconst (v := 1) hx hb dX0_has_13 (by decide) ?_
      refine lv_goto (tgt := 18) hx hb dX0_has_14 (by decide) ?_
      exact W.zret (v := 1) hx hb hr rfl (fun tz htz hWz => ⟨1, rfl, rfl, htz⟩) (fun _ h => nomatch h) dX0_has_18
set_option maxHeartbeats 4000000 in
set_option maxRecDepth 100000 in
theorem c_X0_isGood (l : Launch) (g : GG) (a r : Nat → Nat) (I : IS) (p1 : Int32) (hk : I.k ≤ 20) : Met l yX0_isGood wsX0_isGood { frames := 1, cells := 0, slots := 0, locals := 21 } (va_Pc [.ref (a 0), .int p1] (Pr g (wI g a r I))) (vp_Si (fun rv => rv = bI ((1 ≤ p1.toInt ∧ p1.toInt ≤ (I.k : Int)) ∧ I.sp p1.toNatClampNeg = 0))) 0 0 (fun _ => False) := by
  refine Met.ofW (cc := cX0_isGood) (maxL := 2) (ret := (some .boolean)) (by decide) rfl ?_
  intro p e s m args below meth c s₁ B hml hv
  obtain ⟨rfl, hP, hK⟩ := hv
  have hx := B.exec
  have hb := B.bytes
  have hr := B.returns
  have hts := atoms_spec (ws := wsX0_isGood) B.pre
  have hown : s.vm.findClass RX0 = some m.cls := findClass_of_methodNamed B.named
  have hlocks := B.notSynchronized
  have hl := lv_entry ([.ref (a 0), .int p1]) (n := 2) (Nat.le_of_ble_eq_true rfl)
  rw [lg_entry_eq]
  generalize (lg_sl ([.ref (a 0), .int p1]) ++ List.replicate (2 - (lg_sl ([.ref (a 0), .int p1])).length) Slot.unset).toArray = ls at hl ⊢
  have hl : lv_has ls 2 [(0, .ref (a 0)), (1, .int p1)] := hl
  refine lv_aload_n hx hb dX0_isGood_0 rfl (lv_at hl 0 rfl) ?_
  refine lv_iload_n hx hb dX0_isGood_1 rfl (lv_at hl 1 rfl) ?_
  refine vp_callSi (va_Run.run (va_runV (As := [.int p1]) (rest := []) ⟨hx, hb, hml, hown, hts⟩ (c_X0_has l g a r I p1 (by omega)) (cwV 1 hts gX0_isGood_X0_has rfl rfl rfl (by decide +kernel) ⟨Nat.le_of_ble_eq_true rfl, Nat.le_of_ble_eq_true rfl⟩) (pv_r hK hP (ci := 2) (q0 := 0) rfl rfl [0, 1, 2, 3, 4] rfl) rfl rfl hl.1 rfl (lv_room (Nat.le_of_ble_eq_true rfl)) dX0_isGood_2 ⟨Nat.zero_le _, Nat.zero_le _⟩)) (fun r_2_1 h_2_1 => ?_)
  refine lv_if_eq (tgt := 21) hx hb dX0_isGood_5 (by decide) (fun c_5_1 => ?_) (fun c_5_1 => ?_)
  · have b_5 : ¬ (1 ≤ p1.toInt ∧ p1.toInt ≤ (I.k : Int)) := bI_f h_2_1 c_5_1
    refine lv_iconst (v := 0) hx hb dX0_isGood_21 (by decide) ?_
    exact W.zret (v := 0) hx hb hr rfl (fun tz htz hWz => ⟨0, rfl, (bI_0 (by first | exact ⟨by assumption, by assumption⟩ | exact fun h => absurd h.1 (by assumption) | exact fun h => absurd h.2 (by assumption))), htz⟩) (fun _ h => nomatch h) dX0_isGood_22
  · have b_5 : 1 ≤ p1.toInt ∧ p1.toInt ≤ (I.k : Int) := bI_t h_2_1 c_5_1
    refine lv_aload_n hx hb dX0_isGood_8 rfl (lv_at hl 0 rfl) ?_
    refine va_get (D := gD g) (ci := 2) (v := .ref (a 3)) (C := RX0) (T := TX0) (N := 6) hx hb hts (by decide +kernel) hown hK.1 hP 0 rfl rfl 2 (by decide) (hts (.fieldLink RX0 18 "LogForward$Images" "spoiled" "[Z") (by decide +kernel)) (fun _ h9 => h9) rfl dX0_isGood_9 ?_
    refine lv_iload_n hx hb dX0_isGood_12 rfl (lv_at hl 1 rfl) ?_
    refine ga_zald (v := (I.sp p1.toNatClampNeg)) hx hb hK.1 hP 3 2 rfl rfl (v_p (by omega) (by omega)) rfl dX0_isGood_13 ?_
    refine lv_if_ne (tgt := 21) hx hb dX0_isGood_14 (by decide) (fun c_14_2 => ?_) (fun c_14_2 => ?_)
    · have i_14 : ((I.sp p1.toNatClampNeg).toInt : Int) ≠ 0 := q_ne c_14_2 rfl rfl
      refine lv_iconst (v := 0) hx hb dX0_isGood_21 (by decide) ?_
      exact W.zret (v := 0) hx hb hr rfl (fun tz htz hWz => ⟨0, rfl, (bI_0 (by first | exact ⟨by assumption, by assumption⟩ | exact fun h => absurd h.1 (by assumption) | exact fun h => absurd h.2 (by assumption))), htz⟩) (fun _ h => nomatch h) dX0_isGood_22
    · have i_14 : ((I.sp p1.toNatClampNeg).toInt : Int) = 0 := q_eq c_14_2 rfl rfl
      refine lv_iconst (v := 1) hx hb dX0_isGood_17 (by decide) ?_
      refine lv_goto (tgt := 22) hx hb dX0_isGood_18 (by decide) ?_
      exact W.zret (v := 1) hx hb hr rfl (fun tz htz hWz => ⟨1, rfl, (bI_1 (by first | exact ⟨by assumption, by assumption⟩ | exact fun h => absurd h.1 (by assumption) | exact fun h => absurd h.2 (by assumption))), htz⟩) (fun _ h => nomatch h) dX0_isGood_22
set_option maxHeartbeats 4000000 in
set_option maxRecDepth 100000 in
theorem c_X0_startOf (l : Launch) (g : GG) (a r : Nat → Nat) (I : IS) (i : Nat) (hi1 : 1 ≤ i) (hi2 : i ≤ I.k) (hk : I.k ≤ 20) : Met l yX0_startOf wsX0_startOf { frames := 1, cells := 0, slots := 0, locals := 21 } (va_Pc [.ref (a 0), .int (nI (i))] (Pr g (wI g a r I))) (vp_Si (fun rv => rv = I.st i)) 0 0 (fun _ => False) := by
  refine Met.ofW (cc := cX0_startOf) (maxL := 2) (ret := (some .int)) (by decide) rfl ?_
  intro p e s m args below meth c s₁ B hml hv
  obtain ⟨rfl, hP, hK⟩ := hv
  have hx := B.exec
  have hb := B.bytes
  have hr := B.returns
  have hts := atoms_spec (ws := wsX0_startOf) B.pre
  have hown : s.vm.findClass RX0 = some m.cls := findClass_of_methodNamed B.named
  have hlocks := B.notSynchronized
  have hl := lv_entry ([.ref (a 0), .int (nI (i))]) (n := 2) (Nat.le_of_ble_eq_true rfl)
  rw [lg_entry_eq]
  generalize (lg_sl ([.ref (a 0), .int (nI (i))]) ++ List.replicate (2 - (lg_sl ([.ref (a 0), .int (nI (i))])).length) Slot.unset).toArray = ls at hl ⊢
  have hl : lv_has ls 2 [(0, .ref (a 0)), (1, .int (nI (i)))] := hl
  refine lv_aload_n hx hb dX0_startOf_0 rfl (lv_at hl 0 rfl) ?_
  refine lv_iload_n hx hb dX0_startOf_1 rfl (lv_at hl 1 rfl) ?_
  refine vp_callSi (va_Run.run (va_runV (As := [.int (nI (i))]) (rest := []) ⟨hx, hb, hml, hown, hts⟩ (c_X0_has_n l g a r I (i) (by omega) (by omega) (by omega)) (cwV 1 hts gX0_startOf_X0_has rfl rfl rfl (by decide +kernel) ⟨Nat.le_of_ble_eq_true rfl, Nat.le_of_ble_eq_true rfl⟩) (pv_r hK hP (ci := 2) (q0 := 0) rfl rfl [0, 1, 2, 3, 4] rfl) rfl rfl hl.1 rfl (lv_room (Nat.le_of_ble_eq_true rfl)) dX0_startOf_2 ⟨Nat.zero_le _, Nat.zero_le _⟩)) (fun r_2_1 h_2_1 => ?_)
  subst h_2_1
  refine lv_if_eq (tgt := 17) hx hb dX0_startOf_5 (by decide) (fun c_5_1 => ?_) (fun c_5_1 => ?_)
  · exact absurd c_5_1 (by decide)
  · skip
    refine lv_aload_n hx hb dX0_startOf_8 rfl (lv_at hl 0 rfl) ?_
    refine va_get (D := gD g) (ci := 2) (v := .ref (a 1)) (C := RX0) (T := TX0) (N := 6) hx hb hts (by decide +kernel) hown hK.1 hP 0 rfl rfl 0 (by decide) (hts (.fieldLink RX0 11 "LogForward$Images" "start" "[I") (by decide +kernel)) (fun _ h9 => h9) rfl dX0_startOf_9 ?_
    refine lv_iload_n hx hb dX0_startOf_12 rfl (lv_at hl 1 rfl) ?_
    refine ga_iald (v := (I.st i)) hx hb hK.1 hP 1 0 rfl rfl (v_nI (by omega) (by omega)) (by rw [(c_nI (by omega))]) dX0_startOf_13 ?_
    refine lv_goto (tgt := 18) hx hb dX0_startOf_14 (by decide) ?_
    exact W.iret (v := (I.st i)) hx hb hr (fun tz htz hWz => ⟨(I.st i), rfl, rfl, htz⟩) (fun _ h => nomatch h) dX0_startOf_18
set_option maxHeartbeats 4000000 in
set_option maxRecDepth 100000 in
theorem c_X0_endOf (l : Launch) (g : GG) (a r : Nat → Nat) (I : IS) (i : Nat) (hi1 : 1 ≤ i) (hi2 : i ≤ I.k) (hk : I.k ≤ 20) : Met l yX0_endOf wsX0_endOf { frames := 1, cells := 0, slots := 0, locals := 21 } (va_Pc [.ref (a 0), .int (nI (i))] (Pr g (wI g a r I))) (vp_Si (fun rv => rv = I.en i)) 0 0 (fun _ => False) := by
  refine Met.ofW (cc := cX0_endOf) (maxL := 2) (ret := (some .int)) (by decide) rfl ?_
  intro p e s m args below meth c s₁ B hml hv
  obtain ⟨rfl, hP, hK⟩ := hv
  have hx := B.exec
  have hb := B.bytes
  have hr := B.returns
  have hts := atoms_spec (ws := wsX0_endOf) B.pre
  have hown : s.vm.findClass RX0 = some m.cls := findClass_of_methodNamed B.named
  have hlocks := B.notSynchronized
  have hl := lv_entry ([.ref (a 0), .int (nI (i))]) (n := 2) (Nat.le_of_ble_eq_true rfl)
  rw [lg_entry_eq]
  generalize (lg_sl ([.ref (a 0), .int (nI (i))]) ++ List.replicate (2 - (lg_sl ([.ref (a 0), .int (nI (i))])).length) Slot.unset).toArray = ls at hl ⊢
  have hl : lv_has ls 2 [(0, .ref (a 0)), (1, .int (nI (i)))] := hl
  refine lv_aload_n hx hb dX0_endOf_0 rfl (lv_at hl 0 rfl) ?_
  refine lv_iload_n hx hb dX0_endOf_1 rfl (lv_at hl 1 rfl) ?_
  refine vp_callSi (va_Run.run (va_runV (As := [.int (nI (i))]) (rest := []) ⟨hx, hb, hml, hown, hts⟩ (c_X0_has_n l g a r I (i) (by omega) (by omega) (by omega)) (cwV 1 hts gX0_endOf_X0_has rfl rfl rfl (by decide +kernel) ⟨Nat.le_of_ble_eq_true rfl, Nat.le_of_ble_eq_true rfl⟩) (pv_r hK hP (ci := 2) (q0 := 0) rfl rfl [0, 1, 2, 3, 4] rfl) rfl rfl hl.1 rfl (lv_room (Nat.le_of_ble_eq_true rfl)) dX0_endOf_2 ⟨Nat.zero_le _, Nat.zero_le _⟩)) (fun r_2_1 h_2_1 => ?_)
  subst h_2_1
  refine lv_if_eq (tgt := 17) hx hb dX0_endOf_5 (by decide) (fun c_5_1 => ?_) (fun c_5_1 => ?_)
  · exact absurd c_5_1 (by decide)
  · skip
    refine lv_aload_n hx hb dX0_endOf_8 rfl (lv_at hl 0 rfl) ?_
    refine va_get (D := gD g) (ci := 2) (v := .ref (a 2)) (C := RX0) (T := TX0) (N := 6) hx hb hts (by decide +kernel) hown hK.1 hP 0 rfl rfl 1 (by decide) (hts (.fieldLink RX0 15 "LogForward$Images" "end" "[I") (by decide +kernel)) (fun _ h9 => h9) rfl dX0_endOf_9 ?_
    refine lv_iload_n hx hb dX0_endOf_12 rfl (lv_at hl 1 rfl) ?_
    refine ga_iald (v := (I.en i)) hx hb hK.1 hP 2 0 rfl rfl (v_nI (by omega) (by omega)) (by rw [(c_nI (by omega))]) dX0_endOf_13 ?_
    refine lv_goto (tgt := 18) hx hb dX0_endOf_14 (by decide) ?_
    exact W.iret (v := (I.en i)) hx hb hr (fun tz htz hWz => ⟨(I.en i), rfl, rfl, htz⟩) (fun _ h => nomatch h) dX0_endOf_18
set_option maxHeartbeats 4000000 in
set_option maxRecDepth 100000 in
theorem c_X0_finish (l : Launch) (g : GG) (a r : Nat → Nat) (ca : Nat) (I : IS) (cs : Nat → Int64) (sz : Nat) (row : Nat) (hrow : row ≤ 2000) (hk : I.k ≤ 20) : Met l yX0_finish wsX0_finish { frames := 1, cells := 0, slots := 0, locals := 64 } (va_Pc [.ref (a 0), .int (nI (row)), .ref ca] (Pw g ((wI g a r I ++ [(ca, .inl (gJ g, 32, .inr (.inl cs)))]) ++ wG g r I.M) sz)) (va_Qv (fun u => u = isF I row cs) (Bw g (va_A ((wI g a r I ++ [(ca, .inl (gJ g, 32, .inr (.inl cs)))]) ++ wG g r I.M) sz) (fun u : IS => (wI g a r u ++ [(ca, .inl (gJ g, 32, .inr (.inl cs)))]) ++ wG g r u.M)) (va_A ((wI g a r I ++ [(ca, .inl (gJ g, 32, .inr (.inl cs)))]) ++ wG g r I.M) sz)) 0 0 (va_A ((wI g a r I ++ [(ca, .inl (gJ g, 32, .inr (.inl cs)))]) ++ wG g r I.M) sz) := by
  refine Met.ofW (cc := cX0_finish) (maxL := 3) (ret := none) (by decide) rfl ?_
  intro p e s m args below meth c s₁ B hml hv
  obtain ⟨rfl, hsz, hP, hK, hD0⟩ := hv
  have hx := B.exec
  have hb := B.bytes
  have hr := B.returns
  have hts := atoms_spec (ws := wsX0_finish) B.pre
  have hown : s.vm.findClass RX0 = some m.cls := findClass_of_methodNamed B.named
  have hlocks := B.notSynchronized
  subst hsz
  have hD := hD0.self (sz := s.heap.size)
  generalize hAe : va_A (((wI g a r I ++ [(ca, .inl (gJ g, 32, .inr (.inl cs)))]) ++ wG g r I.M)) s.heap.size = A at hD ⊢
  have hA : ∀ q : Nat, s.heap.size ≤ q → A q := fun q h => by rw [← hAe]; exact Or.inr h
  have hS : va_S A s.heap s.heap [] := va_S.rf
  have hl := lv_entry ([.ref (a 0), .int (nI (row)), .ref ca]) (n := 3) (Nat.le_of_ble_eq_true rfl)
  rw [lg_entry_eq]
  generalize (lg_sl ([.ref (a 0), .int (nI (row)), .ref ca]) ++ List.replicate (3 - (lg_sl ([.ref (a 0), .int (nI (row)), .ref ca])).length) Slot.unset).toArray = ls at hl ⊢
  have hl : lv_has ls 3 [(0, .ref (a 0)), (1, .int (nI (row))), (2, .ref ca)] := hl
  replace hP : va_P (gD g) vwCl ([((a 0), .inr (2, [.ref (a 1), .ref (a 2), .ref (a 3), .ref (a 4), .int (nI (I.k)), .int I.uf])), ((a 1), .inl (gI g, 21, .inl I.st)), ((a 2), .inl (gI g, 21, .inl I.en)), ((a 3), .inl (gZ g, 21, .inl I.sp)), ((a 4), .inl (gG g, 21, .inr (.inr (.inr (.inr (gRow r)))))), (ca, .inl (gJ g, 32, .inr (.inl cs)))] ++ wG g r (I.M)) s.heap := hP
  replace hD : va_D A ([((a 0), .inr (2, [.ref (a 1), .ref (a 2), .ref (a 3), .ref (a 4), .int (nI (I.k)), .int I.uf])), ((a 1), .inl (gI g, 21, .inl I.st)), ((a 2), .inl (gI g, 21, .inl I.en)), ((a 3), .inl (gZ g, 21, .inl I.sp)), ((a 4), .inl (gG g, 21, .inr (.inr (.inr (.inr (gRow r)))))), (ca, .inl (gJ g, 32, .inr (.inl cs)))] ++ wG g r (I.M)) := hD
  refine lv_aload_n hx hb dX0_finish_0 rfl (lv_at hl 0 rfl) ?_
  refine va_get (D := gD g) (ci := 2) (v := .int I.uf) (C := RX0) (T := TX0) (N := 6) hx hb hts (by decide +kernel) hown hK.1 hP 0 rfl rfl 5 (by decide) (hts (.fieldLink RX0 31 "LogForward$Images" "latestIsUnfinished" "Z") (by decide +kernel)) (fun _ h9 => h9) rfl dX0_finish_1 ?_
  refine lv_if_ne (tgt := 8) hx hb dX0_finish_4 (by decide) (fun c_4_1 => ?_) (fun c_4_1 => ?_)
  · have i_4 : (I.uf.toInt : Int) ≠ 0 := q_ne c_4_1 rfl rfl
    refine lv_aload_n hx hb dX0_finish_8 rfl (lv_at hl 2 rfl) ?_
    refine lv_bipush (v := 16) hx hb dX0_finish_9 (by decide) ?_
    refine lv_aload_n hx hb dX0_finish_11 rfl (lv_at hl 0 rfl) ?_
    refine va_get (D := gD g) (ci := 2) (v := .ref (a 4)) (C := RX0) (T := TX0) (N := 6) hx hb hts (by decide +kernel) hown hK.1 hP 0 rfl rfl 3 (by decide) (hts (.fieldLink RX0 24 "LogForward$Images" "held" "[[J") (by decide +kernel)) (fun _ h9 => h9) rfl dX0_finish_12 ?_
    refine lv_aload_n hx hb dX0_finish_15 rfl (lv_at hl 0 rfl) ?_
    refine va_get (D := gD g) (ci := 2) (v := .int (nI (I.k))) (C := RX0) (T := TX0) (N := 6) hx hb hts (by decide +kernel) hown hK.1 hP 0 rfl rfl 4 (by decide) (hts (.fieldLink RX0 27 "LogForward$Images" "many" "I") (by decide +kernel)) (fun _ h9 => h9) rfl dX0_finish_16 ?_
    refine ga_aald (v := (r (I.k))) hx hb hK.1 hP 4 3 rfl rfl (v_nI (by omega) (by omega)) (by rw [(c_nI (by omega))]; exact gRow_at (by omega)) dX0_finish_19 ?_
    refine lv_bipush (v := 16) hx hb dX0_finish_20 (by decide) ?_
    refine lv_bipush (v := 16) hx hb dX0_finish_22 (by decide) ?_
    refine ga_cpTo (X := [((a 0), .inr (2, [.ref (a 1), .ref (a 2), .ref (a 3), .ref (a 4), .int (nI (I.k)), .int I.uf])), ((a 1), .inl (gI g, 21, .inl I.st)), ((a 2), .inl (gI g, 21, .inl I.en)), ((a 3), .inl (gZ g, 21, .inl I.sp)), ((a 4), .inl (gG g, 21, .inr (.inr (.inr (.inr (gRow r)))))), (ca, .inl (gJ g, 32, .inr (.inl cs)))]) hx hb (hml.trans hl.1.symm) hown (hts (.methodLink RX0 39 arraycopyName) (by decide +kernel)) (hts (.native arraycopyName) (by decide +kernel)) (hts (.static arraycopyName) (by decide +kernel)) (hts (.initialized "java/lang/System") (by decide +kernel)) hK.1 hP hD hS 5 32 rfl (xn := 6) rfl (i := I.k) (by omega) (sp' := 16) (dp' := 16) (n' := 16) rfl rfl rfl (by decide) (by decide) (by decide) (by decide) (by decide) (Nat.le_of_ble_eq_true rfl) (Nat.le_of_ble_eq_true rfl) dX0_finish_24 (fun H locs hP hD hS => ?_)
    have hP : va_P (gD g) vwCl ([((a 0), .inr (2, [.ref (a 1), .ref (a 2), .ref (a 3), .ref (a 4), .int (nI (I.k)), .int I.uf])), ((a 1), .inl (gI g, 21, .inl I.st)), ((a 2), .inl (gI g, 21, .inl I.en)), ((a 3), .inl (gZ g, 21, .inl I.sp)), ((a 4), .inl (gG g, 21, .inr (.inr (.inr (.inr (gRow r)))))), (ca, .inl (gJ g, 32, .inr (.inl cs)))] ++ wG g r (va_up (I.M) (I.k) (va_cpy cs ((I.M) (I.k)) 16 16 16))) H := hP
    have hD : va_D A ([((a 0), .inr (2, [.ref (a 1), .ref (a 2), .ref (a 3), .ref (a 4), .int (nI (I.k)), .int I.uf])), ((a 1), .inl (gI g, 21, .inl I.st)), ((a 2), .inl (gI g, 21, .inl I.en)), ((a 3), .inl (gZ g, 21, .inl I.sp)), ((a 4), .inl (gG g, 21, .inr (.inr (.inr (.inr (gRow r)))))), (ca, .inl (gJ g, 32, .inr (.inl cs)))] ++ wG g r (va_up (I.M) (I.k) (va_cpy cs ((I.M) (I.k)) 16 16 16))) := hD
    refine lv_aload_n hx hb dX0_finish_27 rfl (lv_at hl 0 rfl) ?_
    refine va_get (D := gD g) (ci := 2) (v := .ref (a 2)) (C := RX0) (T := TX0) (N := 6) hx hb hts (by decide +kernel) hown hK.1 hP 0 rfl rfl 1 (by decide) (hts (.fieldLink RX0 15 "LogForward$Images" "end" "[I") (by decide +kernel)) (fun _ h9 => h9) rfl dX0_finish_28 ?_
    refine lv_aload_n hx hb dX0_finish_31 rfl (lv_at hl 0 rfl) ?_
    refine va_get (D := gD g) (ci := 2) (v := .int (nI (I.k))) (C := RX0) (T := TX0) (N := 6) hx hb hts (by decide +kernel) hown hK.1 hP 0 rfl rfl 4 (by decide) (hts (.fieldLink RX0 27 "LogForward$Images" "many" "I") (by decide +kernel)) (fun _ h9 => h9) rfl dX0_finish_32 ?_
    refine lv_iload_n hx hb dX0_finish_35 rfl (lv_at hl 1 rfl) ?_
    refine ga_iast (j := I.k) hx hb hK.1 hP hD hS 2 0 rfl rfl (v_nI (by omega) (by omega)) (c_nI (by omega)) dX0_finish_36 (fun H locs hP hD hS => ?_)
    have hP : va_P (gD g) vwCl ([((a 0), .inr (2, [.ref (a 1), .ref (a 2), .ref (a 3), .ref (a 4), .int (nI (I.k)), .int I.uf])), ((a 1), .inl (gI g, 21, .inl I.st)), ((a 2), .inl (gI g, 21, .inl (upd I.en (I.k) (nI (row))))), ((a 3), .inl (gZ g, 21, .inl I.sp)), ((a 4), .inl (gG g, 21, .inr (.inr (.inr (.inr (gRow r)))))), (ca, .inl (gJ g, 32, .inr (.inl cs)))] ++ wG g r (va_up (I.M) (I.k) (va_cpy cs ((I.M) (I.k)) 16 16 16))) H := hP
    have hD : va_D A ([((a 0), .inr (2, [.ref (a 1), .ref (a 2), .ref (a 3), .ref (a 4), .int (nI (I.k)), .int I.uf])), ((a 1), .inl (gI g, 21, .inl I.st)), ((a 2), .inl (gI g, 21, .inl (upd I.en (I.k) (nI (row))))), ((a 3), .inl (gZ g, 21, .inl I.sp)), ((a 4), .inl (gG g, 21, .inr (.inr (.inr (.inr (gRow r)))))), (ca, .inl (gJ g, 32, .inr (.inl cs)))] ++ wG g r (va_up (I.M) (I.k) (va_cpy cs ((I.M) (I.k)) 16 16 16))) := hD
    refine lv_aload_n hx hb dX0_finish_37 rfl (lv_at hl 0 rfl) ?_
    refine lv_iconst (v := 0) hx hb dX0_finish_38 (by decide) ?_
    refine va_put (D := gD g) (ci := 2) (v := .int 0) (ty := .boolean) (C := RX0) (T := TX0) (N := 6) hx hb hts (by decide +kernel) tyX0 tyX0_ok nmX0 hown hK.1 hP hD hS 0 rfl rfl 5 (by decide) (hts (.fieldLink RX0 31 "LogForward$Images" "latestIsUnfinished" "Z") (by decide +kernel)) (fun _ h9 => h9) rfl (by decide +kernel) rfl rfl (Nat.le_of_ble_eq_true rfl) dX0_finish_39 (fun H locs hP hD hS => ?_)
    have hP : va_P (gD g) vwCl ([((a 0), .inr (2, [.ref (a 1), .ref (a 2), .ref (a 3), .ref (a 4), .int (nI (I.k)), .int 0])), ((a 1), .inl (gI g, 21, .inl I.st)), ((a 2), .inl (gI g, 21, .inl (upd I.en (I.k) (nI (row))))), ((a 3), .inl (gZ g, 21, .inl I.sp)), ((a 4), .inl (gG g, 21, .inr (.inr (.inr (.inr (gRow r)))))), (ca, .inl (gJ g, 32, .inr (.inl cs)))] ++ wG g r (va_up (I.M) (I.k) (va_cpy cs ((I.M) (I.k)) 16 16 16))) H := hP
    have hD : va_D A ([((a 0), .inr (2, [.ref (a 1), .ref (a 2), .ref (a 3), .ref (a 4), .int (nI (I.k)), .int 0])), ((a 1), .inl (gI g, 21, .inl I.st)), ((a 2), .inl (gI g, 21, .inl (upd I.en (I.k) (nI (row))))), ((a 3), .inl (gZ g, 21, .inl I.sp)), ((a 4), .inl (gG g, 21, .inr (.inr (.inr (.inr (gRow r)))))), (ca, .inl (gJ g, 32, .inr (.inl cs)))] ++ wG g r (va_up (I.M) (I.k) (va_cpy cs ((I.M) (I.k)) 16 16 16))) := hD
    have hP9 : va_P (gD g) vwCl ((wI g a r (I.st, (upd I.en (I.k) (nI (row))), I.sp, va_up (I.M) (I.k) (va_cpy cs ((I.M) (I.k)) 16 16 16), I.k, 0) ++ [(ca, .inl (gJ g, 32, .inr (.inl cs)))]) ++ wG g r (IS.M (I.st, (upd I.en (I.k) (nI (row))), I.sp, va_up (I.M) (I.k) (va_cpy cs ((I.M) (I.k)) 16 16 16), I.k, 0))) H := hP
    have hD9 : va_D A ((wI g a r (I.st, (upd I.en (I.k) (nI (row))), I.sp, va_up (I.M) (I.k) (va_cpy cs ((I.M) (I.k)) 16 16 16), I.k, 0) ++ [(ca, .inl (gJ g, 32, .inr (.inl cs)))]) ++ wG g r (IS.M (I.st, (upd I.en (I.k) (nI (row))), I.sp, va_up (I.M) (I.k) (va_cpy cs ((I.M) (I.k)) 16 16 16), I.k, 0))) := hD
    exact W.vret hx hb hr (fun t ht hW => ⟨⟨(I.st, (upd I.en (I.k) (nI (row))), I.sp, va_up (I.M) (I.k) (va_cpy cs ((I.M) (I.k)) 16 16 16), I.k, 0), rfl, (by simp [isF, c_4_1]), by rw [ht]; exact hP9, hD9⟩, hS.F ht⟩) hS.2.2 dX0_finish_42
  · have i_4 : (I.uf.toInt : Int) = 0 := q_eq c_4_1 rfl rfl
    have hP9 : va_P (gD g) vwCl ((wI g a r I ++ [(ca, .inl (gJ g, 32, .inr (.inl cs)))]) ++ wG g r (IS.M I)) s.heap := hP
    have hD9 : va_D A ((wI g a r I ++ [(ca, .inl (gJ g, 32, .inr (.inl cs)))]) ++ wG g r (IS.M I)) := hD
    exact W.vret hx hb hr (fun t ht hW => ⟨⟨I, rfl, (by simp [isF, c_4_1]), by rw [ht]; exact hP9, hD9⟩, hS.F ht⟩) hS.2.2 dX0_finish_7
set_option maxHeartbeats 4000000 in
set_option maxRecDepth 100000 in
theorem c_X0_finishBehindFifth (l : Launch) (g : GG) (a r : Nat → Nat) (ca : Nat) (I : IS) (cs : Nat → Int64) (sz : Nat) (row : Nat) (hrow : row ≤ 2000) (hk : I.k ≤ 20) : Met l yX0_finishBehindFifth wsX0_finishBehindFifth { frames := 2, cells := 0, slots := 0, locals := 86 } (va_Pc [.ref (a 0), .int (nI (row)), .ref ca] (Pw g ((wI g a r I ++ [(ca, .inl (gJ g, 32, .inr (.inl cs)))]) ++ wG g r I.M) sz)) (va_Qv (fun u => u = if (5 : Int) ≤ (nI row - I.st I.k).toInt then isF I row cs else I) (Bw g (va_A ((wI g a r I ++ [(ca, .inl (gJ g, 32, .inr (.inl cs)))]) ++ wG g r I.M) sz) (fun u : IS => (wI g a r u ++ [(ca, .inl (gJ g, 32, .inr (.inl cs)))]) ++ wG g r u.M)) (va_A ((wI g a r I ++ [(ca, .inl (gJ g, 32, .inr (.inl cs)))]) ++ wG g r I.M) sz)) 0 0 (va_A ((wI g a r I ++ [(ca, .inl (gJ g, 32, .inr (.inl cs)))]) ++ wG g r I.M) sz) := by
  refine Met.ofW (cc := cX0_finishBehindFifth) (maxL := 3) (ret := none) (by decide) rfl ?_
  intro p e s m args below meth c s₁ B hml hv
  obtain ⟨rfl, hsz, hP, hK, hD0⟩ := hv
  have hx := B.exec
  have hb := B.bytes
  have hr := B.returns
  have hts := atoms_spec (ws := wsX0_finishBehindFifth) B.pre
  have hown : s.vm.findClass RX0 = some m.cls := findClass_of_methodNamed B.named
  have hlocks := B.notSynchronized
  subst hsz
  have hD := hD0.self (sz := s.heap.size)
  generalize hAe : va_A (((wI g a r I ++ [(ca, .inl (gJ g, 32, .inr (.inl cs)))]) ++ wG g r I.M)) s.heap.size = A at hD ⊢
  have hA : ∀ q : Nat, s.heap.size ≤ q → A q := fun q h => by rw [← hAe]; exact Or.inr h
  have hS : va_S A s.heap s.heap [] := va_S.rf
  have hl := lv_entry ([.ref (a 0), .int (nI (row)), .ref ca]) (n := 3) (Nat.le_of_ble_eq_true rfl)
  rw [lg_entry_eq]
  generalize (lg_sl ([.ref (a 0), .int (nI (row)), .ref ca]) ++ List.replicate (3 - (lg_sl ([.ref (a 0), .int (nI (row)), .ref ca])).length) Slot.unset).toArray = ls at hl ⊢
  have hl : lv_has ls 3 [(0, .ref (a 0)), (1, .int (nI (row))), (2, .ref ca)] := hl
  replace hP : va_P (gD g) vwCl ([((a 0), .inr (2, [.ref (a 1), .ref (a 2), .ref (a 3), .ref (a 4), .int (nI (I.k)), .int I.uf])), ((a 1), .inl (gI g, 21, .inl I.st)), ((a 2), .inl (gI g, 21, .inl I.en)), ((a 3), .inl (gZ g, 21, .inl I.sp)), ((a 4), .inl (gG g, 21, .inr (.inr (.inr (.inr (gRow r)))))), (ca, .inl (gJ g, 32, .inr (.inl cs)))] ++ wG g r (I.M)) s.heap := hP
  replace hD : va_D A ([((a 0), .inr (2, [.ref (a 1), .ref (a 2), .ref (a 3), .ref (a 4), .int (nI (I.k)), .int I.uf])), ((a 1), .inl (gI g, 21, .inl I.st)), ((a 2), .inl (gI g, 21, .inl I.en)), ((a 3), .inl (gZ g, 21, .inl I.sp)), ((a 4), .inl (gG g, 21, .inr (.inr (.inr (.inr (gRow r)))))), (ca, .inl (gJ g, 32, .inr (.inl cs)))] ++ wG g r (I.M)) := hD
  refine lv_iload_n hx hb dX0_finishBehindFifth_0 rfl (lv_at hl 1 rfl) ?_
  refine lv_aload_n hx hb dX0_finishBehindFifth_1 rfl (lv_at hl 0 rfl) ?_
  refine va_get (D := gD g) (ci := 2) (v := .ref (a 1)) (C := RX0) (T := TX0) (N := 6) hx hb hts (by decide +kernel) hown hK.1 hP 0 rfl rfl 0 (by decide) (hts (.fieldLink RX0 11 "LogForward$Images" "start" "[I") (by decide +kernel)) (fun _ h9 => h9) rfl dX0_finishBehindFifth_2 ?_
  refine lv_aload_n hx hb dX0_finishBehindFifth_5 rfl (lv_at hl 0 rfl) ?_
  refine va_get (D := gD g) (ci := 2) (v := .int (nI (I.k))) (C := RX0) (T := TX0) (N := 6) hx hb hts (by decide +kernel) hown hK.1 hP 0 rfl rfl 4 (by decide) (hts (.fieldLink RX0 27 "LogForward$Images" "many" "I") (by decide +kernel)) (fun _ h9 => h9) rfl dX0_finishBehindFifth_6 ?_
  refine ga_iald (v := (I.st I.k)) hx hb hK.1 hP 1 0 rfl rfl (v_nI (by omega) (by omega)) (by rw [(c_nI (by omega))]) dX0_finishBehindFifth_9 ?_
  refine ga_isub (v := ((nI (row)) - (I.st I.k))) hx hb (rfl) dX0_finishBehindFifth_10 ?_
  refine lv_iconst (v := 5) hx hb dX0_finishBehindFifth_11 (by decide) ?_
  refine lv_icmp_lt (tgt := 21) hx hb dX0_finishBehindFifth_12 (by decide) (fun c_12_1 => ?_) (fun c_12_1 => ?_)
  · have i_12 : (((nI (row)) - (I.st I.k)).toInt : Int) < 5 := q_lt c_12_1 rfl rfl
    have hP9 : va_P (gD g) vwCl ((wI g a r I ++ [(ca, .inl (gJ g, 32, .inr (.inl cs)))]) ++ wG g r (IS.M I)) s.heap := hP
    have hD9 : va_D A ((wI g a r I ++ [(ca, .inl (gJ g, 32, .inr (.inl cs)))]) ++ wG g r (IS.M I)) := hD
    exact W.vret hx hb hr (fun t ht hW => ⟨⟨I, rfl, (by rw [if_neg (by omega)]), by rw [ht]; exact hP9, hD9⟩, hS.F ht⟩) hS.2.2 dX0_finishBehindFifth_21
  · have i_12 : (5 : Int) ≤ ((nI (row)) - (I.st I.k)).toInt := q_nlt c_12_1 rfl rfl
    refine lv_aload_n hx hb dX0_finishBehindFifth_15 rfl (lv_at hl 0 rfl) ?_
    refine lv_iload_n hx hb dX0_finishBehindFifth_16 rfl (lv_at hl 1 rfl) ?_
    refine lv_aload_n hx hb dX0_finishBehindFifth_17 rfl (lv_at hl 2 rfl) ?_
    refine ca_v (ws := [((a 0), .inr (2, [.ref (a 1), .ref (a 2), .ref (a 3), .ref (a 4), .int (nI (I.k)), .int I.uf])), ((a 1), .inl (gI g, 21, .inl I.st)), ((a 2), .inl (gI g, 21, .inl I.en)), ((a 3), .inl (gZ g, 21, .inl I.sp)), ((a 4), .inl (gG g, 21, .inr (.inr (.inr (.inr (gRow r)))))), (ca, .inl (gJ g, 32, .inr (.inl cs)))] ++ wG g r (I.M)) (va_runV (As := [.int (nI (row)), .ref ca]) (rest := []) ⟨hx, hb, hml, hown, hts⟩ (c_X0_finish l g a r ca I cs s.heap.size (row) (by omega) (by omega)) (cwV 2 hts gX0_finishBehindFifth_X0_finish rfl rfl rfl (by decide +kernel) ⟨Nat.le_of_ble_eq_true rfl, Nat.le_of_ble_eq_true rfl⟩) (pv_w hK hP (ci := 2) (q0 := 0) rfl rfl hP hD) rfl rfl hl.1 rfl (lv_room (Nat.le_of_ble_eq_true rfl)) dX0_finishBehindFifth_18 ⟨Nat.zero_le _, Nat.zero_le _⟩) hD hS hA (fun u_18_2 H locs h_18_2 hP hD hS => ?_)
    replace hP : va_P (gD g) vwCl ([((a 0), .inr (2, [.ref (a 1), .ref (a 2), .ref (a 3), .ref (a 4), .int (nI (u_18_2.k)), .int u_18_2.uf])), ((a 1), .inl (gI g, 21, .inl u_18_2.st)), ((a 2), .inl (gI g, 21, .inl u_18_2.en)), ((a 3), .inl (gZ g, 21, .inl u_18_2.sp)), ((a 4), .inl (gG g, 21, .inr (.inr (.inr (.inr (gRow r)))))), (ca, .inl (gJ g, 32, .inr (.inl cs)))] ++ wG g r (u_18_2.M)) H := hP
    replace hD : va_D A ([((a 0), .inr (2, [.ref (a 1), .ref (a 2), .ref (a 3), .ref (a 4), .int (nI (u_18_2.k)), .int u_18_2.uf])), ((a 1), .inl (gI g, 21, .inl u_18_2.st)), ((a 2), .inl (gI g, 21, .inl u_18_2.en)), ((a 3), .inl (gZ g, 21, .inl u_18_2.sp)), ((a 4), .inl (gG g, 21, .inr (.inr (.inr (.inr (gRow r)))))), (ca, .inl (gJ g, 32, .inr (.inl cs)))] ++ wG g r (u_18_2.M)) := hD
    have hP9 : va_P (gD g) vwCl ((wI g a r (u_18_2.st, u_18_2.en, u_18_2.sp, u_18_2.M, u_18_2.k, u_18_2.uf) ++ [(ca, .inl (gJ g, 32, .inr (.inl cs)))]) ++ wG g r (IS.M (u_18_2.st, u_18_2.en, u_18_2.sp, u_18_2.M, u_18_2.k, u_18_2.uf))) H := hP
    have hD9 : va_D A ((wI g a r (u_18_2.st, u_18_2.en, u_18_2.sp, u_18_2.M, u_18_2.k, u_18_2.uf) ++ [(ca, .inl (gJ g, 32, .inr (.inl cs)))]) ++ wG g r (IS.M (u_18_2.st, u_18_2.en, u_18_2.sp, u_18_2.M, u_18_2.k, u_18_2.uf))) := hD
    exact W.vret hx hb hr (fun t ht hW => ⟨⟨(u_18_2.st, u_18_2.en, u_18_2.sp, u_18_2.M, u_18_2.k, u_18_2.uf), rfl, (by rw [if_pos (by omega)]; exact h_18_2), by rw [ht]; exact hP9, hD9⟩, hS.F ht⟩) hS.2.2 dX0_finishBehindFifth_21
set_option maxHeartbeats 4000000 in
set_option maxRecDepth 100000 in
theorem c_X0_take (l : Launch) (g : GG) (a r : Nat → Nat) (ca : Nat) (I : IS) (cs : Nat → Int64) (sz : Nat) (z : Int32) (row : Nat) (hrow : row ≤ 2000) (hz : z = 0 ∨ z = 1) (hk : I.k ≤ 20) : Met l yX0_take wsX0_take { frames := 1, cells := 0, slots := 0, locals := 64 } (va_Pc [.ref (a 0), .int z, .int (nI (row)), .ref ca] (Pw g ((wI g a r I ++ [(ca, .inl (gJ g, 32, .inr (.inl cs)))]) ++ wG g r I.M) sz)) (va_Qi (fun rv u => (rv = -1 ∧ u = I ∧ 20 ≤ I.k) ∨ (rv = nI (I.k + 1) ∧ u = isT I z row cs ∧ I.k < 20)) (Bw g (va_A ((wI g a r I ++ [(ca, .inl (gJ g, 32, .inr (.inl cs)))]) ++ wG g r I.M) sz) (fun u : IS => (wI g a r u ++ [(ca, .inl (gJ g, 32, .inr (.inl cs)))]) ++ wG g r u.M)) (va_A ((wI g a r I ++ [(ca, .inl (gJ g, 32, .inr (.inl cs)))]) ++ wG g r I.M) sz)) 0 0 (va_A ((wI g a r I ++ [(ca, .inl (gJ g, 32, .inr (.inl cs)))]) ++ wG g r I.M) sz) := by
  refine Met.ofW (cc := cX0_take) (maxL := 5) (ret := (some .int)) (by decide) rfl ?_
  intro p e s m args below meth c s₁ B hml hv
  obtain ⟨rfl, hsz, hP, hK, hD0⟩ := hv
  have hx := B.exec
  have hb := B.bytes
  have hr := B.returns
  have hts := atoms_spec (ws := wsX0_take) B.pre
  have hown : s.vm.findClass RX0 = some m.cls := findClass_of_methodNamed B.named
  have hlocks := B.notSynchronized
  subst hsz
  have hD := hD0.self (sz := s.heap.size)
  generalize hAe : va_A (((wI g a r I ++ [(ca, .inl (gJ g, 32, .inr (.inl cs)))]) ++ wG g r I.M)) s.heap.size = A at hD ⊢
  have hA : ∀ q : Nat, s.heap.size ≤ q → A q := fun q h => by rw [← hAe]; exact Or.inr h
  have hS : va_S A s.heap s.heap [] := va_S.rf
  have hl := lv_entry ([.ref (a 0), .int z, .int (nI (row)), .ref ca]) (n := 5) (Nat.le_of_ble_eq_true rfl)
  rw [lg_entry_eq]
  generalize (lg_sl ([.ref (a 0), .int z, .int (nI (row)), .ref ca]) ++ List.replicate (5 - (lg_sl ([.ref (a 0), .int z, .int (nI (row)), .ref ca])).length) Slot.unset).toArray = ls at hl ⊢
  have hl : lv_has ls 5 [(0, .ref (a 0)), (1, .int z), (2, .int (nI (row))), (3, .ref ca)] := hl
  replace hP : va_P (gD g) vwCl ([((a 0), .inr (2, [.ref (a 1), .ref (a 2), .ref (a 3), .ref (a 4), .int (nI (I.k)), .int I.uf])), ((a 1), .inl (gI g, 21, .inl I.st)), ((a 2), .inl (gI g, 21, .inl I.en)), ((a 3), .inl (gZ g, 21, .inl I.sp)), ((a 4), .inl (gG g, 21, .inr (.inr (.inr (.inr (gRow r)))))), (ca, .inl (gJ g, 32, .inr (.inl cs)))] ++ wG g r (I.M)) s.heap := hP
  replace hD : va_D A ([((a 0), .inr (2, [.ref (a 1), .ref (a 2), .ref (a 3), .ref (a 4), .int (nI (I.k)), .int I.uf])), ((a 1), .inl (gI g, 21, .inl I.st)), ((a 2), .inl (gI g, 21, .inl I.en)), ((a 3), .inl (gZ g, 21, .inl I.sp)), ((a 4), .inl (gG g, 21, .inr (.inr (.inr (.inr (gRow r)))))), (ca, .inl (gJ g, 32, .inr (.inl cs)))] ++ wG g r (I.M)) := hD
  refine lv_aload_n hx hb dX0_take_0 rfl (lv_at hl 0 rfl) ?_
  refine va_get (D := gD g) (ci := 2) (v := .int (nI (I.k))) (C := RX0) (T := TX0) (N := 6) hx hb hts (by decide +kernel) hown hK.1 hP 0 rfl rfl 4 (by decide) (hts (.fieldLink RX0 27 "LogForward$Images" "many" "I") (by decide +kernel)) (fun _ h9 => h9) rfl dX0_take_1 ?_
  refine lv_bipush (v := 20) hx hb dX0_take_4 (by decide) ?_
  refine lv_icmp_lt (tgt := 11) hx hb dX0_take_6 (by decide) (fun c_6_1 => ?_) (fun c_6_1 => ?_)
  · have i_6 : (((I.k : Nat) : Int) : Int) < 20 := q_lt c_6_1 (l_nI (by omega)) rfl
    refine lv_aload_n hx hb dX0_take_11 rfl (lv_at hl 0 rfl) ?_
    refine lv_dup hx hb dX0_take_12 rfl ?_
    refine va_get (D := gD g) (ci := 2) (v := .int (nI (I.k))) (C := RX0) (T := TX0) (N := 6) hx hb hts (by decide +kernel) hown hK.1 hP 0 rfl rfl 4 (by decide) (hts (.fieldLink RX0 27 "LogForward$Images" "many" "I") (by decide +kernel)) (fun _ h9 => h9) rfl dX0_take_13 ?_
    refine lv_iconst (v := 1) hx hb dX0_take_16 (by decide) ?_
    refine ga_iadd (v := (nI (I.k + 1))) hx hb (nI_1 _) dX0_take_17 ?_
    refine va_put (D := gD g) (ci := 2) (v := .int (nI (I.k + 1))) (ty := .int) (C := RX0) (T := TX0) (N := 6) hx hb hts (by decide +kernel) tyX0 tyX0_ok nmX0 hown hK.1 hP hD hS 0 rfl rfl 4 (by decide) (hts (.fieldLink RX0 27 "LogForward$Images" "many" "I") (by decide +kernel)) (fun _ h9 => h9) rfl (by decide +kernel) rfl rfl (Nat.le_of_ble_eq_true rfl) dX0_take_18 (fun H locs hP hD hS => ?_)
    have hP : va_P (gD g) vwCl ([((a 0), .inr (2, [.ref (a 1), .ref (a 2), .ref (a 3), .ref (a 4), .int (nI (I.k + 1)), .int I.uf])), ((a 1), .inl (gI g, 21, .inl I.st)), ((a 2), .inl (gI g, 21, .inl I.en)), ((a 3), .inl (gZ g, 21, .inl I.sp)), ((a 4), .inl (gG g, 21, .inr (.inr (.inr (.inr (gRow r)))))), (ca, .inl (gJ g, 32, .inr (.inl cs)))] ++ wG g r (I.M)) H := hP
    have hD : va_D A ([((a 0), .inr (2, [.ref (a 1), .ref (a 2), .ref (a 3), .ref (a 4), .int (nI (I.k + 1)), .int I.uf])), ((a 1), .inl (gI g, 21, .inl I.st)), ((a 2), .inl (gI g, 21, .inl I.en)), ((a 3), .inl (gZ g, 21, .inl I.sp)), ((a 4), .inl (gG g, 21, .inr (.inr (.inr (.inr (gRow r)))))), (ca, .inl (gJ g, 32, .inr (.inl cs)))] ++ wG g r (I.M)) := hD
    refine lv_aload_n hx hb dX0_take_21 rfl (lv_at hl 0 rfl) ?_
    refine va_get (D := gD g) (ci := 2) (v := .ref (a 1)) (C := RX0) (T := TX0) (N := 6) hx hb hts (by decide +kernel) hown hK.1 hP 0 rfl rfl 0 (by decide) (hts (.fieldLink RX0 11 "LogForward$Images" "start" "[I") (by decide +kernel)) (fun _ h9 => h9) rfl dX0_take_22 ?_
    refine lv_aload_n hx hb dX0_take_25 rfl (lv_at hl 0 rfl) ?_
    refine va_get (D := gD g) (ci := 2) (v := .int (nI (I.k + 1))) (C := RX0) (T := TX0) (N := 6) hx hb hts (by decide +kernel) hown hK.1 hP 0 rfl rfl 4 (by decide) (hts (.fieldLink RX0 27 "LogForward$Images" "many" "I") (by decide +kernel)) (fun _ h9 => h9) rfl dX0_take_26 ?_
    refine lv_iload_n hx hb dX0_take_29 rfl (lv_at hl 2 rfl) ?_
    refine ga_iast (j := I.k + 1) hx hb hK.1 hP hD hS 1 0 rfl rfl (v_nI (by omega) (by omega)) (c_nI (by omega)) dX0_take_30 (fun H locs hP hD hS => ?_)
    have hP : va_P (gD g) vwCl ([((a 0), .inr (2, [.ref (a 1), .ref (a 2), .ref (a 3), .ref (a 4), .int (nI (I.k + 1)), .int I.uf])), ((a 1), .inl (gI g, 21, .inl (upd I.st (I.k + 1) (nI (row))))), ((a 2), .inl (gI g, 21, .inl I.en)), ((a 3), .inl (gZ g, 21, .inl I.sp)), ((a 4), .inl (gG g, 21, .inr (.inr (.inr (.inr (gRow r)))))), (ca, .inl (gJ g, 32, .inr (.inl cs)))] ++ wG g r (I.M)) H := hP
    have hD : va_D A ([((a 0), .inr (2, [.ref (a 1), .ref (a 2), .ref (a 3), .ref (a 4), .int (nI (I.k + 1)), .int I.uf])), ((a 1), .inl (gI g, 21, .inl (upd I.st (I.k + 1) (nI (row))))), ((a 2), .inl (gI g, 21, .inl I.en)), ((a 3), .inl (gZ g, 21, .inl I.sp)), ((a 4), .inl (gG g, 21, .inr (.inr (.inr (.inr (gRow r)))))), (ca, .inl (gJ g, 32, .inr (.inl cs)))] ++ wG g r (I.M)) := hD
    refine lv_aload_n hx hb dX0_take_31 rfl (lv_at hl 0 rfl) ?_
    refine va_get (D := gD g) (ci := 2) (v := .ref (a 2)) (C := RX0) (T := TX0) (N := 6) hx hb hts (by decide +kernel) hown hK.1 hP 0 rfl rfl 1 (by decide) (hts (.fieldLink RX0 15 "LogForward$Images" "end" "[I") (by decide +kernel)) (fun _ h9 => h9) rfl dX0_take_32 ?_
    refine lv_aload_n hx hb dX0_take_35 rfl (lv_at hl 0 rfl) ?_
    refine va_get (D := gD g) (ci := 2) (v := .int (nI (I.k + 1))) (C := RX0) (T := TX0) (N := 6) hx hb hts (by decide +kernel) hown hK.1 hP 0 rfl rfl 4 (by decide) (hts (.fieldLink RX0 27 "LogForward$Images" "many" "I") (by decide +kernel)) (fun _ h9 => h9) rfl dX0_take_36 ?_
    refine lv_iload_n hx hb dX0_take_39 rfl (lv_at hl 2 rfl) ?_
    refine ga_iast (j := I.k + 1) hx hb hK.1 hP hD hS 2 0 rfl rfl (v_nI (by omega) (by omega)) (c_nI (by omega)) dX0_take_40 (fun H locs hP hD hS => ?_)
    have hP : va_P (gD g) vwCl ([((a 0), .inr (2, [.ref (a 1), .ref (a 2), .ref (a 3), .ref (a 4), .int (nI (I.k + 1)), .int I.uf])), ((a 1), .inl (gI g, 21, .inl (upd I.st (I.k + 1) (nI (row))))), ((a 2), .inl (gI g, 21, .inl (upd I.en (I.k + 1) (nI (row))))), ((a 3), .inl (gZ g, 21, .inl I.sp)), ((a 4), .inl (gG g, 21, .inr (.inr (.inr (.inr (gRow r)))))), (ca, .inl (gJ g, 32, .inr (.inl cs)))] ++ wG g r (I.M)) H := hP
    have hD : va_D A ([((a 0), .inr (2, [.ref (a 1), .ref (a 2), .ref (a 3), .ref (a 4), .int (nI (I.k + 1)), .int I.uf])), ((a 1), .inl (gI g, 21, .inl (upd I.st (I.k + 1) (nI (row))))), ((a 2), .inl (gI g, 21, .inl (upd I.en (I.k + 1) (nI (row))))), ((a 3), .inl (gZ g, 21, .inl I.sp)), ((a 4), .inl (gG g, 21, .inr (.inr (.inr (.inr (gRow r)))))), (ca, .inl (gJ g, 32, .inr (.inl cs)))] ++ wG g r (I.M)) := hD
    refine lv_iload_n hx hb dX0_take_41 rfl (lv_at hl 1 rfl) ?_
    refine lv_if_eq (tgt := 50) hx hb dX0_take_42 (by decide) (fun c_42_2 => ?_) (fun c_42_2 => ?_)
    · have i_42 : (z.toInt : Int) = 0 := q_eq c_42_2 rfl rfl
      refine lv_bipush (v := 32) hx hb dX0_take_50 (by decide) ?_
      refine lv_istore (lv' := [(4, .int 32), (0, .ref (a 0)), (1, .int z), (2, .int (nI (row))), (3, .ref ca)]) hx hb dX0_take_52 hl (by decide) rfl (fun ls hl => ?_)
      refine lv_aload_n hx hb dX0_take_54 rfl (lv_at hl 4 rfl) ?_
      refine lv_iconst (v := 0) hx hb dX0_take_55 (by decide) ?_
      refine lv_aload_n hx hb dX0_take_56 rfl (lv_at hl 1 rfl) ?_
      refine va_get (D := gD g) (ci := 2) (v := .ref (a 4)) (C := RX0) (T := TX0) (N := 6) hx hb hts (by decide +kernel) hown hK.1 hP 0 rfl rfl 3 (by decide) (hts (.fieldLink RX0 24 "LogForward$Images" "held" "[[J") (by decide +kernel)) (fun _ h9 => h9) rfl dX0_take_57 ?_
      refine lv_aload_n hx hb dX0_take_60 rfl (lv_at hl 1 rfl) ?_
      refine va_get (D := gD g) (ci := 2) (v := .int (nI (I.k + 1))) (C := RX0) (T := TX0) (N := 6) hx hb hts (by decide +kernel) hown hK.1 hP 0 rfl rfl 4 (by decide) (hts (.fieldLink RX0 27 "LogForward$Images" "many" "I") (by decide +kernel)) (fun _ h9 => h9) rfl dX0_take_61 ?_
      refine ga_aald (v := (r (I.k + 1))) hx hb hK.1 hP 4 3 rfl rfl (v_nI (by omega) (by omega)) (by rw [(c_nI (by omega))]; exact gRow_at (by omega)) dX0_take_64 ?_
      refine lv_iconst (v := 0) hx hb dX0_take_65 (by decide) ?_
      refine lv_iload hx hb dX0_take_66 (lv_at hl 0 rfl) ?_
      refine ga_cpTo (X := [((a 0), .inr (2, [.ref (a 1), .ref (a 2), .ref (a 3), .ref (a 4), .int (nI (I.k + 1)), .int I.uf])), ((a 1), .inl (gI g, 21, .inl (upd I.st (I.k + 1) (nI (row))))), ((a 2), .inl (gI g, 21, .inl (upd I.en (I.k + 1) (nI (row))))), ((a 3), .inl (gZ g, 21, .inl I.sp)), ((a 4), .inl (gG g, 21, .inr (.inr (.inr (.inr (gRow r)))))), (ca, .inl (gJ g, 32, .inr (.inl cs)))]) hx hb (hml.trans hl.1.symm) hown (hts (.methodLink RX0 39 arraycopyName) (by decide +kernel)) (hts (.native arraycopyName) (by decide +kernel)) (hts (.static arraycopyName) (by decide +kernel)) (hts (.initialized "java/lang/System") (by decide +kernel)) hK.1 hP hD hS 5 32 rfl (xn := 6) rfl (i := I.k + 1) (by omega) (sp' := 0) (dp' := 0) (n' := 32) rfl rfl rfl (by decide) (by decide) (by decide) (by decide) (by decide) (Nat.le_of_ble_eq_true rfl) (Nat.le_of_ble_eq_true rfl) dX0_take_68 (fun H locs hP hD hS => ?_)
      have hP : va_P (gD g) vwCl ([((a 0), .inr (2, [.ref (a 1), .ref (a 2), .ref (a 3), .ref (a 4), .int (nI (I.k + 1)), .int I.uf])), ((a 1), .inl (gI g, 21, .inl (upd I.st (I.k + 1) (nI (row))))), ((a 2), .inl (gI g, 21, .inl (upd I.en (I.k + 1) (nI (row))))), ((a 3), .inl (gZ g, 21, .inl I.sp)), ((a 4), .inl (gG g, 21, .inr (.inr (.inr (.inr (gRow r)))))), (ca, .inl (gJ g, 32, .inr (.inl cs)))] ++ wG g r (va_up (I.M) (I.k + 1) (va_cpy cs ((I.M) (I.k + 1)) 0 0 32))) H := hP
      have hD : va_D A ([((a 0), .inr (2, [.ref (a 1), .ref (a 2), .ref (a 3), .ref (a 4), .int (nI (I.k + 1)), .int I.uf])), ((a 1), .inl (gI g, 21, .inl (upd I.st (I.k + 1) (nI (row))))), ((a 2), .inl (gI g, 21, .inl (upd I.en (I.k + 1) (nI (row))))), ((a 3), .inl (gZ g, 21, .inl I.sp)), ((a 4), .inl (gG g, 21, .inr (.inr (.inr (.inr (gRow r)))))), (ca, .inl (gJ g, 32, .inr (.inl cs)))] ++ wG g r (va_up (I.M) (I.k + 1) (va_cpy cs ((I.M) (I.k + 1)) 0 0 32))) := hD
      refine lv_aload_n hx hb dX0_take_71 rfl (lv_at hl 1 rfl) ?_
      refine lv_iload_n hx hb dX0_take_72 rfl (lv_at hl 2 rfl) ?_
      refine va_put (D := gD g) (ci := 2) (v := .int z) (ty := .boolean) (C := RX0) (T := TX0) (N := 6) hx hb hts (by decide +kernel) tyX0 tyX0_ok nmX0 hown hK.1 hP hD hS 0 rfl rfl 5 (by decide) (hts (.fieldLink RX0 31 "LogForward$Images" "latestIsUnfinished" "Z") (by decide +kernel)) (fun _ h9 => h9) rfl (by decide +kernel) (by rcases hz with rfl | rfl <;> rfl) (by rcases hz with rfl | rfl <;> rfl) (Nat.le_of_ble_eq_true rfl) dX0_take_73 (fun H locs hP hD hS => ?_)
      have hP : va_P (gD g) vwCl ([((a 0), .inr (2, [.ref (a 1), .ref (a 2), .ref (a 3), .ref (a 4), .int (nI (I.k + 1)), .int z])), ((a 1), .inl (gI g, 21, .inl (upd I.st (I.k + 1) (nI (row))))), ((a 2), .inl (gI g, 21, .inl (upd I.en (I.k + 1) (nI (row))))), ((a 3), .inl (gZ g, 21, .inl I.sp)), ((a 4), .inl (gG g, 21, .inr (.inr (.inr (.inr (gRow r)))))), (ca, .inl (gJ g, 32, .inr (.inl cs)))] ++ wG g r (va_up (I.M) (I.k + 1) (va_cpy cs ((I.M) (I.k + 1)) 0 0 32))) H := hP
      have hD : va_D A ([((a 0), .inr (2, [.ref (a 1), .ref (a 2), .ref (a 3), .ref (a 4), .int (nI (I.k + 1)), .int z])), ((a 1), .inl (gI g, 21, .inl (upd I.st (I.k + 1) (nI (row))))), ((a 2), .inl (gI g, 21, .inl (upd I.en (I.k + 1) (nI (row))))), ((a 3), .inl (gZ g, 21, .inl I.sp)), ((a 4), .inl (gG g, 21, .inr (.inr (.inr (.inr (gRow r)))))), (ca, .inl (gJ g, 32, .inr (.inl cs)))] ++ wG g r (va_up (I.M) (I.k + 1) (va_cpy cs ((I.M) (I.k + 1)) 0 0 32))) := hD
      refine lv_aload_n hx hb dX0_take_76 rfl (lv_at hl 1 rfl) ?_
      refine va_get (D := gD g) (ci := 2) (v := .int (nI (I.k + 1))) (C := RX0) (T := TX0) (N := 6) hx hb hts (by decide +kernel) hown hK.1 hP 0 rfl rfl 4 (by decide) (hts (.fieldLink RX0 27 "LogForward$Images" "many" "I") (by decide +kernel)) (fun _ h9 => h9) rfl dX0_take_77 ?_
      have hP9 : va_P (gD g) vwCl ((wI g a r ((upd I.st (I.k + 1) (nI (row))), (upd I.en (I.k + 1) (nI (row))), I.sp, va_up (I.M) (I.k + 1) (va_cpy cs ((I.M) (I.k + 1)) 0 0 32), I.k + 1, z) ++ [(ca, .inl (gJ g, 32, .inr (.inl cs)))]) ++ wG g r (IS.M ((upd I.st (I.k + 1) (nI (row))), (upd I.en (I.k + 1) (nI (row))), I.sp, va_up (I.M) (I.k + 1) (va_cpy cs ((I.M) (I.k + 1)) 0 0 32), I.k + 1, z))) H := hP
      have hD9 : va_D A ((wI g a r ((upd I.st (I.k + 1) (nI (row))), (upd I.en (I.k + 1) (nI (row))), I.sp, va_up (I.M) (I.k + 1) (va_cpy cs ((I.M) (I.k + 1)) 0 0 32), I.k + 1, z) ++ [(ca, .inl (gJ g, 32, .inr (.inl cs)))]) ++ wG g r (IS.M ((upd I.st (I.k + 1) (nI (row))), (upd I.en (I.k + 1) (nI (row))), I.sp, va_up (I.M) (I.k + 1) (va_cpy cs ((I.M) (I.k + 1)) 0 0 32), I.k + 1, z))) := hD
      exact W.iret (v := (nI (I.k + 1))) hx hb hr (fun t ht hW => ⟨⟨(nI (I.k + 1)), ((upd I.st (I.k + 1) (nI (row))), (upd I.en (I.k + 1) (nI (row))), I.sp, va_up (I.M) (I.k + 1) (va_cpy cs ((I.M) (I.k + 1)) 0 0 32), I.k + 1, z), rfl, (Or.inr ⟨rfl, by simp [isT, c_42_2], by omega⟩), by rw [ht]; exact hP9, hD9⟩, hS.F ht⟩) hS.2.2 dX0_take_80
    · have i_42 : (z.toInt : Int) ≠ 0 := q_ne c_42_2 rfl rfl
      refine lv_bipush (v := 16) hx hb dX0_take_45 (by decide) ?_
      refine lv_goto (tgt := 52) hx hb dX0_take_47 (by decide) ?_
      refine lv_istore (lv' := [(4, .int 16), (0, .ref (a 0)), (1, .int z), (2, .int (nI (row))), (3, .ref ca)]) hx hb dX0_take_52 hl (by decide) rfl (fun ls hl => ?_)
      refine lv_aload_n hx hb dX0_take_54 rfl (lv_at hl 4 rfl) ?_
      refine lv_iconst (v := 0) hx hb dX0_take_55 (by decide) ?_
      refine lv_aload_n hx hb dX0_take_56 rfl (lv_at hl 1 rfl) ?_
      refine va_get (D := gD g) (ci := 2) (v := .ref (a 4)) (C := RX0) (T := TX0) (N := 6) hx hb hts (by decide +kernel) hown hK.1 hP 0 rfl rfl 3 (by decide) (hts (.fieldLink RX0 24 "LogForward$Images" "held" "[[J") (by decide +kernel)) (fun _ h9 => h9) rfl dX0_take_57 ?_
      refine lv_aload_n hx hb dX0_take_60 rfl (lv_at hl 1 rfl) ?_
      refine va_get (D := gD g) (ci := 2) (v := .int (nI (I.k + 1))) (C := RX0) (T := TX0) (N := 6) hx hb hts (by decide +kernel) hown hK.1 hP 0 rfl rfl 4 (by decide) (hts (.fieldLink RX0 27 "LogForward$Images" "many" "I") (by decide +kernel)) (fun _ h9 => h9) rfl dX0_take_61 ?_
      refine ga_aald (v := (r (I.k + 1))) hx hb hK.1 hP 4 3 rfl rfl (v_nI (by omega) (by omega)) (by rw [(c_nI (by omega))]; exact gRow_at (by omega)) dX0_take_64 ?_
      refine lv_iconst (v := 0) hx hb dX0_take_65 (by decide) ?_
      refine lv_iload hx hb dX0_take_66 (lv_at hl 0 rfl) ?_
      refine ga_cpTo (X := [((a 0), .inr (2, [.ref (a 1), .ref (a 2), .ref (a 3), .ref (a 4), .int (nI (I.k + 1)), .int I.uf])), ((a 1), .inl (gI g, 21, .inl (upd I.st (I.k + 1) (nI (row))))), ((a 2), .inl (gI g, 21, .inl (upd I.en (I.k + 1) (nI (row))))), ((a 3), .inl (gZ g, 21, .inl I.sp)), ((a 4), .inl (gG g, 21, .inr (.inr (.inr (.inr (gRow r)))))), (ca, .inl (gJ g, 32, .inr (.inl cs)))]) hx hb (hml.trans hl.1.symm) hown (hts (.methodLink RX0 39 arraycopyName) (by decide +kernel)) (hts (.native arraycopyName) (by decide +kernel)) (hts (.static arraycopyName) (by decide +kernel)) (hts (.initialized "java/lang/System") (by decide +kernel)) hK.1 hP hD hS 5 32 rfl (xn := 6) rfl (i := I.k + 1) (by omega) (sp' := 0) (dp' := 0) (n' := 16) rfl rfl rfl (by decide) (by decide) (by decide) (by decide) (by decide) (Nat.le_of_ble_eq_true rfl) (Nat.le_of_ble_eq_true rfl) dX0_take_68 (fun H locs hP hD hS => ?_)
      have hP : va_P (gD g) vwCl ([((a 0), .inr (2, [.ref (a 1), .ref (a 2), .ref (a 3), .ref (a 4), .int (nI (I.k + 1)), .int I.uf])), ((a 1), .inl (gI g, 21, .inl (upd I.st (I.k + 1) (nI (row))))), ((a 2), .inl (gI g, 21, .inl (upd I.en (I.k + 1) (nI (row))))), ((a 3), .inl (gZ g, 21, .inl I.sp)), ((a 4), .inl (gG g, 21, .inr (.inr (.inr (.inr (gRow r)))))), (ca, .inl (gJ g, 32, .inr (.inl cs)))] ++ wG g r (va_up (I.M) (I.k + 1) (va_cpy cs ((I.M) (I.k + 1)) 0 0 16))) H := hP
      have hD : va_D A ([((a 0), .inr (2, [.ref (a 1), .ref (a 2), .ref (a 3), .ref (a 4), .int (nI (I.k + 1)), .int I.uf])), ((a 1), .inl (gI g, 21, .inl (upd I.st (I.k + 1) (nI (row))))), ((a 2), .inl (gI g, 21, .inl (upd I.en (I.k + 1) (nI (row))))), ((a 3), .inl (gZ g, 21, .inl I.sp)), ((a 4), .inl (gG g, 21, .inr (.inr (.inr (.inr (gRow r)))))), (ca, .inl (gJ g, 32, .inr (.inl cs)))] ++ wG g r (va_up (I.M) (I.k + 1) (va_cpy cs ((I.M) (I.k + 1)) 0 0 16))) := hD
      refine lv_aload_n hx hb dX0_take_71 rfl (lv_at hl 1 rfl) ?_
      refine lv_iload_n hx hb dX0_take_72 rfl (lv_at hl 2 rfl) ?_
      refine va_put (D := gD g) (ci := 2) (v := .int z) (ty := .boolean) (C := RX0) (T := TX0) (N := 6) hx hb hts (by decide +kernel) tyX0 tyX0_ok nmX0 hown hK.1 hP hD hS 0 rfl rfl 5 (by decide) (hts (.fieldLink RX0 31 "LogForward$Images" "latestIsUnfinished" "Z") (by decide +kernel)) (fun _ h9 => h9) rfl (by decide +kernel) (by rcases hz with rfl | rfl <;> rfl) (by rcases hz with rfl | rfl <;> rfl) (Nat.le_of_ble_eq_true rfl) dX0_take_73 (fun H locs hP hD hS => ?_)
      have hP : va_P (gD g) vwCl ([((a 0), .inr (2, [.ref (a 1), .ref (a 2), .ref (a 3), .ref (a 4), .int (nI (I.k + 1)), .int z])), ((a 1), .inl (gI g, 21, .inl (upd I.st (I.k + 1) (nI (row))))), ((a 2), .inl (gI g, 21, .inl (upd I.en (I.k + 1) (nI (row))))), ((a 3), .inl (gZ g, 21, .inl I.sp)), ((a 4), .inl (gG g, 21, .inr (.inr (.inr (.inr (gRow r)))))), (ca, .inl (gJ g, 32, .inr (.inl cs)))] ++ wG g r (va_up (I.M) (I.k + 1) (va_cpy cs ((I.M) (I.k + 1)) 0 0 16))) H := hP
      have hD : va_D A ([((a 0), .inr (2, [.ref (a 1), .ref (a 2), .ref (a 3), .ref (a 4), .int (nI (I.k + 1)), .int z])), ((a 1), .inl (gI g, 21, .inl (upd I.st (I.k + 1) (nI (row))))), ((a 2), .inl (gI g, 21, .inl (upd I.en (I.k + 1) (nI (row))))), ((a 3), .inl (gZ g, 21, .inl I.sp)), ((a 4), .inl (gG g, 21, .inr (.inr (.inr (.inr (gRow r)))))), (ca, .inl (gJ g, 32, .inr (.inl cs)))] ++ wG g r (va_up (I.M) (I.k + 1) (va_cpy cs ((I.M) (I.k + 1)) 0 0 16))) := hD
      refine lv_aload_n hx hb dX0_take_76 rfl (lv_at hl 1 rfl) ?_
      refine va_get (D := gD g) (ci := 2) (v := .int (nI (I.k + 1))) (C := RX0) (T := TX0) (N := 6) hx hb hts (by decide +kernel) hown hK.1 hP 0 rfl rfl 4 (by decide) (hts (.fieldLink RX0 27 "LogForward$Images" "many" "I") (by decide +kernel)) (fun _ h9 => h9) rfl dX0_take_77 ?_
      have hP9 : va_P (gD g) vwCl ((wI g a r ((upd I.st (I.k + 1) (nI (row))), (upd I.en (I.k + 1) (nI (row))), I.sp, va_up (I.M) (I.k + 1) (va_cpy cs ((I.M) (I.k + 1)) 0 0 16), I.k + 1, z) ++ [(ca, .inl (gJ g, 32, .inr (.inl cs)))]) ++ wG g r (IS.M ((upd I.st (I.k + 1) (nI (row))), (upd I.en (I.k + 1) (nI (row))), I.sp, va_up (I.M) (I.k + 1) (va_cpy cs ((I.M) (I.k + 1)) 0 0 16), I.k + 1, z))) H := hP
      have hD9 : va_D A ((wI g a r ((upd I.st (I.k + 1) (nI (row))), (upd I.en (I.k + 1) (nI (row))), I.sp, va_up (I.M) (I.k + 1) (va_cpy cs ((I.M) (I.k + 1)) 0 0 16), I.k + 1, z) ++ [(ca, .inl (gJ g, 32, .inr (.inl cs)))]) ++ wG g r (IS.M ((upd I.st (I.k + 1) (nI (row))), (upd I.en (I.k + 1) (nI (row))), I.sp, va_up (I.M) (I.k + 1) (va_cpy cs ((I.M) (I.k + 1)) 0 0 16), I.k + 1, z))) := hD
      exact W.iret (v := (nI (I.k + 1))) hx hb hr (fun t ht hW => ⟨⟨(nI (I.k + 1)), ((upd I.st (I.k + 1) (nI (row))), (upd I.en (I.k + 1) (nI (row))), I.sp, va_up (I.M) (I.k + 1) (va_cpy cs ((I.M) (I.k + 1)) 0 0 16), I.k + 1, z), rfl, (Or.inr ⟨rfl, by simp [isT, c_42_2], by omega⟩), by rw [ht]; exact hP9, hD9⟩, hS.F ht⟩) hS.2.2 dX0_take_80
  · have i_6 : (20 : Int) ≤ ((I.k : Nat) : Int) := q_nlt c_6_1 (l_nI (by omega)) rfl
    refine lv_iconst (v := (-1)) hx hb dX0_take_9 (by decide) ?_
    have hP9 : va_P (gD g) vwCl ((wI g a r I ++ [(ca, .inl (gJ g, 32, .inr (.inl cs)))]) ++ wG g r (IS.M I)) s.heap := hP
    have hD9 : va_D A ((wI g a r I ++ [(ca, .inl (gJ g, 32, .inr (.inl cs)))]) ++ wG g r (IS.M I)) := hD
    exact W.iret (v := (-1)) hx hb hr (fun t ht hW => ⟨⟨(-1), I, rfl, (Or.inl ⟨rfl, rfl, by omega⟩), by rw [ht]; exact hP9, hD9⟩, hS.F ht⟩) hS.2.2 dX0_take_10
set_option maxHeartbeats 4000000 in
set_option maxRecDepth 100000 in
theorem c_X0_putBack (l : Launch) (g : GG) (a r : Nat → Nat) (ca : Nat) (I : IS) (cs : Nat → Int64) (sz : Nat) (i : Nat) (hi1 : 1 ≤ i) (hi2 : i ≤ I.k) (hk : I.k ≤ 20) : Met l yX0_putBack wsX0_putBack { frames := 1, cells := 0, slots := 0, locals := 64 } (va_Pc [.ref (a 0), .int (nI (i)), .ref ca] (Pw g ((wI g a r I ++ [(ca, .inl (gJ g, 32, .inr (.inl cs)))]) ++ wG g r I.M) sz)) (va_Qv (fun u => u = va_cpy (I.M i) cs 0 0 32) (Bw g (va_A ((wI g a r I ++ [(ca, .inl (gJ g, 32, .inr (.inl cs)))]) ++ wG g r I.M) sz) (fun u : Nat → Int64 => (wI g a r I ++ [(ca, .inl (gJ g, 32, .inr (.inl u)))]) ++ wG g r I.M)) (va_A ((wI g a r I ++ [(ca, .inl (gJ g, 32, .inr (.inl cs)))]) ++ wG g r I.M) sz)) 0 0 (va_A ((wI g a r I ++ [(ca, .inl (gJ g, 32, .inr (.inl cs)))]) ++ wG g r I.M) sz) := by
  refine Met.ofW (cc := cX0_putBack) (maxL := 3) (ret := none) (by decide) rfl ?_
  intro p e s m args below meth c s₁ B hml hv
  obtain ⟨rfl, hsz, hP, hK, hD0⟩ := hv
  have hx := B.exec
  have hb := B.bytes
  have hr := B.returns
  have hts := atoms_spec (ws := wsX0_putBack) B.pre
  have hown : s.vm.findClass RX0 = some m.cls := findClass_of_methodNamed B.named
  have hlocks := B.notSynchronized
  subst hsz
  have hD := hD0.self (sz := s.heap.size)
  generalize hAe : va_A (((wI g a r I ++ [(ca, .inl (gJ g, 32, .inr (.inl cs)))]) ++ wG g r I.M)) s.heap.size = A at hD ⊢
  have hA : ∀ q : Nat, s.heap.size ≤ q → A q := fun q h => by rw [← hAe]; exact Or.inr h
  have hS : va_S A s.heap s.heap [] := va_S.rf
  have hl := lv_entry ([.ref (a 0), .int (nI (i)), .ref ca]) (n := 3) (Nat.le_of_ble_eq_true rfl)
  rw [lg_entry_eq]
  generalize (lg_sl ([.ref (a 0), .int (nI (i)), .ref ca]) ++ List.replicate (3 - (lg_sl ([.ref (a 0), .int (nI (i)), .ref ca])).length) Slot.unset).toArray = ls at hl ⊢
  have hl : lv_has ls 3 [(0, .ref (a 0)), (1, .int (nI (i))), (2, .ref ca)] := hl
  replace hP : va_P (gD g) vwCl ([((a 0), .inr (2, [.ref (a 1), .ref (a 2), .ref (a 3), .ref (a 4), .int (nI (I.k)), .int I.uf])), ((a 1), .inl (gI g, 21, .inl I.st)), ((a 2), .inl (gI g, 21, .inl I.en)), ((a 3), .inl (gZ g, 21, .inl I.sp)), ((a 4), .inl (gG g, 21, .inr (.inr (.inr (.inr (gRow r)))))), (ca, .inl (gJ g, 32, .inr (.inl cs)))] ++ wG g r (I.M)) s.heap := hP
  replace hD : va_D A ([((a 0), .inr (2, [.ref (a 1), .ref (a 2), .ref (a 3), .ref (a 4), .int (nI (I.k)), .int I.uf])), ((a 1), .inl (gI g, 21, .inl I.st)), ((a 2), .inl (gI g, 21, .inl I.en)), ((a 3), .inl (gZ g, 21, .inl I.sp)), ((a 4), .inl (gG g, 21, .inr (.inr (.inr (.inr (gRow r)))))), (ca, .inl (gJ g, 32, .inr (.inl cs)))] ++ wG g r (I.M)) := hD
  refine lv_aload_n hx hb dX0_putBack_0 rfl (lv_at hl 0 rfl) ?_
  refine lv_iload_n hx hb dX0_putBack_1 rfl (lv_at hl 1 rfl) ?_
  refine vp_callSi (va_Run.run (va_runV (As := [.int (nI (i))]) (rest := []) ⟨hx, hb, hml, hown, hts⟩ (c_X0_has_n l g a r I (i) (by omega) (by omega) (by omega)) (cwV 1 hts gX0_putBack_X0_has rfl rfl rfl (by decide +kernel) ⟨Nat.le_of_ble_eq_true rfl, Nat.le_of_ble_eq_true rfl⟩) (pv_r hK hP (ci := 2) (q0 := 0) rfl rfl [0, 1, 2, 3, 4] rfl) rfl rfl hl.1 rfl (lv_room (Nat.le_of_ble_eq_true rfl)) dX0_putBack_2 ⟨Nat.zero_le _, Nat.zero_le _⟩)) (fun r_2_1 h_2_1 => ?_)
  subst h_2_1
  refine lv_if_eq (tgt := 22) hx hb dX0_putBack_5 (by decide) (fun c_5_1 => ?_) (fun c_5_1 => ?_)
  · exact absurd c_5_1 (by decide)
  · skip
    refine lv_aload_n hx hb dX0_putBack_8 rfl (lv_at hl 0 rfl) ?_
    refine va_get (D := gD g) (ci := 2) (v := .ref (a 4)) (C := RX0) (T := TX0) (N := 6) hx hb hts (by decide +kernel) hown hK.1 hP 0 rfl rfl 3 (by decide) (hts (.fieldLink RX0 24 "LogForward$Images" "held" "[[J") (by decide +kernel)) (fun _ h9 => h9) rfl dX0_putBack_9 ?_
    refine lv_iload_n hx hb dX0_putBack_12 rfl (lv_at hl 1 rfl) ?_
    refine ga_aald (v := (r (i))) hx hb hK.1 hP 4 3 rfl rfl (v_nI (by omega) (by omega)) (by rw [(c_nI (by omega))]; exact gRow_at (by omega)) dX0_putBack_13 ?_
    refine lv_iconst (v := 0) hx hb dX0_putBack_14 (by decide) ?_
    refine lv_aload_n hx hb dX0_putBack_15 rfl (lv_at hl 2 rfl) ?_
    refine lv_iconst (v := 0) hx hb dX0_putBack_16 (by decide) ?_
    refine lv_bipush (v := 32) hx hb dX0_putBack_17 (by decide) ?_
    refine ga_cpOf (X := [((a 0), .inr (2, [.ref (a 1), .ref (a 2), .ref (a 3), .ref (a 4), .int (nI (I.k)), .int I.uf])), ((a 1), .inl (gI g, 21, .inl I.st)), ((a 2), .inl (gI g, 21, .inl I.en)), ((a 3), .inl (gZ g, 21, .inl I.sp)), ((a 4), .inl (gG g, 21, .inr (.inr (.inr (.inr (gRow r)))))), (ca, .inl (gJ g, 32, .inr (.inl cs)))]) hx hb (hml.trans hl.1.symm) hown (hts (.methodLink RX0 39 arraycopyName) (by decide +kernel)) (hts (.native arraycopyName) (by decide +kernel)) (hts (.static arraycopyName) (by decide +kernel)) (hts (.initialized "java/lang/System") (by decide +kernel)) hK.1 hP hD hS 5 32 rfl (xn := 6) rfl (i := i) (by omega) (sp' := 0) (dp' := 0) (n' := 32) rfl rfl rfl (by decide) (by decide) (by decide) (by decide) (by decide) (Nat.le_of_ble_eq_true rfl) (Nat.le_of_ble_eq_true rfl) dX0_putBack_19 (fun H locs hP hD hS => ?_)
    have hP : va_P (gD g) vwCl ([((a 0), .inr (2, [.ref (a 1), .ref (a 2), .ref (a 3), .ref (a 4), .int (nI (I.k)), .int I.uf])), ((a 1), .inl (gI g, 21, .inl I.st)), ((a 2), .inl (gI g, 21, .inl I.en)), ((a 3), .inl (gZ g, 21, .inl I.sp)), ((a 4), .inl (gG g, 21, .inr (.inr (.inr (.inr (gRow r)))))), (ca, .inl (gJ g, 32, .inr (.inl (va_cpy ((I.M) (i)) cs 0 0 32))))] ++ wG g r (I.M)) H := hP
    have hD : va_D A ([((a 0), .inr (2, [.ref (a 1), .ref (a 2), .ref (a 3), .ref (a 4), .int (nI (I.k)), .int I.uf])), ((a 1), .inl (gI g, 21, .inl I.st)), ((a 2), .inl (gI g, 21, .inl I.en)), ((a 3), .inl (gZ g, 21, .inl I.sp)), ((a 4), .inl (gG g, 21, .inr (.inr (.inr (.inr (gRow r)))))), (ca, .inl (gJ g, 32, .inr (.inl (va_cpy ((I.M) (i)) cs 0 0 32))))] ++ wG g r (I.M)) := hD
    have hP9 : va_P (gD g) vwCl ((wI g a r (I.st, I.en, I.sp, I.M, I.k, I.uf) ++ [(ca, .inl (gJ g, 32, .inr (.inl (va_cpy ((I.M) (i)) cs 0 0 32))))]) ++ wG g r (IS.M (I.st, I.en, I.sp, I.M, I.k, I.uf))) H := hP
    have hD9 : va_D A ((wI g a r (I.st, I.en, I.sp, I.M, I.k, I.uf) ++ [(ca, .inl (gJ g, 32, .inr (.inl (va_cpy ((I.M) (i)) cs 0 0 32))))]) ++ wG g r (IS.M (I.st, I.en, I.sp, I.M, I.k, I.uf))) := hD
    exact W.vret hx hb hr (fun t ht hW => ⟨⟨(va_cpy ((I.M) (i)) cs 0 0 32), rfl, rfl, by rw [ht]; exact hP9, hD9⟩, hS.F ht⟩) hS.2.2 dX0_putBack_22
/-- images whose end lies behind a row are never good again -/
def isS (I : IS) (row : Nat) : IS := (I.st, I.en, fun j => if 1 ≤ j ∧ j ≤ I.k ∧ (row : Int) < (I.en j).toInt then 1 else I.sp j, I.M, I.k, I.uf)
theorem sp_no {sp1 sp : Nat → Int32} {en : Nat → Int32} {i row : Nat} (hF : ∀ j, sp1 j = if 1 ≤ j ∧ j < i ∧ (row : Int) < (en j).toInt then 1 else sp j) (h : (en i).toInt ≤ row) : ∀ j, sp1 j = if 1 ≤ j ∧ j < i + 1 ∧ (row : Int) < (en j).toInt then 1 else sp j := fun j => by
  rw [hF j]
  by_cases e : j = i
  · subst e
    rw [if_neg (by omega), if_neg (by omega)]
  · exact ite_congr (propext (by omega)) (fun _ => rfl) (fun _ => rfl)
theorem sp_yes {sp1 sp : Nat → Int32} {en : Nat → Int32} {i row : Nat} (hF : ∀ j, sp1 j = if 1 ≤ j ∧ j < i ∧ (row : Int) < (en j).toInt then 1 else sp j) (hi : 1 ≤ i) (h : (row : Int) < (en i).toInt) : ∀ j, upd sp1 i 1 j = if 1 ≤ j ∧ j < i + 1 ∧ (row : Int) < (en j).toInt then 1 else sp j := fun j => by
  by_cases e : j = i
  · subst e
    rw [pk_us, if_pos (by omega)]
  · rw [pk_un e, hF j]
    exact ite_congr (propext (by omega)) (fun _ => rfl) (fun _ => rfl)
set_option maxHeartbeats 4000000 in
set_option maxRecDepth 100000 in
theorem c_X0_spoilBehind (l : Launch) (g : GG) (a r : Nat → Nat) (I : IS) (sz row : Nat) (hrow : row ≤ 2000) (hk : I.k ≤ 20) : Met l yX0_spoilBehind wsX0_spoilBehind { frames := 0, cells := 0, slots := 0, locals := 0 } (va_Pc [.ref (a 0), .int (nI row)] (Pw g (wI g a r I) sz)) (va_Qv (fun u => u = isS I row) (Bw g (va_A (wI g a r I) sz) (fun u => wI g a r u)) (va_A (wI g a r I) sz)) 0 0 (va_A (wI g a r I) sz) := by
  refine Met.ofW (cc := cX0_spoilBehind) (maxL := 3) (ret := none) (by decide) rfl ?_
  intro p e s m args below meth c s₁ B hml hv
  obtain ⟨rfl, hsz, hP, hK, hD0⟩ := hv
  have hx := B.exec
  have hb := B.bytes
  have hr := B.returns
  have hts := atoms_spec (ws := wsX0_spoilBehind) B.pre
  have hown : s.vm.findClass RX0 = some m.cls := findClass_of_methodNamed B.named
  have hlocks := B.notSynchronized
  subst hsz
  have hD := hD0.self (sz := s.heap.size)
  generalize hAe : va_A (wI g a r I) s.heap.size = A at hD ⊢
  have hA : ∀ q : Nat, s.heap.size ≤ q → A q := fun q h => by rw [← hAe]; exact Or.inr h
  have hS : va_S A s.heap s.heap [] := va_S.rf
  have hl := lv_entry ([.ref (a 0), .int (nI (row))]) (n := 3) (Nat.le_of_ble_eq_true rfl)
  rw [lg_entry_eq]
  generalize (lg_sl ([.ref (a 0), .int (nI (row))]) ++ List.replicate (3 - (lg_sl ([.ref (a 0), .int (nI (row))])).length) Slot.unset).toArray = ls at hl ⊢
  have hl : lv_has ls 3 [(0, .ref (a 0)), (1, .int (nI (row)))] := hl
  refine lv_iconst (v := 1) hx hb dX0_spoilBehind_0 (by decide) ?_
  refine lv_istore_n (lv' := [(2, .int 1), (0, .ref (a 0)), (1, .int (nI (row)))]) hx hb dX0_spoilBehind_1 rfl hl (by decide) rfl (fun ls hl => ?_)
  refine g_heap (fun H locs hH1 hL1 => ?_)
  obtain ⟨sp1, hs1⟩ : ∃ sp1 : Nat → Int32, sp1 = I.sp := ⟨_, rfl⟩
  obtain ⟨i, hi⟩ : ∃ i : Nat, i = 1 := ⟨1, rfl⟩
  replace hl : lv_has ls 3 [(0, .ref (a 0)), (1, .int (nI (row))), (2, .int (nI (i)))] := by subst hi; exact lv_sub hl [1, 2, 0] rfl
  replace hP : va_P (gD g) vwCl [((a 0), .inr (2, [.ref (a 1), .ref (a 2), .ref (a 3), .ref (a 4), .int (nI (I.k)), .int I.uf])), ((a 1), .inl (gI g, 21, .inl I.st)), ((a 2), .inl (gI g, 21, .inl I.en)), ((a 3), .inl (gZ g, 21, .inl sp1)), ((a 4), .inl (gG g, 21, .inr (.inr (.inr (.inr (gRow r))))))] H := by rw [hH1, hs1]; exact hP
  replace hD : va_D A [((a 0), .inr (2, [.ref (a 1), .ref (a 2), .ref (a 3), .ref (a 4), .int (nI (I.k)), .int I.uf])), ((a 1), .inl (gI g, 21, .inl I.st)), ((a 2), .inl (gI g, 21, .inl I.en)), ((a 3), .inl (gZ g, 21, .inl sp1)), ((a 4), .inl (gG g, 21, .inr (.inr (.inr (.inr (gRow r))))))] := by rw [hs1]; exact hD
  replace hS : va_S A s.heap H locs := by rw [hH1, hL1]; exact hS
  have hF : ∀ j, sp1 j = if 1 ≤ j ∧ j < i ∧ (row : Int) < (I.en j).toInt then 1 else I.sp j := fun j => by rw [if_neg (by omega), hs1]
  have hi1 : 1 ≤ i := by omega
  have hi2 : i ≤ I.k + 1 := by omega
  clear hi hs1 hH1 hL1
  obtain ⟨d, hd⟩ : ∃ d, I.k + 1 - i = d := ⟨_, rfl⟩
  induction d using Nat.strongRecOn generalizing i sp1 ls H locs with
  | ind d ih =>
    refine lv_iload_n hx hb dX0_spoilBehind_2 rfl (lv_at hl 2 rfl) ?_
    refine lv_aload_n hx hb dX0_spoilBehind_3 rfl (lv_at hl 0 rfl) ?_
    refine va_get (D := gD g) (ci := 2) (v := .int (nI (I.k))) (C := RX0) (T := TX0) (N := 6) hx hb hts (by decide +kernel) hown hK.1 hP 0 rfl rfl 4 (by decide) (hts (.fieldLink RX0 27 "LogForward$Images" "many" "I") (by decide +kernel)) (fun _ h9 => h9) rfl dX0_spoilBehind_4 ?_
    refine lv_icmp_gt (tgt := 33) hx hb dX0_spoilBehind_7 (by decide) (fun c_7_2 => ?_) (fun c_7_2 => ?_)
    · have i_7 : (((I.k : Nat) : Int) : Int) < ((i : Nat) : Int) := q_lt c_7_2 (l_nI (by omega)) (l_nI (by omega))
      exact W.vret hx hb hr (fun t ht hW => ⟨⟨((I.st, I.en, sp1, I.M, I.k, I.uf) : IS), rfl, (by unfold isS; rw [show sp1 = _ from funext hF, show i = I.k + 1 by omega]; simp only [Nat.lt_succ_iff]), by rw [ht]; exact hP, hD⟩, hS.F ht⟩) hS.2.2 dX0_spoilBehind_33
    · have i_7 : (((i : Nat) : Int) : Int) ≤ ((I.k : Nat) : Int) := q_nlt c_7_2 (l_nI (by omega)) (l_nI (by omega))
      refine lv_aload_n hx hb dX0_spoilBehind_10 rfl (lv_at hl 0 rfl) ?_
      refine va_get (D := gD g) (ci := 2) (v := .ref (a 2)) (C := RX0) (T := TX0) (N := 6) hx hb hts (by decide +kernel) hown hK.1 hP 0 rfl rfl 1 (by decide) (hts (.fieldLink RX0 15 "LogForward$Images" "end" "[I") (by decide +kernel)) (fun _ h9 => h9) rfl dX0_spoilBehind_11 ?_
      refine lv_iload_n hx hb dX0_spoilBehind_14 rfl (lv_at hl 2 rfl) ?_
      refine ga_iald (v := (I.en i)) hx hb hK.1 hP 2 0 rfl rfl (v_nI (by omega) (by omega)) (by rw [(c_nI (by omega))]) dX0_spoilBehind_15 ?_
      refine lv_iload_n hx hb dX0_spoilBehind_16 rfl (lv_at hl 1 rfl) ?_
      refine lv_icmp_le (tgt := 27) hx hb dX0_spoilBehind_17 (by decide) (fun c_17_3 => ?_) (fun c_17_3 => ?_)
      · have i_17 : ((I.en i).toInt : Int) ≤ ((row : Nat) : Int) := q_le c_17_3 rfl (l_nI (by omega))
        refine lv_iinc (v := (nI (i + 1))) (lv' := [(2, .int (nI (i + 1))), (0, .ref (a 0)), (1, .int (nI (row)))]) hx hb dX0_spoilBehind_27 hl (k := 2) rfl (nI_1 _) (by decide) rfl (fun ls hl => ?_)
        refine lv_goto (tgt := 2) hx hb dX0_spoilBehind_30 (by decide) ?_
        exact ih (I.k + 1 - (i + 1)) (by omega) ls H locs sp1 (i + 1) (lv_sub hl [1, 2, 0] rfl) hP hD hS (sp_no hF (by omega)) (by omega) (by omega) rfl
      · have i_17 : (((row : Nat) : Int) : Int) < (I.en i).toInt := q_nle c_17_3 rfl (l_nI (by omega))
        refine lv_aload_n hx hb dX0_spoilBehind_20 rfl (lv_at hl 0 rfl) ?_
        refine va_get (D := gD g) (ci := 2) (v := .ref (a 3)) (C := RX0) (T := TX0) (N := 6) hx hb hts (by decide +kernel) hown hK.1 hP 0 rfl rfl 2 (by decide) (hts (.fieldLink RX0 18 "LogForward$Images" "spoiled" "[Z") (by decide +kernel)) (fun _ h9 => h9) rfl dX0_spoilBehind_21 ?_
        refine lv_iload_n hx hb dX0_spoilBehind_24 rfl (lv_at hl 2 rfl) ?_
        refine lv_iconst (v := 1) hx hb dX0_spoilBehind_25 (by decide) ?_
        refine ga_zast (j := i) hx hb hK.1 hP hD hS 3 2 rfl rfl (v_nI (by omega) (by omega)) (c_nI (by omega)) rfl dX0_spoilBehind_26 (fun H locs hP hD hS => ?_)
        have hP : va_P (gD g) vwCl ([((a 0), .inr (2, [.ref (a 1), .ref (a 2), .ref (a 3), .ref (a 4), .int (nI (I.k)), .int I.uf])), ((a 1), .inl (gI g, 21, .inl I.st)), ((a 2), .inl (gI g, 21, .inl I.en)), ((a 3), .inl (gZ g, 21, .inl (upd sp1 (i) 1))), ((a 4), .inl (gG g, 21, .inr (.inr (.inr (.inr (gRow r))))))]) H := hP
        have hD : va_D A ([((a 0), .inr (2, [.ref (a 1), .ref (a 2), .ref (a 3), .ref (a 4), .int (nI (I.k)), .int I.uf])), ((a 1), .inl (gI g, 21, .inl I.st)), ((a 2), .inl (gI g, 21, .inl I.en)), ((a 3), .inl (gZ g, 21, .inl (upd sp1 (i) 1))), ((a 4), .inl (gG g, 21, .inr (.inr (.inr (.inr (gRow r))))))]) := hD
        refine lv_iinc (v := (nI (i + 1))) (lv' := [(2, .int (nI (i + 1))), (0, .ref (a 0)), (1, .int (nI (row)))]) hx hb dX0_spoilBehind_27 hl (k := 2) rfl (nI_1 _) (by decide) rfl (fun ls hl => ?_)
        refine lv_goto (tgt := 2) hx hb dX0_spoilBehind_30 (by decide) ?_
        exact ih (I.k + 1 - (i + 1)) (by omega) ls H locs (upd sp1 (i) 1) (i + 1) (lv_sub hl [1, 2, 0] rfl) hP hD hS (sp_yes hF hi1 (by omega)) (by omega) (by omega) rfl
end
section
/-! LogForward: the state, the world -/
theorem c4 (x : Int32) : x = 0 ∨ x = 1 ∨ x = 2 ∨ x = 3 ∨ (x.toInt < 0 ∨ 3 < x.toInt) := by
  have e : ∀ y : Int32, x.toInt = y.toInt → x = y := fun y h => Int32.toInt_inj.mp h
  by_cases h0 : x.toInt = 0
  · exact Or.inl (e 0 h0)
  by_cases h1 : x.toInt = 1
  · exact Or.inr (Or.inl (e 1 h1))
  by_cases h2 : x.toInt = 2
  · exact Or.inr (Or.inr (Or.inl (e 2 h2)))
  by_cases h3 : x.toInt = 3
  · exact Or.inr (Or.inr (Or.inr (Or.inl (e 3 h3))))
  exact Or.inr (Or.inr (Or.inr (Or.inr (by omega))))
abbrev XS : Type := RS × US × US × IS × (Nat → Int64) × Nat
abbrev XS.S (X : XS) : RS := X.1
abbrev XS.U (X : XS) : US := X.2.1
abbrev XS.V (X : XS) : US := X.2.2.1
abbrev XS.I (X : XS) : IS := X.2.2.2.1
abbrev XS.cs (X : XS) : Nat → Int64 := X.2.2.2.2.1
abbrev XS.rg (X : XS) : Nat := X.2.2.2.2.2
abbrev wXc (g : GG) (a r : Nat → Nat) (X : XS) : va_W := [(a 0, .inr (5, [.int (nI X.rg), .ref (a 1), .ref (a 2), .ref (a 10), .ref (a 13), .ref (a 16)])), (a 1, .inl (gJ g, 32, .inr (.inl X.cs)))] ++ (wR g (fun i => a (i + 2)) X.S ++ (wU g (fun i => a (i + 10)) X.U ++ (wU g (fun i => a (i + 13)) X.V ++ wI g (fun i => a (i + 16)) r X.I)))
abbrev wX (g : GG) (a r : Nat → Nat) (X : XS) : va_W := wXc g a r X ++ wG g r X.I.M
/-- a change of a unit that isn't by backing out -/
abbrev isC (S : RS) (p : Int32) (r : Nat) : Prop := (S.kd r = 0 ∧ S.bk r = 0) ∧ S.un r = p
/-- how many such up to k -/
def cnB (S : RS) (p : Int32) : Nat → Nat
  | 0 => 0
  | k + 1 => if isC S p (k + 1) then cnB S p k + 1 else cnB S p k
theorem cnB_le (S : RS) (p : Int32) : ∀ k, cnB S p k ≤ k
  | 0 => Nat.le_refl 0
  | k + 1 => by
    have := cnB_le S p k
    simp only [cnB]
    split <;> omega
/-- the latest such that is missing, 0 without one -/
def lmO (S : RS) (p : Int32) : Nat → Nat
  | 0 => 0
  | k + 1 => if S.tn (k + 1) = 3 ∧ isC S p (k + 1) then k + 1 else lmO S p k
theorem lmO_le (S : RS) (p : Int32) : ∀ k, lmO S p k ≤ k
  | 0 => Nat.le_refl 0
  | k + 1 => by
    have := lmO_le S p k
    simp only [lmO]
    split <;> omega
/-- a change that a recovery backs out -/
abbrev tbB (S : RS) (V : US) (r : Nat) : Prop := (S.kd r = 0 ∧ S.bk r = 0) ∧ opU V (S.un r)
/-- the least row from i on, of d rows, that is missing and needed -/
def lsF (S : RS) (V : US) (p : Int32) : Nat → Nat → Nat
  | 0, _ => 0
  | d + 1, i => if S.tn i = 3 ∧ (p.toInt < i ∨ tbB S V i) then i else lsF S V p d (i + 1)
def cnT (S : RS) (V : US) : Nat → Nat
  | 0 => 0
  | k + 1 => if tbB S V (k + 1) then cnT S V k + 1 else cnT S V k
theorem cnT_le (S : RS) (V : US) : ∀ k, cnT S V k ≤ k
  | 0 => Nat.le_refl 0
  | k + 1 => by
    have := cnT_le S V k
    simp only [cnT]
    split <;> omega
/-- the i-th missing row, of d rows from i on -/
def gpF (S : RS) : Nat → Nat → Int32 → Nat
  | 0, _, _ => 0
  | d + 1, i, x => if S.tn i = 3 then (if x = 0 then i else gpF S d (i + 1) (x + -1)) else gpF S d (i + 1) x
/-- the i-th row of a region -/
def mgF (S : RS) (q p : Int32) : Nat → Nat → Int32 → Nat
  | 0, _, _ => 0
  | d + 1, i, x => if S.un i - S.un i / q * q = p then (if x = 0 then i else mgF S q p d (i + 1) (x + -1)) else mgF S q p d (i + 1) x
theorem lm_no {S : RS} {p : Int32} {i : Nat} (h : 1 ≤ i) (hc : ¬ (S.tn i = 3 ∧ isC S p i)) : lmO S p i = lmO S p (i - 1) := by
  obtain ⟨j, rfl⟩ : ∃ j, i = j + 1 := ⟨i - 1, by omega⟩
  simp only [lmO, Nat.add_sub_cancel]
  rw [if_neg hc]
theorem lm_yes {S : RS} {p : Int32} {i : Nat} (h : 1 ≤ i) (hc : S.tn i = 3 ∧ isC S p i) : lmO S p i = i := by
  obtain ⟨j, rfl⟩ : ∃ j, i = j + 1 := ⟨i - 1, by omega⟩
  simp only [lmO]
  rw [if_pos hc]
theorem ls_no {S : RS} {V : US} {p : Int32} {i t : Nat} (h : i ≤ t) (hc : ¬ (S.tn i = 3 ∧ (p.toInt < i ∨ tbB S V i))) : lsF S V p (t + 1 - i) i = lsF S V p (t + 1 - (i + 1)) (i + 1) := by
  obtain ⟨e, he⟩ : ∃ e, t + 1 - i = e + 1 := ⟨t - i, by omega⟩
  rw [he, show t + 1 - (i + 1) = e by omega]
  simp only [lsF]
  rw [if_neg hc]
theorem ls_yes {S : RS} {V : US} {p : Int32} {i t : Nat} (h : i ≤ t) (hc : S.tn i = 3 ∧ (p.toInt < i ∨ tbB S V i)) : lsF S V p (t + 1 - i) i = i := by
  obtain ⟨e, he⟩ : ∃ e, t + 1 - i = e + 1 := ⟨t - i, by omega⟩
  rw [he]
  simp only [lsF]
  rw [if_pos hc]
theorem ls_end {S : RS} {V : US} {p : Int32} {i t : Nat} (h : t < i) : lsF S V p (t + 1 - i) i = 0 := by
  rw [show t + 1 - i = 0 by omega]
  rfl
theorem gp_no {S : RS} {i t : Nat} {x : Int32} (h : i ≤ t) (hc : ¬ S.tn i = 3) : gpF S (t + 1 - i) i x = gpF S (t + 1 - (i + 1)) (i + 1) x := by
  obtain ⟨e, he⟩ : ∃ e, t + 1 - i = e + 1 := ⟨t - i, by omega⟩
  rw [he, show t + 1 - (i + 1) = e by omega]
  simp only [gpF]
  rw [if_neg hc]
theorem gp_go {S : RS} {i t : Nat} {x : Int32} (h : i ≤ t) (hc : S.tn i = 3) (hx : ¬ x = 0) : gpF S (t + 1 - i) i x = gpF S (t + 1 - (i + 1)) (i + 1) (x + -1) := by
  obtain ⟨e, he⟩ : ∃ e, t + 1 - i = e + 1 := ⟨t - i, by omega⟩
  rw [he, show t + 1 - (i + 1) = e by omega]
  simp only [gpF]
  rw [if_pos hc, if_neg hx]
theorem gp_yes {S : RS} {i t : Nat} {x : Int32} (h : i ≤ t) (hc : S.tn i = 3) (hx : x = 0) : gpF S (t + 1 - i) i x = i := by
  obtain ⟨e, he⟩ : ∃ e, t + 1 - i = e + 1 := ⟨t - i, by omega⟩
  rw [he]
  simp only [gpF]
  rw [if_pos hc, if_pos hx]
theorem gp_end {S : RS} {i t : Nat} {x : Int32} (h : t < i) : gpF S (t + 1 - i) i x = 0 := by
  rw [show t + 1 - i = 0 by omega]
  rfl
theorem gpF_le (S : RS) : ∀ (d i : Nat) (x : Int32), gpF S d i x ≤ i + d
  | 0, i, x => Nat.zero_le _
  | d + 1, i, x => by
    have h1 := gpF_le S d (i + 1) (x + -1)
    have h2 := gpF_le S d (i + 1) x
    simp only [gpF]
    split
    · split <;> omega
    · omega
theorem mg_no {S : RS} {q p : Int32} {i t : Nat} {x : Int32} (h : i ≤ t) (hc : ¬ S.un i - S.un i / q * q = p) : mgF S q p (t + 1 - i) i x = mgF S q p (t + 1 - (i + 1)) (i + 1) x := by
  obtain ⟨e, he⟩ : ∃ e, t + 1 - i = e + 1 := ⟨t - i, by omega⟩
  rw [he, show t + 1 - (i + 1) = e by omega]
  simp only [mgF]
  rw [if_neg hc]
theorem mg_go {S : RS} {q p : Int32} {i t : Nat} {x : Int32} (h : i ≤ t) (hc : S.un i - S.un i / q * q = p) (hx : ¬ x = 0) : mgF S q p (t + 1 - i) i x = mgF S q p (t + 1 - (i + 1)) (i + 1) (x + -1) := by
  obtain ⟨e, he⟩ : ∃ e, t + 1 - i = e + 1 := ⟨t - i, by omega⟩
  rw [he, show t + 1 - (i + 1) = e by omega]
  simp only [mgF]
  rw [if_pos hc, if_neg hx]
theorem mg_yes {S : RS} {q p : Int32} {i t : Nat} {x : Int32} (h : i ≤ t) (hc : S.un i - S.un i / q * q = p) (hx : x = 0) : mgF S q p (t + 1 - i) i x = i := by
  obtain ⟨e, he⟩ : ∃ e, t + 1 - i = e + 1 := ⟨t - i, by omega⟩
  rw [he]
  simp only [mgF]
  rw [if_pos hc, if_pos hx]
theorem mg_end {S : RS} {q p : Int32} {i t : Nat} {x : Int32} (h : t < i) : mgF S q p (t + 1 - i) i x = 0 := by
  rw [show t + 1 - i = 0 by omega]
  rfl
def coX (X : XS) (p : Int32) : Int32 := if p = 0 then nI X.S.n else if p = 1 then nI X.I.k else if p = 2 then nI X.S.ar else if p = 3 then nI (cntU X.U 1 60) else -1
set_option maxHeartbeats 4000000 in
set_option maxRecDepth 100000 in
theorem c_X3_changesOf (l : Launch) (g : GG) (a r : Nat → Nat) (X : XS) (p1 : Int32) (hn : X.S.n ≤ 2000) : Met l yX3_changesOf wsX3_changesOf { frames := 3, cells := 0, slots := 0, locals := 63 } (va_Pc [.ref (a 0), .int p1] (Pr g (wXc g a r X))) (vp_Si (fun rv => rv = nI (cnB X.S p1 X.S.n))) 0 0 (fun _ => False) := by
  refine Met.ofW (cc := cX3_changesOf) (maxL := 4) (ret := (some .int)) (by decide) rfl ?_
  intro p e s m args below meth c s₁ B hml hv
  obtain ⟨rfl, hP, hK⟩ := hv
  have hx := B.exec
  have hb := B.bytes
  have hr := B.returns
  have hts := atoms_spec (ws := wsX3_changesOf) B.pre
  have hown : s.vm.findClass RX3 = some m.cls := findClass_of_methodNamed B.named
  have hlocks := B.notSynchronized
  have hl := lv_entry ([.ref (a 0), .int p1]) (n := 4) (Nat.le_of_ble_eq_true rfl)
  rw [lg_entry_eq]
  generalize (lg_sl ([.ref (a 0), .int p1]) ++ List.replicate (4 - (lg_sl ([.ref (a 0), .int p1])).length) Slot.unset).toArray = ls at hl ⊢
  have hl : lv_has ls 4 [(0, .ref (a 0)), (1, .int p1)] := hl
  replace hP : va_P (gD g) vwCl ([((a 0), .inr (5, [.int (nI (X.rg)), .ref (a 1), .ref (a 2), .ref (a 10), .ref (a 13), .ref (a 16)])), ((a 1), .inl (gJ g, 32, .inr (.inl X.cs))), ((a 2), .inr (3, [.ref (a 3), .ref (a 4), .ref (a 5), .ref (a 6), .ref (a 7), .ref (a 8), .ref (a 9), .int (nI (X.S.n)), .int (nI (X.S.ar))])), ((a 3), .inl (gI g, 2001, .inl X.S.kd)), ((a 4), .inl (gI g, 2001, .inl X.S.un)), ((a 5), .inl (gI g, 2001, .inl X.S.ce)), ((a 6), .inl (gJ g, 2001, .inr (.inl X.S.bf))), ((a 7), .inl (gJ g, 2001, .inr (.inl X.S.af))), ((a 8), .inl (gI g, 2001, .inl X.S.tn)), ((a 9), .inl (gZ g, 2001, .inl X.S.bk)), ((a 10), .inr (4, [.ref (a 11), .ref (a 12)])), ((a 11), .inl (gI g, 61, .inl X.U.lk)), ((a 12), .inl (gI g, 32, .inl X.U.ch)), ((a 13), .inr (4, [.ref (a 14), .ref (a 15)])), ((a 14), .inl (gI g, 61, .inl X.V.lk)), ((a 15), .inl (gI g, 32, .inl X.V.ch)), ((a 16), .inr (2, [.ref (a 17), .ref (a 18), .ref (a 19), .ref (a 20), .int (nI (X.I.k)), .int X.I.uf])), ((a 17), .inl (gI g, 21, .inl X.I.st)), ((a 18), .inl (gI g, 21, .inl X.I.en)), ((a 19), .inl (gZ g, 21, .inl X.I.sp)), ((a 20), .inl (gG g, 21, .inr (.inr (.inr (.inr (gRow r))))))]) s.heap := hP
  refine lv_iconst (v := 0) hx hb dX3_changesOf_0 (by decide) ?_
  refine lv_istore_n (lv' := [(2, .int 0), (0, .ref (a 0)), (1, .int p1)]) hx hb dX3_changesOf_1 rfl hl (by decide) rfl (fun ls hl => ?_)
  refine lv_iconst (v := 1) hx hb dX3_changesOf_2 (by decide) ?_
  refine lv_istore_n (lv' := [(3, .int 1), (2, .int 0), (0, .ref (a 0)), (1, .int p1)]) hx hb dX3_changesOf_3 rfl hl (by decide) rfl (fun ls hl => ?_)
  obtain ⟨i, hi⟩ : ∃ i : Nat, i = 1 := ⟨_, rfl⟩
  replace hl : lv_has ls 4 [(0, .ref (a 0)), (1, .int p1), (2, .int (nI (cnB X.S p1 (i - 1)))), (3, .int (nI (i)))] := by subst hi;  exact lv_sub hl [2, 3, 1, 0] rfl
  have hi1 : 1 ≤ i := by omega
  have hi2 : i ≤ X.S.n + 1 := by omega
  clear hi
  obtain ⟨d, hd⟩ : ∃ d, X.S.n + 1 - i = d := ⟨_, rfl⟩
  induction d using Nat.strongRecOn generalizing i ls with
  | ind d ih =>
    refine lv_iload_n hx hb dX3_changesOf_4 rfl (lv_at hl 3 rfl) ?_
    refine lv_aload_n hx hb dX3_changesOf_5 rfl (lv_at hl 0 rfl) ?_
    refine va_get (D := gD g) (ci := 5) (v := .ref (a 2)) (C := RX3) (T := TX3) (N := 6) hx hb hts (by decide +kernel) hown hK.1 hP 0 rfl rfl 2 (by decide) (hts (.fieldLink RX3 16 "LogForward" "rows" "LLogForward$Rows;") (by decide +kernel)) (fun _ h9 => h9) rfl dX3_changesOf_6 ?_
    refine vp_callSi (va_Run.run (va_runV (As := []) (rest := [.int (nI (i))]) ⟨hx, hb, hml, hown, hts⟩ (c_X1_latest l g (fun i => a (i + 2)) X.S) (cwV 0 hts gX3_changesOf_X1_latest rfl rfl rfl (by decide +kernel) ⟨Nat.le_of_ble_eq_true rfl, Nat.le_of_ble_eq_true rfl⟩) (pv_r hK hP (ci := 3) (q0 := 2) rfl rfl [2, 3, 4, 5, 6, 7, 8, 9] rfl) rfl rfl hl.1 rfl (lv_room (Nat.le_of_ble_eq_true rfl)) dX3_changesOf_9 ⟨Nat.zero_le _, Nat.zero_le _⟩)) (fun r_9_2 h_9_2 => ?_)
    subst h_9_2
    refine lv_icmp_gt (tgt := 47) hx hb dX3_changesOf_12 (by decide) (fun c_12_2 => ?_) (fun c_12_2 => ?_)
    · have i_12 : (((X.S.n : Nat) : Int) : Int) < ((i : Nat) : Int) := q_lt c_12_2 (l_nI (by omega)) (l_nI (by omega))
      refine lv_iload_n hx hb dX3_changesOf_47 rfl (lv_at hl 2 rfl) ?_
      exact W.iret (v := (nI (cnB X.S p1 (i - 1)))) hx hb hr (fun tz htz hWz => ⟨(nI (cnB X.S p1 (i - 1))), rfl, (by rw [show i - 1 = X.S.n by omega]), htz⟩) (fun _ h => nomatch h) dX3_changesOf_48
    · have i_12 : (((i : Nat) : Int) : Int) ≤ ((X.S.n : Nat) : Int) := q_nlt c_12_2 (l_nI (by omega)) (l_nI (by omega))
      refine lv_aload_n hx hb dX3_changesOf_15 rfl (lv_at hl 0 rfl) ?_
      refine va_get (D := gD g) (ci := 5) (v := .ref (a 2)) (C := RX3) (T := TX3) (N := 6) hx hb hts (by decide +kernel) hown hK.1 hP 0 rfl rfl 2 (by decide) (hts (.fieldLink RX3 16 "LogForward" "rows" "LLogForward$Rows;") (by decide +kernel)) (fun _ h9 => h9) rfl dX3_changesOf_16 ?_
      refine lv_iload_n hx hb dX3_changesOf_19 rfl (lv_at hl 3 rfl) ?_
      refine vp_callSi (va_Run.run (va_runV (As := [.int (nI (i))]) (rest := []) ⟨hx, hb, hml, hown, hts⟩ (c_X1_isBackable l g (fun i => a (i + 2)) X.S (i) (by omega) (by omega) (by omega)) (cwV 1 hts gX3_changesOf_X1_isBackable rfl rfl rfl (by decide +kernel) ⟨Nat.le_of_ble_eq_true rfl, Nat.le_of_ble_eq_true rfl⟩) (pv_r hK hP (ci := 3) (q0 := 2) rfl rfl [2, 3, 4, 5, 6, 7, 8, 9] rfl) rfl rfl hl.1 rfl (lv_room (Nat.le_of_ble_eq_true rfl)) dX3_changesOf_20 ⟨Nat.zero_le _, Nat.zero_le _⟩)) (fun r_20_3 h_20_3 => ?_)
      refine lv_if_eq (tgt := 41) hx hb dX3_changesOf_23 (by decide) (fun c_23_3 => ?_) (fun c_23_3 => ?_)
      · have b_23 : ¬ (X.S.kd (i) = 0 ∧ X.S.bk (i) = 0) := bI_f h_20_3 c_23_3
        refine lv_iinc (v := (nI (i + 1))) (lv' := [(3, .int (nI (i + 1))), (0, .ref (a 0)), (1, .int p1), (2, .int (nI (cnB X.S p1 (i - 1))))]) hx hb dX3_changesOf_41 hl (k := 3) rfl (nI_1 _) (by decide) rfl (fun ls hl => ?_)
        refine lv_goto (tgt := 4) hx hb dX3_changesOf_44 (by decide) ?_
        exact ih (X.S.n + 1 - (i + 1)) (by omega) ls (i + 1) (by rw [Nat.add_sub_cancel]; rw [show cnB X.S p1 i = cnB X.S p1 (i - 1) from by obtain ⟨j, rfl⟩ : ∃ j, i = j + 1 := ⟨i - 1, by omega⟩; simp only [cnB, Nat.add_sub_cancel]; simp_all]; exact lv_sub hl [1, 2, 3, 0] rfl) (by omega) (by omega) rfl
      · have b_23 : X.S.kd (i) = 0 ∧ X.S.bk (i) = 0 := bI_t h_20_3 c_23_3
        refine lv_aload_n hx hb dX3_changesOf_26 rfl (lv_at hl 0 rfl) ?_
        refine va_get (D := gD g) (ci := 5) (v := .ref (a 2)) (C := RX3) (T := TX3) (N := 6) hx hb hts (by decide +kernel) hown hK.1 hP 0 rfl rfl 2 (by decide) (hts (.fieldLink RX3 16 "LogForward" "rows" "LLogForward$Rows;") (by decide +kernel)) (fun _ h9 => h9) rfl dX3_changesOf_27 ?_
        refine lv_iload_n hx hb dX3_changesOf_30 rfl (lv_at hl 3 rfl) ?_
        refine vp_callSi (va_Run.run (va_runV (As := [.int (nI (i))]) (rest := []) ⟨hx, hb, hml, hown, hts⟩ (c_X1_unitOf l g (fun i => a (i + 2)) X.S (i) (by omega) (by omega) (by omega)) (cwV 1 hts gX3_changesOf_X1_unitOf rfl rfl rfl (by decide +kernel) ⟨Nat.le_of_ble_eq_true rfl, Nat.le_of_ble_eq_true rfl⟩) (pv_r hK hP (ci := 3) (q0 := 2) rfl rfl [2, 3, 4, 5, 6, 7, 8, 9] rfl) rfl rfl hl.1 rfl (lv_room (Nat.le_of_ble_eq_true rfl)) dX3_changesOf_31 ⟨Nat.zero_le _, Nat.zero_le _⟩)) (fun r_31_4 h_31_4 => ?_)
        subst h_31_4
        refine lv_iload_n hx hb dX3_changesOf_34 rfl (lv_at hl 1 rfl) ?_
        refine lv_icmp_ne (tgt := 41) hx hb dX3_changesOf_35 (by decide) (fun c_35_4 => ?_) (fun c_35_4 => ?_)
        · have i_35 : ((X.S.un (i)).toInt : Int) ≠ p1.toInt := q_ne c_35_4 rfl rfl
          refine lv_iinc (v := (nI (i + 1))) (lv' := [(3, .int (nI (i + 1))), (0, .ref (a 0)), (1, .int p1), (2, .int (nI (cnB X.S p1 (i - 1))))]) hx hb dX3_changesOf_41 hl (k := 3) rfl (nI_1 _) (by decide) rfl (fun ls hl => ?_)
          refine lv_goto (tgt := 4) hx hb dX3_changesOf_44 (by decide) ?_
          exact ih (X.S.n + 1 - (i + 1)) (by omega) ls (i + 1) (by rw [Nat.add_sub_cancel]; rw [show cnB X.S p1 i = cnB X.S p1 (i - 1) from by obtain ⟨j, rfl⟩ : ∃ j, i = j + 1 := ⟨i - 1, by omega⟩; simp only [cnB, Nat.add_sub_cancel]; simp_all]; exact lv_sub hl [1, 2, 3, 0] rfl) (by omega) (by omega) rfl
        · have i_35 : ((X.S.un (i)).toInt : Int) = p1.toInt := q_eq c_35_4 rfl rfl
          refine lv_iinc (v := (nI (cnB X.S p1 (i - 1) + 1))) (lv' := [(2, .int (nI (cnB X.S p1 (i - 1) + 1))), (0, .ref (a 0)), (1, .int p1), (3, .int (nI (i)))]) hx hb dX3_changesOf_38 hl (k := 2) rfl (nI_1 _) (by decide) rfl (fun ls hl => ?_)
          refine lv_iinc (v := (nI (i + 1))) (lv' := [(3, .int (nI (i + 1))), (2, .int (nI (cnB X.S p1 (i - 1) + 1))), (0, .ref (a 0)), (1, .int p1)]) hx hb dX3_changesOf_41 hl (k := 3) rfl (nI_1 _) (by decide) rfl (fun ls hl => ?_)
          refine lv_goto (tgt := 4) hx hb dX3_changesOf_44 (by decide) ?_
          exact ih (X.S.n + 1 - (i + 1)) (by omega) ls (i + 1) (by rw [Nat.add_sub_cancel]; rw [show cnB X.S p1 i = cnB X.S p1 (i - 1) + 1 from by obtain ⟨j, rfl⟩ : ∃ j, i = j + 1 := ⟨i - 1, by omega⟩; simp only [cnB, Nat.add_sub_cancel]; simp_all]; exact lv_sub hl [2, 3, 1, 0] rfl) (by omega) (by omega) rfl
set_option maxHeartbeats 4000000 in
set_option maxRecDepth 100000 in
theorem c_X3_latestMissingOf (l : Launch) (g : GG) (a r : Nat → Nat) (X : XS) (p1 : Int32) (hn : X.S.n ≤ 2000) : Met l yX3_latestMissingOf wsX3_latestMissingOf { frames := 3, cells := 0, slots := 0, locals := 63 } (va_Pc [.ref (a 0), .int p1] (Pr g (wXc g a r X))) (vp_Si (fun rv => rv = nI (lmO X.S p1 X.S.n))) 0 0 (fun _ => False) := by
  refine Met.ofW (cc := cX3_latestMissingOf) (maxL := 3) (ret := (some .int)) (by decide) rfl ?_
  intro p e s m args below meth c s₁ B hml hv
  obtain ⟨rfl, hP, hK⟩ := hv
  have hx := B.exec
  have hb := B.bytes
  have hr := B.returns
  have hts := atoms_spec (ws := wsX3_latestMissingOf) B.pre
  have hown : s.vm.findClass RX3 = some m.cls := findClass_of_methodNamed B.named
  have hlocks := B.notSynchronized
  have hl := lv_entry ([.ref (a 0), .int p1]) (n := 3) (Nat.le_of_ble_eq_true rfl)
  rw [lg_entry_eq]
  generalize (lg_sl ([.ref (a 0), .int p1]) ++ List.replicate (3 - (lg_sl ([.ref (a 0), .int p1])).length) Slot.unset).toArray = ls at hl ⊢
  have hl : lv_has ls 3 [(0, .ref (a 0)), (1, .int p1)] := hl
  replace hP : va_P (gD g) vwCl ([((a 0), .inr (5, [.int (nI (X.rg)), .ref (a 1), .ref (a 2), .ref (a 10), .ref (a 13), .ref (a 16)])), ((a 1), .inl (gJ g, 32, .inr (.inl X.cs))), ((a 2), .inr (3, [.ref (a 3), .ref (a 4), .ref (a 5), .ref (a 6), .ref (a 7), .ref (a 8), .ref (a 9), .int (nI (X.S.n)), .int (nI (X.S.ar))])), ((a 3), .inl (gI g, 2001, .inl X.S.kd)), ((a 4), .inl (gI g, 2001, .inl X.S.un)), ((a 5), .inl (gI g, 2001, .inl X.S.ce)), ((a 6), .inl (gJ g, 2001, .inr (.inl X.S.bf))), ((a 7), .inl (gJ g, 2001, .inr (.inl X.S.af))), ((a 8), .inl (gI g, 2001, .inl X.S.tn)), ((a 9), .inl (gZ g, 2001, .inl X.S.bk)), ((a 10), .inr (4, [.ref (a 11), .ref (a 12)])), ((a 11), .inl (gI g, 61, .inl X.U.lk)), ((a 12), .inl (gI g, 32, .inl X.U.ch)), ((a 13), .inr (4, [.ref (a 14), .ref (a 15)])), ((a 14), .inl (gI g, 61, .inl X.V.lk)), ((a 15), .inl (gI g, 32, .inl X.V.ch)), ((a 16), .inr (2, [.ref (a 17), .ref (a 18), .ref (a 19), .ref (a 20), .int (nI (X.I.k)), .int X.I.uf])), ((a 17), .inl (gI g, 21, .inl X.I.st)), ((a 18), .inl (gI g, 21, .inl X.I.en)), ((a 19), .inl (gZ g, 21, .inl X.I.sp)), ((a 20), .inl (gG g, 21, .inr (.inr (.inr (.inr (gRow r))))))]) s.heap := hP
  refine lv_aload_n hx hb dX3_latestMissingOf_0 rfl (lv_at hl 0 rfl) ?_
  refine va_get (D := gD g) (ci := 5) (v := .ref (a 2)) (C := RX3) (T := TX3) (N := 6) hx hb hts (by decide +kernel) hown hK.1 hP 0 rfl rfl 2 (by decide) (hts (.fieldLink RX3 16 "LogForward" "rows" "LLogForward$Rows;") (by decide +kernel)) (fun _ h9 => h9) rfl dX3_latestMissingOf_1 ?_
  refine vp_callSi (va_Run.run (va_runV (As := []) (rest := []) ⟨hx, hb, hml, hown, hts⟩ (c_X1_latest l g (fun i => a (i + 2)) X.S) (cwV 0 hts gX3_latestMissingOf_X1_latest rfl rfl rfl (by decide +kernel) ⟨Nat.le_of_ble_eq_true rfl, Nat.le_of_ble_eq_true rfl⟩) (pv_r hK hP (ci := 3) (q0 := 2) rfl rfl [2, 3, 4, 5, 6, 7, 8, 9] rfl) rfl rfl hl.1 rfl (lv_room (Nat.le_of_ble_eq_true rfl)) dX3_latestMissingOf_4 ⟨Nat.zero_le _, Nat.zero_le _⟩)) (fun r_4_1 h_4_1 => ?_)
  subst h_4_1
  refine lv_istore_n (lv' := [(2, .int (nI (X.S.n))), (0, .ref (a 0)), (1, .int p1)]) hx hb dX3_latestMissingOf_7 rfl hl (by decide) rfl (fun ls hl => ?_)
  obtain ⟨i, hi⟩ : ∃ i : Nat, i = X.S.n := ⟨_, rfl⟩
  replace hl : lv_has ls 3 [(0, .ref (a 0)), (1, .int p1), (2, .int (nI (i)))] := by subst hi; exact lv_sub hl [1, 2, 0] rfl
  have hi2 : i ≤ X.S.n := by omega
  have hq : lmO X.S p1 X.S.n = lmO X.S p1 i := by rw [hi]
  clear hi
  obtain ⟨d, hd⟩ : ∃ d, i = d := ⟨_, rfl⟩
  induction d using Nat.strongRecOn generalizing i ls with
  | ind d ih =>
    refine lv_iload_n hx hb dX3_latestMissingOf_8 rfl (lv_at hl 2 rfl) ?_
    refine lv_iconst (v := 1) hx hb dX3_latestMissingOf_9 (by decide) ?_
    refine lv_icmp_lt (tgt := 55) hx hb dX3_latestMissingOf_10 (by decide) (fun c_10_2 => ?_) (fun c_10_2 => ?_)
    · have i_10 : (((i : Nat) : Int) : Int) < 1 := q_lt c_10_2 (l_nI (by omega)) rfl
      refine lv_iconst (v := 0) hx hb dX3_latestMissingOf_55 (by decide) ?_
      exact W.iret (v := 0) hx hb hr (fun tz htz hWz => ⟨0, rfl, (by rw [hq, show i = 0 by omega]; rfl), htz⟩) (fun _ h => nomatch h) dX3_latestMissingOf_56
    · have i_10 : (1 : Int) ≤ ((i : Nat) : Int) := q_nlt c_10_2 (l_nI (by omega)) rfl
      refine lv_aload_n hx hb dX3_latestMissingOf_13 rfl (lv_at hl 0 rfl) ?_
      refine va_get (D := gD g) (ci := 5) (v := .ref (a 2)) (C := RX3) (T := TX3) (N := 6) hx hb hts (by decide +kernel) hown hK.1 hP 0 rfl rfl 2 (by decide) (hts (.fieldLink RX3 16 "LogForward" "rows" "LLogForward$Rows;") (by decide +kernel)) (fun _ h9 => h9) rfl dX3_latestMissingOf_14 ?_
      refine lv_iload_n hx hb dX3_latestMissingOf_17 rfl (lv_at hl 2 rfl) ?_
      refine vp_callSi (va_Run.run (va_runV (As := [.int (nI (i))]) (rest := []) ⟨hx, hb, hml, hown, hts⟩ (c_X1_isMissing l g (fun i => a (i + 2)) X.S (i) (by omega) (by omega) (by omega)) (cwV 1 hts gX3_latestMissingOf_X1_isMissing rfl rfl rfl (by decide +kernel) ⟨Nat.le_of_ble_eq_true rfl, Nat.le_of_ble_eq_true rfl⟩) (pv_r hK hP (ci := 3) (q0 := 2) rfl rfl [2, 3, 4, 5, 6, 7, 8, 9] rfl) rfl rfl hl.1 rfl (lv_room (Nat.le_of_ble_eq_true rfl)) dX3_latestMissingOf_18 ⟨Nat.zero_le _, Nat.zero_le _⟩)) (fun r_18_3 h_18_3 => ?_)
      refine lv_if_eq (tgt := 49) hx hb dX3_latestMissingOf_21 (by decide) (fun c_21_3 => ?_) (fun c_21_3 => ?_)
      · have b_21 : ¬ (X.S.tn (i) = 3) := bI_f h_18_3 c_21_3
        refine lv_iinc (v := (nI (i - 1))) (lv' := [(2, .int (nI (i - 1))), (0, .ref (a 0)), (1, .int p1)]) hx hb dX3_latestMissingOf_49 hl (k := 2) rfl (sb_m1 (by omega)) (by decide) rfl (fun ls hl => ?_)
        refine lv_goto (tgt := 8) hx hb dX3_latestMissingOf_52 (by decide) ?_
        exact ih (i - 1) (by omega) ls (i - 1) (lv_sub hl [1, 2, 0] rfl) (by omega) (by rw [hq]; exact lm_no (by omega) (by rintro ⟨h1, h2⟩; first | exact absurd h1 (by assumption) | exact absurd h2.1 (by assumption) | exact absurd h2.2 (by assumption))) rfl
      · have b_21 : X.S.tn (i) = 3 := bI_t h_18_3 c_21_3
        refine lv_aload_n hx hb dX3_latestMissingOf_24 rfl (lv_at hl 0 rfl) ?_
        refine va_get (D := gD g) (ci := 5) (v := .ref (a 2)) (C := RX3) (T := TX3) (N := 6) hx hb hts (by decide +kernel) hown hK.1 hP 0 rfl rfl 2 (by decide) (hts (.fieldLink RX3 16 "LogForward" "rows" "LLogForward$Rows;") (by decide +kernel)) (fun _ h9 => h9) rfl dX3_latestMissingOf_25 ?_
        refine lv_iload_n hx hb dX3_latestMissingOf_28 rfl (lv_at hl 2 rfl) ?_
        refine vp_callSi (va_Run.run (va_runV (As := [.int (nI (i))]) (rest := []) ⟨hx, hb, hml, hown, hts⟩ (c_X1_isBackable l g (fun i => a (i + 2)) X.S (i) (by omega) (by omega) (by omega)) (cwV 1 hts gX3_latestMissingOf_X1_isBackable rfl rfl rfl (by decide +kernel) ⟨Nat.le_of_ble_eq_true rfl, Nat.le_of_ble_eq_true rfl⟩) (pv_r hK hP (ci := 3) (q0 := 2) rfl rfl [2, 3, 4, 5, 6, 7, 8, 9] rfl) rfl rfl hl.1 rfl (lv_room (Nat.le_of_ble_eq_true rfl)) dX3_latestMissingOf_29 ⟨Nat.zero_le _, Nat.zero_le _⟩)) (fun r_29_4 h_29_4 => ?_)
        refine lv_if_eq (tgt := 49) hx hb dX3_latestMissingOf_32 (by decide) (fun c_32_4 => ?_) (fun c_32_4 => ?_)
        · have b_32 : ¬ (X.S.kd (i) = 0 ∧ X.S.bk (i) = 0) := bI_f h_29_4 c_32_4
          refine lv_iinc (v := (nI (i - 1))) (lv' := [(2, .int (nI (i - 1))), (0, .ref (a 0)), (1, .int p1)]) hx hb dX3_latestMissingOf_49 hl (k := 2) rfl (sb_m1 (by omega)) (by decide) rfl (fun ls hl => ?_)
          refine lv_goto (tgt := 8) hx hb dX3_latestMissingOf_52 (by decide) ?_
          exact ih (i - 1) (by omega) ls (i - 1) (lv_sub hl [1, 2, 0] rfl) (by omega) (by rw [hq]; exact lm_no (by omega) (by rintro ⟨h1, h2⟩; first | exact absurd h1 (by assumption) | exact absurd h2.1 (by assumption) | exact absurd h2.2 (by assumption))) rfl
        · have b_32 : X.S.kd (i) = 0 ∧ X.S.bk (i) = 0 := bI_t h_29_4 c_32_4
          refine lv_aload_n hx hb dX3_latestMissingOf_35 rfl (lv_at hl 0 rfl) ?_
          refine va_get (D := gD g) (ci := 5) (v := .ref (a 2)) (C := RX3) (T := TX3) (N := 6) hx hb hts (by decide +kernel) hown hK.1 hP 0 rfl rfl 2 (by decide) (hts (.fieldLink RX3 16 "LogForward" "rows" "LLogForward$Rows;") (by decide +kernel)) (fun _ h9 => h9) rfl dX3_latestMissingOf_36 ?_
          refine lv_iload_n hx hb dX3_latestMissingOf_39 rfl (lv_at hl 2 rfl) ?_
          refine vp_callSi (va_Run.run (va_runV (As := [.int (nI (i))]) (rest := []) ⟨hx, hb, hml, hown, hts⟩ (c_X1_unitOf l g (fun i => a (i + 2)) X.S (i) (by omega) (by omega) (by omega)) (cwV 1 hts gX3_latestMissingOf_X1_unitOf rfl rfl rfl (by decide +kernel) ⟨Nat.le_of_ble_eq_true rfl, Nat.le_of_ble_eq_true rfl⟩) (pv_r hK hP (ci := 3) (q0 := 2) rfl rfl [2, 3, 4, 5, 6, 7, 8, 9] rfl) rfl rfl hl.1 rfl (lv_room (Nat.le_of_ble_eq_true rfl)) dX3_latestMissingOf_40 ⟨Nat.zero_le _, Nat.zero_le _⟩)) (fun r_40_5 h_40_5 => ?_)
          subst h_40_5
          refine lv_iload_n hx hb dX3_latestMissingOf_43 rfl (lv_at hl 1 rfl) ?_
          refine lv_icmp_ne (tgt := 49) hx hb dX3_latestMissingOf_44 (by decide) (fun c_44_5 => ?_) (fun c_44_5 => ?_)
          · have i_44 : ((X.S.un (i)).toInt : Int) ≠ p1.toInt := q_ne c_44_5 rfl rfl
            refine lv_iinc (v := (nI (i - 1))) (lv' := [(2, .int (nI (i - 1))), (0, .ref (a 0)), (1, .int p1)]) hx hb dX3_latestMissingOf_49 hl (k := 2) rfl (sb_m1 (by omega)) (by decide) rfl (fun ls hl => ?_)
            refine lv_goto (tgt := 8) hx hb dX3_latestMissingOf_52 (by decide) ?_
            exact ih (i - 1) (by omega) ls (i - 1) (lv_sub hl [1, 2, 0] rfl) (by omega) (by rw [hq]; exact lm_no (by omega) (by rintro ⟨h1, h2⟩; first | exact absurd h1 (by assumption) | exact absurd h2.1 (by assumption) | exact absurd h2.2 (by assumption))) rfl
          · have i_44 : ((X.S.un (i)).toInt : Int) = p1.toInt := q_eq c_44_5 rfl rfl
            refine lv_iload_n hx hb dX3_latestMissingOf_47 rfl (lv_at hl 2 rfl) ?_
            exact W.iret (v := (nI (i))) hx hb hr (fun tz htz hWz => ⟨(nI (i)), rfl, (by rw [hq, lm_yes (by omega) ⟨by assumption, by assumption, by assumption⟩]), htz⟩) (fun _ h => nomatch h) dX3_latestMissingOf_48
set_option maxHeartbeats 4000000 in
set_option maxRecDepth 100000 in
theorem c_X3_isToBeBackedOut (l : Launch) (g : GG) (a r : Nat → Nat) (X : XS) (i : Nat) (hr1 : 1 ≤ i) (hr2 : i ≤ X.S.n) (hn : X.S.n ≤ 2000) : Met l yX3_isToBeBackedOut wsX3_isToBeBackedOut { frames := 3, cells := 0, slots := 0, locals := 63 } (va_Pc [.ref (a 0), .int (nI (i))] (Pr g (wXc g a r X))) (vp_Si (fun rv => rv = bI (tbB X.S X.V i))) 0 0 (fun _ => False) := by
  refine Met.ofW (cc := cX3_isToBeBackedOut) (maxL := 2) (ret := (some .boolean)) (by decide) rfl ?_
  intro p e s m args below meth c s₁ B hml hv
  obtain ⟨rfl, hP, hK⟩ := hv
  have hx := B.exec
  have hb := B.bytes
  have hr := B.returns
  have hts := atoms_spec (ws := wsX3_isToBeBackedOut) B.pre
  have hown : s.vm.findClass RX3 = some m.cls := findClass_of_methodNamed B.named
  have hlocks := B.notSynchronized
  have hl := lv_entry ([.ref (a 0), .int (nI (i))]) (n := 2) (Nat.le_of_ble_eq_true rfl)
  rw [lg_entry_eq]
  generalize (lg_sl ([.ref (a 0), .int (nI (i))]) ++ List.replicate (2 - (lg_sl ([.ref (a 0), .int (nI (i))])).length) Slot.unset).toArray = ls at hl ⊢
  have hl : lv_has ls 2 [(0, .ref (a 0)), (1, .int (nI (i)))] := hl
  replace hP : va_P (gD g) vwCl ([((a 0), .inr (5, [.int (nI (X.rg)), .ref (a 1), .ref (a 2), .ref (a 10), .ref (a 13), .ref (a 16)])), ((a 1), .inl (gJ g, 32, .inr (.inl X.cs))), ((a 2), .inr (3, [.ref (a 3), .ref (a 4), .ref (a 5), .ref (a 6), .ref (a 7), .ref (a 8), .ref (a 9), .int (nI (X.S.n)), .int (nI (X.S.ar))])), ((a 3), .inl (gI g, 2001, .inl X.S.kd)), ((a 4), .inl (gI g, 2001, .inl X.S.un)), ((a 5), .inl (gI g, 2001, .inl X.S.ce)), ((a 6), .inl (gJ g, 2001, .inr (.inl X.S.bf))), ((a 7), .inl (gJ g, 2001, .inr (.inl X.S.af))), ((a 8), .inl (gI g, 2001, .inl X.S.tn)), ((a 9), .inl (gZ g, 2001, .inl X.S.bk)), ((a 10), .inr (4, [.ref (a 11), .ref (a 12)])), ((a 11), .inl (gI g, 61, .inl X.U.lk)), ((a 12), .inl (gI g, 32, .inl X.U.ch)), ((a 13), .inr (4, [.ref (a 14), .ref (a 15)])), ((a 14), .inl (gI g, 61, .inl X.V.lk)), ((a 15), .inl (gI g, 32, .inl X.V.ch)), ((a 16), .inr (2, [.ref (a 17), .ref (a 18), .ref (a 19), .ref (a 20), .int (nI (X.I.k)), .int X.I.uf])), ((a 17), .inl (gI g, 21, .inl X.I.st)), ((a 18), .inl (gI g, 21, .inl X.I.en)), ((a 19), .inl (gZ g, 21, .inl X.I.sp)), ((a 20), .inl (gG g, 21, .inr (.inr (.inr (.inr (gRow r))))))]) s.heap := hP
  refine lv_aload_n hx hb dX3_isToBeBackedOut_0 rfl (lv_at hl 0 rfl) ?_
  refine va_get (D := gD g) (ci := 5) (v := .ref (a 2)) (C := RX3) (T := TX3) (N := 6) hx hb hts (by decide +kernel) hown hK.1 hP 0 rfl rfl 2 (by decide) (hts (.fieldLink RX3 16 "LogForward" "rows" "LLogForward$Rows;") (by decide +kernel)) (fun _ h9 => h9) rfl dX3_isToBeBackedOut_1 ?_
  refine lv_iload_n hx hb dX3_isToBeBackedOut_4 rfl (lv_at hl 1 rfl) ?_
  refine vp_callSi (va_Run.run (va_runV (As := [.int (nI (i))]) (rest := []) ⟨hx, hb, hml, hown, hts⟩ (c_X1_isBackable l g (fun i => a (i + 2)) X.S (i) (by omega) (by omega) (by omega)) (cwV 1 hts gX3_isToBeBackedOut_X1_isBackable rfl rfl rfl (by decide +kernel) ⟨Nat.le_of_ble_eq_true rfl, Nat.le_of_ble_eq_true rfl⟩) (pv_r hK hP (ci := 3) (q0 := 2) rfl rfl [2, 3, 4, 5, 6, 7, 8, 9] rfl) rfl rfl hl.1 rfl (lv_room (Nat.le_of_ble_eq_true rfl)) dX3_isToBeBackedOut_5 ⟨Nat.zero_le _, Nat.zero_le _⟩)) (fun r_5_1 h_5_1 => ?_)
  refine lv_if_eq (tgt := 33) hx hb dX3_isToBeBackedOut_8 (by decide) (fun c_8_1 => ?_) (fun c_8_1 => ?_)
  · have b_8 : ¬ (X.S.kd (i) = 0 ∧ X.S.bk (i) = 0) := bI_f h_5_1 c_8_1
    refine lv_iconst (v := 0) hx hb dX3_isToBeBackedOut_33 (by decide) ?_
    exact W.zret (v := 0) hx hb hr rfl (fun tz htz hWz => ⟨0, rfl, (bI_0 (by first | exact ⟨by assumption, by assumption⟩ | exact fun h => absurd h.1 (by assumption) | exact fun h => absurd h.2 (by assumption))), htz⟩) (fun _ h => nomatch h) dX3_isToBeBackedOut_34
  · have b_8 : X.S.kd (i) = 0 ∧ X.S.bk (i) = 0 := bI_t h_5_1 c_8_1
    refine lv_aload_n hx hb dX3_isToBeBackedOut_11 rfl (lv_at hl 0 rfl) ?_
    refine va_get (D := gD g) (ci := 5) (v := .ref (a 13)) (C := RX3) (T := TX3) (N := 6) hx hb hts (by decide +kernel) hown hK.1 hP 0 rfl rfl 4 (by decide) (hts (.fieldLink RX3 27 "LogForward" "unitsThen" "LLogForward$Units;") (by decide +kernel)) (fun _ h9 => h9) rfl dX3_isToBeBackedOut_12 ?_
    refine lv_aload_n hx hb dX3_isToBeBackedOut_15 rfl (lv_at hl 0 rfl) ?_
    refine va_get (D := gD g) (ci := 5) (v := .ref (a 2)) (C := RX3) (T := TX3) (N := 6) hx hb hts (by decide +kernel) hown hK.1 hP 0 rfl rfl 2 (by decide) (hts (.fieldLink RX3 16 "LogForward" "rows" "LLogForward$Rows;") (by decide +kernel)) (fun _ h9 => h9) rfl dX3_isToBeBackedOut_16 ?_
    refine lv_iload_n hx hb dX3_isToBeBackedOut_19 rfl (lv_at hl 1 rfl) ?_
    refine vp_callSi (va_Run.run (va_runV (As := [.int (nI (i))]) (rest := [.ref (a 13)]) ⟨hx, hb, hml, hown, hts⟩ (c_X1_unitOf l g (fun i => a (i + 2)) X.S (i) (by omega) (by omega) (by omega)) (cwV 1 hts gX3_isToBeBackedOut_X1_unitOf rfl rfl rfl (by decide +kernel) ⟨Nat.le_of_ble_eq_true rfl, Nat.le_of_ble_eq_true rfl⟩) (pv_r hK hP (ci := 3) (q0 := 2) rfl rfl [2, 3, 4, 5, 6, 7, 8, 9] rfl) rfl rfl hl.1 rfl (lv_room (Nat.le_of_ble_eq_true rfl)) dX3_isToBeBackedOut_20 ⟨Nat.zero_le _, Nat.zero_le _⟩)) (fun r_20_2 h_20_2 => ?_)
    subst h_20_2
    refine vp_callSi (va_Run.run (va_runV (As := [.int (X.S.un (i))]) (rest := []) ⟨hx, hb, hml, hown, hts⟩ (c_X2_isOpen l g (fun i => a (i + 13)) X.V (X.S.un (i))) (cwV 1 hts gX3_isToBeBackedOut_X2_isOpen rfl rfl rfl (by decide +kernel) ⟨Nat.le_of_ble_eq_true rfl, Nat.le_of_ble_eq_true rfl⟩) (pv_r hK hP (ci := 4) (q0 := 13) rfl rfl [13, 14, 15] rfl) rfl rfl hl.1 rfl (lv_room (Nat.le_of_ble_eq_true rfl)) dX3_isToBeBackedOut_23 ⟨Nat.zero_le _, Nat.zero_le _⟩)) (fun r_23_2 h_23_2 => ?_)
    refine lv_if_eq (tgt := 33) hx hb dX3_isToBeBackedOut_26 (by decide) (fun c_26_2 => ?_) (fun c_26_2 => ?_)
    · have b_26 : ¬ (opU X.V (X.S.un (i))) := bI_f h_23_2 c_26_2
      refine lv_iconst (v := 0) hx hb dX3_isToBeBackedOut_33 (by decide) ?_
      exact W.zret (v := 0) hx hb hr rfl (fun tz htz hWz => ⟨0, rfl, (bI_0 (by first | exact ⟨by assumption, by assumption⟩ | exact fun h => absurd h.1 (by assumption) | exact fun h => absurd h.2 (by assumption))), htz⟩) (fun _ h => nomatch h) dX3_isToBeBackedOut_34
    · have b_26 : opU X.V (X.S.un (i)) := bI_t h_23_2 c_26_2
      refine lv_iconst (v := 1) hx hb dX3_isToBeBackedOut_29 (by decide) ?_
      refine lv_goto (tgt := 34) hx hb dX3_isToBeBackedOut_30 (by decide) ?_
      exact W.zret (v := 1) hx hb hr rfl (fun tz htz hWz => ⟨1, rfl, (bI_1 (by first | exact ⟨by assumption, by assumption⟩ | exact fun h => absurd h.1 (by assumption) | exact fun h => absurd h.2 (by assumption))), htz⟩) (fun _ h => nomatch h) dX3_isToBeBackedOut_34
set_option maxHeartbeats 4000000 in
set_option maxRecDepth 100000 in
theorem c_X3_leastMissing (l : Launch) (g : GG) (a r : Nat → Nat) (X : XS) (p1 : Int32) (t : Nat) (ht0 : t ≤ X.S.n) (hn : X.S.n ≤ 2000) : Met l yX3_leastMissing wsX3_leastMissing { frames := 4, cells := 0, slots := 0, locals := 84 } (va_Pc [.ref (a 0), .int p1, .int (nI (t))] (Pr g (wXc g a r X))) (vp_Si (fun rv => rv = nI (lsF X.S X.V p1 t 1))) 0 0 (fun _ => False) := by
  refine Met.ofW (cc := cX3_leastMissing) (maxL := 4) (ret := (some .int)) (by decide) rfl ?_
  intro p e s m args below meth c s₁ B hml hv
  obtain ⟨rfl, hP, hK⟩ := hv
  have hx := B.exec
  have hb := B.bytes
  have hr := B.returns
  have hts := atoms_spec (ws := wsX3_leastMissing) B.pre
  have hown : s.vm.findClass RX3 = some m.cls := findClass_of_methodNamed B.named
  have hlocks := B.notSynchronized
  have hl := lv_entry ([.ref (a 0), .int p1, .int (nI (t))]) (n := 4) (Nat.le_of_ble_eq_true rfl)
  rw [lg_entry_eq]
  generalize (lg_sl ([.ref (a 0), .int p1, .int (nI (t))]) ++ List.replicate (4 - (lg_sl ([.ref (a 0), .int p1, .int (nI (t))])).length) Slot.unset).toArray = ls at hl ⊢
  have hl : lv_has ls 4 [(0, .ref (a 0)), (1, .int p1), (2, .int (nI (t)))] := hl
  replace hP : va_P (gD g) vwCl ([((a 0), .inr (5, [.int (nI (X.rg)), .ref (a 1), .ref (a 2), .ref (a 10), .ref (a 13), .ref (a 16)])), ((a 1), .inl (gJ g, 32, .inr (.inl X.cs))), ((a 2), .inr (3, [.ref (a 3), .ref (a 4), .ref (a 5), .ref (a 6), .ref (a 7), .ref (a 8), .ref (a 9), .int (nI (X.S.n)), .int (nI (X.S.ar))])), ((a 3), .inl (gI g, 2001, .inl X.S.kd)), ((a 4), .inl (gI g, 2001, .inl X.S.un)), ((a 5), .inl (gI g, 2001, .inl X.S.ce)), ((a 6), .inl (gJ g, 2001, .inr (.inl X.S.bf))), ((a 7), .inl (gJ g, 2001, .inr (.inl X.S.af))), ((a 8), .inl (gI g, 2001, .inl X.S.tn)), ((a 9), .inl (gZ g, 2001, .inl X.S.bk)), ((a 10), .inr (4, [.ref (a 11), .ref (a 12)])), ((a 11), .inl (gI g, 61, .inl X.U.lk)), ((a 12), .inl (gI g, 32, .inl X.U.ch)), ((a 13), .inr (4, [.ref (a 14), .ref (a 15)])), ((a 14), .inl (gI g, 61, .inl X.V.lk)), ((a 15), .inl (gI g, 32, .inl X.V.ch)), ((a 16), .inr (2, [.ref (a 17), .ref (a 18), .ref (a 19), .ref (a 20), .int (nI (X.I.k)), .int X.I.uf])), ((a 17), .inl (gI g, 21, .inl X.I.st)), ((a 18), .inl (gI g, 21, .inl X.I.en)), ((a 19), .inl (gZ g, 21, .inl X.I.sp)), ((a 20), .inl (gG g, 21, .inr (.inr (.inr (.inr (gRow r))))))]) s.heap := hP
  refine lv_iconst (v := 1) hx hb dX3_leastMissing_0 (by decide) ?_
  refine lv_istore_n (lv' := [(3, .int 1), (0, .ref (a 0)), (1, .int p1), (2, .int (nI (t)))]) hx hb dX3_leastMissing_1 rfl hl (by decide) rfl (fun ls hl => ?_)
  obtain ⟨i, hi⟩ : ∃ i : Nat, i = 1 := ⟨_, rfl⟩
  replace hl : lv_has ls 4 [(0, .ref (a 0)), (1, .int p1), (2, .int (nI (t))), (3, .int (nI (i)))] := by subst hi; exact lv_sub hl [1, 2, 3, 0] rfl
  have hi1 : 1 ≤ i := by omega
  have hi2 : i ≤ t + 1 := by omega
  have hq : lsF X.S X.V p1 t 1 = lsF X.S X.V p1 (t + 1 - i) i := by rw [hi]; rfl
  clear hi
  obtain ⟨d, hd⟩ : ∃ d, t + 1 - i = d := ⟨_, rfl⟩
  induction d using Nat.strongRecOn generalizing i ls with
  | ind d ih =>
    refine lv_iload_n hx hb dX3_leastMissing_2 rfl (lv_at hl 3 rfl) ?_
    refine lv_iload_n hx hb dX3_leastMissing_3 rfl (lv_at hl 2 rfl) ?_
    refine lv_icmp_gt (tgt := 39) hx hb dX3_leastMissing_4 (by decide) (fun c_4_2 => ?_) (fun c_4_2 => ?_)
    · have i_4 : (((t : Nat) : Int) : Int) < ((i : Nat) : Int) := q_lt c_4_2 (l_nI (by omega)) (l_nI (by omega))
      refine lv_iconst (v := 0) hx hb dX3_leastMissing_39 (by decide) ?_
      exact W.iret (v := 0) hx hb hr (fun tz htz hWz => ⟨0, rfl, (by rw [hq, ls_end (by omega)]; rfl), htz⟩) (fun _ h => nomatch h) dX3_leastMissing_40
    · have i_4 : (((i : Nat) : Int) : Int) ≤ ((t : Nat) : Int) := q_nlt c_4_2 (l_nI (by omega)) (l_nI (by omega))
      refine lv_aload_n hx hb dX3_leastMissing_7 rfl (lv_at hl 0 rfl) ?_
      refine va_get (D := gD g) (ci := 5) (v := .ref (a 2)) (C := RX3) (T := TX3) (N := 6) hx hb hts (by decide +kernel) hown hK.1 hP 0 rfl rfl 2 (by decide) (hts (.fieldLink RX3 16 "LogForward" "rows" "LLogForward$Rows;") (by decide +kernel)) (fun _ h9 => h9) rfl dX3_leastMissing_8 ?_
      refine lv_iload_n hx hb dX3_leastMissing_11 rfl (lv_at hl 3 rfl) ?_
      refine vp_callSi (va_Run.run (va_runV (As := [.int (nI (i))]) (rest := []) ⟨hx, hb, hml, hown, hts⟩ (c_X1_isMissing l g (fun i => a (i + 2)) X.S (i) (by omega) (by omega) (by omega)) (cwV 1 hts gX3_leastMissing_X1_isMissing rfl rfl rfl (by decide +kernel) ⟨Nat.le_of_ble_eq_true rfl, Nat.le_of_ble_eq_true rfl⟩) (pv_r hK hP (ci := 3) (q0 := 2) rfl rfl [2, 3, 4, 5, 6, 7, 8, 9] rfl) rfl rfl hl.1 rfl (lv_room (Nat.le_of_ble_eq_true rfl)) dX3_leastMissing_12 ⟨Nat.zero_le _, Nat.zero_le _⟩)) (fun r_12_3 h_12_3 => ?_)
      refine lv_if_eq (tgt := 33) hx hb dX3_leastMissing_15 (by decide) (fun c_15_3 => ?_) (fun c_15_3 => ?_)
      · have b_15 : ¬ (X.S.tn (i) = 3) := bI_f h_12_3 c_15_3
        refine lv_iinc (v := (nI (i + 1))) (lv' := [(3, .int (nI (i + 1))), (0, .ref (a 0)), (1, .int p1), (2, .int (nI (t)))]) hx hb dX3_leastMissing_33 hl (k := 3) rfl (nI_1 _) (by decide) rfl (fun ls hl => ?_)
        refine lv_goto (tgt := 2) hx hb dX3_leastMissing_36 (by decide) ?_
        exact ih (t + 1 - (i + 1)) (by omega) ls (i + 1) (lv_sub hl [1, 2, 3, 0] rfl) (by omega) (by omega) (by rw [hq]; exact ls_no (by omega) (by rintro ⟨h1, h2 | h2⟩ <;> first | exact absurd h1 (by assumption) | (exfalso; omega) | exact absurd h2 (by assumption))) rfl
      · have b_15 : X.S.tn (i) = 3 := bI_t h_12_3 c_15_3
        refine lv_iload_n hx hb dX3_leastMissing_18 rfl (lv_at hl 3 rfl) ?_
        refine lv_iload_n hx hb dX3_leastMissing_19 rfl (lv_at hl 1 rfl) ?_
        refine lv_icmp_gt (tgt := 31) hx hb dX3_leastMissing_20 (by decide) (fun c_20_4 => ?_) (fun c_20_4 => ?_)
        · have i_20 : (p1.toInt : Int) < ((i : Nat) : Int) := q_lt c_20_4 rfl (l_nI (by omega))
          refine lv_iload_n hx hb dX3_leastMissing_31 rfl (lv_at hl 3 rfl) ?_
          exact W.iret (v := (nI (i))) hx hb hr (fun tz htz hWz => ⟨(nI (i)), rfl, (by rw [hq, ls_yes (by omega) ⟨by assumption, by first | exact Or.inl (by omega) | exact Or.inr (by assumption)⟩]), htz⟩) (fun _ h => nomatch h) dX3_leastMissing_32
        · have i_20 : (((i : Nat) : Int) : Int) ≤ p1.toInt := q_nlt c_20_4 rfl (l_nI (by omega))
          refine lv_aload_n hx hb dX3_leastMissing_23 rfl (lv_at hl 0 rfl) ?_
          refine lv_iload_n hx hb dX3_leastMissing_24 rfl (lv_at hl 3 rfl) ?_
          refine vp_callSi (va_Run.run (va_runV (As := [.int (nI (i))]) (rest := []) ⟨hx, hb, hml, hown, hts⟩ (c_X3_isToBeBackedOut l g a r X (i) (by omega) (by omega) (by omega)) (cwV 1 hts gX3_leastMissing_X3_isToBeBackedOut rfl rfl rfl (by decide +kernel) ⟨Nat.le_of_ble_eq_true rfl, Nat.le_of_ble_eq_true rfl⟩) (pv_r hK hP (ci := 5) (q0 := 0) rfl rfl [0, 1, 2, 3, 4, 5, 6, 7, 8, 9, 10, 11, 12, 13, 14, 15, 16, 17, 18, 19, 20] rfl) rfl rfl hl.1 rfl (lv_room (Nat.le_of_ble_eq_true rfl)) dX3_leastMissing_25 ⟨Nat.zero_le _, Nat.zero_le _⟩)) (fun r_25_5 h_25_5 => ?_)
          refine lv_if_eq (tgt := 33) hx hb dX3_leastMissing_28 (by decide) (fun c_28_5 => ?_) (fun c_28_5 => ?_)
          · have b_28 : ¬ (tbB X.S X.V (i)) := bI_f h_25_5 c_28_5
            refine lv_iinc (v := (nI (i + 1))) (lv' := [(3, .int (nI (i + 1))), (0, .ref (a 0)), (1, .int p1), (2, .int (nI (t)))]) hx hb dX3_leastMissing_33 hl (k := 3) rfl (nI_1 _) (by decide) rfl (fun ls hl => ?_)
            refine lv_goto (tgt := 2) hx hb dX3_leastMissing_36 (by decide) ?_
            exact ih (t + 1 - (i + 1)) (by omega) ls (i + 1) (lv_sub hl [1, 2, 3, 0] rfl) (by omega) (by omega) (by rw [hq]; exact ls_no (by omega) (by rintro ⟨h1, h2 | h2⟩ <;> first | exact absurd h1 (by assumption) | (exfalso; omega) | exact absurd h2 (by assumption))) rfl
          · have b_28 : tbB X.S X.V (i) := bI_t h_25_5 c_28_5
            refine lv_iload_n hx hb dX3_leastMissing_31 rfl (lv_at hl 3 rfl) ?_
            exact W.iret (v := (nI (i))) hx hb hr (fun tz htz hWz => ⟨(nI (i)), rfl, (by rw [hq, ls_yes (by omega) ⟨by assumption, by first | exact Or.inl (by omega) | exact Or.inr (by assumption)⟩]), htz⟩) (fun _ h => nomatch h) dX3_leastMissing_32
set_option maxHeartbeats 4000000 in
set_option maxRecDepth 100000 in
theorem c_X3_rowsOfBackingOut (l : Launch) (g : GG) (a r : Nat → Nat) (X : XS) (t : Nat) (ht0 : t ≤ X.S.n) (hn : X.S.n ≤ 2000) : Met l yX3_rowsOfBackingOut wsX3_rowsOfBackingOut { frames := 4, cells := 0, slots := 0, locals := 84 } (va_Pc [.ref (a 0), .int (nI (t))] (Pr g (wXc g a r X))) (vp_Si (fun rv => rv = nI (cnT X.S X.V t + cntU X.V 0 60))) 0 0 (fun _ => False) := by
  refine Met.ofW (cc := cX3_rowsOfBackingOut) (maxL := 5) (ret := (some .int)) (by decide) rfl ?_
  intro p e s m args below meth c s₁ B hml hv
  obtain ⟨rfl, hP, hK⟩ := hv
  have hx := B.exec
  have hb := B.bytes
  have hr := B.returns
  have hts := atoms_spec (ws := wsX3_rowsOfBackingOut) B.pre
  have hown : s.vm.findClass RX3 = some m.cls := findClass_of_methodNamed B.named
  have hlocks := B.notSynchronized
  have hl := lv_entry ([.ref (a 0), .int (nI (t))]) (n := 5) (Nat.le_of_ble_eq_true rfl)
  rw [lg_entry_eq]
  generalize (lg_sl ([.ref (a 0), .int (nI (t))]) ++ List.replicate (5 - (lg_sl ([.ref (a 0), .int (nI (t))])).length) Slot.unset).toArray = ls at hl ⊢
  have hl : lv_has ls 5 [(0, .ref (a 0)), (1, .int (nI (t)))] := hl
  replace hP : va_P (gD g) vwCl ([((a 0), .inr (5, [.int (nI (X.rg)), .ref (a 1), .ref (a 2), .ref (a 10), .ref (a 13), .ref (a 16)])), ((a 1), .inl (gJ g, 32, .inr (.inl X.cs))), ((a 2), .inr (3, [.ref (a 3), .ref (a 4), .ref (a 5), .ref (a 6), .ref (a 7), .ref (a 8), .ref (a 9), .int (nI (X.S.n)), .int (nI (X.S.ar))])), ((a 3), .inl (gI g, 2001, .inl X.S.kd)), ((a 4), .inl (gI g, 2001, .inl X.S.un)), ((a 5), .inl (gI g, 2001, .inl X.S.ce)), ((a 6), .inl (gJ g, 2001, .inr (.inl X.S.bf))), ((a 7), .inl (gJ g, 2001, .inr (.inl X.S.af))), ((a 8), .inl (gI g, 2001, .inl X.S.tn)), ((a 9), .inl (gZ g, 2001, .inl X.S.bk)), ((a 10), .inr (4, [.ref (a 11), .ref (a 12)])), ((a 11), .inl (gI g, 61, .inl X.U.lk)), ((a 12), .inl (gI g, 32, .inl X.U.ch)), ((a 13), .inr (4, [.ref (a 14), .ref (a 15)])), ((a 14), .inl (gI g, 61, .inl X.V.lk)), ((a 15), .inl (gI g, 32, .inl X.V.ch)), ((a 16), .inr (2, [.ref (a 17), .ref (a 18), .ref (a 19), .ref (a 20), .int (nI (X.I.k)), .int X.I.uf])), ((a 17), .inl (gI g, 21, .inl X.I.st)), ((a 18), .inl (gI g, 21, .inl X.I.en)), ((a 19), .inl (gZ g, 21, .inl X.I.sp)), ((a 20), .inl (gG g, 21, .inr (.inr (.inr (.inr (gRow r))))))]) s.heap := hP
  refine lv_aload_n hx hb dX3_rowsOfBackingOut_0 rfl (lv_at hl 0 rfl) ?_
  refine va_get (D := gD g) (ci := 5) (v := .ref (a 13)) (C := RX3) (T := TX3) (N := 6) hx hb hts (by decide +kernel) hown hK.1 hP 0 rfl rfl 4 (by decide) (hts (.fieldLink RX3 27 "LogForward" "unitsThen" "LLogForward$Units;") (by decide +kernel)) (fun _ h9 => h9) rfl dX3_rowsOfBackingOut_1 ?_
  refine vp_callSi (va_Run.run (va_runV (As := []) (rest := []) ⟨hx, hb, hml, hown, hts⟩ (c_X2_howManyOpen l g (fun i => a (i + 13)) X.V) (cwV 0 hts gX3_rowsOfBackingOut_X2_howManyOpen rfl rfl rfl (by decide +kernel) ⟨Nat.le_of_ble_eq_true rfl, Nat.le_of_ble_eq_true rfl⟩) (pv_r hK hP (ci := 4) (q0 := 13) rfl rfl [13, 14, 15] rfl) rfl rfl hl.1 rfl (lv_room (Nat.le_of_ble_eq_true rfl)) dX3_rowsOfBackingOut_4 ⟨Nat.zero_le _, Nat.zero_le _⟩)) (fun r_4_1 h_4_1 => ?_)
  subst h_4_1
  refine lv_istore_n (lv' := [(2, .int (nI (cntU X.V 0 60))), (0, .ref (a 0)), (1, .int (nI (t)))]) hx hb dX3_rowsOfBackingOut_7 rfl hl (by decide) rfl (fun ls hl => ?_)
  refine lv_iconst (v := 0) hx hb dX3_rowsOfBackingOut_8 (by decide) ?_
  refine lv_istore_n (lv' := [(3, .int 0), (2, .int (nI (cntU X.V 0 60))), (0, .ref (a 0)), (1, .int (nI (t)))]) hx hb dX3_rowsOfBackingOut_9 rfl hl (by decide) rfl (fun ls hl => ?_)
  refine lv_iconst (v := 1) hx hb dX3_rowsOfBackingOut_10 (by decide) ?_
  refine lv_istore (lv' := [(4, .int 1), (3, .int 0), (2, .int (nI (cntU X.V 0 60))), (0, .ref (a 0)), (1, .int (nI (t)))]) hx hb dX3_rowsOfBackingOut_11 hl (by decide) rfl (fun ls hl => ?_)
  obtain ⟨i, hi⟩ : ∃ i : Nat, i = 1 := ⟨_, rfl⟩
  replace hl : lv_has ls 5 [(0, .ref (a 0)), (1, .int (nI (t))), (2, .int (nI (cntU X.V 0 60))), (3, .int (nI (cnT X.S X.V (i - 1)))), (4, .int (nI (i)))] := by subst hi; exact lv_sub hl [3, 4, 2, 1, 0] rfl
  have hi1 : 1 ≤ i := by omega
  have hi2 : i ≤ t + 1 := by omega
  clear hi
  obtain ⟨d, hd⟩ : ∃ d, t + 1 - i = d := ⟨_, rfl⟩
  induction d using Nat.strongRecOn generalizing i ls with
  | ind d ih =>
    refine lv_iload hx hb dX3_rowsOfBackingOut_13 (lv_at hl 4 rfl) ?_
    refine lv_iload_n hx hb dX3_rowsOfBackingOut_15 rfl (lv_at hl 1 rfl) ?_
    refine lv_icmp_gt (tgt := 37) hx hb dX3_rowsOfBackingOut_16 (by decide) (fun c_16_2 => ?_) (fun c_16_2 => ?_)
    · have i_16 : (((t : Nat) : Int) : Int) < ((i : Nat) : Int) := q_lt c_16_2 (l_nI (by omega)) (l_nI (by omega))
      refine lv_iload_n hx hb dX3_rowsOfBackingOut_37 rfl (lv_at hl 3 rfl) ?_
      refine lv_iload_n hx hb dX3_rowsOfBackingOut_38 rfl (lv_at hl 2 rfl) ?_
      refine ga_iadd (v := (nI (cnT X.S X.V (i - 1) + cntU X.V 0 60))) hx hb (nI_add _ _) dX3_rowsOfBackingOut_39 ?_
      exact W.iret (v := (nI (cnT X.S X.V (i - 1) + cntU X.V 0 60))) hx hb hr (fun tz htz hWz => ⟨(nI (cnT X.S X.V (i - 1) + cntU X.V 0 60)), rfl, (by rw [show i - 1 = t by omega]), htz⟩) (fun _ h => nomatch h) dX3_rowsOfBackingOut_40
    · have i_16 : (((i : Nat) : Int) : Int) ≤ ((t : Nat) : Int) := q_nlt c_16_2 (l_nI (by omega)) (l_nI (by omega))
      refine lv_aload_n hx hb dX3_rowsOfBackingOut_19 rfl (lv_at hl 0 rfl) ?_
      refine lv_iload hx hb dX3_rowsOfBackingOut_20 (lv_at hl 4 rfl) ?_
      refine vp_callSi (va_Run.run (va_runV (As := [.int (nI (i))]) (rest := []) ⟨hx, hb, hml, hown, hts⟩ (c_X3_isToBeBackedOut l g a r X (i) (by omega) (by omega) (by omega)) (cwV 1 hts gX3_rowsOfBackingOut_X3_isToBeBackedOut rfl rfl rfl (by decide +kernel) ⟨Nat.le_of_ble_eq_true rfl, Nat.le_of_ble_eq_true rfl⟩) (pv_r hK hP (ci := 5) (q0 := 0) rfl rfl [0, 1, 2, 3, 4, 5, 6, 7, 8, 9, 10, 11, 12, 13, 14, 15, 16, 17, 18, 19, 20] rfl) rfl rfl hl.1 rfl (lv_room (Nat.le_of_ble_eq_true rfl)) dX3_rowsOfBackingOut_22 ⟨Nat.zero_le _, Nat.zero_le _⟩)) (fun r_22_3 h_22_3 => ?_)
      refine lv_if_eq (tgt := 31) hx hb dX3_rowsOfBackingOut_25 (by decide) (fun c_25_3 => ?_) (fun c_25_3 => ?_)
      · have b_25 : ¬ (tbB X.S X.V (i)) := bI_f h_22_3 c_25_3
        refine lv_iinc (v := (nI (i + 1))) (lv' := [(4, .int (nI (i + 1))), (0, .ref (a 0)), (1, .int (nI (t))), (2, .int (nI (cntU X.V 0 60))), (3, .int (nI (cnT X.S X.V (i - 1))))]) hx hb dX3_rowsOfBackingOut_31 hl (k := 4) rfl (nI_1 _) (by decide) rfl (fun ls hl => ?_)
        refine lv_goto (tgt := 13) hx hb dX3_rowsOfBackingOut_34 (by decide) ?_
        exact ih (t + 1 - (i + 1)) (by omega) ls (i + 1) (by rw [Nat.add_sub_cancel]; rw [show cnT X.S X.V i = cnT X.S X.V (i - 1) from by obtain ⟨j, rfl⟩ : ∃ j, i = j + 1 := ⟨i - 1, by omega⟩; simp only [cnT, Nat.add_sub_cancel]; first | rw [if_pos (by assumption)] | rw [if_neg (by assumption)]]; exact lv_sub hl [1, 2, 3, 4, 0] rfl) (by omega) (by omega) rfl
      · have b_25 : tbB X.S X.V (i) := bI_t h_22_3 c_25_3
        refine lv_iinc (v := (nI (cnT X.S X.V (i - 1) + 1))) (lv' := [(3, .int (nI (cnT X.S X.V (i - 1) + 1))), (0, .ref (a 0)), (1, .int (nI (t))), (2, .int (nI (cntU X.V 0 60))), (4, .int (nI (i)))]) hx hb dX3_rowsOfBackingOut_28 hl (k := 3) rfl (nI_1 _) (by decide) rfl (fun ls hl => ?_)
        refine lv_iinc (v := (nI (i + 1))) (lv' := [(4, .int (nI (i + 1))), (3, .int (nI (cnT X.S X.V (i - 1) + 1))), (0, .ref (a 0)), (1, .int (nI (t))), (2, .int (nI (cntU X.V 0 60)))]) hx hb dX3_rowsOfBackingOut_31 hl (k := 4) rfl (nI_1 _) (by decide) rfl (fun ls hl => ?_)
        refine lv_goto (tgt := 13) hx hb dX3_rowsOfBackingOut_34 (by decide) ?_
        exact ih (t + 1 - (i + 1)) (by omega) ls (i + 1) (by rw [Nat.add_sub_cancel]; rw [show cnT X.S X.V i = cnT X.S X.V (i - 1) + 1 from by obtain ⟨j, rfl⟩ : ∃ j, i = j + 1 := ⟨i - 1, by omega⟩; simp only [cnT, Nat.add_sub_cancel]; first | rw [if_pos (by assumption)] | rw [if_neg (by assumption)]]; exact lv_sub hl [2, 3, 4, 1, 0] rfl) (by omega) (by omega) rfl
set_option maxHeartbeats 4000000 in
set_option maxRecDepth 100000 in
theorem c_X3_gap (l : Launch) (g : GG) (a r : Nat → Nat) (X : XS) (p1 : Int32) (hn : X.S.n ≤ 2000) : Met l yX3_gap wsX3_gap { frames := 2, cells := 0, slots := 0, locals := 42 } (va_Pc [.ref (a 0), .int p1] (Pr g (wXc g a r X))) (vp_Si (fun rv => rv = nI (gpF X.S X.S.n 1 p1))) 0 0 (fun _ => False) := by
  refine Met.ofW (cc := cX3_gap) (maxL := 4) (ret := (some .int)) (by decide) rfl ?_
  intro p e s m args below meth c s₁ B hml hv
  obtain ⟨rfl, hP, hK⟩ := hv
  have hx := B.exec
  have hb := B.bytes
  have hr := B.returns
  have hts := atoms_spec (ws := wsX3_gap) B.pre
  have hown : s.vm.findClass RX3 = some m.cls := findClass_of_methodNamed B.named
  have hlocks := B.notSynchronized
  have hl := lv_entry ([.ref (a 0), .int p1]) (n := 4) (Nat.le_of_ble_eq_true rfl)
  rw [lg_entry_eq]
  generalize (lg_sl ([.ref (a 0), .int p1]) ++ List.replicate (4 - (lg_sl ([.ref (a 0), .int p1])).length) Slot.unset).toArray = ls at hl ⊢
  have hl : lv_has ls 4 [(0, .ref (a 0)), (1, .int p1)] := hl
  replace hP : va_P (gD g) vwCl ([((a 0), .inr (5, [.int (nI (X.rg)), .ref (a 1), .ref (a 2), .ref (a 10), .ref (a 13), .ref (a 16)])), ((a 1), .inl (gJ g, 32, .inr (.inl X.cs))), ((a 2), .inr (3, [.ref (a 3), .ref (a 4), .ref (a 5), .ref (a 6), .ref (a 7), .ref (a 8), .ref (a 9), .int (nI (X.S.n)), .int (nI (X.S.ar))])), ((a 3), .inl (gI g, 2001, .inl X.S.kd)), ((a 4), .inl (gI g, 2001, .inl X.S.un)), ((a 5), .inl (gI g, 2001, .inl X.S.ce)), ((a 6), .inl (gJ g, 2001, .inr (.inl X.S.bf))), ((a 7), .inl (gJ g, 2001, .inr (.inl X.S.af))), ((a 8), .inl (gI g, 2001, .inl X.S.tn)), ((a 9), .inl (gZ g, 2001, .inl X.S.bk)), ((a 10), .inr (4, [.ref (a 11), .ref (a 12)])), ((a 11), .inl (gI g, 61, .inl X.U.lk)), ((a 12), .inl (gI g, 32, .inl X.U.ch)), ((a 13), .inr (4, [.ref (a 14), .ref (a 15)])), ((a 14), .inl (gI g, 61, .inl X.V.lk)), ((a 15), .inl (gI g, 32, .inl X.V.ch)), ((a 16), .inr (2, [.ref (a 17), .ref (a 18), .ref (a 19), .ref (a 20), .int (nI (X.I.k)), .int X.I.uf])), ((a 17), .inl (gI g, 21, .inl X.I.st)), ((a 18), .inl (gI g, 21, .inl X.I.en)), ((a 19), .inl (gZ g, 21, .inl X.I.sp)), ((a 20), .inl (gG g, 21, .inr (.inr (.inr (.inr (gRow r))))))]) s.heap := hP
  refine lv_iload_n hx hb dX3_gap_0 rfl (lv_at hl 1 rfl) ?_
  refine lv_istore_n (lv' := [(2, .int p1), (0, .ref (a 0)), (1, .int p1)]) hx hb dX3_gap_1 rfl hl (by decide) rfl (fun ls hl => ?_)
  refine lv_iconst (v := 1) hx hb dX3_gap_2 (by decide) ?_
  refine lv_istore_n (lv' := [(3, .int 1), (2, .int p1), (0, .ref (a 0)), (1, .int p1)]) hx hb dX3_gap_3 rfl hl (by decide) rfl (fun ls hl => ?_)
  obtain ⟨i, hi⟩ : ∃ i : Nat, i = 1 := ⟨_, rfl⟩
  obtain ⟨x, hx0⟩ : ∃ x : Int32, x = p1 := ⟨_, rfl⟩
  replace hl : lv_has ls 4 [(0, .ref (a 0)), (1, .int p1), (2, .int x), (3, .int (nI (i)))] := by subst hi; subst hx0; exact lv_sub hl [2, 3, 1, 0] rfl
  have hi1 : 1 ≤ i := by omega
  have hi2 : i ≤ X.S.n + 1 := by omega
  have hq : gpF X.S X.S.n 1 p1 = gpF X.S (X.S.n + 1 - i) i x := by rw [hi, hx0]; rfl
  clear hi hx0
  obtain ⟨d, hd⟩ : ∃ d, X.S.n + 1 - i = d := ⟨_, rfl⟩
  induction d using Nat.strongRecOn generalizing i x ls with
  | ind d ih =>
    refine lv_iload_n hx hb dX3_gap_4 rfl (lv_at hl 3 rfl) ?_
    refine lv_aload_n hx hb dX3_gap_5 rfl (lv_at hl 0 rfl) ?_
    refine va_get (D := gD g) (ci := 5) (v := .ref (a 2)) (C := RX3) (T := TX3) (N := 6) hx hb hts (by decide +kernel) hown hK.1 hP 0 rfl rfl 2 (by decide) (hts (.fieldLink RX3 16 "LogForward" "rows" "LLogForward$Rows;") (by decide +kernel)) (fun _ h9 => h9) rfl dX3_gap_6 ?_
    refine vp_callSi (va_Run.run (va_runV (As := []) (rest := [.int (nI (i))]) ⟨hx, hb, hml, hown, hts⟩ (c_X1_latest l g (fun i => a (i + 2)) X.S) (cwV 0 hts gX3_gap_X1_latest rfl rfl rfl (by decide +kernel) ⟨Nat.le_of_ble_eq_true rfl, Nat.le_of_ble_eq_true rfl⟩) (pv_r hK hP (ci := 3) (q0 := 2) rfl rfl [2, 3, 4, 5, 6, 7, 8, 9] rfl) rfl rfl hl.1 rfl (lv_room (Nat.le_of_ble_eq_true rfl)) dX3_gap_9 ⟨Nat.zero_le _, Nat.zero_le _⟩)) (fun r_9_2 h_9_2 => ?_)
    subst h_9_2
    refine lv_icmp_gt (tgt := 41) hx hb dX3_gap_12 (by decide) (fun c_12_2 => ?_) (fun c_12_2 => ?_)
    · have i_12 : (((X.S.n : Nat) : Int) : Int) < ((i : Nat) : Int) := q_lt c_12_2 (l_nI (by omega)) (l_nI (by omega))
      refine lv_iconst (v := 0) hx hb dX3_gap_41 (by decide) ?_
      exact W.iret (v := 0) hx hb hr (fun tz htz hWz => ⟨0, rfl, (by rw [hq, gp_end (by omega)]; rfl), htz⟩) (fun _ h => nomatch h) dX3_gap_42
    · have i_12 : (((i : Nat) : Int) : Int) ≤ ((X.S.n : Nat) : Int) := q_nlt c_12_2 (l_nI (by omega)) (l_nI (by omega))
      refine lv_aload_n hx hb dX3_gap_15 rfl (lv_at hl 0 rfl) ?_
      refine va_get (D := gD g) (ci := 5) (v := .ref (a 2)) (C := RX3) (T := TX3) (N := 6) hx hb hts (by decide +kernel) hown hK.1 hP 0 rfl rfl 2 (by decide) (hts (.fieldLink RX3 16 "LogForward" "rows" "LLogForward$Rows;") (by decide +kernel)) (fun _ h9 => h9) rfl dX3_gap_16 ?_
      refine lv_iload_n hx hb dX3_gap_19 rfl (lv_at hl 3 rfl) ?_
      refine vp_callSi (va_Run.run (va_runV (As := [.int (nI (i))]) (rest := []) ⟨hx, hb, hml, hown, hts⟩ (c_X1_isMissing l g (fun i => a (i + 2)) X.S (i) (by omega) (by omega) (by omega)) (cwV 1 hts gX3_gap_X1_isMissing rfl rfl rfl (by decide +kernel) ⟨Nat.le_of_ble_eq_true rfl, Nat.le_of_ble_eq_true rfl⟩) (pv_r hK hP (ci := 3) (q0 := 2) rfl rfl [2, 3, 4, 5, 6, 7, 8, 9] rfl) rfl rfl hl.1 rfl (lv_room (Nat.le_of_ble_eq_true rfl)) dX3_gap_20 ⟨Nat.zero_le _, Nat.zero_le _⟩)) (fun r_20_3 h_20_3 => ?_)
      refine lv_if_eq (tgt := 35) hx hb dX3_gap_23 (by decide) (fun c_23_3 => ?_) (fun c_23_3 => ?_)
      · have b_23 : ¬ (X.S.tn (i) = 3) := bI_f h_20_3 c_23_3
        refine lv_iinc (v := (nI (i + 1))) (lv' := [(3, .int (nI (i + 1))), (0, .ref (a 0)), (1, .int p1), (2, .int x)]) hx hb dX3_gap_35 hl (k := 3) rfl (nI_1 _) (by decide) rfl (fun ls hl => ?_)
        refine lv_goto (tgt := 4) hx hb dX3_gap_38 (by decide) ?_
        exact ih (X.S.n + 1 - (i + 1)) (by omega) ls (i + 1) x (lv_sub hl [1, 2, 3, 0] rfl) (by omega) (by omega) (by rw [hq]; exact gp_no (by omega) (by assumption)) rfl
      · have b_23 : X.S.tn (i) = 3 := bI_t h_20_3 c_23_3
        refine lv_iload_n hx hb dX3_gap_26 rfl (lv_at hl 2 rfl) ?_
        refine lv_if_ne (tgt := 32) hx hb dX3_gap_27 (by decide) (fun c_27_4 => ?_) (fun c_27_4 => ?_)
        · have i_27 : (x.toInt : Int) ≠ 0 := q_ne c_27_4 rfl rfl
          refine lv_iinc (v := (x + (-1))) (lv' := [(2, .int (x + (-1))), (0, .ref (a 0)), (1, .int p1), (3, .int (nI (i)))]) hx hb dX3_gap_32 hl (k := 2) rfl (rfl) (by decide) rfl (fun ls hl => ?_)
          refine lv_iinc (v := (nI (i + 1))) (lv' := [(3, .int (nI (i + 1))), (2, .int (x + (-1))), (0, .ref (a 0)), (1, .int p1)]) hx hb dX3_gap_35 hl (k := 3) rfl (nI_1 _) (by decide) rfl (fun ls hl => ?_)
          refine lv_goto (tgt := 4) hx hb dX3_gap_38 (by decide) ?_
          exact ih (X.S.n + 1 - (i + 1)) (by omega) ls (i + 1) (x + (-1)) (lv_sub hl [2, 3, 1, 0] rfl) (by omega) (by omega) (by rw [hq]; exact gp_go (by omega) (by assumption) (by assumption)) rfl
        · have i_27 : (x.toInt : Int) = 0 := q_eq c_27_4 rfl rfl
          refine lv_iload_n hx hb dX3_gap_30 rfl (lv_at hl 3 rfl) ?_
          exact W.iret (v := (nI (i))) hx hb hr (fun tz htz hWz => ⟨(nI (i)), rfl, (by rw [hq, gp_yes (by omega) (by assumption) (by assumption)]), htz⟩) (fun _ h => nomatch h) dX3_gap_31
set_option maxHeartbeats 4000000 in
set_option maxRecDepth 100000 in
theorem c_X3_merge (l : Launch) (g : GG) (a r : Nat → Nat) (X : XS) (p1 p2 : Int32) (hg1 : 1 ≤ X.rg) (hg2 : X.rg ≤ 4) (hn : X.S.n ≤ 2000) : Met l yX3_merge wsX3_merge { frames := 2, cells := 0, slots := 0, locals := 42 } (va_Pc [.ref (a 0), .int p1, .int p2] (Pr g (wXc g a r X))) (vp_Si (fun rv => rv = nI (mgF X.S (nI X.rg) p1 X.S.n 1 p2))) 0 0 (fun _ => False) := by
  refine Met.ofW (cc := cX3_merge) (maxL := 5) (ret := (some .int)) (by decide) rfl ?_
  intro p e s m args below meth c s₁ B hml hv
  obtain ⟨rfl, hP, hK⟩ := hv
  have hx := B.exec
  have hb := B.bytes
  have hr := B.returns
  have hts := atoms_spec (ws := wsX3_merge) B.pre
  have hown : s.vm.findClass RX3 = some m.cls := findClass_of_methodNamed B.named
  have hlocks := B.notSynchronized
  have hl := lv_entry ([.ref (a 0), .int p1, .int p2]) (n := 5) (Nat.le_of_ble_eq_true rfl)
  rw [lg_entry_eq]
  generalize (lg_sl ([.ref (a 0), .int p1, .int p2]) ++ List.replicate (5 - (lg_sl ([.ref (a 0), .int p1, .int p2])).length) Slot.unset).toArray = ls at hl ⊢
  have hl : lv_has ls 5 [(0, .ref (a 0)), (1, .int p1), (2, .int p2)] := hl
  replace hP : va_P (gD g) vwCl ([((a 0), .inr (5, [.int (nI (X.rg)), .ref (a 1), .ref (a 2), .ref (a 10), .ref (a 13), .ref (a 16)])), ((a 1), .inl (gJ g, 32, .inr (.inl X.cs))), ((a 2), .inr (3, [.ref (a 3), .ref (a 4), .ref (a 5), .ref (a 6), .ref (a 7), .ref (a 8), .ref (a 9), .int (nI (X.S.n)), .int (nI (X.S.ar))])), ((a 3), .inl (gI g, 2001, .inl X.S.kd)), ((a 4), .inl (gI g, 2001, .inl X.S.un)), ((a 5), .inl (gI g, 2001, .inl X.S.ce)), ((a 6), .inl (gJ g, 2001, .inr (.inl X.S.bf))), ((a 7), .inl (gJ g, 2001, .inr (.inl X.S.af))), ((a 8), .inl (gI g, 2001, .inl X.S.tn)), ((a 9), .inl (gZ g, 2001, .inl X.S.bk)), ((a 10), .inr (4, [.ref (a 11), .ref (a 12)])), ((a 11), .inl (gI g, 61, .inl X.U.lk)), ((a 12), .inl (gI g, 32, .inl X.U.ch)), ((a 13), .inr (4, [.ref (a 14), .ref (a 15)])), ((a 14), .inl (gI g, 61, .inl X.V.lk)), ((a 15), .inl (gI g, 32, .inl X.V.ch)), ((a 16), .inr (2, [.ref (a 17), .ref (a 18), .ref (a 19), .ref (a 20), .int (nI (X.I.k)), .int X.I.uf])), ((a 17), .inl (gI g, 21, .inl X.I.st)), ((a 18), .inl (gI g, 21, .inl X.I.en)), ((a 19), .inl (gZ g, 21, .inl X.I.sp)), ((a 20), .inl (gG g, 21, .inr (.inr (.inr (.inr (gRow r))))))]) s.heap := hP
  refine lv_iload_n hx hb dX3_merge_0 rfl (lv_at hl 2 rfl) ?_
  refine lv_istore_n (lv' := [(3, .int p2), (0, .ref (a 0)), (1, .int p1), (2, .int p2)]) hx hb dX3_merge_1 rfl hl (by decide) rfl (fun ls hl => ?_)
  refine lv_iconst (v := 1) hx hb dX3_merge_2 (by decide) ?_
  refine lv_istore (lv' := [(4, .int 1), (3, .int p2), (0, .ref (a 0)), (1, .int p1), (2, .int p2)]) hx hb dX3_merge_3 hl (by decide) rfl (fun ls hl => ?_)
  obtain ⟨i, hi⟩ : ∃ i : Nat, i = 1 := ⟨_, rfl⟩
  obtain ⟨x, hx0⟩ : ∃ x : Int32, x = p2 := ⟨_, rfl⟩
  replace hl : lv_has ls 5 [(0, .ref (a 0)), (1, .int p1), (2, .int p2), (3, .int x), (4, .int (nI (i)))] := by subst hi; subst hx0; exact lv_sub hl [2, 3, 4, 1, 0] rfl
  have hi1 : 1 ≤ i := by omega
  have hi2 : i ≤ X.S.n + 1 := by omega
  have hq : mgF X.S (nI X.rg) p1 X.S.n 1 p2 = mgF X.S (nI X.rg) p1 (X.S.n + 1 - i) i x := by rw [hi, hx0]; rfl
  clear hi hx0
  obtain ⟨d, hd⟩ : ∃ d, X.S.n + 1 - i = d := ⟨_, rfl⟩
  induction d using Nat.strongRecOn generalizing i x ls with
  | ind d ih =>
    refine lv_iload hx hb dX3_merge_5 (lv_at hl 4 rfl) ?_
    refine lv_aload_n hx hb dX3_merge_7 rfl (lv_at hl 0 rfl) ?_
    refine va_get (D := gD g) (ci := 5) (v := .ref (a 2)) (C := RX3) (T := TX3) (N := 6) hx hb hts (by decide +kernel) hown hK.1 hP 0 rfl rfl 2 (by decide) (hts (.fieldLink RX3 16 "LogForward" "rows" "LLogForward$Rows;") (by decide +kernel)) (fun _ h9 => h9) rfl dX3_merge_8 ?_
    refine vp_callSi (va_Run.run (va_runV (As := []) (rest := [.int (nI (i))]) ⟨hx, hb, hml, hown, hts⟩ (c_X1_latest l g (fun i => a (i + 2)) X.S) (cwV 0 hts gX3_merge_X1_latest rfl rfl rfl (by decide +kernel) ⟨Nat.le_of_ble_eq_true rfl, Nat.le_of_ble_eq_true rfl⟩) (pv_r hK hP (ci := 3) (q0 := 2) rfl rfl [2, 3, 4, 5, 6, 7, 8, 9] rfl) rfl rfl hl.1 rfl (lv_room (Nat.le_of_ble_eq_true rfl)) dX3_merge_11 ⟨Nat.zero_le _, Nat.zero_le _⟩)) (fun r_11_2 h_11_2 => ?_)
    subst h_11_2
    refine lv_icmp_gt (tgt := 51) hx hb dX3_merge_14 (by decide) (fun c_14_2 => ?_) (fun c_14_2 => ?_)
    · have i_14 : (((X.S.n : Nat) : Int) : Int) < ((i : Nat) : Int) := q_lt c_14_2 (l_nI (by omega)) (l_nI (by omega))
      refine lv_iconst (v := 0) hx hb dX3_merge_51 (by decide) ?_
      exact W.iret (v := 0) hx hb hr (fun tz htz hWz => ⟨0, rfl, (by rw [hq, mg_end (by omega)]; rfl), htz⟩) (fun _ h => nomatch h) dX3_merge_52
    · have i_14 : (((i : Nat) : Int) : Int) ≤ ((X.S.n : Nat) : Int) := q_nlt c_14_2 (l_nI (by omega)) (l_nI (by omega))
      refine lv_aload_n hx hb dX3_merge_17 rfl (lv_at hl 0 rfl) ?_
      refine va_get (D := gD g) (ci := 5) (v := .ref (a 2)) (C := RX3) (T := TX3) (N := 6) hx hb hts (by decide +kernel) hown hK.1 hP 0 rfl rfl 2 (by decide) (hts (.fieldLink RX3 16 "LogForward" "rows" "LLogForward$Rows;") (by decide +kernel)) (fun _ h9 => h9) rfl dX3_merge_18 ?_
      refine lv_iload hx hb dX3_merge_21 (lv_at hl 4 rfl) ?_
      refine vp_callSi (va_Run.run (va_runV (As := [.int (nI (i))]) (rest := []) ⟨hx, hb, hml, hown, hts⟩ (c_X1_unitOf l g (fun i => a (i + 2)) X.S (i) (by omega) (by omega) (by omega)) (cwV 1 hts gX3_merge_X1_unitOf rfl rfl rfl (by decide +kernel) ⟨Nat.le_of_ble_eq_true rfl, Nat.le_of_ble_eq_true rfl⟩) (pv_r hK hP (ci := 3) (q0 := 2) rfl rfl [2, 3, 4, 5, 6, 7, 8, 9] rfl) rfl rfl hl.1 rfl (lv_room (Nat.le_of_ble_eq_true rfl)) dX3_merge_23 ⟨Nat.zero_le _, Nat.zero_le _⟩)) (fun r_23_3 h_23_3 => ?_)
      subst h_23_3
      refine lv_aload_n hx hb dX3_merge_26 rfl (lv_at hl 0 rfl) ?_
      refine va_get (D := gD g) (ci := 5) (v := .int (nI (X.rg))) (C := RX3) (T := TX3) (N := 6) hx hb hts (by decide +kernel) hown hK.1 hP 0 rfl rfl 0 (by decide) (hts (.fieldLink RX3 46 "LogForward" "regions" "I") (by decide +kernel)) (fun _ h9 => h9) rfl dX3_merge_27 ?_
      refine lv_irem hx hb dX3_merge_30 (nI_ne0 (by omega) (by omega)) ?_
      refine lv_iload_n hx hb dX3_merge_31 rfl (lv_at hl 1 rfl) ?_
      refine lv_icmp_ne (tgt := 45) hx hb dX3_merge_32 (by decide) (fun c_32_3 => ?_) (fun c_32_3 => ?_)
      · have i_32 : (((X.S.un (i)) - (X.S.un (i)) / (nI (X.rg)) * (nI (X.rg))).toInt : Int) ≠ p1.toInt := q_ne c_32_3 rfl rfl
        refine lv_iinc (v := (nI (i + 1))) (lv' := [(4, .int (nI (i + 1))), (0, .ref (a 0)), (1, .int p1), (2, .int p2), (3, .int x)]) hx hb dX3_merge_45 hl (k := 4) rfl (nI_1 _) (by decide) rfl (fun ls hl => ?_)
        refine lv_goto (tgt := 5) hx hb dX3_merge_48 (by decide) ?_
        exact ih (X.S.n + 1 - (i + 1)) (by omega) ls (i + 1) x (lv_sub hl [1, 2, 3, 4, 0] rfl) (by omega) (by omega) (by rw [hq]; exact mg_no (by omega) (by assumption)) rfl
      · have i_32 : (((X.S.un (i)) - (X.S.un (i)) / (nI (X.rg)) * (nI (X.rg))).toInt : Int) = p1.toInt := q_eq c_32_3 rfl rfl
        refine lv_iload_n hx hb dX3_merge_35 rfl (lv_at hl 3 rfl) ?_
        refine lv_if_ne (tgt := 42) hx hb dX3_merge_36 (by decide) (fun c_36_4 => ?_) (fun c_36_4 => ?_)
        · have i_36 : (x.toInt : Int) ≠ 0 := q_ne c_36_4 rfl rfl
          refine lv_iinc (v := (x + (-1))) (lv' := [(3, .int (x + (-1))), (0, .ref (a 0)), (1, .int p1), (2, .int p2), (4, .int (nI (i)))]) hx hb dX3_merge_42 hl (k := 3) rfl (rfl) (by decide) rfl (fun ls hl => ?_)
          refine lv_iinc (v := (nI (i + 1))) (lv' := [(4, .int (nI (i + 1))), (3, .int (x + (-1))), (0, .ref (a 0)), (1, .int p1), (2, .int p2)]) hx hb dX3_merge_45 hl (k := 4) rfl (nI_1 _) (by decide) rfl (fun ls hl => ?_)
          refine lv_goto (tgt := 5) hx hb dX3_merge_48 (by decide) ?_
          exact ih (X.S.n + 1 - (i + 1)) (by omega) ls (i + 1) (x + (-1)) (lv_sub hl [2, 3, 4, 1, 0] rfl) (by omega) (by omega) (by rw [hq]; exact mg_go (by omega) (by assumption) (by assumption)) rfl
        · have i_36 : (x.toInt : Int) = 0 := q_eq c_36_4 rfl rfl
          refine lv_iload hx hb dX3_merge_39 (lv_at hl 4 rfl) ?_
          exact W.iret (v := (nI (i))) hx hb hr (fun tz htz hWz => ⟨(nI (i)), rfl, (by rw [hq, mg_yes (by omega) (by assumption) (by assumption)]), htz⟩) (fun _ h => nomatch h) dX3_merge_41
set_option maxHeartbeats 4000000 in
set_option maxRecDepth 100000 in
theorem c_X3_warm (l : Launch) (g : GG) (a r : Nat → Nat) (X : XS)  : Met l yX3_warm wsX3_warm { frames := 2, cells := 0, slots := 0, locals := 43 } (va_Pc [.ref (a 0)] (Pr g (wXc g a r X))) (vp_Si (fun rv => rv = nI (cntU X.U 0 60))) 0 0 (fun _ => False) := by
  refine Met.ofW (cc := cX3_warm) (maxL := 1) (ret := (some .int)) (by decide) rfl ?_
  intro p e s m args below meth c s₁ B hml hv
  obtain ⟨rfl, hP, hK⟩ := hv
  have hx := B.exec
  have hb := B.bytes
  have hr := B.returns
  have hts := atoms_spec (ws := wsX3_warm) B.pre
  have hown : s.vm.findClass RX3 = some m.cls := findClass_of_methodNamed B.named
  have hlocks := B.notSynchronized
  have hl := lv_entry ([.ref (a 0)]) (n := 1) (Nat.le_of_ble_eq_true rfl)
  rw [lg_entry_eq]
  generalize (lg_sl ([.ref (a 0)]) ++ List.replicate (1 - (lg_sl ([.ref (a 0)])).length) Slot.unset).toArray = ls at hl ⊢
  have hl : lv_has ls 1 [(0, .ref (a 0))] := hl
  replace hP : va_P (gD g) vwCl ([((a 0), .inr (5, [.int (nI (X.rg)), .ref (a 1), .ref (a 2), .ref (a 10), .ref (a 13), .ref (a 16)])), ((a 1), .inl (gJ g, 32, .inr (.inl X.cs))), ((a 2), .inr (3, [.ref (a 3), .ref (a 4), .ref (a 5), .ref (a 6), .ref (a 7), .ref (a 8), .ref (a 9), .int (nI (X.S.n)), .int (nI (X.S.ar))])), ((a 3), .inl (gI g, 2001, .inl X.S.kd)), ((a 4), .inl (gI g, 2001, .inl X.S.un)), ((a 5), .inl (gI g, 2001, .inl X.S.ce)), ((a 6), .inl (gJ g, 2001, .inr (.inl X.S.bf))), ((a 7), .inl (gJ g, 2001, .inr (.inl X.S.af))), ((a 8), .inl (gI g, 2001, .inl X.S.tn)), ((a 9), .inl (gZ g, 2001, .inl X.S.bk)), ((a 10), .inr (4, [.ref (a 11), .ref (a 12)])), ((a 11), .inl (gI g, 61, .inl X.U.lk)), ((a 12), .inl (gI g, 32, .inl X.U.ch)), ((a 13), .inr (4, [.ref (a 14), .ref (a 15)])), ((a 14), .inl (gI g, 61, .inl X.V.lk)), ((a 15), .inl (gI g, 32, .inl X.V.ch)), ((a 16), .inr (2, [.ref (a 17), .ref (a 18), .ref (a 19), .ref (a 20), .int (nI (X.I.k)), .int X.I.uf])), ((a 17), .inl (gI g, 21, .inl X.I.st)), ((a 18), .inl (gI g, 21, .inl X.I.en)), ((a 19), .inl (gZ g, 21, .inl X.I.sp)), ((a 20), .inl (gG g, 21, .inr (.inr (.inr (.inr (gRow r))))))]) s.heap := hP
  refine lv_aload_n hx hb dX3_warm_0 rfl (lv_at hl 0 rfl) ?_
  refine va_get (D := gD g) (ci := 5) (v := .ref (a 10)) (C := RX3) (T := TX3) (N := 6) hx hb hts (by decide +kernel) hown hK.1 hP 0 rfl rfl 3 (by decide) (hts (.fieldLink RX3 23 "LogForward" "units" "LLogForward$Units;") (by decide +kernel)) (fun _ h9 => h9) rfl dX3_warm_1 ?_
  refine vp_callSi (va_Run.run (va_runV (As := []) (rest := []) ⟨hx, hb, hml, hown, hts⟩ (c_X2_howManyOpen l g (fun i => a (i + 10)) X.U) (cwV 0 hts gX3_warm_X2_howManyOpen rfl rfl rfl (by decide +kernel) ⟨Nat.le_of_ble_eq_true rfl, Nat.le_of_ble_eq_true rfl⟩) (pv_r hK hP (ci := 4) (q0 := 10) rfl rfl [10, 11, 12] rfl) rfl rfl hl.1 rfl (lv_room (Nat.le_of_ble_eq_true rfl)) dX3_warm_4 ⟨Nat.zero_le _, Nat.zero_le _⟩)) (fun r_4_1 h_4_1 => ?_)
  subst h_4_1
  exact W.iret (v := (nI (cntU X.U 0 60))) hx hb hr (fun tz htz hWz => ⟨(nI (cntU X.U 0 60)), rfl, rfl, htz⟩) (fun _ h => nomatch h) dX3_warm_7
set_option maxHeartbeats 4000000 in
set_option maxRecDepth 100000 in
theorem c_X3_ahead (l : Launch) (g : GG) (a r : Nat → Nat) (X : XS) (hn : X.S.n ≤ 2000) : Met l yX3_ahead wsX3_ahead { frames := 3, cells := 0, slots := 0, locals := 65 } (va_Pc [.ref (a 0)] (Pr g (wXc g a r X))) (vp_Si (fun rv => rv = bI (gpF X.S X.S.n 1 0 = 0))) 0 0 (fun _ => False) := by
  refine Met.ofW (cc := cX3_ahead) (maxL := 1) (ret := (some .boolean)) (by decide) rfl ?_
  intro p e s m args below meth c s₁ B hml hv
  obtain ⟨rfl, hP, hK⟩ := hv
  have hx := B.exec
  have hb := B.bytes
  have hr := B.returns
  have hts := atoms_spec (ws := wsX3_ahead) B.pre
  have hown : s.vm.findClass RX3 = some m.cls := findClass_of_methodNamed B.named
  have hlocks := B.notSynchronized
  have hl := lv_entry ([.ref (a 0)]) (n := 1) (Nat.le_of_ble_eq_true rfl)
  rw [lg_entry_eq]
  generalize (lg_sl ([.ref (a 0)]) ++ List.replicate (1 - (lg_sl ([.ref (a 0)])).length) Slot.unset).toArray = ls at hl ⊢
  have hl : lv_has ls 1 [(0, .ref (a 0))] := hl
  replace hP : va_P (gD g) vwCl ([((a 0), .inr (5, [.int (nI (X.rg)), .ref (a 1), .ref (a 2), .ref (a 10), .ref (a 13), .ref (a 16)])), ((a 1), .inl (gJ g, 32, .inr (.inl X.cs))), ((a 2), .inr (3, [.ref (a 3), .ref (a 4), .ref (a 5), .ref (a 6), .ref (a 7), .ref (a 8), .ref (a 9), .int (nI (X.S.n)), .int (nI (X.S.ar))])), ((a 3), .inl (gI g, 2001, .inl X.S.kd)), ((a 4), .inl (gI g, 2001, .inl X.S.un)), ((a 5), .inl (gI g, 2001, .inl X.S.ce)), ((a 6), .inl (gJ g, 2001, .inr (.inl X.S.bf))), ((a 7), .inl (gJ g, 2001, .inr (.inl X.S.af))), ((a 8), .inl (gI g, 2001, .inl X.S.tn)), ((a 9), .inl (gZ g, 2001, .inl X.S.bk)), ((a 10), .inr (4, [.ref (a 11), .ref (a 12)])), ((a 11), .inl (gI g, 61, .inl X.U.lk)), ((a 12), .inl (gI g, 32, .inl X.U.ch)), ((a 13), .inr (4, [.ref (a 14), .ref (a 15)])), ((a 14), .inl (gI g, 61, .inl X.V.lk)), ((a 15), .inl (gI g, 32, .inl X.V.ch)), ((a 16), .inr (2, [.ref (a 17), .ref (a 18), .ref (a 19), .ref (a 20), .int (nI (X.I.k)), .int X.I.uf])), ((a 17), .inl (gI g, 21, .inl X.I.st)), ((a 18), .inl (gI g, 21, .inl X.I.en)), ((a 19), .inl (gZ g, 21, .inl X.I.sp)), ((a 20), .inl (gG g, 21, .inr (.inr (.inr (.inr (gRow r))))))]) s.heap := hP
  refine lv_aload_n hx hb dX3_ahead_0 rfl (lv_at hl 0 rfl) ?_
  refine lv_iconst (v := 0) hx hb dX3_ahead_1 (by decide) ?_
  refine vp_callSi (va_Run.run (va_runV (As := [.int 0]) (rest := []) ⟨hx, hb, hml, hown, hts⟩ (c_X3_gap l g a r X 0 (by omega)) (cwV 1 hts gX3_ahead_X3_gap rfl rfl rfl (by decide +kernel) ⟨Nat.le_of_ble_eq_true rfl, Nat.le_of_ble_eq_true rfl⟩) (pv_r hK hP (ci := 5) (q0 := 0) rfl rfl [0, 1, 2, 3, 4, 5, 6, 7, 8, 9, 10, 11, 12, 13, 14, 15, 16, 17, 18, 19, 20] rfl) rfl rfl hl.1 rfl (lv_room (Nat.le_of_ble_eq_true rfl)) dX3_ahead_2 ⟨Nat.zero_le _, Nat.zero_le _⟩)) (fun r_2_1 h_2_1 => ?_)
  subst h_2_1
  refine lv_if_ne (tgt := 12) hx hb dX3_ahead_5 (by decide) (fun c_5_1 => ?_) (fun c_5_1 => ?_)
  · have i_5 : (((gpF X.S X.S.n 1 0 : Nat) : Int) : Int) ≠ 0 := q_ne c_5_1 (l_nI (by have := gpF_le X.S X.S.n 1 0; omega)) rfl
    refine lv_iconst (v := 0) hx hb dX3_ahead_12 (by decide) ?_
    exact W.zret (v := 0) hx hb hr rfl (fun tz htz hWz => ⟨0, rfl, (bI_0 (by omega)), htz⟩) (fun _ h => nomatch h) dX3_ahead_13
  · have i_5 : (((gpF X.S X.S.n 1 0 : Nat) : Int) : Int) = 0 := q_eq c_5_1 (l_nI (by have := gpF_le X.S X.S.n 1 0; omega)) rfl
    refine lv_iconst (v := 1) hx hb dX3_ahead_8 (by decide) ?_
    refine lv_goto (tgt := 13) hx hb dX3_ahead_9 (by decide) ?_
    exact W.zret (v := 1) hx hb hr rfl (fun tz htz hWz => ⟨1, rfl, (bI_1 (by omega)), htz⟩) (fun _ h => nomatch h) dX3_ahead_13
set_option maxHeartbeats 4000000 in
set_option maxRecDepth 100000 in
theorem c_X3_count (l : Launch) (g : GG) (a r : Nat → Nat) (X : XS) (p1 : Int32) : Met l yX3_count wsX3_count { frames := 1, cells := 0, slots := 0, locals := 23 } (va_Pc [.ref (a 0), .int p1] (Pr g (wXc g a r X))) (vp_Si (fun rv => rv = coX X p1)) 0 0 (fun _ => False) := by
  refine Met.ofW (cc := cX3_count) (maxL := 2) (ret := (some .int)) (by decide) rfl ?_
  intro p e s m args below meth c s₁ B hml hv
  obtain ⟨rfl, hP, hK⟩ := hv
  have hx := B.exec
  have hb := B.bytes
  have hr := B.returns
  have hts := atoms_spec (ws := wsX3_count) B.pre
  have hown : s.vm.findClass RX3 = some m.cls := findClass_of_methodNamed B.named
  have hlocks := B.notSynchronized
  have hl := lv_entry ([.ref (a 0), .int p1]) (n := 2) (Nat.le_of_ble_eq_true rfl)
  rw [lg_entry_eq]
  generalize (lg_sl ([.ref (a 0), .int p1]) ++ List.replicate (2 - (lg_sl ([.ref (a 0), .int p1])).length) Slot.unset).toArray = ls at hl ⊢
  have hl : lv_has ls 2 [(0, .ref (a 0)), (1, .int p1)] := hl
  replace hP : va_P (gD g) vwCl ([((a 0), .inr (5, [.int (nI (X.rg)), .ref (a 1), .ref (a 2), .ref (a 10), .ref (a 13), .ref (a 16)])), ((a 1), .inl (gJ g, 32, .inr (.inl X.cs))), ((a 2), .inr (3, [.ref (a 3), .ref (a 4), .ref (a 5), .ref (a 6), .ref (a 7), .ref (a 8), .ref (a 9), .int (nI (X.S.n)), .int (nI (X.S.ar))])), ((a 3), .inl (gI g, 2001, .inl X.S.kd)), ((a 4), .inl (gI g, 2001, .inl X.S.un)), ((a 5), .inl (gI g, 2001, .inl X.S.ce)), ((a 6), .inl (gJ g, 2001, .inr (.inl X.S.bf))), ((a 7), .inl (gJ g, 2001, .inr (.inl X.S.af))), ((a 8), .inl (gI g, 2001, .inl X.S.tn)), ((a 9), .inl (gZ g, 2001, .inl X.S.bk)), ((a 10), .inr (4, [.ref (a 11), .ref (a 12)])), ((a 11), .inl (gI g, 61, .inl X.U.lk)), ((a 12), .inl (gI g, 32, .inl X.U.ch)), ((a 13), .inr (4, [.ref (a 14), .ref (a 15)])), ((a 14), .inl (gI g, 61, .inl X.V.lk)), ((a 15), .inl (gI g, 32, .inl X.V.ch)), ((a 16), .inr (2, [.ref (a 17), .ref (a 18), .ref (a 19), .ref (a 20), .int (nI (X.I.k)), .int X.I.uf])), ((a 17), .inl (gI g, 21, .inl X.I.st)), ((a 18), .inl (gI g, 21, .inl X.I.en)), ((a 19), .inl (gZ g, 21, .inl X.I.sp)), ((a 20), .inl (gG g, 21, .inr (.inr (.inr (.inr (gRow r))))))]) s.heap := hP
  refine lv_iload_n hx hb dX3_count_0 rfl (lv_at hl 1 rfl) ?_
  rcases c4 p1 with rfl | rfl | rfl | rfl | hp1
  · refine lv_tableIn (tgt := 32) hx hb dX3_count_1 (by decide) (by decide) rfl (by decide) ?_
    refine lv_aload_n hx hb dX3_count_32 rfl (lv_at hl 0 rfl) ?_
    refine va_get (D := gD g) (ci := 5) (v := .ref (a 2)) (C := RX3) (T := TX3) (N := 6) hx hb hts (by decide +kernel) hown hK.1 hP 0 rfl rfl 2 (by decide) (hts (.fieldLink RX3 16 "LogForward" "rows" "LLogForward$Rows;") (by decide +kernel)) (fun _ h9 => h9) rfl dX3_count_33 ?_
    refine vp_callSi (va_Run.run (va_runV (As := []) (rest := []) ⟨hx, hb, hml, hown, hts⟩ (c_X1_latest l g (fun i => a (i + 2)) X.S) (cwV 0 hts gX3_count_X1_latest rfl rfl rfl (by decide +kernel) ⟨Nat.le_of_ble_eq_true rfl, Nat.le_of_ble_eq_true rfl⟩) (pv_r hK hP (ci := 3) (q0 := 2) rfl rfl [2, 3, 4, 5, 6, 7, 8, 9] rfl) rfl rfl hl.1 rfl (lv_room (Nat.le_of_ble_eq_true rfl)) dX3_count_36 ⟨Nat.zero_le _, Nat.zero_le _⟩)) (fun r_36_2 h_36_2 => ?_)
    subst h_36_2
    exact W.iret (v := (nI (X.S.n))) hx hb hr (fun tz htz hWz => ⟨(nI (X.S.n)), rfl, rfl, htz⟩) (fun _ h => nomatch h) dX3_count_39
  · refine lv_tableIn (tgt := 40) hx hb dX3_count_1 (by decide) (by decide) rfl (by decide) ?_
    refine lv_aload_n hx hb dX3_count_40 rfl (lv_at hl 0 rfl) ?_
    refine va_get (D := gD g) (ci := 5) (v := .ref (a 16)) (C := RX3) (T := TX3) (N := 6) hx hb hts (by decide +kernel) hown hK.1 hP 0 rfl rfl 5 (by decide) (hts (.fieldLink RX3 33 "LogForward" "images" "LLogForward$Images;") (by decide +kernel)) (fun _ h9 => h9) rfl dX3_count_41 ?_
    refine vp_callSi (va_Run.run (va_runV (As := []) (rest := []) ⟨hx, hb, hml, hown, hts⟩ (c_X0_howMany l g (fun i => a (i + 16)) r X.I) (cwV 0 hts gX3_count_X0_howMany rfl rfl rfl (by decide +kernel) ⟨Nat.le_of_ble_eq_true rfl, Nat.le_of_ble_eq_true rfl⟩) (pv_r hK hP (ci := 2) (q0 := 16) rfl rfl [16, 17, 18, 19, 20] rfl) rfl rfl hl.1 rfl (lv_room (Nat.le_of_ble_eq_true rfl)) dX3_count_44 ⟨Nat.zero_le _, Nat.zero_le _⟩)) (fun r_44_2 h_44_2 => ?_)
    subst h_44_2
    exact W.iret (v := (nI (X.I.k))) hx hb hr (fun tz htz hWz => ⟨(nI (X.I.k)), rfl, rfl, htz⟩) (fun _ h => nomatch h) dX3_count_47
  · refine lv_tableIn (tgt := 48) hx hb dX3_count_1 (by decide) (by decide) rfl (by decide) ?_
    refine lv_aload_n hx hb dX3_count_48 rfl (lv_at hl 0 rfl) ?_
    refine va_get (D := gD g) (ci := 5) (v := .ref (a 2)) (C := RX3) (T := TX3) (N := 6) hx hb hts (by decide +kernel) hown hK.1 hP 0 rfl rfl 2 (by decide) (hts (.fieldLink RX3 16 "LogForward" "rows" "LLogForward$Rows;") (by decide +kernel)) (fun _ h9 => h9) rfl dX3_count_49 ?_
    refine vp_callSi (va_Run.run (va_runV (As := []) (rest := []) ⟨hx, hb, hml, hown, hts⟩ (c_X1_archived l g (fun i => a (i + 2)) X.S) (cwV 0 hts gX3_count_X1_archived rfl rfl rfl (by decide +kernel) ⟨Nat.le_of_ble_eq_true rfl, Nat.le_of_ble_eq_true rfl⟩) (pv_r hK hP (ci := 3) (q0 := 2) rfl rfl [2, 3, 4, 5, 6, 7, 8, 9] rfl) rfl rfl hl.1 rfl (lv_room (Nat.le_of_ble_eq_true rfl)) dX3_count_52 ⟨Nat.zero_le _, Nat.zero_le _⟩)) (fun r_52_2 h_52_2 => ?_)
    subst h_52_2
    exact W.iret (v := (nI (X.S.ar))) hx hb hr (fun tz htz hWz => ⟨(nI (X.S.ar)), rfl, rfl, htz⟩) (fun _ h => nomatch h) dX3_count_55
  · refine lv_tableIn (tgt := 56) hx hb dX3_count_1 (by decide) (by decide) rfl (by decide) ?_
    refine lv_aload_n hx hb dX3_count_56 rfl (lv_at hl 0 rfl) ?_
    refine va_get (D := gD g) (ci := 5) (v := .ref (a 10)) (C := RX3) (T := TX3) (N := 6) hx hb hts (by decide +kernel) hown hK.1 hP 0 rfl rfl 3 (by decide) (hts (.fieldLink RX3 23 "LogForward" "units" "LLogForward$Units;") (by decide +kernel)) (fun _ h9 => h9) rfl dX3_count_57 ?_
    refine lv_iconst (v := 1) hx hb dX3_count_60 (by decide) ?_
    refine vp_callSi (va_Run.run (va_runV (As := [.int 1]) (rest := []) ⟨hx, hb, hml, hown, hts⟩ (c_X2_howManyEndedBy l g (fun i => a (i + 10)) X.U 1) (cwV 1 hts gX3_count_X2_howManyEndedBy rfl rfl rfl (by decide +kernel) ⟨Nat.le_of_ble_eq_true rfl, Nat.le_of_ble_eq_true rfl⟩) (pv_r hK hP (ci := 4) (q0 := 10) rfl rfl [10, 11, 12] rfl) rfl rfl hl.1 rfl (lv_room (Nat.le_of_ble_eq_true rfl)) dX3_count_61 ⟨Nat.zero_le _, Nat.zero_le _⟩)) (fun r_61_2 h_61_2 => ?_)
    subst h_61_2
    exact W.iret (v := (nI (cntU X.U 1 60))) hx hb hr (fun tz htz hWz => ⟨(nI (cntU X.U 1 60)), rfl, rfl, htz⟩) (fun _ h => nomatch h) dX3_count_64
  · refine lv_tableOut (tgt := 65) hx hb dX3_count_1 hp1 (by decide) ?_
    refine lv_iconst (v := (-1)) hx hb dX3_count_65 (by decide) ?_
    exact W.iret (v := (-1)) hx hb hr (fun tz htz hWz => ⟨(-1), rfl, (by unfold coX; rw [if_neg (fun h => by rw [h] at hp1; exact absurd hp1 (by decide)), if_neg (fun h => by rw [h] at hp1; exact absurd hp1 (by decide)), if_neg (fun h => by rw [h] at hp1; exact absurd hp1 (by decide)), if_neg (fun h => by rw [h] at hp1; exact absurd hp1 (by decide))]), htz⟩) (fun _ h => nomatch h) dX3_count_66
end
section
/-! LogForward: what its writing methods do to the state -/
def csS (cs : Nat → Int64) (p : Int32) (v : Int64) : Nat → Int64 := if 0 ≤ p.toInt ∧ p.toInt < 32 then vp_updL cs p.toNatClampNeg v else cs
/-- a fuzzy image is finished just behind the fifth row -/
def isB (I : IS) (row : Nat) (cs : Nat → Int64) : IS := if (5 : Int) ≤ (nI row - I.st I.k).toInt then isF I row cs else I
/-- a change; a unit's last row -/
def xsC (X : XS) (u c : Int32) (b f : Int64) (z : Int32) : XS := (rsW X.S 0 u c b f z, usF X.U 0 u c, X.V, isB X.I (X.S.n + 1) (csS X.cs c f), csS X.cs c f, X.rg)
def xsL (X : XS) (u k z : Int32) : XS := (rsW X.S k u (-1) 0 0 z, usF X.U k u (-1), X.V, isB X.I (X.S.n + 1) X.cs, X.cs, X.rg)
/-- a unit's changes among the first k rows are taken back, the latest first -/
def xsB (u : Int32) : Nat → XS → XS
  | 0, X => X
  | k + 1, X => if isC X.S u (k + 1) then xsB u k (xsC X u (X.S.ce (k + 1)) (X.S.af (k + 1)) (X.S.bf (k + 1)) 1) else xsB u k X
def xsW (X : XS) (u : Int32) : XS := xsL (xsB u X.S.n X) u 2 1
theorem isF_k (I : IS) (row : Nat) (cs : Nat → Int64) : (isF I row cs).k = I.k := by
  unfold isF
  split <;> rfl
theorem isB_k (I : IS) (row : Nat) (cs : Nat → Int64) : (isB I row cs).k = I.k := by
  unfold isB
  split
  · exact isF_k I row cs
  · rfl
theorem cnB_W (S : RS) (k u c : Int32) (b f : Int64) (z p : Int32) : ∀ j, j ≤ S.n → cnB (rsW S k u c b f z) p j = cnB S p j
  | 0, _ => rfl
  | j + 1, h => by
    have ih := cnB_W S k u c b f z p j (by omega)
    simp only [cnB]
    rw [ih]
    have e : ∀ (q : Nat → Int32) (v : Int32), upd q (S.n + 1) v (j + 1) = q (j + 1) := fun q v => pk_un (by omega)
    have e1 : isC (rsW S k u c b f z) p (j + 1) = isC S p (j + 1) := by
      show ((upd S.kd (S.n + 1) k (j + 1) = 0 ∧ upd S.bk (S.n + 1) z (j + 1) = 0) ∧ upd S.un (S.n + 1) u (j + 1) = p) = _
      rw [e, e, e]
    exact ite_congr e1 (fun _ => rfl) (fun _ => rfl)
/-- a row by backing out counts for nobody -/
theorem cnB_W1 (S : RS) (k u c : Int32) (b f : Int64) (p : Int32) : cnB (rsW S k u c b f 1) p (S.n + 1) = cnB S p S.n := by
  simp only [cnB]
  rw [if_neg, cnB_W S k u c b f 1 p S.n (Nat.le_refl _)]
  intro h
  have h2 : upd S.bk (S.n + 1) 1 (S.n + 1) = 0 := h.1.2
  rw [pk_us] at h2
  exact absurd h2 (by decide)
theorem usF_ne (U : US) (k u c : Int32) {j : Nat} (h : j ≠ u.toNatClampNeg) : (usF U k u c).lk j = U.lk j := by
  show (if 1 ≤ u.toInt ∧ u.toInt ≤ 60 then upd U.lk u.toNatClampNeg k else U.lk) j = U.lk j
  split
  · exact pk_un h
  · rfl
/-- what taking back leaves as it was, and how many rows come -/
theorem xsB_facts (u : Int32) : ∀ (k : Nat) (X : XS), k ≤ X.S.n → (xsB u k X).S.n = X.S.n + cnB X.S u k ∧ (xsB u k X).I.k = X.I.k ∧ (xsB u k X).rg = X.rg ∧ (xsB u k X).V = X.V ∧ (xsB u k X).S.ar = X.S.ar ∧ (∀ p, cnB (xsB u k X).S p (xsB u k X).S.n = cnB X.S p X.S.n) ∧ ∀ j, j ≠ u.toNatClampNeg → (xsB u k X).U.lk j = X.U.lk j
  | 0, X, _ => ⟨rfl, rfl, rfl, rfl, rfl, fun _ => rfl, fun _ _ => rfl⟩
  | k + 1, X, h => by
    simp only [xsB]
    by_cases hc : isC X.S u (k + 1)
    · rw [if_pos hc]
      have hn : (xsC X u (X.S.ce (k + 1)) (X.S.af (k + 1)) (X.S.bf (k + 1)) 1).S.n = X.S.n + 1 := rfl
      obtain ⟨h1, h2, h3, h4, h5, h6, h7⟩ := xsB_facts u k (xsC X u (X.S.ce (k + 1)) (X.S.af (k + 1)) (X.S.bf (k + 1)) 1) (by omega)
      refine ⟨?_, ?_, h3, h4, h5, fun p => ?_, fun j hj => ?_⟩
      · rw [h1, hn]
        show X.S.n + 1 + cnB (rsW X.S 0 u (X.S.ce (k + 1)) (X.S.af (k + 1)) (X.S.bf (k + 1)) 1) u k = _
        rw [cnB_W _ _ _ _ _ _ _ _ k (by omega)]
        show _ = X.S.n + (if isC X.S u (k + 1) then cnB X.S u k + 1 else cnB X.S u k)
        rw [if_pos hc]
        omega
      · rw [h2]
        exact isB_k _ _ _
      · rw [h6 p]
        exact cnB_W1 _ _ _ _ _ _ _
      · rw [h7 j hj]
        exact usF_ne _ _ _ _ hj
    · rw [if_neg hc]
      obtain ⟨h1, h2, h3, h4, h5, h6, h7⟩ := xsB_facts u k X (by omega)
      refine ⟨?_, h2, h3, h4, h5, h6, h7⟩
      rw [h1]
      show _ = X.S.n + (if isC X.S u (k + 1) then cnB X.S u k + 1 else cnB X.S u k)
      rw [if_neg hc]
theorem xsW_facts (u : Int32) (X : XS) : (xsW X u).S.n = X.S.n + cnB X.S u X.S.n + 1 ∧ (xsW X u).I.k = X.I.k ∧ (xsW X u).rg = X.rg ∧ (xsW X u).V = X.V ∧ (xsW X u).S.ar = X.S.ar ∧ (∀ p, cnB (xsW X u).S p (xsW X u).S.n = cnB X.S p X.S.n) ∧ ∀ j, j ≠ u.toNatClampNeg → (xsW X u).U.lk j = X.U.lk j := by
  obtain ⟨h1, h2, h3, h4, h5, h6, h7⟩ := xsB_facts u X.S.n X (Nat.le_refl _)
  refine ⟨?_, ?_, h3, h4, h5, fun p => ?_, fun j hj => ?_⟩
  · show (xsB u X.S.n X).S.n + 1 = _
    rw [h1]
  · show (isB _ _ _).k = _
    rw [isB_k, h2]
  · show cnB (rsW (xsB u X.S.n X).S 2 u (-1) 0 0 1) p ((xsB u X.S.n X).S.n + 1) = _
    rw [cnB_W1, h6 p]
  · show (usF (xsB u X.S.n X).U 2 u (-1)).lk j = _
    rw [usF_ne _ _ _ _ hj, h7 j hj]
/-- all open units from i on, of d, are backed out; how many rows that needs -/
def xsO : Nat → Nat → XS → XS
  | 0, _, X => X
  | d + 1, i, X => xsO d (i + 1) (if opU X.U (nI i) then xsW X (nI i) else X)
def ndA (X : XS) : Nat → Nat → Nat
  | 0, _ => 0
  | d + 1, i => (if opU X.U (nI i) then cnB X.S (nI i) X.S.n + 1 else 0) + ndA X d (i + 1)
theorem ndA_W (X : XS) (i : Nat) (hi : i ≤ 60) : ∀ (d j : Nat), i < j → j + d ≤ 61 → ndA (xsW X (nI i)) d j = ndA X d j
  | 0, _, _, _ => rfl
  | d + 1, j, hj, hd => by
    obtain ⟨h1, h2, h3, h4, h5, h6, h7⟩ := xsW_facts (nI i) X
    have ih := ndA_W X i hi d (j + 1) (by omega) (by omega)
    simp only [ndA]
    rw [ih, h6 (nI j)]
    congr 1
    refine ite_congr ?_ (fun _ => rfl) (fun _ => rfl)
    have hl := h7 j (by rw [c_nI (by omega)]; omega)
    show ((1 ≤ (nI j).toInt ∧ (nI j).toInt ≤ 60) ∧ (xsW X (nI i)).U.lk (nI j).toNatClampNeg = 0) = ((1 ≤ (nI j).toInt ∧ (nI j).toInt ≤ 60) ∧ X.U.lk (nI j).toNatClampNeg = 0)
    rw [c_nI (by omega), hl]
/-- cells forward: from row i on, of d rows -/
def csB (S : RS) : Nat → Nat → (Nat → Int64) → Nat → Int64
  | 0, _, cs => cs
  | d + 1, i, cs => csB S d (i + 1) (if S.kd i = 0 then csS cs (S.ce i) (S.af i) else cs)
theorem csB_step {S : RS} {i t : Nat} {cs : Nat → Int64} (h : i ≤ t) : csB S (t + 1 - i) i cs = csB S (t + 1 - (i + 1)) (i + 1) (if S.kd i = 0 then csS cs (S.ce i) (S.af i) else cs) := by
  obtain ⟨e, he⟩ : ∃ e, t + 1 - i = e + 1 := ⟨t - i, by omega⟩
  rw [he, show t + 1 - (i + 1) = e by omega]
  rfl
theorem hzN {z : Int32} (h : z = 0 ∨ z = 1) : vp_nar .boolean z = z := by rcases h with rfl | rfl <;> rfl
set_option maxHeartbeats 4000000 in
set_option maxRecDepth 100000 in
theorem c_X3_setCell (l : Launch) (g : GG) (a r : Nat → Nat) (X : XS) (sz : Nat) (p1 : Int32) (p2 : Int64) : Met l yX3_setCell wsX3_setCell { frames := 1, cells := 0, slots := 0, locals := 20 } (va_Pc [.ref (a 0), .int p1, .long p2] (Pw g (wX g a r X) sz)) (va_Qv (fun u => u = (X.S, X.U, X.V, X.I, csS X.cs p1 p2, X.rg)) (Bw g (va_A (wX g a r X) sz) (fun u : XS => wX g a r u)) (va_A (wX g a r X) sz)) 0 0 (va_A (wX g a r X) sz) := by
  refine Met.ofW (cc := cX3_setCell) (maxL := 4) (ret := none) (by decide) rfl ?_
  intro p e s m args below meth c s₁ B hml hv
  obtain ⟨rfl, hsz, hP, hK, hD0⟩ := hv
  have hx := B.exec
  have hb := B.bytes
  have hr := B.returns
  have hts := atoms_spec (ws := wsX3_setCell) B.pre
  have hown : s.vm.findClass RX3 = some m.cls := findClass_of_methodNamed B.named
  have hlocks := B.notSynchronized
  subst hsz
  have hD := hD0.self (sz := s.heap.size)
  generalize hAe : va_A (wX g a r X) s.heap.size = A at hD ⊢
  have hA : ∀ q : Nat, s.heap.size ≤ q → A q := fun q h => by rw [← hAe]; exact Or.inr h
  have hS : va_S A s.heap s.heap [] := va_S.rf
  have hl := lv_entry ([.ref (a 0), .int p1, .long p2]) (n := 4) (Nat.le_of_ble_eq_true rfl)
  rw [lg_entry_eq]
  generalize (lg_sl ([.ref (a 0), .int p1, .long p2]) ++ List.replicate (4 - (lg_sl ([.ref (a 0), .int p1, .long p2])).length) Slot.unset).toArray = ls at hl ⊢
  have hl : lv_has ls 4 [(0, .ref (a 0)), (1, .int p1), (2, .long p2)] := hl
  replace hP : va_P (gD g) vwCl ([((a 0), .inr (5, [.int (nI (X.rg)), .ref (a 1), .ref (a 2), .ref (a 10), .ref (a 13), .ref (a 16)])), ((a 1), .inl (gJ g, 32, .inr (.inl X.cs))), ((a 2), .inr (3, [.ref (a 3), .ref (a 4), .ref (a 5), .ref (a 6), .ref (a 7), .ref (a 8), .ref (a 9), .int (nI (X.S.n)), .int (nI (X.S.ar))])), ((a 3), .inl (gI g, 2001, .inl X.S.kd)), ((a 4), .inl (gI g, 2001, .inl X.S.un)), ((a 5), .inl (gI g, 2001, .inl X.S.ce)), ((a 6), .inl (gJ g, 2001, .inr (.inl X.S.bf))), ((a 7), .inl (gJ g, 2001, .inr (.inl X.S.af))), ((a 8), .inl (gI g, 2001, .inl X.S.tn)), ((a 9), .inl (gZ g, 2001, .inl X.S.bk)), ((a 10), .inr (4, [.ref (a 11), .ref (a 12)])), ((a 11), .inl (gI g, 61, .inl X.U.lk)), ((a 12), .inl (gI g, 32, .inl X.U.ch)), ((a 13), .inr (4, [.ref (a 14), .ref (a 15)])), ((a 14), .inl (gI g, 61, .inl X.V.lk)), ((a 15), .inl (gI g, 32, .inl X.V.ch)), ((a 16), .inr (2, [.ref (a 17), .ref (a 18), .ref (a 19), .ref (a 20), .int (nI (X.I.k)), .int X.I.uf])), ((a 17), .inl (gI g, 21, .inl X.I.st)), ((a 18), .inl (gI g, 21, .inl X.I.en)), ((a 19), .inl (gZ g, 21, .inl X.I.sp)), ((a 20), .inl (gG g, 21, .inr (.inr (.inr (.inr (gRow r))))))] ++ wG g r (X.I.M)) s.heap := hP
  replace hD : va_D A ([((a 0), .inr (5, [.int (nI (X.rg)), .ref (a 1), .ref (a 2), .ref (a 10), .ref (a 13), .ref (a 16)])), ((a 1), .inl (gJ g, 32, .inr (.inl X.cs))), ((a 2), .inr (3, [.ref (a 3), .ref (a 4), .ref (a 5), .ref (a 6), .ref (a 7), .ref (a 8), .ref (a 9), .int (nI (X.S.n)), .int (nI (X.S.ar))])), ((a 3), .inl (gI g, 2001, .inl X.S.kd)), ((a 4), .inl (gI g, 2001, .inl X.S.un)), ((a 5), .inl (gI g, 2001, .inl X.S.ce)), ((a 6), .inl (gJ g, 2001, .inr (.inl X.S.bf))), ((a 7), .inl (gJ g, 2001, .inr (.inl X.S.af))), ((a 8), .inl (gI g, 2001, .inl X.S.tn)), ((a 9), .inl (gZ g, 2001, .inl X.S.bk)), ((a 10), .inr (4, [.ref (a 11), .ref (a 12)])), ((a 11), .inl (gI g, 61, .inl X.U.lk)), ((a 12), .inl (gI g, 32, .inl X.U.ch)), ((a 13), .inr (4, [.ref (a 14), .ref (a 15)])), ((a 14), .inl (gI g, 61, .inl X.V.lk)), ((a 15), .inl (gI g, 32, .inl X.V.ch)), ((a 16), .inr (2, [.ref (a 17), .ref (a 18), .ref (a 19), .ref (a 20), .int (nI (X.I.k)), .int X.I.uf])), ((a 17), .inl (gI g, 21, .inl X.I.st)), ((a 18), .inl (gI g, 21, .inl X.I.en)), ((a 19), .inl (gZ g, 21, .inl X.I.sp)), ((a 20), .inl (gG g, 21, .inr (.inr (.inr (.inr (gRow r))))))] ++ wG g r (X.I.M)) := hD
  refine lv_iload_n hx hb dX3_setCell_0 rfl (lv_at hl 1 rfl) ?_
  refine vp_callSi (va_Run.run (va_runS (As := [.int p1]) (rest := []) ⟨hx, hb, hml, hown, hts⟩ (c_X3_isCell l g p1) (cwS 1 hts gX3_setCell_X3_isCell rfl rfl rfl (by decide +kernel) ⟨Nat.le_of_ble_eq_true rfl, Nat.le_of_ble_eq_true rfl⟩) (ps_r hK hP [] rfl) rfl rfl hl.1 rfl (lv_room (Nat.le_of_ble_eq_true rfl)) dX3_setCell_1 ⟨Nat.zero_le _, Nat.zero_le _⟩)) (fun r_1_1 h_1_1 => ?_)
  refine lv_if_eq (tgt := 14) hx hb dX3_setCell_4 (by decide) (fun c_4_1 => ?_) (fun c_4_1 => ?_)
  · have b_4 : ¬ (0 ≤ (p1).toInt ∧ (p1).toInt < 32) := bI_f h_1_1 c_4_1
    have hP9 : va_P (gD g) vwCl (wX g a r X) s.heap := hP
    have hD9 : va_D A (wX g a r X) := hD
    exact W.vret hx hb hr (fun tz htz hWz => ⟨⟨X, rfl, (by simp [csS, b_4]), by rw [htz]; exact hP9, hD9⟩, hS.F htz⟩) hS.2.2 dX3_setCell_14
  · have b_4 : 0 ≤ (p1).toInt ∧ (p1).toInt < 32 := bI_t h_1_1 c_4_1
    refine lv_aload_n hx hb dX3_setCell_7 rfl (lv_at hl 0 rfl) ?_
    refine va_get (D := gD g) (ci := 5) (v := .ref (a 1)) (C := RX3) (T := TX3) (N := 6) hx hb hts (by decide +kernel) hown hK.1 hP 0 rfl rfl 1 (by decide) (hts (.fieldLink RX3 9 "LogForward" "cells" "[J") (by decide +kernel)) (fun _ h9 => h9) rfl dX3_setCell_8 ?_
    refine lv_iload_n hx hb dX3_setCell_11 rfl (lv_at hl 1 rfl) ?_
    refine lv_lload_n hx hb dX3_setCell_12 rfl (lv_at hl 2 rfl) ?_
    refine ga_last (j := p1.toNatClampNeg) hx hb hK.1 hP hD hS 1 1 rfl rfl (v_p (by omega) (by omega)) rfl dX3_setCell_13 (fun H locs hP hD hS => ?_)
    have hP : va_P (gD g) vwCl ([((a 0), .inr (5, [.int (nI (X.rg)), .ref (a 1), .ref (a 2), .ref (a 10), .ref (a 13), .ref (a 16)])), ((a 1), .inl (gJ g, 32, .inr (.inl (vp_updL X.cs (p1.toNatClampNeg) p2)))), ((a 2), .inr (3, [.ref (a 3), .ref (a 4), .ref (a 5), .ref (a 6), .ref (a 7), .ref (a 8), .ref (a 9), .int (nI (X.S.n)), .int (nI (X.S.ar))])), ((a 3), .inl (gI g, 2001, .inl X.S.kd)), ((a 4), .inl (gI g, 2001, .inl X.S.un)), ((a 5), .inl (gI g, 2001, .inl X.S.ce)), ((a 6), .inl (gJ g, 2001, .inr (.inl X.S.bf))), ((a 7), .inl (gJ g, 2001, .inr (.inl X.S.af))), ((a 8), .inl (gI g, 2001, .inl X.S.tn)), ((a 9), .inl (gZ g, 2001, .inl X.S.bk)), ((a 10), .inr (4, [.ref (a 11), .ref (a 12)])), ((a 11), .inl (gI g, 61, .inl X.U.lk)), ((a 12), .inl (gI g, 32, .inl X.U.ch)), ((a 13), .inr (4, [.ref (a 14), .ref (a 15)])), ((a 14), .inl (gI g, 61, .inl X.V.lk)), ((a 15), .inl (gI g, 32, .inl X.V.ch)), ((a 16), .inr (2, [.ref (a 17), .ref (a 18), .ref (a 19), .ref (a 20), .int (nI (X.I.k)), .int X.I.uf])), ((a 17), .inl (gI g, 21, .inl X.I.st)), ((a 18), .inl (gI g, 21, .inl X.I.en)), ((a 19), .inl (gZ g, 21, .inl X.I.sp)), ((a 20), .inl (gG g, 21, .inr (.inr (.inr (.inr (gRow r))))))] ++ wG g r (X.I.M)) H := hP
    have hD : va_D A ([((a 0), .inr (5, [.int (nI (X.rg)), .ref (a 1), .ref (a 2), .ref (a 10), .ref (a 13), .ref (a 16)])), ((a 1), .inl (gJ g, 32, .inr (.inl (vp_updL X.cs (p1.toNatClampNeg) p2)))), ((a 2), .inr (3, [.ref (a 3), .ref (a 4), .ref (a 5), .ref (a 6), .ref (a 7), .ref (a 8), .ref (a 9), .int (nI (X.S.n)), .int (nI (X.S.ar))])), ((a 3), .inl (gI g, 2001, .inl X.S.kd)), ((a 4), .inl (gI g, 2001, .inl X.S.un)), ((a 5), .inl (gI g, 2001, .inl X.S.ce)), ((a 6), .inl (gJ g, 2001, .inr (.inl X.S.bf))), ((a 7), .inl (gJ g, 2001, .inr (.inl X.S.af))), ((a 8), .inl (gI g, 2001, .inl X.S.tn)), ((a 9), .inl (gZ g, 2001, .inl X.S.bk)), ((a 10), .inr (4, [.ref (a 11), .ref (a 12)])), ((a 11), .inl (gI g, 61, .inl X.U.lk)), ((a 12), .inl (gI g, 32, .inl X.U.ch)), ((a 13), .inr (4, [.ref (a 14), .ref (a 15)])), ((a 14), .inl (gI g, 61, .inl X.V.lk)), ((a 15), .inl (gI g, 32, .inl X.V.ch)), ((a 16), .inr (2, [.ref (a 17), .ref (a 18), .ref (a 19), .ref (a 20), .int (nI (X.I.k)), .int X.I.uf])), ((a 17), .inl (gI g, 21, .inl X.I.st)), ((a 18), .inl (gI g, 21, .inl X.I.en)), ((a 19), .inl (gZ g, 21, .inl X.I.sp)), ((a 20), .inl (gG g, 21, .inr (.inr (.inr (.inr (gRow r))))))] ++ wG g r (X.I.M)) := hD
    have hP9 : va_P (gD g) vwCl (wX g a r (X.S, X.U, X.V, X.I, (vp_updL X.cs (p1.toNatClampNeg) p2), X.rg)) H := hP
    have hD9 : va_D A (wX g a r (X.S, X.U, X.V, X.I, (vp_updL X.cs (p1.toNatClampNeg) p2), X.rg)) := hD
    exact W.vret hx hb hr (fun tz htz hWz => ⟨⟨(X.S, X.U, X.V, X.I, (vp_updL X.cs (p1.toNatClampNeg) p2), X.rg), rfl, (by simp [csS, b_4]), by rw [htz]; exact hP9, hD9⟩, hS.F htz⟩) hS.2.2 dX3_setCell_14
set_option maxHeartbeats 4000000 in
set_option maxRecDepth 100000 in
theorem c_X3_writeChange (l : Launch) (g : GG) (a r : Nat → Nat) (X : XS) (sz : Nat) (p1 p2 : Int32) (p3 p5 : Int64) (z : Int32) (hn : X.S.n < 2000) (hk : X.I.k ≤ 20) (hz : z = 0 ∨ z = 1) : Met l yX3_writeChange wsX3_writeChange { frames := 3, cells := 0, slots := 0, locals := 108 } (va_Pc [.ref (a 0), .int p1, .int p2, .long p3, .long p5, .int z] (Pw g (wX g a r X) sz)) (va_Qi (fun rv u => rv = nI (X.S.n + 1) ∧ u = xsC X p1 p2 p3 p5 z) (Bw g (va_A (wX g a r X) sz) (fun u : XS => wX g a r u)) (va_A (wX g a r X) sz)) 0 0 (va_A (wX g a r X) sz) := by
  refine Met.ofW (cc := cX3_writeChange) (maxL := 9) (ret := (some .int)) (by decide) rfl ?_
  intro p e s m args below meth c s₁ B hml hv
  obtain ⟨rfl, hsz, hP, hK, hD0⟩ := hv
  have hx := B.exec
  have hb := B.bytes
  have hr := B.returns
  have hts := atoms_spec (ws := wsX3_writeChange) B.pre
  have hown : s.vm.findClass RX3 = some m.cls := findClass_of_methodNamed B.named
  have hlocks := B.notSynchronized
  subst hsz
  have hD := hD0.self (sz := s.heap.size)
  generalize hAe : va_A (wX g a r X) s.heap.size = A at hD ⊢
  have hA : ∀ q : Nat, s.heap.size ≤ q → A q := fun q h => by rw [← hAe]; exact Or.inr h
  have hS : va_S A s.heap s.heap [] := va_S.rf
  have hl := lv_entry ([.ref (a 0), .int p1, .int p2, .long p3, .long p5, .int z]) (n := 9) (Nat.le_of_ble_eq_true rfl)
  rw [lg_entry_eq]
  generalize (lg_sl ([.ref (a 0), .int p1, .int p2, .long p3, .long p5, .int z]) ++ List.replicate (9 - (lg_sl ([.ref (a 0), .int p1, .int p2, .long p3, .long p5, .int z])).length) Slot.unset).toArray = ls at hl ⊢
  have hl : lv_has ls 9 [(0, .ref (a 0)), (1, .int p1), (2, .int p2), (3, .long p3), (5, .long p5), (7, .int z)] := hl
  replace hP : va_P (gD g) vwCl ([((a 0), .inr (5, [.int (nI (X.rg)), .ref (a 1), .ref (a 2), .ref (a 10), .ref (a 13), .ref (a 16)])), ((a 1), .inl (gJ g, 32, .inr (.inl X.cs))), ((a 2), .inr (3, [.ref (a 3), .ref (a 4), .ref (a 5), .ref (a 6), .ref (a 7), .ref (a 8), .ref (a 9), .int (nI (X.S.n)), .int (nI (X.S.ar))])), ((a 3), .inl (gI g, 2001, .inl X.S.kd)), ((a 4), .inl (gI g, 2001, .inl X.S.un)), ((a 5), .inl (gI g, 2001, .inl X.S.ce)), ((a 6), .inl (gJ g, 2001, .inr (.inl X.S.bf))), ((a 7), .inl (gJ g, 2001, .inr (.inl X.S.af))), ((a 8), .inl (gI g, 2001, .inl X.S.tn)), ((a 9), .inl (gZ g, 2001, .inl X.S.bk)), ((a 10), .inr (4, [.ref (a 11), .ref (a 12)])), ((a 11), .inl (gI g, 61, .inl X.U.lk)), ((a 12), .inl (gI g, 32, .inl X.U.ch)), ((a 13), .inr (4, [.ref (a 14), .ref (a 15)])), ((a 14), .inl (gI g, 61, .inl X.V.lk)), ((a 15), .inl (gI g, 32, .inl X.V.ch)), ((a 16), .inr (2, [.ref (a 17), .ref (a 18), .ref (a 19), .ref (a 20), .int (nI (X.I.k)), .int X.I.uf])), ((a 17), .inl (gI g, 21, .inl X.I.st)), ((a 18), .inl (gI g, 21, .inl X.I.en)), ((a 19), .inl (gZ g, 21, .inl X.I.sp)), ((a 20), .inl (gG g, 21, .inr (.inr (.inr (.inr (gRow r))))))] ++ wG g r (X.I.M)) s.heap := hP
  replace hD : va_D A ([((a 0), .inr (5, [.int (nI (X.rg)), .ref (a 1), .ref (a 2), .ref (a 10), .ref (a 13), .ref (a 16)])), ((a 1), .inl (gJ g, 32, .inr (.inl X.cs))), ((a 2), .inr (3, [.ref (a 3), .ref (a 4), .ref (a 5), .ref (a 6), .ref (a 7), .ref (a 8), .ref (a 9), .int (nI (X.S.n)), .int (nI (X.S.ar))])), ((a 3), .inl (gI g, 2001, .inl X.S.kd)), ((a 4), .inl (gI g, 2001, .inl X.S.un)), ((a 5), .inl (gI g, 2001, .inl X.S.ce)), ((a 6), .inl (gJ g, 2001, .inr (.inl X.S.bf))), ((a 7), .inl (gJ g, 2001, .inr (.inl X.S.af))), ((a 8), .inl (gI g, 2001, .inl X.S.tn)), ((a 9), .inl (gZ g, 2001, .inl X.S.bk)), ((a 10), .inr (4, [.ref (a 11), .ref (a 12)])), ((a 11), .inl (gI g, 61, .inl X.U.lk)), ((a 12), .inl (gI g, 32, .inl X.U.ch)), ((a 13), .inr (4, [.ref (a 14), .ref (a 15)])), ((a 14), .inl (gI g, 61, .inl X.V.lk)), ((a 15), .inl (gI g, 32, .inl X.V.ch)), ((a 16), .inr (2, [.ref (a 17), .ref (a 18), .ref (a 19), .ref (a 20), .int (nI (X.I.k)), .int X.I.uf])), ((a 17), .inl (gI g, 21, .inl X.I.st)), ((a 18), .inl (gI g, 21, .inl X.I.en)), ((a 19), .inl (gZ g, 21, .inl X.I.sp)), ((a 20), .inl (gG g, 21, .inr (.inr (.inr (.inr (gRow r))))))] ++ wG g r (X.I.M)) := hD
  refine lv_aload_n hx hb dX3_writeChange_0 rfl (lv_at hl 0 rfl) ?_
  refine va_get (D := gD g) (ci := 5) (v := .ref (a 2)) (C := RX3) (T := TX3) (N := 6) hx hb hts (by decide +kernel) hown hK.1 hP 0 rfl rfl 2 (by decide) (hts (.fieldLink RX3 16 "LogForward" "rows" "LLogForward$Rows;") (by decide +kernel)) (fun _ h9 => h9) rfl dX3_writeChange_1 ?_
  refine lv_iconst (v := 0) hx hb dX3_writeChange_4 (by decide) ?_
  refine lv_iload_n hx hb dX3_writeChange_5 rfl (lv_at hl 1 rfl) ?_
  refine lv_iload_n hx hb dX3_writeChange_6 rfl (lv_at hl 2 rfl) ?_
  refine lv_lload_n hx hb dX3_writeChange_7 rfl (lv_at hl 3 rfl) ?_
  refine lv_lload hx hb dX3_writeChange_8 (lv_at hl 4 rfl) ?_
  refine lv_iload hx hb dX3_writeChange_10 (lv_at hl 5 rfl) ?_
  have hPc := hP.sub (ws' := [((a 2), .inr (3, [.ref (a 3), .ref (a 4), .ref (a 5), .ref (a 6), .ref (a 7), .ref (a 8), .ref (a 9), .int (nI (X.S.n)), .int (nI (X.S.ar))])), ((a 3), .inl (gI g, 2001, .inl X.S.kd)), ((a 4), .inl (gI g, 2001, .inl X.S.un)), ((a 5), .inl (gI g, 2001, .inl X.S.ce)), ((a 6), .inl (gJ g, 2001, .inr (.inl X.S.bf))), ((a 7), .inl (gJ g, 2001, .inr (.inl X.S.af))), ((a 8), .inl (gI g, 2001, .inl X.S.tn)), ((a 9), .inl (gZ g, 2001, .inl X.S.bk))]) [2, 3, 4, 5, 6, 7, 8, 9] rfl
  have hDc := hD.sub (ws' := [((a 2), .inr (3, [.ref (a 3), .ref (a 4), .ref (a 5), .ref (a 6), .ref (a 7), .ref (a 8), .ref (a 9), .int (nI (X.S.n)), .int (nI (X.S.ar))])), ((a 3), .inl (gI g, 2001, .inl X.S.kd)), ((a 4), .inl (gI g, 2001, .inl X.S.un)), ((a 5), .inl (gI g, 2001, .inl X.S.ce)), ((a 6), .inl (gJ g, 2001, .inr (.inl X.S.bf))), ((a 7), .inl (gJ g, 2001, .inr (.inl X.S.af))), ((a 8), .inl (gI g, 2001, .inl X.S.tn)), ((a 9), .inl (gZ g, 2001, .inl X.S.bk))]) [2, 3, 4, 5, 6, 7, 8, 9] (by decide) rfl
  refine cq_i (X := [((a 0), .inr (5, [.int (nI (X.rg)), .ref (a 1), .ref (a 2), .ref (a 10), .ref (a 13), .ref (a 16)])), ((a 1), .inl (gJ g, 32, .inr (.inl X.cs))), ((a 2), .inr (3, [.ref (a 3), .ref (a 4), .ref (a 5), .ref (a 6), .ref (a 7), .ref (a 8), .ref (a 9), .int (nI (X.S.n)), .int (nI (X.S.ar))])), ((a 3), .inl (gI g, 2001, .inl X.S.kd)), ((a 4), .inl (gI g, 2001, .inl X.S.un)), ((a 5), .inl (gI g, 2001, .inl X.S.ce)), ((a 6), .inl (gJ g, 2001, .inr (.inl X.S.bf))), ((a 7), .inl (gJ g, 2001, .inr (.inl X.S.af))), ((a 8), .inl (gI g, 2001, .inl X.S.tn)), ((a 9), .inl (gZ g, 2001, .inl X.S.bk)), ((a 10), .inr (4, [.ref (a 11), .ref (a 12)])), ((a 11), .inl (gI g, 61, .inl X.U.lk)), ((a 12), .inl (gI g, 32, .inl X.U.ch)), ((a 13), .inr (4, [.ref (a 14), .ref (a 15)])), ((a 14), .inl (gI g, 61, .inl X.V.lk)), ((a 15), .inl (gI g, 32, .inl X.V.ch)), ((a 16), .inr (2, [.ref (a 17), .ref (a 18), .ref (a 19), .ref (a 20), .int (nI (X.I.k)), .int X.I.uf])), ((a 17), .inl (gI g, 21, .inl X.I.st)), ((a 18), .inl (gI g, 21, .inl X.I.en)), ((a 19), .inl (gZ g, 21, .inl X.I.sp)), ((a 20), .inl (gG g, 21, .inr (.inr (.inr (.inr (gRow r))))))]) (pl := wG g r (X.I.M)) (cx := [((a 2), .inr (3, [.ref (a 3), .ref (a 4), .ref (a 5), .ref (a 6), .ref (a 7), .ref (a 8), .ref (a 9), .int (nI (X.S.n)), .int (nI (X.S.ar))])), ((a 3), .inl (gI g, 2001, .inl X.S.kd)), ((a 4), .inl (gI g, 2001, .inl X.S.un)), ((a 5), .inl (gI g, 2001, .inl X.S.ce)), ((a 6), .inl (gJ g, 2001, .inr (.inl X.S.bf))), ((a 7), .inl (gJ g, 2001, .inr (.inl X.S.af))), ((a 8), .inl (gI g, 2001, .inl X.S.tn)), ((a 9), .inl (gZ g, 2001, .inl X.S.bk))]) (wr := [((a 0), .inr (5, [.int (nI (X.rg)), .ref (a 1), .ref (a 2), .ref (a 10), .ref (a 13), .ref (a 16)])), ((a 1), .inl (gJ g, 32, .inr (.inl X.cs))), ((a 10), .inr (4, [.ref (a 11), .ref (a 12)])), ((a 11), .inl (gI g, 61, .inl X.U.lk)), ((a 12), .inl (gI g, 32, .inl X.U.ch)), ((a 13), .inr (4, [.ref (a 14), .ref (a 15)])), ((a 14), .inl (gI g, 61, .inl X.V.lk)), ((a 15), .inl (gI g, 32, .inl X.V.ch)), ((a 16), .inr (2, [.ref (a 17), .ref (a 18), .ref (a 19), .ref (a 20), .int (nI (X.I.k)), .int X.I.uf])), ((a 17), .inl (gI g, 21, .inl X.I.st)), ((a 18), .inl (gI g, 21, .inl X.I.en)), ((a 19), .inl (gZ g, 21, .inl X.I.sp)), ((a 20), .inl (gG g, 21, .inr (.inr (.inr (.inr (gRow r))))))]) (va_runV (As := [.int 0, .int p1, .int p2, .long p3, .long p5, .int z]) (rest := []) ⟨hx, hb, hml, hown, hts⟩ (c_X1_write l g (fun i => a (i + 2)) X.S s.heap.size 0 p1 p2 p3 p5 z (by omega) (hzN hz)) (cwV 6 hts gX3_writeChange_X1_write rfl rfl rfl (by decide +kernel) ⟨Nat.le_of_ble_eq_true rfl, Nat.le_of_ble_eq_true rfl⟩) (pv_w hK hP (ci := 3) (q0 := 2) rfl rfl hPc hDc) rfl rfl hl.1 rfl (lv_room (Nat.le_of_ble_eq_true rfl)) dX3_writeChange_12 ⟨Nat.zero_le _, Nat.zero_le _⟩) hP hD hS hA [2, 3, 4, 5, 6, 7, 8, 9] [0, 1, 10, 11, 12, 13, 14, 15, 16, 17, 18, 19, 20] rfl rfl (by decide) (by decide) (fun r_12_1 u_12_1 H locs h_12_1 hP hD hS => ?_)
  obtain ⟨rfl, rfl⟩ := h_12_1
  replace hP := hP.part (cx := [((a 0), .inr (5, [.int (nI (X.rg)), .ref (a 1), .ref (a 2), .ref (a 10), .ref (a 13), .ref (a 16)])), ((a 1), .inl (gJ g, 32, .inr (.inl X.cs))), ((a 2), .inr (3, [.ref (a 3), .ref (a 4), .ref (a 5), .ref (a 6), .ref (a 7), .ref (a 8), .ref (a 9), .int (nI ((rsW X.S 0 p1 p2 p3 p5 z).n)), .int (nI ((rsW X.S 0 p1 p2 p3 p5 z).ar))])), ((a 3), .inl (gI g, 2001, .inl (rsW X.S 0 p1 p2 p3 p5 z).kd)), ((a 4), .inl (gI g, 2001, .inl (rsW X.S 0 p1 p2 p3 p5 z).un)), ((a 5), .inl (gI g, 2001, .inl (rsW X.S 0 p1 p2 p3 p5 z).ce)), ((a 6), .inl (gJ g, 2001, .inr (.inl (rsW X.S 0 p1 p2 p3 p5 z).bf))), ((a 7), .inl (gJ g, 2001, .inr (.inl (rsW X.S 0 p1 p2 p3 p5 z).af))), ((a 8), .inl (gI g, 2001, .inl (rsW X.S 0 p1 p2 p3 p5 z).tn)), ((a 9), .inl (gZ g, 2001, .inl (rsW X.S 0 p1 p2 p3 p5 z).bk)), ((a 10), .inr (4, [.ref (a 11), .ref (a 12)])), ((a 11), .inl (gI g, 61, .inl X.U.lk)), ((a 12), .inl (gI g, 32, .inl X.U.ch)), ((a 13), .inr (4, [.ref (a 14), .ref (a 15)])), ((a 14), .inl (gI g, 61, .inl X.V.lk)), ((a 15), .inl (gI g, 32, .inl X.V.ch)), ((a 16), .inr (2, [.ref (a 17), .ref (a 18), .ref (a 19), .ref (a 20), .int (nI (X.I.k)), .int X.I.uf])), ((a 17), .inl (gI g, 21, .inl X.I.st)), ((a 18), .inl (gI g, 21, .inl X.I.en)), ((a 19), .inl (gZ g, 21, .inl X.I.sp)), ((a 20), .inl (gG g, 21, .inr (.inr (.inr (.inr (gRow r))))))]) [0, 1, 13, 14, 15, 16, 17, 18, 19, 20, 2, 3, 4, 5, 6, 7, 8, 9, 10, 11, 12] rfl
  replace hD := hD.part (cx := [((a 0), .inr (5, [.int (nI (X.rg)), .ref (a 1), .ref (a 2), .ref (a 10), .ref (a 13), .ref (a 16)])), ((a 1), .inl (gJ g, 32, .inr (.inl X.cs))), ((a 2), .inr (3, [.ref (a 3), .ref (a 4), .ref (a 5), .ref (a 6), .ref (a 7), .ref (a 8), .ref (a 9), .int (nI ((rsW X.S 0 p1 p2 p3 p5 z).n)), .int (nI ((rsW X.S 0 p1 p2 p3 p5 z).ar))])), ((a 3), .inl (gI g, 2001, .inl (rsW X.S 0 p1 p2 p3 p5 z).kd)), ((a 4), .inl (gI g, 2001, .inl (rsW X.S 0 p1 p2 p3 p5 z).un)), ((a 5), .inl (gI g, 2001, .inl (rsW X.S 0 p1 p2 p3 p5 z).ce)), ((a 6), .inl (gJ g, 2001, .inr (.inl (rsW X.S 0 p1 p2 p3 p5 z).bf))), ((a 7), .inl (gJ g, 2001, .inr (.inl (rsW X.S 0 p1 p2 p3 p5 z).af))), ((a 8), .inl (gI g, 2001, .inl (rsW X.S 0 p1 p2 p3 p5 z).tn)), ((a 9), .inl (gZ g, 2001, .inl (rsW X.S 0 p1 p2 p3 p5 z).bk)), ((a 10), .inr (4, [.ref (a 11), .ref (a 12)])), ((a 11), .inl (gI g, 61, .inl X.U.lk)), ((a 12), .inl (gI g, 32, .inl X.U.ch)), ((a 13), .inr (4, [.ref (a 14), .ref (a 15)])), ((a 14), .inl (gI g, 61, .inl X.V.lk)), ((a 15), .inl (gI g, 32, .inl X.V.ch)), ((a 16), .inr (2, [.ref (a 17), .ref (a 18), .ref (a 19), .ref (a 20), .int (nI (X.I.k)), .int X.I.uf])), ((a 17), .inl (gI g, 21, .inl X.I.st)), ((a 18), .inl (gI g, 21, .inl X.I.en)), ((a 19), .inl (gZ g, 21, .inl X.I.sp)), ((a 20), .inl (gG g, 21, .inr (.inr (.inr (.inr (gRow r))))))]) [0, 1, 13, 14, 15, 16, 17, 18, 19, 20, 2, 3, 4, 5, 6, 7, 8, 9, 10, 11, 12] (by decide) rfl
  refine lv_istore (lv' := [(8, .int (nI (X.S.n + 1))), (0, .ref (a 0)), (1, .int p1), (2, .int p2), (3, .long p3), (5, .long p5), (7, .int z)]) hx hb dX3_writeChange_15 hl (by decide) rfl (fun ls hl => ?_)
  refine lv_aload_n hx hb dX3_writeChange_17 rfl (lv_at hl 1 rfl) ?_
  refine va_get (D := gD g) (ci := 5) (v := .ref (a 10)) (C := RX3) (T := TX3) (N := 6) hx hb hts (by decide +kernel) hown hK.1 hP 0 rfl rfl 3 (by decide) (hts (.fieldLink RX3 23 "LogForward" "units" "LLogForward$Units;") (by decide +kernel)) (fun _ h9 => h9) rfl dX3_writeChange_18 ?_
  refine lv_iconst (v := 0) hx hb dX3_writeChange_21 (by decide) ?_
  refine lv_iload_n hx hb dX3_writeChange_22 rfl (lv_at hl 2 rfl) ?_
  refine lv_iload_n hx hb dX3_writeChange_23 rfl (lv_at hl 3 rfl) ?_
  have hPc := hP.sub (ws' := [((a 10), .inr (4, [.ref (a 11), .ref (a 12)])), ((a 11), .inl (gI g, 61, .inl X.U.lk)), ((a 12), .inl (gI g, 32, .inl X.U.ch))]) [10, 11, 12] rfl
  have hDc := hD.sub (ws' := [((a 10), .inr (4, [.ref (a 11), .ref (a 12)])), ((a 11), .inl (gI g, 61, .inl X.U.lk)), ((a 12), .inl (gI g, 32, .inl X.U.ch))]) [10, 11, 12] (by decide) rfl
  refine cq_v (X := [((a 0), .inr (5, [.int (nI (X.rg)), .ref (a 1), .ref (a 2), .ref (a 10), .ref (a 13), .ref (a 16)])), ((a 1), .inl (gJ g, 32, .inr (.inl X.cs))), ((a 2), .inr (3, [.ref (a 3), .ref (a 4), .ref (a 5), .ref (a 6), .ref (a 7), .ref (a 8), .ref (a 9), .int (nI ((rsW X.S 0 p1 p2 p3 p5 z).n)), .int (nI ((rsW X.S 0 p1 p2 p3 p5 z).ar))])), ((a 3), .inl (gI g, 2001, .inl (rsW X.S 0 p1 p2 p3 p5 z).kd)), ((a 4), .inl (gI g, 2001, .inl (rsW X.S 0 p1 p2 p3 p5 z).un)), ((a 5), .inl (gI g, 2001, .inl (rsW X.S 0 p1 p2 p3 p5 z).ce)), ((a 6), .inl (gJ g, 2001, .inr (.inl (rsW X.S 0 p1 p2 p3 p5 z).bf))), ((a 7), .inl (gJ g, 2001, .inr (.inl (rsW X.S 0 p1 p2 p3 p5 z).af))), ((a 8), .inl (gI g, 2001, .inl (rsW X.S 0 p1 p2 p3 p5 z).tn)), ((a 9), .inl (gZ g, 2001, .inl (rsW X.S 0 p1 p2 p3 p5 z).bk)), ((a 10), .inr (4, [.ref (a 11), .ref (a 12)])), ((a 11), .inl (gI g, 61, .inl X.U.lk)), ((a 12), .inl (gI g, 32, .inl X.U.ch)), ((a 13), .inr (4, [.ref (a 14), .ref (a 15)])), ((a 14), .inl (gI g, 61, .inl X.V.lk)), ((a 15), .inl (gI g, 32, .inl X.V.ch)), ((a 16), .inr (2, [.ref (a 17), .ref (a 18), .ref (a 19), .ref (a 20), .int (nI (X.I.k)), .int X.I.uf])), ((a 17), .inl (gI g, 21, .inl X.I.st)), ((a 18), .inl (gI g, 21, .inl X.I.en)), ((a 19), .inl (gZ g, 21, .inl X.I.sp)), ((a 20), .inl (gG g, 21, .inr (.inr (.inr (.inr (gRow r))))))]) (pl := wG g r (X.I.M)) (cx := [((a 10), .inr (4, [.ref (a 11), .ref (a 12)])), ((a 11), .inl (gI g, 61, .inl X.U.lk)), ((a 12), .inl (gI g, 32, .inl X.U.ch))]) (wr := [((a 0), .inr (5, [.int (nI (X.rg)), .ref (a 1), .ref (a 2), .ref (a 10), .ref (a 13), .ref (a 16)])), ((a 1), .inl (gJ g, 32, .inr (.inl X.cs))), ((a 2), .inr (3, [.ref (a 3), .ref (a 4), .ref (a 5), .ref (a 6), .ref (a 7), .ref (a 8), .ref (a 9), .int (nI ((rsW X.S 0 p1 p2 p3 p5 z).n)), .int (nI ((rsW X.S 0 p1 p2 p3 p5 z).ar))])), ((a 3), .inl (gI g, 2001, .inl (rsW X.S 0 p1 p2 p3 p5 z).kd)), ((a 4), .inl (gI g, 2001, .inl (rsW X.S 0 p1 p2 p3 p5 z).un)), ((a 5), .inl (gI g, 2001, .inl (rsW X.S 0 p1 p2 p3 p5 z).ce)), ((a 6), .inl (gJ g, 2001, .inr (.inl (rsW X.S 0 p1 p2 p3 p5 z).bf))), ((a 7), .inl (gJ g, 2001, .inr (.inl (rsW X.S 0 p1 p2 p3 p5 z).af))), ((a 8), .inl (gI g, 2001, .inl (rsW X.S 0 p1 p2 p3 p5 z).tn)), ((a 9), .inl (gZ g, 2001, .inl (rsW X.S 0 p1 p2 p3 p5 z).bk)), ((a 13), .inr (4, [.ref (a 14), .ref (a 15)])), ((a 14), .inl (gI g, 61, .inl X.V.lk)), ((a 15), .inl (gI g, 32, .inl X.V.ch)), ((a 16), .inr (2, [.ref (a 17), .ref (a 18), .ref (a 19), .ref (a 20), .int (nI (X.I.k)), .int X.I.uf])), ((a 17), .inl (gI g, 21, .inl X.I.st)), ((a 18), .inl (gI g, 21, .inl X.I.en)), ((a 19), .inl (gZ g, 21, .inl X.I.sp)), ((a 20), .inl (gG g, 21, .inr (.inr (.inr (.inr (gRow r))))))]) (va_runV (As := [.int 0, .int p1, .int p2]) (rest := []) ⟨hx, hb, hml, hown, hts⟩ (c_X2_follow l g (fun i => a (i + 10)) X.U H.size 0 p1 p2) (cwV 3 hts gX3_writeChange_X2_follow rfl rfl rfl (by decide +kernel) ⟨Nat.le_of_ble_eq_true rfl, Nat.le_of_ble_eq_true rfl⟩) (pv_w hK hP (ci := 4) (q0 := 10) rfl rfl hPc hDc) rfl rfl hl.1 rfl (lv_room (Nat.le_of_ble_eq_true rfl)) dX3_writeChange_24 ⟨Nat.zero_le _, Nat.zero_le _⟩) hP hD hS hA [10, 11, 12] [0, 1, 2, 3, 4, 5, 6, 7, 8, 9, 13, 14, 15, 16, 17, 18, 19, 20] rfl rfl (by decide) (by decide) (fun u_24_1 H locs h_24_1 hP hD hS => ?_)
  subst h_24_1
  replace hP := hP.part (cx := [((a 0), .inr (5, [.int (nI (X.rg)), .ref (a 1), .ref (a 2), .ref (a 10), .ref (a 13), .ref (a 16)])), ((a 1), .inl (gJ g, 32, .inr (.inl X.cs))), ((a 2), .inr (3, [.ref (a 3), .ref (a 4), .ref (a 5), .ref (a 6), .ref (a 7), .ref (a 8), .ref (a 9), .int (nI ((rsW X.S 0 p1 p2 p3 p5 z).n)), .int (nI ((rsW X.S 0 p1 p2 p3 p5 z).ar))])), ((a 3), .inl (gI g, 2001, .inl (rsW X.S 0 p1 p2 p3 p5 z).kd)), ((a 4), .inl (gI g, 2001, .inl (rsW X.S 0 p1 p2 p3 p5 z).un)), ((a 5), .inl (gI g, 2001, .inl (rsW X.S 0 p1 p2 p3 p5 z).ce)), ((a 6), .inl (gJ g, 2001, .inr (.inl (rsW X.S 0 p1 p2 p3 p5 z).bf))), ((a 7), .inl (gJ g, 2001, .inr (.inl (rsW X.S 0 p1 p2 p3 p5 z).af))), ((a 8), .inl (gI g, 2001, .inl (rsW X.S 0 p1 p2 p3 p5 z).tn)), ((a 9), .inl (gZ g, 2001, .inl (rsW X.S 0 p1 p2 p3 p5 z).bk)), ((a 10), .inr (4, [.ref (a 11), .ref (a 12)])), ((a 11), .inl (gI g, 61, .inl (usF X.U 0 p1 p2).lk)), ((a 12), .inl (gI g, 32, .inl (usF X.U 0 p1 p2).ch)), ((a 13), .inr (4, [.ref (a 14), .ref (a 15)])), ((a 14), .inl (gI g, 61, .inl X.V.lk)), ((a 15), .inl (gI g, 32, .inl X.V.ch)), ((a 16), .inr (2, [.ref (a 17), .ref (a 18), .ref (a 19), .ref (a 20), .int (nI (X.I.k)), .int X.I.uf])), ((a 17), .inl (gI g, 21, .inl X.I.st)), ((a 18), .inl (gI g, 21, .inl X.I.en)), ((a 19), .inl (gZ g, 21, .inl X.I.sp)), ((a 20), .inl (gG g, 21, .inr (.inr (.inr (.inr (gRow r))))))]) [0, 1, 2, 3, 4, 5, 6, 7, 8, 9, 18, 19, 20, 10, 11, 12, 13, 14, 15, 16, 17] rfl
  replace hD := hD.part (cx := [((a 0), .inr (5, [.int (nI (X.rg)), .ref (a 1), .ref (a 2), .ref (a 10), .ref (a 13), .ref (a 16)])), ((a 1), .inl (gJ g, 32, .inr (.inl X.cs))), ((a 2), .inr (3, [.ref (a 3), .ref (a 4), .ref (a 5), .ref (a 6), .ref (a 7), .ref (a 8), .ref (a 9), .int (nI ((rsW X.S 0 p1 p2 p3 p5 z).n)), .int (nI ((rsW X.S 0 p1 p2 p3 p5 z).ar))])), ((a 3), .inl (gI g, 2001, .inl (rsW X.S 0 p1 p2 p3 p5 z).kd)), ((a 4), .inl (gI g, 2001, .inl (rsW X.S 0 p1 p2 p3 p5 z).un)), ((a 5), .inl (gI g, 2001, .inl (rsW X.S 0 p1 p2 p3 p5 z).ce)), ((a 6), .inl (gJ g, 2001, .inr (.inl (rsW X.S 0 p1 p2 p3 p5 z).bf))), ((a 7), .inl (gJ g, 2001, .inr (.inl (rsW X.S 0 p1 p2 p3 p5 z).af))), ((a 8), .inl (gI g, 2001, .inl (rsW X.S 0 p1 p2 p3 p5 z).tn)), ((a 9), .inl (gZ g, 2001, .inl (rsW X.S 0 p1 p2 p3 p5 z).bk)), ((a 10), .inr (4, [.ref (a 11), .ref (a 12)])), ((a 11), .inl (gI g, 61, .inl (usF X.U 0 p1 p2).lk)), ((a 12), .inl (gI g, 32, .inl (usF X.U 0 p1 p2).ch)), ((a 13), .inr (4, [.ref (a 14), .ref (a 15)])), ((a 14), .inl (gI g, 61, .inl X.V.lk)), ((a 15), .inl (gI g, 32, .inl X.V.ch)), ((a 16), .inr (2, [.ref (a 17), .ref (a 18), .ref (a 19), .ref (a 20), .int (nI (X.I.k)), .int X.I.uf])), ((a 17), .inl (gI g, 21, .inl X.I.st)), ((a 18), .inl (gI g, 21, .inl X.I.en)), ((a 19), .inl (gZ g, 21, .inl X.I.sp)), ((a 20), .inl (gG g, 21, .inr (.inr (.inr (.inr (gRow r))))))]) [0, 1, 2, 3, 4, 5, 6, 7, 8, 9, 18, 19, 20, 10, 11, 12, 13, 14, 15, 16, 17] (by decide) rfl
  refine lv_aload_n hx hb dX3_writeChange_27 rfl (lv_at hl 1 rfl) ?_
  refine lv_iload_n hx hb dX3_writeChange_28 rfl (lv_at hl 3 rfl) ?_
  refine lv_lload hx hb dX3_writeChange_29 (lv_at hl 5 rfl) ?_
  refine ca_v (ws := [((a 0), .inr (5, [.int (nI (X.rg)), .ref (a 1), .ref (a 2), .ref (a 10), .ref (a 13), .ref (a 16)])), ((a 1), .inl (gJ g, 32, .inr (.inl X.cs))), ((a 2), .inr (3, [.ref (a 3), .ref (a 4), .ref (a 5), .ref (a 6), .ref (a 7), .ref (a 8), .ref (a 9), .int (nI ((rsW X.S 0 p1 p2 p3 p5 z).n)), .int (nI ((rsW X.S 0 p1 p2 p3 p5 z).ar))])), ((a 3), .inl (gI g, 2001, .inl (rsW X.S 0 p1 p2 p3 p5 z).kd)), ((a 4), .inl (gI g, 2001, .inl (rsW X.S 0 p1 p2 p3 p5 z).un)), ((a 5), .inl (gI g, 2001, .inl (rsW X.S 0 p1 p2 p3 p5 z).ce)), ((a 6), .inl (gJ g, 2001, .inr (.inl (rsW X.S 0 p1 p2 p3 p5 z).bf))), ((a 7), .inl (gJ g, 2001, .inr (.inl (rsW X.S 0 p1 p2 p3 p5 z).af))), ((a 8), .inl (gI g, 2001, .inl (rsW X.S 0 p1 p2 p3 p5 z).tn)), ((a 9), .inl (gZ g, 2001, .inl (rsW X.S 0 p1 p2 p3 p5 z).bk)), ((a 10), .inr (4, [.ref (a 11), .ref (a 12)])), ((a 11), .inl (gI g, 61, .inl (usF X.U 0 p1 p2).lk)), ((a 12), .inl (gI g, 32, .inl (usF X.U 0 p1 p2).ch)), ((a 13), .inr (4, [.ref (a 14), .ref (a 15)])), ((a 14), .inl (gI g, 61, .inl X.V.lk)), ((a 15), .inl (gI g, 32, .inl X.V.ch)), ((a 16), .inr (2, [.ref (a 17), .ref (a 18), .ref (a 19), .ref (a 20), .int (nI (X.I.k)), .int X.I.uf])), ((a 17), .inl (gI g, 21, .inl X.I.st)), ((a 18), .inl (gI g, 21, .inl X.I.en)), ((a 19), .inl (gZ g, 21, .inl X.I.sp)), ((a 20), .inl (gG g, 21, .inr (.inr (.inr (.inr (gRow r))))))] ++ wG g r (X.I.M)) (va_runV (As := [.int p2, .long p5]) (rest := []) ⟨hx, hb, hml, hown, hts⟩ (c_X3_setCell l g a r ((rsW X.S 0 p1 p2 p3 p5 z), (usF X.U 0 p1 p2), X.V, X.I, X.cs, X.rg) H.size p2 p5) (cwV 2 hts gX3_writeChange_X3_setCell rfl rfl rfl (by decide +kernel) ⟨Nat.le_of_ble_eq_true rfl, Nat.le_of_ble_eq_true rfl⟩) (pv_w hK hP (ci := 5) (q0 := 0) rfl rfl hP hD) rfl rfl hl.1 rfl (lv_room (Nat.le_of_ble_eq_true rfl)) dX3_writeChange_31 ⟨Nat.zero_le _, Nat.zero_le _⟩) hD hS hA (fun u_31_1 H locs h_31_1 hP hD hS => ?_)
  subst h_31_1
  replace hP : va_P (gD g) vwCl ([((a 0), .inr (5, [.int (nI (X.rg)), .ref (a 1), .ref (a 2), .ref (a 10), .ref (a 13), .ref (a 16)])), ((a 1), .inl (gJ g, 32, .inr (.inl (csS X.cs p2 p5)))), ((a 2), .inr (3, [.ref (a 3), .ref (a 4), .ref (a 5), .ref (a 6), .ref (a 7), .ref (a 8), .ref (a 9), .int (nI ((rsW X.S 0 p1 p2 p3 p5 z).n)), .int (nI ((rsW X.S 0 p1 p2 p3 p5 z).ar))])), ((a 3), .inl (gI g, 2001, .inl (rsW X.S 0 p1 p2 p3 p5 z).kd)), ((a 4), .inl (gI g, 2001, .inl (rsW X.S 0 p1 p2 p3 p5 z).un)), ((a 5), .inl (gI g, 2001, .inl (rsW X.S 0 p1 p2 p3 p5 z).ce)), ((a 6), .inl (gJ g, 2001, .inr (.inl (rsW X.S 0 p1 p2 p3 p5 z).bf))), ((a 7), .inl (gJ g, 2001, .inr (.inl (rsW X.S 0 p1 p2 p3 p5 z).af))), ((a 8), .inl (gI g, 2001, .inl (rsW X.S 0 p1 p2 p3 p5 z).tn)), ((a 9), .inl (gZ g, 2001, .inl (rsW X.S 0 p1 p2 p3 p5 z).bk)), ((a 10), .inr (4, [.ref (a 11), .ref (a 12)])), ((a 11), .inl (gI g, 61, .inl (usF X.U 0 p1 p2).lk)), ((a 12), .inl (gI g, 32, .inl (usF X.U 0 p1 p2).ch)), ((a 13), .inr (4, [.ref (a 14), .ref (a 15)])), ((a 14), .inl (gI g, 61, .inl X.V.lk)), ((a 15), .inl (gI g, 32, .inl X.V.ch)), ((a 16), .inr (2, [.ref (a 17), .ref (a 18), .ref (a 19), .ref (a 20), .int (nI (X.I.k)), .int X.I.uf])), ((a 17), .inl (gI g, 21, .inl X.I.st)), ((a 18), .inl (gI g, 21, .inl X.I.en)), ((a 19), .inl (gZ g, 21, .inl X.I.sp)), ((a 20), .inl (gG g, 21, .inr (.inr (.inr (.inr (gRow r))))))] ++ wG g r (X.I.M)) H := hP
  replace hD : va_D A ([((a 0), .inr (5, [.int (nI (X.rg)), .ref (a 1), .ref (a 2), .ref (a 10), .ref (a 13), .ref (a 16)])), ((a 1), .inl (gJ g, 32, .inr (.inl (csS X.cs p2 p5)))), ((a 2), .inr (3, [.ref (a 3), .ref (a 4), .ref (a 5), .ref (a 6), .ref (a 7), .ref (a 8), .ref (a 9), .int (nI ((rsW X.S 0 p1 p2 p3 p5 z).n)), .int (nI ((rsW X.S 0 p1 p2 p3 p5 z).ar))])), ((a 3), .inl (gI g, 2001, .inl (rsW X.S 0 p1 p2 p3 p5 z).kd)), ((a 4), .inl (gI g, 2001, .inl (rsW X.S 0 p1 p2 p3 p5 z).un)), ((a 5), .inl (gI g, 2001, .inl (rsW X.S 0 p1 p2 p3 p5 z).ce)), ((a 6), .inl (gJ g, 2001, .inr (.inl (rsW X.S 0 p1 p2 p3 p5 z).bf))), ((a 7), .inl (gJ g, 2001, .inr (.inl (rsW X.S 0 p1 p2 p3 p5 z).af))), ((a 8), .inl (gI g, 2001, .inl (rsW X.S 0 p1 p2 p3 p5 z).tn)), ((a 9), .inl (gZ g, 2001, .inl (rsW X.S 0 p1 p2 p3 p5 z).bk)), ((a 10), .inr (4, [.ref (a 11), .ref (a 12)])), ((a 11), .inl (gI g, 61, .inl (usF X.U 0 p1 p2).lk)), ((a 12), .inl (gI g, 32, .inl (usF X.U 0 p1 p2).ch)), ((a 13), .inr (4, [.ref (a 14), .ref (a 15)])), ((a 14), .inl (gI g, 61, .inl X.V.lk)), ((a 15), .inl (gI g, 32, .inl X.V.ch)), ((a 16), .inr (2, [.ref (a 17), .ref (a 18), .ref (a 19), .ref (a 20), .int (nI (X.I.k)), .int X.I.uf])), ((a 17), .inl (gI g, 21, .inl X.I.st)), ((a 18), .inl (gI g, 21, .inl X.I.en)), ((a 19), .inl (gZ g, 21, .inl X.I.sp)), ((a 20), .inl (gG g, 21, .inr (.inr (.inr (.inr (gRow r))))))] ++ wG g r (X.I.M)) := hD
  refine lv_aload_n hx hb dX3_writeChange_34 rfl (lv_at hl 1 rfl) ?_
  refine va_get (D := gD g) (ci := 5) (v := .ref (a 16)) (C := RX3) (T := TX3) (N := 6) hx hb hts (by decide +kernel) hown hK.1 hP 0 rfl rfl 5 (by decide) (hts (.fieldLink RX3 33 "LogForward" "images" "LLogForward$Images;") (by decide +kernel)) (fun _ h9 => h9) rfl dX3_writeChange_35 ?_
  refine lv_iload hx hb dX3_writeChange_38 (lv_at hl 0 rfl) ?_
  refine lv_aload_n hx hb dX3_writeChange_40 rfl (lv_at hl 1 rfl) ?_
  refine va_get (D := gD g) (ci := 5) (v := .ref (a 1)) (C := RX3) (T := TX3) (N := 6) hx hb hts (by decide +kernel) hown hK.1 hP 0 rfl rfl 1 (by decide) (hts (.fieldLink RX3 9 "LogForward" "cells" "[J") (by decide +kernel)) (fun _ h9 => h9) rfl dX3_writeChange_41 ?_
  have hPc := hP.part (cx := [((a 16), .inr (2, [.ref (a 17), .ref (a 18), .ref (a 19), .ref (a 20), .int (nI (X.I.k)), .int X.I.uf])), ((a 17), .inl (gI g, 21, .inl X.I.st)), ((a 18), .inl (gI g, 21, .inl X.I.en)), ((a 19), .inl (gZ g, 21, .inl X.I.sp)), ((a 20), .inl (gG g, 21, .inr (.inr (.inr (.inr (gRow r)))))), ((a 1), .inl (gJ g, 32, .inr (.inl (csS X.cs p2 p5))))]) [16, 17, 18, 19, 20, 1] rfl
  have hDc := hD.part (cx := [((a 16), .inr (2, [.ref (a 17), .ref (a 18), .ref (a 19), .ref (a 20), .int (nI (X.I.k)), .int X.I.uf])), ((a 17), .inl (gI g, 21, .inl X.I.st)), ((a 18), .inl (gI g, 21, .inl X.I.en)), ((a 19), .inl (gZ g, 21, .inl X.I.sp)), ((a 20), .inl (gG g, 21, .inr (.inr (.inr (.inr (gRow r)))))), ((a 1), .inl (gJ g, 32, .inr (.inl (csS X.cs p2 p5))))]) [16, 17, 18, 19, 20, 1] (by decide) rfl
  refine cp_v (X := [((a 0), .inr (5, [.int (nI (X.rg)), .ref (a 1), .ref (a 2), .ref (a 10), .ref (a 13), .ref (a 16)])), ((a 1), .inl (gJ g, 32, .inr (.inl (csS X.cs p2 p5)))), ((a 2), .inr (3, [.ref (a 3), .ref (a 4), .ref (a 5), .ref (a 6), .ref (a 7), .ref (a 8), .ref (a 9), .int (nI ((rsW X.S 0 p1 p2 p3 p5 z).n)), .int (nI ((rsW X.S 0 p1 p2 p3 p5 z).ar))])), ((a 3), .inl (gI g, 2001, .inl (rsW X.S 0 p1 p2 p3 p5 z).kd)), ((a 4), .inl (gI g, 2001, .inl (rsW X.S 0 p1 p2 p3 p5 z).un)), ((a 5), .inl (gI g, 2001, .inl (rsW X.S 0 p1 p2 p3 p5 z).ce)), ((a 6), .inl (gJ g, 2001, .inr (.inl (rsW X.S 0 p1 p2 p3 p5 z).bf))), ((a 7), .inl (gJ g, 2001, .inr (.inl (rsW X.S 0 p1 p2 p3 p5 z).af))), ((a 8), .inl (gI g, 2001, .inl (rsW X.S 0 p1 p2 p3 p5 z).tn)), ((a 9), .inl (gZ g, 2001, .inl (rsW X.S 0 p1 p2 p3 p5 z).bk)), ((a 10), .inr (4, [.ref (a 11), .ref (a 12)])), ((a 11), .inl (gI g, 61, .inl (usF X.U 0 p1 p2).lk)), ((a 12), .inl (gI g, 32, .inl (usF X.U 0 p1 p2).ch)), ((a 13), .inr (4, [.ref (a 14), .ref (a 15)])), ((a 14), .inl (gI g, 61, .inl X.V.lk)), ((a 15), .inl (gI g, 32, .inl X.V.ch)), ((a 16), .inr (2, [.ref (a 17), .ref (a 18), .ref (a 19), .ref (a 20), .int (nI (X.I.k)), .int X.I.uf])), ((a 17), .inl (gI g, 21, .inl X.I.st)), ((a 18), .inl (gI g, 21, .inl X.I.en)), ((a 19), .inl (gZ g, 21, .inl X.I.sp)), ((a 20), .inl (gG g, 21, .inr (.inr (.inr (.inr (gRow r))))))]) (pl := wG g r (X.I.M)) (cx := [((a 16), .inr (2, [.ref (a 17), .ref (a 18), .ref (a 19), .ref (a 20), .int (nI (X.I.k)), .int X.I.uf])), ((a 17), .inl (gI g, 21, .inl X.I.st)), ((a 18), .inl (gI g, 21, .inl X.I.en)), ((a 19), .inl (gZ g, 21, .inl X.I.sp)), ((a 20), .inl (gG g, 21, .inr (.inr (.inr (.inr (gRow r)))))), ((a 1), .inl (gJ g, 32, .inr (.inl (csS X.cs p2 p5))))]) (wr := [((a 0), .inr (5, [.int (nI (X.rg)), .ref (a 1), .ref (a 2), .ref (a 10), .ref (a 13), .ref (a 16)])), ((a 2), .inr (3, [.ref (a 3), .ref (a 4), .ref (a 5), .ref (a 6), .ref (a 7), .ref (a 8), .ref (a 9), .int (nI ((rsW X.S 0 p1 p2 p3 p5 z).n)), .int (nI ((rsW X.S 0 p1 p2 p3 p5 z).ar))])), ((a 3), .inl (gI g, 2001, .inl (rsW X.S 0 p1 p2 p3 p5 z).kd)), ((a 4), .inl (gI g, 2001, .inl (rsW X.S 0 p1 p2 p3 p5 z).un)), ((a 5), .inl (gI g, 2001, .inl (rsW X.S 0 p1 p2 p3 p5 z).ce)), ((a 6), .inl (gJ g, 2001, .inr (.inl (rsW X.S 0 p1 p2 p3 p5 z).bf))), ((a 7), .inl (gJ g, 2001, .inr (.inl (rsW X.S 0 p1 p2 p3 p5 z).af))), ((a 8), .inl (gI g, 2001, .inl (rsW X.S 0 p1 p2 p3 p5 z).tn)), ((a 9), .inl (gZ g, 2001, .inl (rsW X.S 0 p1 p2 p3 p5 z).bk)), ((a 10), .inr (4, [.ref (a 11), .ref (a 12)])), ((a 11), .inl (gI g, 61, .inl (usF X.U 0 p1 p2).lk)), ((a 12), .inl (gI g, 32, .inl (usF X.U 0 p1 p2).ch)), ((a 13), .inr (4, [.ref (a 14), .ref (a 15)])), ((a 14), .inl (gI g, 61, .inl X.V.lk)), ((a 15), .inl (gI g, 32, .inl X.V.ch))]) (rx := (fun u : IS => wI g (fun i => a (i + 16)) r u ++ [(a 1, .inl (gJ g, 32, .inr (.inl (csS X.cs p2 p5))))])) (plf := (fun u : IS => wG g r u.M)) (va_runV (As := [.int (nI (X.S.n + 1)), .ref (a 1)]) (rest := []) ⟨hx, hb, hml, hown, hts⟩ (c_X0_finishBehindFifth l g (fun i => a (i + 16)) r (a 1) X.I (csS X.cs p2 p5) H.size (X.S.n + 1) (by omega) hk) (cwV 2 hts gX3_writeChange_X0_finishBehindFifth rfl rfl rfl (by decide +kernel) ⟨Nat.le_of_ble_eq_true rfl, Nat.le_of_ble_eq_true rfl⟩) (pv_w hK hP (ci := 2) (q0 := 16) rfl rfl hPc hDc) rfl rfl hl.1 rfl (lv_room (Nat.le_of_ble_eq_true rfl)) dX3_writeChange_44 ⟨Nat.zero_le _, Nat.zero_le _⟩) hP hD hS hA [16, 17, 18, 19, 20, 1] [0, 2, 3, 4, 5, 6, 7, 8, 9, 10, 11, 12, 13, 14, 15] rfl rfl (by decide) (by decide) (fun u_44_1 H locs h_44_1 hP hD hS => ?_)
  replace h_44_1 : u_44_1 = isB X.I (X.S.n + 1) (csS X.cs p2 p5) := h_44_1
  subst h_44_1
  replace hP := hP.part (cx := [((a 0), .inr (5, [.int (nI (X.rg)), .ref (a 1), .ref (a 2), .ref (a 10), .ref (a 13), .ref (a 16)])), ((a 1), .inl (gJ g, 32, .inr (.inl (csS X.cs p2 p5)))), ((a 2), .inr (3, [.ref (a 3), .ref (a 4), .ref (a 5), .ref (a 6), .ref (a 7), .ref (a 8), .ref (a 9), .int (nI ((rsW X.S 0 p1 p2 p3 p5 z).n)), .int (nI ((rsW X.S 0 p1 p2 p3 p5 z).ar))])), ((a 3), .inl (gI g, 2001, .inl (rsW X.S 0 p1 p2 p3 p5 z).kd)), ((a 4), .inl (gI g, 2001, .inl (rsW X.S 0 p1 p2 p3 p5 z).un)), ((a 5), .inl (gI g, 2001, .inl (rsW X.S 0 p1 p2 p3 p5 z).ce)), ((a 6), .inl (gJ g, 2001, .inr (.inl (rsW X.S 0 p1 p2 p3 p5 z).bf))), ((a 7), .inl (gJ g, 2001, .inr (.inl (rsW X.S 0 p1 p2 p3 p5 z).af))), ((a 8), .inl (gI g, 2001, .inl (rsW X.S 0 p1 p2 p3 p5 z).tn)), ((a 9), .inl (gZ g, 2001, .inl (rsW X.S 0 p1 p2 p3 p5 z).bk)), ((a 10), .inr (4, [.ref (a 11), .ref (a 12)])), ((a 11), .inl (gI g, 61, .inl (usF X.U 0 p1 p2).lk)), ((a 12), .inl (gI g, 32, .inl (usF X.U 0 p1 p2).ch)), ((a 13), .inr (4, [.ref (a 14), .ref (a 15)])), ((a 14), .inl (gI g, 61, .inl X.V.lk)), ((a 15), .inl (gI g, 32, .inl X.V.ch)), ((a 16), .inr (2, [.ref (a 17), .ref (a 18), .ref (a 19), .ref (a 20), .int (nI ((isB X.I (X.S.n + 1) (csS X.cs p2 p5)).k)), .int (isB X.I (X.S.n + 1) (csS X.cs p2 p5)).uf])), ((a 17), .inl (gI g, 21, .inl (isB X.I (X.S.n + 1) (csS X.cs p2 p5)).st)), ((a 18), .inl (gI g, 21, .inl (isB X.I (X.S.n + 1) (csS X.cs p2 p5)).en)), ((a 19), .inl (gZ g, 21, .inl (isB X.I (X.S.n + 1) (csS X.cs p2 p5)).sp)), ((a 20), .inl (gG g, 21, .inr (.inr (.inr (.inr (gRow r))))))]) [0, 20, 1, 2, 3, 4, 5, 6, 7, 8, 9, 10, 11, 12, 13, 14, 15, 16, 17, 18, 19] rfl
  replace hD := hD.part (cx := [((a 0), .inr (5, [.int (nI (X.rg)), .ref (a 1), .ref (a 2), .ref (a 10), .ref (a 13), .ref (a 16)])), ((a 1), .inl (gJ g, 32, .inr (.inl (csS X.cs p2 p5)))), ((a 2), .inr (3, [.ref (a 3), .ref (a 4), .ref (a 5), .ref (a 6), .ref (a 7), .ref (a 8), .ref (a 9), .int (nI ((rsW X.S 0 p1 p2 p3 p5 z).n)), .int (nI ((rsW X.S 0 p1 p2 p3 p5 z).ar))])), ((a 3), .inl (gI g, 2001, .inl (rsW X.S 0 p1 p2 p3 p5 z).kd)), ((a 4), .inl (gI g, 2001, .inl (rsW X.S 0 p1 p2 p3 p5 z).un)), ((a 5), .inl (gI g, 2001, .inl (rsW X.S 0 p1 p2 p3 p5 z).ce)), ((a 6), .inl (gJ g, 2001, .inr (.inl (rsW X.S 0 p1 p2 p3 p5 z).bf))), ((a 7), .inl (gJ g, 2001, .inr (.inl (rsW X.S 0 p1 p2 p3 p5 z).af))), ((a 8), .inl (gI g, 2001, .inl (rsW X.S 0 p1 p2 p3 p5 z).tn)), ((a 9), .inl (gZ g, 2001, .inl (rsW X.S 0 p1 p2 p3 p5 z).bk)), ((a 10), .inr (4, [.ref (a 11), .ref (a 12)])), ((a 11), .inl (gI g, 61, .inl (usF X.U 0 p1 p2).lk)), ((a 12), .inl (gI g, 32, .inl (usF X.U 0 p1 p2).ch)), ((a 13), .inr (4, [.ref (a 14), .ref (a 15)])), ((a 14), .inl (gI g, 61, .inl X.V.lk)), ((a 15), .inl (gI g, 32, .inl X.V.ch)), ((a 16), .inr (2, [.ref (a 17), .ref (a 18), .ref (a 19), .ref (a 20), .int (nI ((isB X.I (X.S.n + 1) (csS X.cs p2 p5)).k)), .int (isB X.I (X.S.n + 1) (csS X.cs p2 p5)).uf])), ((a 17), .inl (gI g, 21, .inl (isB X.I (X.S.n + 1) (csS X.cs p2 p5)).st)), ((a 18), .inl (gI g, 21, .inl (isB X.I (X.S.n + 1) (csS X.cs p2 p5)).en)), ((a 19), .inl (gZ g, 21, .inl (isB X.I (X.S.n + 1) (csS X.cs p2 p5)).sp)), ((a 20), .inl (gG g, 21, .inr (.inr (.inr (.inr (gRow r))))))]) [0, 20, 1, 2, 3, 4, 5, 6, 7, 8, 9, 10, 11, 12, 13, 14, 15, 16, 17, 18, 19] (by decide) rfl
  replace hP : va_P (gD g) vwCl ([((a 0), .inr (5, [.int (nI (X.rg)), .ref (a 1), .ref (a 2), .ref (a 10), .ref (a 13), .ref (a 16)])), ((a 1), .inl (gJ g, 32, .inr (.inl (csS X.cs p2 p5)))), ((a 2), .inr (3, [.ref (a 3), .ref (a 4), .ref (a 5), .ref (a 6), .ref (a 7), .ref (a 8), .ref (a 9), .int (nI ((rsW X.S 0 p1 p2 p3 p5 z).n)), .int (nI ((rsW X.S 0 p1 p2 p3 p5 z).ar))])), ((a 3), .inl (gI g, 2001, .inl (rsW X.S 0 p1 p2 p3 p5 z).kd)), ((a 4), .inl (gI g, 2001, .inl (rsW X.S 0 p1 p2 p3 p5 z).un)), ((a 5), .inl (gI g, 2001, .inl (rsW X.S 0 p1 p2 p3 p5 z).ce)), ((a 6), .inl (gJ g, 2001, .inr (.inl (rsW X.S 0 p1 p2 p3 p5 z).bf))), ((a 7), .inl (gJ g, 2001, .inr (.inl (rsW X.S 0 p1 p2 p3 p5 z).af))), ((a 8), .inl (gI g, 2001, .inl (rsW X.S 0 p1 p2 p3 p5 z).tn)), ((a 9), .inl (gZ g, 2001, .inl (rsW X.S 0 p1 p2 p3 p5 z).bk)), ((a 10), .inr (4, [.ref (a 11), .ref (a 12)])), ((a 11), .inl (gI g, 61, .inl (usF X.U 0 p1 p2).lk)), ((a 12), .inl (gI g, 32, .inl (usF X.U 0 p1 p2).ch)), ((a 13), .inr (4, [.ref (a 14), .ref (a 15)])), ((a 14), .inl (gI g, 61, .inl X.V.lk)), ((a 15), .inl (gI g, 32, .inl X.V.ch)), ((a 16), .inr (2, [.ref (a 17), .ref (a 18), .ref (a 19), .ref (a 20), .int (nI ((isB X.I (X.S.n + 1) (csS X.cs p2 p5)).k)), .int (isB X.I (X.S.n + 1) (csS X.cs p2 p5)).uf])), ((a 17), .inl (gI g, 21, .inl (isB X.I (X.S.n + 1) (csS X.cs p2 p5)).st)), ((a 18), .inl (gI g, 21, .inl (isB X.I (X.S.n + 1) (csS X.cs p2 p5)).en)), ((a 19), .inl (gZ g, 21, .inl (isB X.I (X.S.n + 1) (csS X.cs p2 p5)).sp)), ((a 20), .inl (gG g, 21, .inr (.inr (.inr (.inr (gRow r))))))] ++ wG g r ((isB X.I (X.S.n + 1) (csS X.cs p2 p5)).M)) H := hP
  replace hD : va_D A ([((a 0), .inr (5, [.int (nI (X.rg)), .ref (a 1), .ref (a 2), .ref (a 10), .ref (a 13), .ref (a 16)])), ((a 1), .inl (gJ g, 32, .inr (.inl (csS X.cs p2 p5)))), ((a 2), .inr (3, [.ref (a 3), .ref (a 4), .ref (a 5), .ref (a 6), .ref (a 7), .ref (a 8), .ref (a 9), .int (nI ((rsW X.S 0 p1 p2 p3 p5 z).n)), .int (nI ((rsW X.S 0 p1 p2 p3 p5 z).ar))])), ((a 3), .inl (gI g, 2001, .inl (rsW X.S 0 p1 p2 p3 p5 z).kd)), ((a 4), .inl (gI g, 2001, .inl (rsW X.S 0 p1 p2 p3 p5 z).un)), ((a 5), .inl (gI g, 2001, .inl (rsW X.S 0 p1 p2 p3 p5 z).ce)), ((a 6), .inl (gJ g, 2001, .inr (.inl (rsW X.S 0 p1 p2 p3 p5 z).bf))), ((a 7), .inl (gJ g, 2001, .inr (.inl (rsW X.S 0 p1 p2 p3 p5 z).af))), ((a 8), .inl (gI g, 2001, .inl (rsW X.S 0 p1 p2 p3 p5 z).tn)), ((a 9), .inl (gZ g, 2001, .inl (rsW X.S 0 p1 p2 p3 p5 z).bk)), ((a 10), .inr (4, [.ref (a 11), .ref (a 12)])), ((a 11), .inl (gI g, 61, .inl (usF X.U 0 p1 p2).lk)), ((a 12), .inl (gI g, 32, .inl (usF X.U 0 p1 p2).ch)), ((a 13), .inr (4, [.ref (a 14), .ref (a 15)])), ((a 14), .inl (gI g, 61, .inl X.V.lk)), ((a 15), .inl (gI g, 32, .inl X.V.ch)), ((a 16), .inr (2, [.ref (a 17), .ref (a 18), .ref (a 19), .ref (a 20), .int (nI ((isB X.I (X.S.n + 1) (csS X.cs p2 p5)).k)), .int (isB X.I (X.S.n + 1) (csS X.cs p2 p5)).uf])), ((a 17), .inl (gI g, 21, .inl (isB X.I (X.S.n + 1) (csS X.cs p2 p5)).st)), ((a 18), .inl (gI g, 21, .inl (isB X.I (X.S.n + 1) (csS X.cs p2 p5)).en)), ((a 19), .inl (gZ g, 21, .inl (isB X.I (X.S.n + 1) (csS X.cs p2 p5)).sp)), ((a 20), .inl (gG g, 21, .inr (.inr (.inr (.inr (gRow r))))))] ++ wG g r ((isB X.I (X.S.n + 1) (csS X.cs p2 p5)).M)) := hD
  refine lv_iload hx hb dX3_writeChange_47 (lv_at hl 0 rfl) ?_
  have hP9 : va_P (gD g) vwCl (wX g a r ((rsW X.S 0 p1 p2 p3 p5 z), (usF X.U 0 p1 p2), X.V, (isB X.I (X.S.n + 1) (csS X.cs p2 p5)), (csS X.cs p2 p5), X.rg)) H := hP
  have hD9 : va_D A (wX g a r ((rsW X.S 0 p1 p2 p3 p5 z), (usF X.U 0 p1 p2), X.V, (isB X.I (X.S.n + 1) (csS X.cs p2 p5)), (csS X.cs p2 p5), X.rg)) := hD
  exact W.iret (v := (nI (X.S.n + 1))) hx hb hr (fun tz htz hWz => ⟨⟨(nI (X.S.n + 1)), ((rsW X.S 0 p1 p2 p3 p5 z), (usF X.U 0 p1 p2), X.V, (isB X.I (X.S.n + 1) (csS X.cs p2 p5)), (csS X.cs p2 p5), X.rg), rfl, ⟨rfl, rfl⟩, by rw [htz]; exact hP9, hD9⟩, hS.F htz⟩) hS.2.2 dX3_writeChange_49
set_option maxHeartbeats 4000000 in
set_option maxRecDepth 100000 in
theorem c_X3_writeLastOf (l : Launch) (g : GG) (a r : Nat → Nat) (X : XS) (sz : Nat) (p1 p2 : Int32) (z : Int32) (hn : X.S.n < 2000) (hk : X.I.k ≤ 20) (hz : z = 0 ∨ z = 1) : Met l yX3_writeLastOf wsX3_writeLastOf { frames := 3, cells := 0, slots := 0, locals := 108 } (va_Pc [.ref (a 0), .int p1, .int p2, .int z] (Pw g (wX g a r X) sz)) (va_Qi (fun rv u => rv = nI (X.S.n + 1) ∧ u = xsL X p1 p2 z) (Bw g (va_A (wX g a r X) sz) (fun u : XS => wX g a r u)) (va_A (wX g a r X) sz)) 0 0 (va_A (wX g a r X) sz) := by
  refine Met.ofW (cc := cX3_writeLastOf) (maxL := 5) (ret := (some .int)) (by decide) rfl ?_
  intro p e s m args below meth c s₁ B hml hv
  obtain ⟨rfl, hsz, hP, hK, hD0⟩ := hv
  have hx := B.exec
  have hb := B.bytes
  have hr := B.returns
  have hts := atoms_spec (ws := wsX3_writeLastOf) B.pre
  have hown : s.vm.findClass RX3 = some m.cls := findClass_of_methodNamed B.named
  have hlocks := B.notSynchronized
  subst hsz
  have hD := hD0.self (sz := s.heap.size)
  generalize hAe : va_A (wX g a r X) s.heap.size = A at hD ⊢
  have hA : ∀ q : Nat, s.heap.size ≤ q → A q := fun q h => by rw [← hAe]; exact Or.inr h
  have hS : va_S A s.heap s.heap [] := va_S.rf
  have hl := lv_entry ([.ref (a 0), .int p1, .int p2, .int z]) (n := 5) (Nat.le_of_ble_eq_true rfl)
  rw [lg_entry_eq]
  generalize (lg_sl ([.ref (a 0), .int p1, .int p2, .int z]) ++ List.replicate (5 - (lg_sl ([.ref (a 0), .int p1, .int p2, .int z])).length) Slot.unset).toArray = ls at hl ⊢
  have hl : lv_has ls 5 [(0, .ref (a 0)), (1, .int p1), (2, .int p2), (3, .int z)] := hl
  replace hP : va_P (gD g) vwCl ([((a 0), .inr (5, [.int (nI (X.rg)), .ref (a 1), .ref (a 2), .ref (a 10), .ref (a 13), .ref (a 16)])), ((a 1), .inl (gJ g, 32, .inr (.inl X.cs))), ((a 2), .inr (3, [.ref (a 3), .ref (a 4), .ref (a 5), .ref (a 6), .ref (a 7), .ref (a 8), .ref (a 9), .int (nI (X.S.n)), .int (nI (X.S.ar))])), ((a 3), .inl (gI g, 2001, .inl X.S.kd)), ((a 4), .inl (gI g, 2001, .inl X.S.un)), ((a 5), .inl (gI g, 2001, .inl X.S.ce)), ((a 6), .inl (gJ g, 2001, .inr (.inl X.S.bf))), ((a 7), .inl (gJ g, 2001, .inr (.inl X.S.af))), ((a 8), .inl (gI g, 2001, .inl X.S.tn)), ((a 9), .inl (gZ g, 2001, .inl X.S.bk)), ((a 10), .inr (4, [.ref (a 11), .ref (a 12)])), ((a 11), .inl (gI g, 61, .inl X.U.lk)), ((a 12), .inl (gI g, 32, .inl X.U.ch)), ((a 13), .inr (4, [.ref (a 14), .ref (a 15)])), ((a 14), .inl (gI g, 61, .inl X.V.lk)), ((a 15), .inl (gI g, 32, .inl X.V.ch)), ((a 16), .inr (2, [.ref (a 17), .ref (a 18), .ref (a 19), .ref (a 20), .int (nI (X.I.k)), .int X.I.uf])), ((a 17), .inl (gI g, 21, .inl X.I.st)), ((a 18), .inl (gI g, 21, .inl X.I.en)), ((a 19), .inl (gZ g, 21, .inl X.I.sp)), ((a 20), .inl (gG g, 21, .inr (.inr (.inr (.inr (gRow r))))))] ++ wG g r (X.I.M)) s.heap := hP
  replace hD : va_D A ([((a 0), .inr (5, [.int (nI (X.rg)), .ref (a 1), .ref (a 2), .ref (a 10), .ref (a 13), .ref (a 16)])), ((a 1), .inl (gJ g, 32, .inr (.inl X.cs))), ((a 2), .inr (3, [.ref (a 3), .ref (a 4), .ref (a 5), .ref (a 6), .ref (a 7), .ref (a 8), .ref (a 9), .int (nI (X.S.n)), .int (nI (X.S.ar))])), ((a 3), .inl (gI g, 2001, .inl X.S.kd)), ((a 4), .inl (gI g, 2001, .inl X.S.un)), ((a 5), .inl (gI g, 2001, .inl X.S.ce)), ((a 6), .inl (gJ g, 2001, .inr (.inl X.S.bf))), ((a 7), .inl (gJ g, 2001, .inr (.inl X.S.af))), ((a 8), .inl (gI g, 2001, .inl X.S.tn)), ((a 9), .inl (gZ g, 2001, .inl X.S.bk)), ((a 10), .inr (4, [.ref (a 11), .ref (a 12)])), ((a 11), .inl (gI g, 61, .inl X.U.lk)), ((a 12), .inl (gI g, 32, .inl X.U.ch)), ((a 13), .inr (4, [.ref (a 14), .ref (a 15)])), ((a 14), .inl (gI g, 61, .inl X.V.lk)), ((a 15), .inl (gI g, 32, .inl X.V.ch)), ((a 16), .inr (2, [.ref (a 17), .ref (a 18), .ref (a 19), .ref (a 20), .int (nI (X.I.k)), .int X.I.uf])), ((a 17), .inl (gI g, 21, .inl X.I.st)), ((a 18), .inl (gI g, 21, .inl X.I.en)), ((a 19), .inl (gZ g, 21, .inl X.I.sp)), ((a 20), .inl (gG g, 21, .inr (.inr (.inr (.inr (gRow r))))))] ++ wG g r (X.I.M)) := hD
  refine lv_aload_n hx hb dX3_writeLastOf_0 rfl (lv_at hl 0 rfl) ?_
  refine va_get (D := gD g) (ci := 5) (v := .ref (a 2)) (C := RX3) (T := TX3) (N := 6) hx hb hts (by decide +kernel) hown hK.1 hP 0 rfl rfl 2 (by decide) (hts (.fieldLink RX3 16 "LogForward" "rows" "LLogForward$Rows;") (by decide +kernel)) (fun _ h9 => h9) rfl dX3_writeLastOf_1 ?_
  refine lv_iload_n hx hb dX3_writeLastOf_4 rfl (lv_at hl 2 rfl) ?_
  refine lv_iload_n hx hb dX3_writeLastOf_5 rfl (lv_at hl 1 rfl) ?_
  refine lv_iconst (v := (-1)) hx hb dX3_writeLastOf_6 (by decide) ?_
  refine lv_lconst (v := 0) hx hb dX3_writeLastOf_7 (by decide) ?_
  refine lv_lconst (v := 0) hx hb dX3_writeLastOf_8 (by decide) ?_
  refine lv_iload_n hx hb dX3_writeLastOf_9 rfl (lv_at hl 3 rfl) ?_
  have hPc := hP.sub (ws' := [((a 2), .inr (3, [.ref (a 3), .ref (a 4), .ref (a 5), .ref (a 6), .ref (a 7), .ref (a 8), .ref (a 9), .int (nI (X.S.n)), .int (nI (X.S.ar))])), ((a 3), .inl (gI g, 2001, .inl X.S.kd)), ((a 4), .inl (gI g, 2001, .inl X.S.un)), ((a 5), .inl (gI g, 2001, .inl X.S.ce)), ((a 6), .inl (gJ g, 2001, .inr (.inl X.S.bf))), ((a 7), .inl (gJ g, 2001, .inr (.inl X.S.af))), ((a 8), .inl (gI g, 2001, .inl X.S.tn)), ((a 9), .inl (gZ g, 2001, .inl X.S.bk))]) [2, 3, 4, 5, 6, 7, 8, 9] rfl
  have hDc := hD.sub (ws' := [((a 2), .inr (3, [.ref (a 3), .ref (a 4), .ref (a 5), .ref (a 6), .ref (a 7), .ref (a 8), .ref (a 9), .int (nI (X.S.n)), .int (nI (X.S.ar))])), ((a 3), .inl (gI g, 2001, .inl X.S.kd)), ((a 4), .inl (gI g, 2001, .inl X.S.un)), ((a 5), .inl (gI g, 2001, .inl X.S.ce)), ((a 6), .inl (gJ g, 2001, .inr (.inl X.S.bf))), ((a 7), .inl (gJ g, 2001, .inr (.inl X.S.af))), ((a 8), .inl (gI g, 2001, .inl X.S.tn)), ((a 9), .inl (gZ g, 2001, .inl X.S.bk))]) [2, 3, 4, 5, 6, 7, 8, 9] (by decide) rfl
  refine cq_i (X := [((a 0), .inr (5, [.int (nI (X.rg)), .ref (a 1), .ref (a 2), .ref (a 10), .ref (a 13), .ref (a 16)])), ((a 1), .inl (gJ g, 32, .inr (.inl X.cs))), ((a 2), .inr (3, [.ref (a 3), .ref (a 4), .ref (a 5), .ref (a 6), .ref (a 7), .ref (a 8), .ref (a 9), .int (nI (X.S.n)), .int (nI (X.S.ar))])), ((a 3), .inl (gI g, 2001, .inl X.S.kd)), ((a 4), .inl (gI g, 2001, .inl X.S.un)), ((a 5), .inl (gI g, 2001, .inl X.S.ce)), ((a 6), .inl (gJ g, 2001, .inr (.inl X.S.bf))), ((a 7), .inl (gJ g, 2001, .inr (.inl X.S.af))), ((a 8), .inl (gI g, 2001, .inl X.S.tn)), ((a 9), .inl (gZ g, 2001, .inl X.S.bk)), ((a 10), .inr (4, [.ref (a 11), .ref (a 12)])), ((a 11), .inl (gI g, 61, .inl X.U.lk)), ((a 12), .inl (gI g, 32, .inl X.U.ch)), ((a 13), .inr (4, [.ref (a 14), .ref (a 15)])), ((a 14), .inl (gI g, 61, .inl X.V.lk)), ((a 15), .inl (gI g, 32, .inl X.V.ch)), ((a 16), .inr (2, [.ref (a 17), .ref (a 18), .ref (a 19), .ref (a 20), .int (nI (X.I.k)), .int X.I.uf])), ((a 17), .inl (gI g, 21, .inl X.I.st)), ((a 18), .inl (gI g, 21, .inl X.I.en)), ((a 19), .inl (gZ g, 21, .inl X.I.sp)), ((a 20), .inl (gG g, 21, .inr (.inr (.inr (.inr (gRow r))))))]) (pl := wG g r (X.I.M)) (cx := [((a 2), .inr (3, [.ref (a 3), .ref (a 4), .ref (a 5), .ref (a 6), .ref (a 7), .ref (a 8), .ref (a 9), .int (nI (X.S.n)), .int (nI (X.S.ar))])), ((a 3), .inl (gI g, 2001, .inl X.S.kd)), ((a 4), .inl (gI g, 2001, .inl X.S.un)), ((a 5), .inl (gI g, 2001, .inl X.S.ce)), ((a 6), .inl (gJ g, 2001, .inr (.inl X.S.bf))), ((a 7), .inl (gJ g, 2001, .inr (.inl X.S.af))), ((a 8), .inl (gI g, 2001, .inl X.S.tn)), ((a 9), .inl (gZ g, 2001, .inl X.S.bk))]) (wr := [((a 0), .inr (5, [.int (nI (X.rg)), .ref (a 1), .ref (a 2), .ref (a 10), .ref (a 13), .ref (a 16)])), ((a 1), .inl (gJ g, 32, .inr (.inl X.cs))), ((a 10), .inr (4, [.ref (a 11), .ref (a 12)])), ((a 11), .inl (gI g, 61, .inl X.U.lk)), ((a 12), .inl (gI g, 32, .inl X.U.ch)), ((a 13), .inr (4, [.ref (a 14), .ref (a 15)])), ((a 14), .inl (gI g, 61, .inl X.V.lk)), ((a 15), .inl (gI g, 32, .inl X.V.ch)), ((a 16), .inr (2, [.ref (a 17), .ref (a 18), .ref (a 19), .ref (a 20), .int (nI (X.I.k)), .int X.I.uf])), ((a 17), .inl (gI g, 21, .inl X.I.st)), ((a 18), .inl (gI g, 21, .inl X.I.en)), ((a 19), .inl (gZ g, 21, .inl X.I.sp)), ((a 20), .inl (gG g, 21, .inr (.inr (.inr (.inr (gRow r))))))]) (va_runV (As := [.int p2, .int p1, .int (-1), .long 0, .long 0, .int z]) (rest := []) ⟨hx, hb, hml, hown, hts⟩ (c_X1_write l g (fun i => a (i + 2)) X.S s.heap.size p2 p1 (-1) 0 0 z (by omega) (hzN hz)) (cwV 6 hts gX3_writeLastOf_X1_write rfl rfl rfl (by decide +kernel) ⟨Nat.le_of_ble_eq_true rfl, Nat.le_of_ble_eq_true rfl⟩) (pv_w hK hP (ci := 3) (q0 := 2) rfl rfl hPc hDc) rfl rfl hl.1 rfl (lv_room (Nat.le_of_ble_eq_true rfl)) dX3_writeLastOf_10 ⟨Nat.zero_le _, Nat.zero_le _⟩) hP hD hS hA [2, 3, 4, 5, 6, 7, 8, 9] [0, 1, 10, 11, 12, 13, 14, 15, 16, 17, 18, 19, 20] rfl rfl (by decide) (by decide) (fun r_10_1 u_10_1 H locs h_10_1 hP hD hS => ?_)
  obtain ⟨rfl, rfl⟩ := h_10_1
  replace hP := hP.part (cx := [((a 0), .inr (5, [.int (nI (X.rg)), .ref (a 1), .ref (a 2), .ref (a 10), .ref (a 13), .ref (a 16)])), ((a 1), .inl (gJ g, 32, .inr (.inl X.cs))), ((a 2), .inr (3, [.ref (a 3), .ref (a 4), .ref (a 5), .ref (a 6), .ref (a 7), .ref (a 8), .ref (a 9), .int (nI ((rsW X.S p2 p1 (-1) 0 0 z).n)), .int (nI ((rsW X.S p2 p1 (-1) 0 0 z).ar))])), ((a 3), .inl (gI g, 2001, .inl (rsW X.S p2 p1 (-1) 0 0 z).kd)), ((a 4), .inl (gI g, 2001, .inl (rsW X.S p2 p1 (-1) 0 0 z).un)), ((a 5), .inl (gI g, 2001, .inl (rsW X.S p2 p1 (-1) 0 0 z).ce)), ((a 6), .inl (gJ g, 2001, .inr (.inl (rsW X.S p2 p1 (-1) 0 0 z).bf))), ((a 7), .inl (gJ g, 2001, .inr (.inl (rsW X.S p2 p1 (-1) 0 0 z).af))), ((a 8), .inl (gI g, 2001, .inl (rsW X.S p2 p1 (-1) 0 0 z).tn)), ((a 9), .inl (gZ g, 2001, .inl (rsW X.S p2 p1 (-1) 0 0 z).bk)), ((a 10), .inr (4, [.ref (a 11), .ref (a 12)])), ((a 11), .inl (gI g, 61, .inl X.U.lk)), ((a 12), .inl (gI g, 32, .inl X.U.ch)), ((a 13), .inr (4, [.ref (a 14), .ref (a 15)])), ((a 14), .inl (gI g, 61, .inl X.V.lk)), ((a 15), .inl (gI g, 32, .inl X.V.ch)), ((a 16), .inr (2, [.ref (a 17), .ref (a 18), .ref (a 19), .ref (a 20), .int (nI (X.I.k)), .int X.I.uf])), ((a 17), .inl (gI g, 21, .inl X.I.st)), ((a 18), .inl (gI g, 21, .inl X.I.en)), ((a 19), .inl (gZ g, 21, .inl X.I.sp)), ((a 20), .inl (gG g, 21, .inr (.inr (.inr (.inr (gRow r))))))]) [0, 1, 13, 14, 15, 16, 17, 18, 19, 20, 2, 3, 4, 5, 6, 7, 8, 9, 10, 11, 12] rfl
  replace hD := hD.part (cx := [((a 0), .inr (5, [.int (nI (X.rg)), .ref (a 1), .ref (a 2), .ref (a 10), .ref (a 13), .ref (a 16)])), ((a 1), .inl (gJ g, 32, .inr (.inl X.cs))), ((a 2), .inr (3, [.ref (a 3), .ref (a 4), .ref (a 5), .ref (a 6), .ref (a 7), .ref (a 8), .ref (a 9), .int (nI ((rsW X.S p2 p1 (-1) 0 0 z).n)), .int (nI ((rsW X.S p2 p1 (-1) 0 0 z).ar))])), ((a 3), .inl (gI g, 2001, .inl (rsW X.S p2 p1 (-1) 0 0 z).kd)), ((a 4), .inl (gI g, 2001, .inl (rsW X.S p2 p1 (-1) 0 0 z).un)), ((a 5), .inl (gI g, 2001, .inl (rsW X.S p2 p1 (-1) 0 0 z).ce)), ((a 6), .inl (gJ g, 2001, .inr (.inl (rsW X.S p2 p1 (-1) 0 0 z).bf))), ((a 7), .inl (gJ g, 2001, .inr (.inl (rsW X.S p2 p1 (-1) 0 0 z).af))), ((a 8), .inl (gI g, 2001, .inl (rsW X.S p2 p1 (-1) 0 0 z).tn)), ((a 9), .inl (gZ g, 2001, .inl (rsW X.S p2 p1 (-1) 0 0 z).bk)), ((a 10), .inr (4, [.ref (a 11), .ref (a 12)])), ((a 11), .inl (gI g, 61, .inl X.U.lk)), ((a 12), .inl (gI g, 32, .inl X.U.ch)), ((a 13), .inr (4, [.ref (a 14), .ref (a 15)])), ((a 14), .inl (gI g, 61, .inl X.V.lk)), ((a 15), .inl (gI g, 32, .inl X.V.ch)), ((a 16), .inr (2, [.ref (a 17), .ref (a 18), .ref (a 19), .ref (a 20), .int (nI (X.I.k)), .int X.I.uf])), ((a 17), .inl (gI g, 21, .inl X.I.st)), ((a 18), .inl (gI g, 21, .inl X.I.en)), ((a 19), .inl (gZ g, 21, .inl X.I.sp)), ((a 20), .inl (gG g, 21, .inr (.inr (.inr (.inr (gRow r))))))]) [0, 1, 13, 14, 15, 16, 17, 18, 19, 20, 2, 3, 4, 5, 6, 7, 8, 9, 10, 11, 12] (by decide) rfl
  refine lv_istore (lv' := [(4, .int (nI (X.S.n + 1))), (0, .ref (a 0)), (1, .int p1), (2, .int p2), (3, .int z)]) hx hb dX3_writeLastOf_13 hl (by decide) rfl (fun ls hl => ?_)
  refine lv_aload_n hx hb dX3_writeLastOf_15 rfl (lv_at hl 1 rfl) ?_
  refine va_get (D := gD g) (ci := 5) (v := .ref (a 10)) (C := RX3) (T := TX3) (N := 6) hx hb hts (by decide +kernel) hown hK.1 hP 0 rfl rfl 3 (by decide) (hts (.fieldLink RX3 23 "LogForward" "units" "LLogForward$Units;") (by decide +kernel)) (fun _ h9 => h9) rfl dX3_writeLastOf_16 ?_
  refine lv_iload_n hx hb dX3_writeLastOf_19 rfl (lv_at hl 3 rfl) ?_
  refine lv_iload_n hx hb dX3_writeLastOf_20 rfl (lv_at hl 2 rfl) ?_
  refine lv_iconst (v := (-1)) hx hb dX3_writeLastOf_21 (by decide) ?_
  have hPc := hP.sub (ws' := [((a 10), .inr (4, [.ref (a 11), .ref (a 12)])), ((a 11), .inl (gI g, 61, .inl X.U.lk)), ((a 12), .inl (gI g, 32, .inl X.U.ch))]) [10, 11, 12] rfl
  have hDc := hD.sub (ws' := [((a 10), .inr (4, [.ref (a 11), .ref (a 12)])), ((a 11), .inl (gI g, 61, .inl X.U.lk)), ((a 12), .inl (gI g, 32, .inl X.U.ch))]) [10, 11, 12] (by decide) rfl
  refine cq_v (X := [((a 0), .inr (5, [.int (nI (X.rg)), .ref (a 1), .ref (a 2), .ref (a 10), .ref (a 13), .ref (a 16)])), ((a 1), .inl (gJ g, 32, .inr (.inl X.cs))), ((a 2), .inr (3, [.ref (a 3), .ref (a 4), .ref (a 5), .ref (a 6), .ref (a 7), .ref (a 8), .ref (a 9), .int (nI ((rsW X.S p2 p1 (-1) 0 0 z).n)), .int (nI ((rsW X.S p2 p1 (-1) 0 0 z).ar))])), ((a 3), .inl (gI g, 2001, .inl (rsW X.S p2 p1 (-1) 0 0 z).kd)), ((a 4), .inl (gI g, 2001, .inl (rsW X.S p2 p1 (-1) 0 0 z).un)), ((a 5), .inl (gI g, 2001, .inl (rsW X.S p2 p1 (-1) 0 0 z).ce)), ((a 6), .inl (gJ g, 2001, .inr (.inl (rsW X.S p2 p1 (-1) 0 0 z).bf))), ((a 7), .inl (gJ g, 2001, .inr (.inl (rsW X.S p2 p1 (-1) 0 0 z).af))), ((a 8), .inl (gI g, 2001, .inl (rsW X.S p2 p1 (-1) 0 0 z).tn)), ((a 9), .inl (gZ g, 2001, .inl (rsW X.S p2 p1 (-1) 0 0 z).bk)), ((a 10), .inr (4, [.ref (a 11), .ref (a 12)])), ((a 11), .inl (gI g, 61, .inl X.U.lk)), ((a 12), .inl (gI g, 32, .inl X.U.ch)), ((a 13), .inr (4, [.ref (a 14), .ref (a 15)])), ((a 14), .inl (gI g, 61, .inl X.V.lk)), ((a 15), .inl (gI g, 32, .inl X.V.ch)), ((a 16), .inr (2, [.ref (a 17), .ref (a 18), .ref (a 19), .ref (a 20), .int (nI (X.I.k)), .int X.I.uf])), ((a 17), .inl (gI g, 21, .inl X.I.st)), ((a 18), .inl (gI g, 21, .inl X.I.en)), ((a 19), .inl (gZ g, 21, .inl X.I.sp)), ((a 20), .inl (gG g, 21, .inr (.inr (.inr (.inr (gRow r))))))]) (pl := wG g r (X.I.M)) (cx := [((a 10), .inr (4, [.ref (a 11), .ref (a 12)])), ((a 11), .inl (gI g, 61, .inl X.U.lk)), ((a 12), .inl (gI g, 32, .inl X.U.ch))]) (wr := [((a 0), .inr (5, [.int (nI (X.rg)), .ref (a 1), .ref (a 2), .ref (a 10), .ref (a 13), .ref (a 16)])), ((a 1), .inl (gJ g, 32, .inr (.inl X.cs))), ((a 2), .inr (3, [.ref (a 3), .ref (a 4), .ref (a 5), .ref (a 6), .ref (a 7), .ref (a 8), .ref (a 9), .int (nI ((rsW X.S p2 p1 (-1) 0 0 z).n)), .int (nI ((rsW X.S p2 p1 (-1) 0 0 z).ar))])), ((a 3), .inl (gI g, 2001, .inl (rsW X.S p2 p1 (-1) 0 0 z).kd)), ((a 4), .inl (gI g, 2001, .inl (rsW X.S p2 p1 (-1) 0 0 z).un)), ((a 5), .inl (gI g, 2001, .inl (rsW X.S p2 p1 (-1) 0 0 z).ce)), ((a 6), .inl (gJ g, 2001, .inr (.inl (rsW X.S p2 p1 (-1) 0 0 z).bf))), ((a 7), .inl (gJ g, 2001, .inr (.inl (rsW X.S p2 p1 (-1) 0 0 z).af))), ((a 8), .inl (gI g, 2001, .inl (rsW X.S p2 p1 (-1) 0 0 z).tn)), ((a 9), .inl (gZ g, 2001, .inl (rsW X.S p2 p1 (-1) 0 0 z).bk)), ((a 13), .inr (4, [.ref (a 14), .ref (a 15)])), ((a 14), .inl (gI g, 61, .inl X.V.lk)), ((a 15), .inl (gI g, 32, .inl X.V.ch)), ((a 16), .inr (2, [.ref (a 17), .ref (a 18), .ref (a 19), .ref (a 20), .int (nI (X.I.k)), .int X.I.uf])), ((a 17), .inl (gI g, 21, .inl X.I.st)), ((a 18), .inl (gI g, 21, .inl X.I.en)), ((a 19), .inl (gZ g, 21, .inl X.I.sp)), ((a 20), .inl (gG g, 21, .inr (.inr (.inr (.inr (gRow r))))))]) (va_runV (As := [.int p2, .int p1, .int (-1)]) (rest := []) ⟨hx, hb, hml, hown, hts⟩ (c_X2_follow l g (fun i => a (i + 10)) X.U H.size p2 p1 (-1)) (cwV 3 hts gX3_writeLastOf_X2_follow rfl rfl rfl (by decide +kernel) ⟨Nat.le_of_ble_eq_true rfl, Nat.le_of_ble_eq_true rfl⟩) (pv_w hK hP (ci := 4) (q0 := 10) rfl rfl hPc hDc) rfl rfl hl.1 rfl (lv_room (Nat.le_of_ble_eq_true rfl)) dX3_writeLastOf_22 ⟨Nat.zero_le _, Nat.zero_le _⟩) hP hD hS hA [10, 11, 12] [0, 1, 2, 3, 4, 5, 6, 7, 8, 9, 13, 14, 15, 16, 17, 18, 19, 20] rfl rfl (by decide) (by decide) (fun u_22_1 H locs h_22_1 hP hD hS => ?_)
  subst h_22_1
  replace hP := hP.part (cx := [((a 0), .inr (5, [.int (nI (X.rg)), .ref (a 1), .ref (a 2), .ref (a 10), .ref (a 13), .ref (a 16)])), ((a 1), .inl (gJ g, 32, .inr (.inl X.cs))), ((a 2), .inr (3, [.ref (a 3), .ref (a 4), .ref (a 5), .ref (a 6), .ref (a 7), .ref (a 8), .ref (a 9), .int (nI ((rsW X.S p2 p1 (-1) 0 0 z).n)), .int (nI ((rsW X.S p2 p1 (-1) 0 0 z).ar))])), ((a 3), .inl (gI g, 2001, .inl (rsW X.S p2 p1 (-1) 0 0 z).kd)), ((a 4), .inl (gI g, 2001, .inl (rsW X.S p2 p1 (-1) 0 0 z).un)), ((a 5), .inl (gI g, 2001, .inl (rsW X.S p2 p1 (-1) 0 0 z).ce)), ((a 6), .inl (gJ g, 2001, .inr (.inl (rsW X.S p2 p1 (-1) 0 0 z).bf))), ((a 7), .inl (gJ g, 2001, .inr (.inl (rsW X.S p2 p1 (-1) 0 0 z).af))), ((a 8), .inl (gI g, 2001, .inl (rsW X.S p2 p1 (-1) 0 0 z).tn)), ((a 9), .inl (gZ g, 2001, .inl (rsW X.S p2 p1 (-1) 0 0 z).bk)), ((a 10), .inr (4, [.ref (a 11), .ref (a 12)])), ((a 11), .inl (gI g, 61, .inl (usF X.U p2 p1 (-1)).lk)), ((a 12), .inl (gI g, 32, .inl (usF X.U p2 p1 (-1)).ch)), ((a 13), .inr (4, [.ref (a 14), .ref (a 15)])), ((a 14), .inl (gI g, 61, .inl X.V.lk)), ((a 15), .inl (gI g, 32, .inl X.V.ch)), ((a 16), .inr (2, [.ref (a 17), .ref (a 18), .ref (a 19), .ref (a 20), .int (nI (X.I.k)), .int X.I.uf])), ((a 17), .inl (gI g, 21, .inl X.I.st)), ((a 18), .inl (gI g, 21, .inl X.I.en)), ((a 19), .inl (gZ g, 21, .inl X.I.sp)), ((a 20), .inl (gG g, 21, .inr (.inr (.inr (.inr (gRow r))))))]) [0, 1, 2, 3, 4, 5, 6, 7, 8, 9, 18, 19, 20, 10, 11, 12, 13, 14, 15, 16, 17] rfl
  replace hD := hD.part (cx := [((a 0), .inr (5, [.int (nI (X.rg)), .ref (a 1), .ref (a 2), .ref (a 10), .ref (a 13), .ref (a 16)])), ((a 1), .inl (gJ g, 32, .inr (.inl X.cs))), ((a 2), .inr (3, [.ref (a 3), .ref (a 4), .ref (a 5), .ref (a 6), .ref (a 7), .ref (a 8), .ref (a 9), .int (nI ((rsW X.S p2 p1 (-1) 0 0 z).n)), .int (nI ((rsW X.S p2 p1 (-1) 0 0 z).ar))])), ((a 3), .inl (gI g, 2001, .inl (rsW X.S p2 p1 (-1) 0 0 z).kd)), ((a 4), .inl (gI g, 2001, .inl (rsW X.S p2 p1 (-1) 0 0 z).un)), ((a 5), .inl (gI g, 2001, .inl (rsW X.S p2 p1 (-1) 0 0 z).ce)), ((a 6), .inl (gJ g, 2001, .inr (.inl (rsW X.S p2 p1 (-1) 0 0 z).bf))), ((a 7), .inl (gJ g, 2001, .inr (.inl (rsW X.S p2 p1 (-1) 0 0 z).af))), ((a 8), .inl (gI g, 2001, .inl (rsW X.S p2 p1 (-1) 0 0 z).tn)), ((a 9), .inl (gZ g, 2001, .inl (rsW X.S p2 p1 (-1) 0 0 z).bk)), ((a 10), .inr (4, [.ref (a 11), .ref (a 12)])), ((a 11), .inl (gI g, 61, .inl (usF X.U p2 p1 (-1)).lk)), ((a 12), .inl (gI g, 32, .inl (usF X.U p2 p1 (-1)).ch)), ((a 13), .inr (4, [.ref (a 14), .ref (a 15)])), ((a 14), .inl (gI g, 61, .inl X.V.lk)), ((a 15), .inl (gI g, 32, .inl X.V.ch)), ((a 16), .inr (2, [.ref (a 17), .ref (a 18), .ref (a 19), .ref (a 20), .int (nI (X.I.k)), .int X.I.uf])), ((a 17), .inl (gI g, 21, .inl X.I.st)), ((a 18), .inl (gI g, 21, .inl X.I.en)), ((a 19), .inl (gZ g, 21, .inl X.I.sp)), ((a 20), .inl (gG g, 21, .inr (.inr (.inr (.inr (gRow r))))))]) [0, 1, 2, 3, 4, 5, 6, 7, 8, 9, 18, 19, 20, 10, 11, 12, 13, 14, 15, 16, 17] (by decide) rfl
  refine lv_aload_n hx hb dX3_writeLastOf_25 rfl (lv_at hl 1 rfl) ?_
  refine va_get (D := gD g) (ci := 5) (v := .ref (a 16)) (C := RX3) (T := TX3) (N := 6) hx hb hts (by decide +kernel) hown hK.1 hP 0 rfl rfl 5 (by decide) (hts (.fieldLink RX3 33 "LogForward" "images" "LLogForward$Images;") (by decide +kernel)) (fun _ h9 => h9) rfl dX3_writeLastOf_26 ?_
  refine lv_iload hx hb dX3_writeLastOf_29 (lv_at hl 0 rfl) ?_
  refine lv_aload_n hx hb dX3_writeLastOf_31 rfl (lv_at hl 1 rfl) ?_
  refine va_get (D := gD g) (ci := 5) (v := .ref (a 1)) (C := RX3) (T := TX3) (N := 6) hx hb hts (by decide +kernel) hown hK.1 hP 0 rfl rfl 1 (by decide) (hts (.fieldLink RX3 9 "LogForward" "cells" "[J") (by decide +kernel)) (fun _ h9 => h9) rfl dX3_writeLastOf_32 ?_
  have hPc := hP.part (cx := [((a 16), .inr (2, [.ref (a 17), .ref (a 18), .ref (a 19), .ref (a 20), .int (nI (X.I.k)), .int X.I.uf])), ((a 17), .inl (gI g, 21, .inl X.I.st)), ((a 18), .inl (gI g, 21, .inl X.I.en)), ((a 19), .inl (gZ g, 21, .inl X.I.sp)), ((a 20), .inl (gG g, 21, .inr (.inr (.inr (.inr (gRow r)))))), ((a 1), .inl (gJ g, 32, .inr (.inl X.cs)))]) [16, 17, 18, 19, 20, 1] rfl
  have hDc := hD.part (cx := [((a 16), .inr (2, [.ref (a 17), .ref (a 18), .ref (a 19), .ref (a 20), .int (nI (X.I.k)), .int X.I.uf])), ((a 17), .inl (gI g, 21, .inl X.I.st)), ((a 18), .inl (gI g, 21, .inl X.I.en)), ((a 19), .inl (gZ g, 21, .inl X.I.sp)), ((a 20), .inl (gG g, 21, .inr (.inr (.inr (.inr (gRow r)))))), ((a 1), .inl (gJ g, 32, .inr (.inl X.cs)))]) [16, 17, 18, 19, 20, 1] (by decide) rfl
  refine cp_v (X := [((a 0), .inr (5, [.int (nI (X.rg)), .ref (a 1), .ref (a 2), .ref (a 10), .ref (a 13), .ref (a 16)])), ((a 1), .inl (gJ g, 32, .inr (.inl X.cs))), ((a 2), .inr (3, [.ref (a 3), .ref (a 4), .ref (a 5), .ref (a 6), .ref (a 7), .ref (a 8), .ref (a 9), .int (nI ((rsW X.S p2 p1 (-1) 0 0 z).n)), .int (nI ((rsW X.S p2 p1 (-1) 0 0 z).ar))])), ((a 3), .inl (gI g, 2001, .inl (rsW X.S p2 p1 (-1) 0 0 z).kd)), ((a 4), .inl (gI g, 2001, .inl (rsW X.S p2 p1 (-1) 0 0 z).un)), ((a 5), .inl (gI g, 2001, .inl (rsW X.S p2 p1 (-1) 0 0 z).ce)), ((a 6), .inl (gJ g, 2001, .inr (.inl (rsW X.S p2 p1 (-1) 0 0 z).bf))), ((a 7), .inl (gJ g, 2001, .inr (.inl (rsW X.S p2 p1 (-1) 0 0 z).af))), ((a 8), .inl (gI g, 2001, .inl (rsW X.S p2 p1 (-1) 0 0 z).tn)), ((a 9), .inl (gZ g, 2001, .inl (rsW X.S p2 p1 (-1) 0 0 z).bk)), ((a 10), .inr (4, [.ref (a 11), .ref (a 12)])), ((a 11), .inl (gI g, 61, .inl (usF X.U p2 p1 (-1)).lk)), ((a 12), .inl (gI g, 32, .inl (usF X.U p2 p1 (-1)).ch)), ((a 13), .inr (4, [.ref (a 14), .ref (a 15)])), ((a 14), .inl (gI g, 61, .inl X.V.lk)), ((a 15), .inl (gI g, 32, .inl X.V.ch)), ((a 16), .inr (2, [.ref (a 17), .ref (a 18), .ref (a 19), .ref (a 20), .int (nI (X.I.k)), .int X.I.uf])), ((a 17), .inl (gI g, 21, .inl X.I.st)), ((a 18), .inl (gI g, 21, .inl X.I.en)), ((a 19), .inl (gZ g, 21, .inl X.I.sp)), ((a 20), .inl (gG g, 21, .inr (.inr (.inr (.inr (gRow r))))))]) (pl := wG g r (X.I.M)) (cx := [((a 16), .inr (2, [.ref (a 17), .ref (a 18), .ref (a 19), .ref (a 20), .int (nI (X.I.k)), .int X.I.uf])), ((a 17), .inl (gI g, 21, .inl X.I.st)), ((a 18), .inl (gI g, 21, .inl X.I.en)), ((a 19), .inl (gZ g, 21, .inl X.I.sp)), ((a 20), .inl (gG g, 21, .inr (.inr (.inr (.inr (gRow r)))))), ((a 1), .inl (gJ g, 32, .inr (.inl X.cs)))]) (wr := [((a 0), .inr (5, [.int (nI (X.rg)), .ref (a 1), .ref (a 2), .ref (a 10), .ref (a 13), .ref (a 16)])), ((a 2), .inr (3, [.ref (a 3), .ref (a 4), .ref (a 5), .ref (a 6), .ref (a 7), .ref (a 8), .ref (a 9), .int (nI ((rsW X.S p2 p1 (-1) 0 0 z).n)), .int (nI ((rsW X.S p2 p1 (-1) 0 0 z).ar))])), ((a 3), .inl (gI g, 2001, .inl (rsW X.S p2 p1 (-1) 0 0 z).kd)), ((a 4), .inl (gI g, 2001, .inl (rsW X.S p2 p1 (-1) 0 0 z).un)), ((a 5), .inl (gI g, 2001, .inl (rsW X.S p2 p1 (-1) 0 0 z).ce)), ((a 6), .inl (gJ g, 2001, .inr (.inl (rsW X.S p2 p1 (-1) 0 0 z).bf))), ((a 7), .inl (gJ g, 2001, .inr (.inl (rsW X.S p2 p1 (-1) 0 0 z).af))), ((a 8), .inl (gI g, 2001, .inl (rsW X.S p2 p1 (-1) 0 0 z).tn)), ((a 9), .inl (gZ g, 2001, .inl (rsW X.S p2 p1 (-1) 0 0 z).bk)), ((a 10), .inr (4, [.ref (a 11), .ref (a 12)])), ((a 11), .inl (gI g, 61, .inl (usF X.U p2 p1 (-1)).lk)), ((a 12), .inl (gI g, 32, .inl (usF X.U p2 p1 (-1)).ch)), ((a 13), .inr (4, [.ref (a 14), .ref (a 15)])), ((a 14), .inl (gI g, 61, .inl X.V.lk)), ((a 15), .inl (gI g, 32, .inl X.V.ch))]) (rx := (fun u : IS => wI g (fun i => a (i + 16)) r u ++ [(a 1, .inl (gJ g, 32, .inr (.inl X.cs)))])) (plf := (fun u : IS => wG g r u.M)) (va_runV (As := [.int (nI (X.S.n + 1)), .ref (a 1)]) (rest := []) ⟨hx, hb, hml, hown, hts⟩ (c_X0_finishBehindFifth l g (fun i => a (i + 16)) r (a 1) X.I X.cs H.size (X.S.n + 1) (by omega) hk) (cwV 2 hts gX3_writeLastOf_X0_finishBehindFifth rfl rfl rfl (by decide +kernel) ⟨Nat.le_of_ble_eq_true rfl, Nat.le_of_ble_eq_true rfl⟩) (pv_w hK hP (ci := 2) (q0 := 16) rfl rfl hPc hDc) rfl rfl hl.1 rfl (lv_room (Nat.le_of_ble_eq_true rfl)) dX3_writeLastOf_35 ⟨Nat.zero_le _, Nat.zero_le _⟩) hP hD hS hA [16, 17, 18, 19, 20, 1] [0, 2, 3, 4, 5, 6, 7, 8, 9, 10, 11, 12, 13, 14, 15] rfl rfl (by decide) (by decide) (fun u_35_1 H locs h_35_1 hP hD hS => ?_)
  replace h_35_1 : u_35_1 = isB X.I (X.S.n + 1) X.cs := h_35_1
  subst h_35_1
  replace hP := hP.part (cx := [((a 0), .inr (5, [.int (nI (X.rg)), .ref (a 1), .ref (a 2), .ref (a 10), .ref (a 13), .ref (a 16)])), ((a 1), .inl (gJ g, 32, .inr (.inl X.cs))), ((a 2), .inr (3, [.ref (a 3), .ref (a 4), .ref (a 5), .ref (a 6), .ref (a 7), .ref (a 8), .ref (a 9), .int (nI ((rsW X.S p2 p1 (-1) 0 0 z).n)), .int (nI ((rsW X.S p2 p1 (-1) 0 0 z).ar))])), ((a 3), .inl (gI g, 2001, .inl (rsW X.S p2 p1 (-1) 0 0 z).kd)), ((a 4), .inl (gI g, 2001, .inl (rsW X.S p2 p1 (-1) 0 0 z).un)), ((a 5), .inl (gI g, 2001, .inl (rsW X.S p2 p1 (-1) 0 0 z).ce)), ((a 6), .inl (gJ g, 2001, .inr (.inl (rsW X.S p2 p1 (-1) 0 0 z).bf))), ((a 7), .inl (gJ g, 2001, .inr (.inl (rsW X.S p2 p1 (-1) 0 0 z).af))), ((a 8), .inl (gI g, 2001, .inl (rsW X.S p2 p1 (-1) 0 0 z).tn)), ((a 9), .inl (gZ g, 2001, .inl (rsW X.S p2 p1 (-1) 0 0 z).bk)), ((a 10), .inr (4, [.ref (a 11), .ref (a 12)])), ((a 11), .inl (gI g, 61, .inl (usF X.U p2 p1 (-1)).lk)), ((a 12), .inl (gI g, 32, .inl (usF X.U p2 p1 (-1)).ch)), ((a 13), .inr (4, [.ref (a 14), .ref (a 15)])), ((a 14), .inl (gI g, 61, .inl X.V.lk)), ((a 15), .inl (gI g, 32, .inl X.V.ch)), ((a 16), .inr (2, [.ref (a 17), .ref (a 18), .ref (a 19), .ref (a 20), .int (nI ((isB X.I (X.S.n + 1) X.cs).k)), .int (isB X.I (X.S.n + 1) X.cs).uf])), ((a 17), .inl (gI g, 21, .inl (isB X.I (X.S.n + 1) X.cs).st)), ((a 18), .inl (gI g, 21, .inl (isB X.I (X.S.n + 1) X.cs).en)), ((a 19), .inl (gZ g, 21, .inl (isB X.I (X.S.n + 1) X.cs).sp)), ((a 20), .inl (gG g, 21, .inr (.inr (.inr (.inr (gRow r))))))]) [0, 20, 1, 2, 3, 4, 5, 6, 7, 8, 9, 10, 11, 12, 13, 14, 15, 16, 17, 18, 19] rfl
  replace hD := hD.part (cx := [((a 0), .inr (5, [.int (nI (X.rg)), .ref (a 1), .ref (a 2), .ref (a 10), .ref (a 13), .ref (a 16)])), ((a 1), .inl (gJ g, 32, .inr (.inl X.cs))), ((a 2), .inr (3, [.ref (a 3), .ref (a 4), .ref (a 5), .ref (a 6), .ref (a 7), .ref (a 8), .ref (a 9), .int (nI ((rsW X.S p2 p1 (-1) 0 0 z).n)), .int (nI ((rsW X.S p2 p1 (-1) 0 0 z).ar))])), ((a 3), .inl (gI g, 2001, .inl (rsW X.S p2 p1 (-1) 0 0 z).kd)), ((a 4), .inl (gI g, 2001, .inl (rsW X.S p2 p1 (-1) 0 0 z).un)), ((a 5), .inl (gI g, 2001, .inl (rsW X.S p2 p1 (-1) 0 0 z).ce)), ((a 6), .inl (gJ g, 2001, .inr (.inl (rsW X.S p2 p1 (-1) 0 0 z).bf))), ((a 7), .inl (gJ g, 2001, .inr (.inl (rsW X.S p2 p1 (-1) 0 0 z).af))), ((a 8), .inl (gI g, 2001, .inl (rsW X.S p2 p1 (-1) 0 0 z).tn)), ((a 9), .inl (gZ g, 2001, .inl (rsW X.S p2 p1 (-1) 0 0 z).bk)), ((a 10), .inr (4, [.ref (a 11), .ref (a 12)])), ((a 11), .inl (gI g, 61, .inl (usF X.U p2 p1 (-1)).lk)), ((a 12), .inl (gI g, 32, .inl (usF X.U p2 p1 (-1)).ch)), ((a 13), .inr (4, [.ref (a 14), .ref (a 15)])), ((a 14), .inl (gI g, 61, .inl X.V.lk)), ((a 15), .inl (gI g, 32, .inl X.V.ch)), ((a 16), .inr (2, [.ref (a 17), .ref (a 18), .ref (a 19), .ref (a 20), .int (nI ((isB X.I (X.S.n + 1) X.cs).k)), .int (isB X.I (X.S.n + 1) X.cs).uf])), ((a 17), .inl (gI g, 21, .inl (isB X.I (X.S.n + 1) X.cs).st)), ((a 18), .inl (gI g, 21, .inl (isB X.I (X.S.n + 1) X.cs).en)), ((a 19), .inl (gZ g, 21, .inl (isB X.I (X.S.n + 1) X.cs).sp)), ((a 20), .inl (gG g, 21, .inr (.inr (.inr (.inr (gRow r))))))]) [0, 20, 1, 2, 3, 4, 5, 6, 7, 8, 9, 10, 11, 12, 13, 14, 15, 16, 17, 18, 19] (by decide) rfl
  replace hP : va_P (gD g) vwCl ([((a 0), .inr (5, [.int (nI (X.rg)), .ref (a 1), .ref (a 2), .ref (a 10), .ref (a 13), .ref (a 16)])), ((a 1), .inl (gJ g, 32, .inr (.inl X.cs))), ((a 2), .inr (3, [.ref (a 3), .ref (a 4), .ref (a 5), .ref (a 6), .ref (a 7), .ref (a 8), .ref (a 9), .int (nI ((rsW X.S p2 p1 (-1) 0 0 z).n)), .int (nI ((rsW X.S p2 p1 (-1) 0 0 z).ar))])), ((a 3), .inl (gI g, 2001, .inl (rsW X.S p2 p1 (-1) 0 0 z).kd)), ((a 4), .inl (gI g, 2001, .inl (rsW X.S p2 p1 (-1) 0 0 z).un)), ((a 5), .inl (gI g, 2001, .inl (rsW X.S p2 p1 (-1) 0 0 z).ce)), ((a 6), .inl (gJ g, 2001, .inr (.inl (rsW X.S p2 p1 (-1) 0 0 z).bf))), ((a 7), .inl (gJ g, 2001, .inr (.inl (rsW X.S p2 p1 (-1) 0 0 z).af))), ((a 8), .inl (gI g, 2001, .inl (rsW X.S p2 p1 (-1) 0 0 z).tn)), ((a 9), .inl (gZ g, 2001, .inl (rsW X.S p2 p1 (-1) 0 0 z).bk)), ((a 10), .inr (4, [.ref (a 11), .ref (a 12)])), ((a 11), .inl (gI g, 61, .inl (usF X.U p2 p1 (-1)).lk)), ((a 12), .inl (gI g, 32, .inl (usF X.U p2 p1 (-1)).ch)), ((a 13), .inr (4, [.ref (a 14), .ref (a 15)])), ((a 14), .inl (gI g, 61, .inl X.V.lk)), ((a 15), .inl (gI g, 32, .inl X.V.ch)), ((a 16), .inr (2, [.ref (a 17), .ref (a 18), .ref (a 19), .ref (a 20), .int (nI ((isB X.I (X.S.n + 1) X.cs).k)), .int (isB X.I (X.S.n + 1) X.cs).uf])), ((a 17), .inl (gI g, 21, .inl (isB X.I (X.S.n + 1) X.cs).st)), ((a 18), .inl (gI g, 21, .inl (isB X.I (X.S.n + 1) X.cs).en)), ((a 19), .inl (gZ g, 21, .inl (isB X.I (X.S.n + 1) X.cs).sp)), ((a 20), .inl (gG g, 21, .inr (.inr (.inr (.inr (gRow r))))))] ++ wG g r ((isB X.I (X.S.n + 1) X.cs).M)) H := hP
  replace hD : va_D A ([((a 0), .inr (5, [.int (nI (X.rg)), .ref (a 1), .ref (a 2), .ref (a 10), .ref (a 13), .ref (a 16)])), ((a 1), .inl (gJ g, 32, .inr (.inl X.cs))), ((a 2), .inr (3, [.ref (a 3), .ref (a 4), .ref (a 5), .ref (a 6), .ref (a 7), .ref (a 8), .ref (a 9), .int (nI ((rsW X.S p2 p1 (-1) 0 0 z).n)), .int (nI ((rsW X.S p2 p1 (-1) 0 0 z).ar))])), ((a 3), .inl (gI g, 2001, .inl (rsW X.S p2 p1 (-1) 0 0 z).kd)), ((a 4), .inl (gI g, 2001, .inl (rsW X.S p2 p1 (-1) 0 0 z).un)), ((a 5), .inl (gI g, 2001, .inl (rsW X.S p2 p1 (-1) 0 0 z).ce)), ((a 6), .inl (gJ g, 2001, .inr (.inl (rsW X.S p2 p1 (-1) 0 0 z).bf))), ((a 7), .inl (gJ g, 2001, .inr (.inl (rsW X.S p2 p1 (-1) 0 0 z).af))), ((a 8), .inl (gI g, 2001, .inl (rsW X.S p2 p1 (-1) 0 0 z).tn)), ((a 9), .inl (gZ g, 2001, .inl (rsW X.S p2 p1 (-1) 0 0 z).bk)), ((a 10), .inr (4, [.ref (a 11), .ref (a 12)])), ((a 11), .inl (gI g, 61, .inl (usF X.U p2 p1 (-1)).lk)), ((a 12), .inl (gI g, 32, .inl (usF X.U p2 p1 (-1)).ch)), ((a 13), .inr (4, [.ref (a 14), .ref (a 15)])), ((a 14), .inl (gI g, 61, .inl X.V.lk)), ((a 15), .inl (gI g, 32, .inl X.V.ch)), ((a 16), .inr (2, [.ref (a 17), .ref (a 18), .ref (a 19), .ref (a 20), .int (nI ((isB X.I (X.S.n + 1) X.cs).k)), .int (isB X.I (X.S.n + 1) X.cs).uf])), ((a 17), .inl (gI g, 21, .inl (isB X.I (X.S.n + 1) X.cs).st)), ((a 18), .inl (gI g, 21, .inl (isB X.I (X.S.n + 1) X.cs).en)), ((a 19), .inl (gZ g, 21, .inl (isB X.I (X.S.n + 1) X.cs).sp)), ((a 20), .inl (gG g, 21, .inr (.inr (.inr (.inr (gRow r))))))] ++ wG g r ((isB X.I (X.S.n + 1) X.cs).M)) := hD
  refine lv_iload hx hb dX3_writeLastOf_38 (lv_at hl 0 rfl) ?_
  have hP9 : va_P (gD g) vwCl (wX g a r ((rsW X.S p2 p1 (-1) 0 0 z), (usF X.U p2 p1 (-1)), X.V, (isB X.I (X.S.n + 1) X.cs), X.cs, X.rg)) H := hP
  have hD9 : va_D A (wX g a r ((rsW X.S p2 p1 (-1) 0 0 z), (usF X.U p2 p1 (-1)), X.V, (isB X.I (X.S.n + 1) X.cs), X.cs, X.rg)) := hD
  exact W.iret (v := (nI (X.S.n + 1))) hx hb hr (fun tz htz hWz => ⟨⟨(nI (X.S.n + 1)), ((rsW X.S p2 p1 (-1) 0 0 z), (usF X.U p2 p1 (-1)), X.V, (isB X.I (X.S.n + 1) X.cs), X.cs, X.rg), rfl, ⟨rfl, rfl⟩, by rw [htz]; exact hP9, hD9⟩, hS.F htz⟩) hS.2.2 dX3_writeLastOf_40
end
