section
/-- a private method of a class that the tables say can be made, by its rows of tables_1 -/
def lw_okq (q : MethodName × Nat) : Prop := (q.1.cls ≠ "java/lang/invoke/MethodHandle" ∧ q.1.cls ≠ "java/lang/invoke/VarHandle") ∧ Cond.instantiable q.1.cls q.2 ∈ tables_1 ∧ Cond.privateMethod q.1 ∈ tables_1 ∧ Cond.instanceMethod q.1 ∈ tables_1
theorem lw_p0 : lw_okq (⟨"AbsentMeansAbort", "isTransaction", "(I)Z"⟩, 4) := ⟨⟨by decide +kernel, by decide +kernel⟩, List.mem_of_getElem? (i := 9) (by decide +kernel), List.mem_of_getElem? (i := 141) (by decide +kernel), List.mem_of_getElem? (i := 142) (by decide +kernel)⟩
theorem lw_p1 : lw_okq (⟨"AbsentMeansAbort", "giveUp", "(II)I"⟩, 4) := ⟨⟨by decide +kernel, by decide +kernel⟩, List.mem_of_getElem? (i := 9) (by decide +kernel), List.mem_of_getElem? (i := 191) (by decide +kernel), List.mem_of_getElem? (i := 192) (by decide +kernel)⟩
theorem lw_p2 : lw_okq (⟨"AbsentMeansAbort", "hear", "(IIII)V"⟩, 4) := ⟨⟨by decide +kernel, by decide +kernel⟩, List.mem_of_getElem? (i := 9) (by decide +kernel), List.mem_of_getElem? (i := 214) (by decide +kernel), List.mem_of_getElem? (i := 215) (by decide +kernel)⟩
theorem lw_p3 : lw_okq (⟨"AbsentMeansAbort$Node", "voteWhenWorking", "(I)I"⟩, 4) := ⟨⟨by decide +kernel, by decide +kernel⟩, List.mem_of_getElem? (i := 18) (by decide +kernel), List.mem_of_getElem? (i := 222) (by decide +kernel), List.mem_of_getElem? (i := 223) (by decide +kernel)⟩
theorem lw_p4 : lw_okq (⟨"AbsentMeansAbort", "hearVote", "(III)V"⟩, 4) := ⟨⟨by decide +kernel, by decide +kernel⟩, List.mem_of_getElem? (i := 9) (by decide +kernel), List.mem_of_getElem? (i := 241) (by decide +kernel), List.mem_of_getElem? (i := 242) (by decide +kernel)⟩
theorem lw_p5 : lw_okq (⟨"AbsentMeansAbort", "decide", "(I)V"⟩, 4) := ⟨⟨by decide +kernel, by decide +kernel⟩, List.mem_of_getElem? (i := 9) (by decide +kernel), List.mem_of_getElem? (i := 249) (by decide +kernel), List.mem_of_getElem? (i := 250) (by decide +kernel)⟩
theorem lw_p6 : lw_okq (⟨"AbsentMeansAbort", "hearAck", "(II)V"⟩, 4) := ⟨⟨by decide +kernel, by decide +kernel⟩, List.mem_of_getElem? (i := 9) (by decide +kernel), List.mem_of_getElem? (i := 259) (by decide +kernel), List.mem_of_getElem? (i := 260) (by decide +kernel)⟩
theorem lw_p7 : lw_okq (⟨"AbsentMeansAbort", "hearInquiry", "(III)V"⟩, 4) := ⟨⟨by decide +kernel, by decide +kernel⟩, List.mem_of_getElem? (i := 9) (by decide +kernel), List.mem_of_getElem? (i := 263) (by decide +kernel), List.mem_of_getElem? (i := 264) (by decide +kernel)⟩
theorem lw_p8 : lw_okq (⟨"AbsentMeansAbort", "expireAsMember", "(II)I"⟩, 4) := ⟨⟨by decide +kernel, by decide +kernel⟩, List.mem_of_getElem? (i := 9) (by decide +kernel), List.mem_of_getElem? (i := 275) (by decide +kernel), List.mem_of_getElem? (i := 276) (by decide +kernel)⟩
theorem lw_p9 : lw_okq (⟨"AbsentMeansAbort", "expireAsCoordinator", "(I)I"⟩, 4) := ⟨⟨by decide +kernel, by decide +kernel⟩, List.mem_of_getElem? (i := 9) (by decide +kernel), List.mem_of_getElem? (i := 279) (by decide +kernel), List.mem_of_getElem? (i := 280) (by decide +kernel)⟩
theorem lw_p10 : lw_okq (⟨"AbsentMeansAbort", "restoreCommitting", "(II)Z"⟩, 4) := ⟨⟨by decide +kernel, by decide +kernel⟩, List.mem_of_getElem? (i := 9) (by decide +kernel), List.mem_of_getElem? (i := 304) (by decide +kernel), List.mem_of_getElem? (i := 305) (by decide +kernel)⟩
theorem lw_p11 : lw_okq (⟨"AbsentMeansAbortModel", "noWork", "(I)Z"⟩, 21) := ⟨⟨by decide +kernel, by decide +kernel⟩, List.mem_of_getElem? (i := 358) (by decide +kernel), List.mem_of_getElem? (i := 440) (by decide +kernel), List.mem_of_getElem? (i := 441) (by decide +kernel)⟩
theorem lw_p12 : lw_okq (⟨"AbsentMeansAbortModel", "send", "(IIII)V"⟩, 21) := ⟨⟨by decide +kernel, by decide +kernel⟩, List.mem_of_getElem? (i := 358) (by decide +kernel), List.mem_of_getElem? (i := 448) (by decide +kernel), List.mem_of_getElem? (i := 449) (by decide +kernel)⟩
theorem lw_p13 : lw_okq (⟨"AbsentMeansAbortModel", "forget", "(I)V"⟩, 21) := ⟨⟨by decide +kernel, by decide +kernel⟩, List.mem_of_getElem? (i := 358) (by decide +kernel), List.mem_of_getElem? (i := 452) (by decide +kernel), List.mem_of_getElem? (i := 453) (by decide +kernel)⟩
theorem lw_p14 : lw_okq (⟨"AbsentMeansAbortModel", "pullBack", "(II)I"⟩, 21) := ⟨⟨by decide +kernel, by decide +kernel⟩, List.mem_of_getElem? (i := 358) (by decide +kernel), List.mem_of_getElem? (i := 460) (by decide +kernel), List.mem_of_getElem? (i := 461) (by decide +kernel)⟩
theorem lw_p15 : lw_okq (⟨"AbsentMeansAbortModel", "write", "(IIII)V"⟩, 21) := ⟨⟨by decide +kernel, by decide +kernel⟩, List.mem_of_getElem? (i := 358) (by decide +kernel), List.mem_of_getElem? (i := 464) (by decide +kernel), List.mem_of_getElem? (i := 465) (by decide +kernel)⟩
def lw_privs_1 : List (MethodName × Nat) := [(⟨"AbsentMeansAbort", "isTransaction", "(I)Z"⟩, 4), (⟨"AbsentMeansAbort", "giveUp", "(II)I"⟩, 4), (⟨"AbsentMeansAbort", "hear", "(IIII)V"⟩, 4), (⟨"AbsentMeansAbort$Node", "voteWhenWorking", "(I)I"⟩, 4), (⟨"AbsentMeansAbort", "hearVote", "(III)V"⟩, 4), (⟨"AbsentMeansAbort", "decide", "(I)V"⟩, 4), (⟨"AbsentMeansAbort", "hearAck", "(II)V"⟩, 4), (⟨"AbsentMeansAbort", "hearInquiry", "(III)V"⟩, 4), (⟨"AbsentMeansAbort", "expireAsMember", "(II)I"⟩, 4), (⟨"AbsentMeansAbort", "expireAsCoordinator", "(I)I"⟩, 4), (⟨"AbsentMeansAbort", "restoreCommitting", "(II)Z"⟩, 4), (⟨"AbsentMeansAbortModel", "noWork", "(I)Z"⟩, 21), (⟨"AbsentMeansAbortModel", "send", "(IIII)V"⟩, 21), (⟨"AbsentMeansAbortModel", "forget", "(I)V"⟩, 21), (⟨"AbsentMeansAbortModel", "pullBack", "(II)I"⟩, 21), (⟨"AbsentMeansAbortModel", "write", "(IIII)V"⟩, 21)]
theorem lw_r1 : ∀ q ∈ lw_privs_1, lw_okq q := List.forall_mem_cons.mpr ⟨lw_p0, List.forall_mem_cons.mpr ⟨lw_p1, List.forall_mem_cons.mpr ⟨lw_p2, List.forall_mem_cons.mpr ⟨lw_p3, List.forall_mem_cons.mpr ⟨lw_p4, List.forall_mem_cons.mpr ⟨lw_p5, List.forall_mem_cons.mpr ⟨lw_p6, List.forall_mem_cons.mpr ⟨lw_p7, List.forall_mem_cons.mpr ⟨lw_p8, List.forall_mem_cons.mpr ⟨lw_p9, List.forall_mem_cons.mpr ⟨lw_p10, List.forall_mem_cons.mpr ⟨lw_p11, List.forall_mem_cons.mpr ⟨lw_p12, List.forall_mem_cons.mpr ⟨lw_p13, List.forall_mem_cons.mpr ⟨lw_p14, List.forall_mem_cons.mpr ⟨lw_p15, fun _ h => absurd h List.not_mem_nil⟩⟩⟩⟩⟩⟩⟩⟩⟩⟩⟩⟩⟩⟩⟩⟩
theorem lw_p16 : lw_okq (⟨"AbsentMeansAbortModel", "take", "(I)V"⟩, 21) := ⟨⟨by decide +kernel, by decide +kernel⟩, List.mem_of_getElem? (i := 358) (by decide +kernel), List.mem_of_getElem? (i := 472) (by decide +kernel), List.mem_of_getElem? (i := 473) (by decide +kernel)⟩
theorem lw_p17 : lw_okq (⟨"AbsentMeansAbortModel", "hear", "(IIII)V"⟩, 21) := ⟨⟨by decide +kernel, by decide +kernel⟩, List.mem_of_getElem? (i := 358) (by decide +kernel), List.mem_of_getElem? (i := 476) (by decide +kernel), List.mem_of_getElem? (i := 477) (by decide +kernel)⟩
theorem lw_p18 : lw_okq (⟨"AbsentMeansAbortModel", "hearPrepare", "(III)V"⟩, 21) := ⟨⟨by decide +kernel, by decide +kernel⟩, List.mem_of_getElem? (i := 358) (by decide +kernel), List.mem_of_getElem? (i := 480) (by decide +kernel), List.mem_of_getElem? (i := 481) (by decide +kernel)⟩
theorem lw_p19 : lw_okq (⟨"AbsentMeansAbortModel", "giveUp", "(II)V"⟩, 21) := ⟨⟨by decide +kernel, by decide +kernel⟩, List.mem_of_getElem? (i := 358) (by decide +kernel), List.mem_of_getElem? (i := 484) (by decide +kernel), List.mem_of_getElem? (i := 485) (by decide +kernel)⟩
theorem lw_p20 : lw_okq (⟨"AbsentMeansAbortModel", "letGo", "(II)V"⟩, 21) := ⟨⟨by decide +kernel, by decide +kernel⟩, List.mem_of_getElem? (i := 358) (by decide +kernel), List.mem_of_getElem? (i := 488) (by decide +kernel), List.mem_of_getElem? (i := 489) (by decide +kernel)⟩
theorem lw_p21 : lw_okq (⟨"AbsentMeansAbortModel", "holding", "(II)I"⟩, 21) := ⟨⟨by decide +kernel, by decide +kernel⟩, List.mem_of_getElem? (i := 358) (by decide +kernel), List.mem_of_getElem? (i := 492) (by decide +kernel), List.mem_of_getElem? (i := 493) (by decide +kernel)⟩
theorem lw_p22 : lw_okq (⟨"AbsentMeansAbortModel", "force", "(IIII)V"⟩, 21) := ⟨⟨by decide +kernel, by decide +kernel⟩, List.mem_of_getElem? (i := 358) (by decide +kernel), List.mem_of_getElem? (i := 496) (by decide +kernel), List.mem_of_getElem? (i := 497) (by decide +kernel)⟩
theorem lw_p23 : lw_okq (⟨"AbsentMeansAbortModel", "hearVote", "(III)V"⟩, 21) := ⟨⟨by decide +kernel, by decide +kernel⟩, List.mem_of_getElem? (i := 358) (by decide +kernel), List.mem_of_getElem? (i := 500) (by decide +kernel), List.mem_of_getElem? (i := 501) (by decide +kernel)⟩
theorem lw_p24 : lw_okq (⟨"AbsentMeansAbortModel", "decide", "(I)V"⟩, 21) := ⟨⟨by decide +kernel, by decide +kernel⟩, List.mem_of_getElem? (i := 358) (by decide +kernel), List.mem_of_getElem? (i := 504) (by decide +kernel), List.mem_of_getElem? (i := 505) (by decide +kernel)⟩
theorem lw_p25 : lw_okq (⟨"AbsentMeansAbortModel", "bits", "(II)I"⟩, 21) := ⟨⟨by decide +kernel, by decide +kernel⟩, List.mem_of_getElem? (i := 358) (by decide +kernel), List.mem_of_getElem? (i := 508) (by decide +kernel), List.mem_of_getElem? (i := 509) (by decide +kernel)⟩
theorem lw_p26 : lw_okq (⟨"AbsentMeansAbortModel", "sendDue", "(I)V"⟩, 21) := ⟨⟨by decide +kernel, by decide +kernel⟩, List.mem_of_getElem? (i := 358) (by decide +kernel), List.mem_of_getElem? (i := 512) (by decide +kernel), List.mem_of_getElem? (i := 513) (by decide +kernel)⟩
theorem lw_p27 : lw_okq (⟨"AbsentMeansAbortModel", "hearAck", "(II)V"⟩, 21) := ⟨⟨by decide +kernel, by decide +kernel⟩, List.mem_of_getElem? (i := 358) (by decide +kernel), List.mem_of_getElem? (i := 516) (by decide +kernel), List.mem_of_getElem? (i := 517) (by decide +kernel)⟩
theorem lw_p28 : lw_okq (⟨"AbsentMeansAbortModel", "recoverMember", "(II)I"⟩, 21) := ⟨⟨by decide +kernel, by decide +kernel⟩, List.mem_of_getElem? (i := 358) (by decide +kernel), List.mem_of_getElem? (i := 536) (by decide +kernel), List.mem_of_getElem? (i := 537) (by decide +kernel)⟩
theorem lw_p29 : lw_okq (⟨"AbsentMeansAbortModel", "logged", "(III)I"⟩, 21) := ⟨⟨by decide +kernel, by decide +kernel⟩, List.mem_of_getElem? (i := 358) (by decide +kernel), List.mem_of_getElem? (i := 540) (by decide +kernel), List.mem_of_getElem? (i := 541) (by decide +kernel)⟩
theorem lw_p30 : lw_okq (⟨"AbsentMeansAbortModel", "recoverChief", "(II)I"⟩, 21) := ⟨⟨by decide +kernel, by decide +kernel⟩, List.mem_of_getElem? (i := 358) (by decide +kernel), List.mem_of_getElem? (i := 544) (by decide +kernel), List.mem_of_getElem? (i := 545) (by decide +kernel)⟩
theorem lw_p31 : lw_okq (⟨"AbsentMeansAbortModel", "isRecord", "(II)Z"⟩, 21) := ⟨⟨by decide +kernel, by decide +kernel⟩, List.mem_of_getElem? (i := 358) (by decide +kernel), List.mem_of_getElem? (i := 576) (by decide +kernel), List.mem_of_getElem? (i := 577) (by decide +kernel)⟩
def lw_privs_2 : List (MethodName × Nat) := [(⟨"AbsentMeansAbortModel", "take", "(I)V"⟩, 21), (⟨"AbsentMeansAbortModel", "hear", "(IIII)V"⟩, 21), (⟨"AbsentMeansAbortModel", "hearPrepare", "(III)V"⟩, 21), (⟨"AbsentMeansAbortModel", "giveUp", "(II)V"⟩, 21), (⟨"AbsentMeansAbortModel", "letGo", "(II)V"⟩, 21), (⟨"AbsentMeansAbortModel", "holding", "(II)I"⟩, 21), (⟨"AbsentMeansAbortModel", "force", "(IIII)V"⟩, 21), (⟨"AbsentMeansAbortModel", "hearVote", "(III)V"⟩, 21), (⟨"AbsentMeansAbortModel", "decide", "(I)V"⟩, 21), (⟨"AbsentMeansAbortModel", "bits", "(II)I"⟩, 21), (⟨"AbsentMeansAbortModel", "sendDue", "(I)V"⟩, 21), (⟨"AbsentMeansAbortModel", "hearAck", "(II)V"⟩, 21), (⟨"AbsentMeansAbortModel", "recoverMember", "(II)I"⟩, 21), (⟨"AbsentMeansAbortModel", "logged", "(III)I"⟩, 21), (⟨"AbsentMeansAbortModel", "recoverChief", "(II)I"⟩, 21), (⟨"AbsentMeansAbortModel", "isRecord", "(II)Z"⟩, 21)]
theorem lw_r2 : ∀ q ∈ lw_privs_2, lw_okq q := List.forall_mem_cons.mpr ⟨lw_p16, List.forall_mem_cons.mpr ⟨lw_p17, List.forall_mem_cons.mpr ⟨lw_p18, List.forall_mem_cons.mpr ⟨lw_p19, List.forall_mem_cons.mpr ⟨lw_p20, List.forall_mem_cons.mpr ⟨lw_p21, List.forall_mem_cons.mpr ⟨lw_p22, List.forall_mem_cons.mpr ⟨lw_p23, List.forall_mem_cons.mpr ⟨lw_p24, List.forall_mem_cons.mpr ⟨lw_p25, List.forall_mem_cons.mpr ⟨lw_p26, List.forall_mem_cons.mpr ⟨lw_p27, List.forall_mem_cons.mpr ⟨lw_p28, List.forall_mem_cons.mpr ⟨lw_p29, List.forall_mem_cons.mpr ⟨lw_p30, List.forall_mem_cons.mpr ⟨lw_p31, fun _ h => absurd h List.not_mem_nil⟩⟩⟩⟩⟩⟩⟩⟩⟩⟩⟩⟩⟩⟩⟩⟩
def lw_privs : List (MethodName × Nat) := lw_privs_1 ++ (lw_privs_2)
def lw_tbl : List Cond := k2_sels lw_privs ++ tables_1
theorem lw_privs_ok : ∀ q ∈ lw_privs, lw_okq q := by
  show ∀ q ∈ lw_privs_1 ++ (lw_privs_2), lw_okq q
  exact List.forall_mem_append.mpr ⟨lw_r1, lw_r2⟩
end
section
/-! names, words, their places -/
def RX0 : String := "AbsentMeansAbort"
def TX0 : u_T := fun k => match k with
  | 0 => ("AbsentMeansAbort", "allNodes", "[LAbsentMeansAbort$Node;", true)
  | 1 => ("AbsentMeansAbort", "transactions", "[LAbsentMeansAbort$Transaction;", true)
  | 2 => ("AbsentMeansAbort", "row", "LAbsentMeansAbort$MessageRow;", true)
  | _ => ("AbsentMeansAbort", "begun", "I", false)
def tyX0 : Nat → FieldType := fun k => match k with
  | 0 => .array (.object "AbsentMeansAbort$Node")
  | 1 => .array (.object "AbsentMeansAbort$Transaction")
  | 2 => .object "AbsentMeansAbort$MessageRow"
  | _ => .int
theorem nmX0 : ∀ a, a < 4 → ∀ b, b < 4 → a ≠ b → (TX0 a).2.1 ≠ (TX0 b).2.1 := by decide +kernel
theorem tyX0_ok : ∀ k, k < 4 → parseFieldDescriptor (TX0 k).2.2.1 = some (tyX0 k) := by decide +kernel
def RX1 : String := "AbsentMeansAbort$Log"
def TX1 : u_T := fun k => match k with
  | 0 => ("AbsentMeansAbort$Log", "labels", "[I", true)
  | 1 => ("AbsentMeansAbort$Log", "contents", "[I", true)
  | 2 => ("AbsentMeansAbort$Log", "count", "I", false)
  | 3 => ("AbsentMeansAbort$Log", "safeCount", "I", false)
  | _ => ("AbsentMeansAbort$Log", "forcedCount", "I", false)
def tyX1 : Nat → FieldType := fun k => match k with
  | 0 => .array .int
  | 1 => .array .int
  | 2 => .int
  | 3 => .int
  | _ => .int
theorem nmX1 : ∀ a, a < 5 → ∀ b, b < 5 → a ≠ b → (TX1 a).2.1 ≠ (TX1 b).2.1 := by decide +kernel
theorem tyX1_ok : ∀ k, k < 5 → parseFieldDescriptor (TX1 k).2.2.1 = some (tyX1 k) := by decide +kernel
def RX2 : String := "AbsentMeansAbort$MessageRow"
def TX2 : u_T := fun k => match k with
  | 0 => ("AbsentMeansAbort$MessageRow", "parts", "[[I", true)
  | _ => ("AbsentMeansAbort$MessageRow", "count", "I", false)
def tyX2 : Nat → FieldType := fun k => match k with
  | 0 => .array (.array .int)
  | _ => .int
theorem nmX2 : ∀ a, a < 2 → ∀ b, b < 2 → a ≠ b → (TX2 a).2.1 ≠ (TX2 b).2.1 := by decide +kernel
theorem tyX2_ok : ∀ k, k < 2 → parseFieldDescriptor (TX2 k).2.2.1 = some (tyX2 k) := by decide +kernel
def RX3 : String := "AbsentMeansAbort$Node"
def TX3 : u_T := fun k => match k with
  | 0 => ("AbsentMeansAbort$Node", "running", "Z", false)
  | 1 => ("AbsentMeansAbort$Node", "states", "[I", true)
  | 2 => ("AbsentMeansAbort$Node", "held", "[I", true)
  | _ => ("AbsentMeansAbort$Node", "log", "LAbsentMeansAbort$Log;", true)
def tyX3 : Nat → FieldType := fun k => match k with
  | 0 => .boolean
  | 1 => .array .int
  | 2 => .array .int
  | _ => .object "AbsentMeansAbort$Log"
theorem nmX3 : ∀ a, a < 4 → ∀ b, b < 4 → a ≠ b → (TX3 a).2.1 ≠ (TX3 b).2.1 := by decide +kernel
theorem tyX3_ok : ∀ k, k < 4 → parseFieldDescriptor (TX3 k).2.2.1 = some (tyX3 k) := by decide +kernel
def RX4 : String := "AbsentMeansAbort$Transaction"
def TX4 : u_T := fun k => match k with
  | 0 => ("AbsentMeansAbort$Transaction", "coordinator", "I", false)
  | 1 => ("AbsentMeansAbort$Transaction", "phase", "I", false)
  | 2 => ("AbsentMeansAbort$Transaction", "members", "I", false)
  | 3 => ("AbsentMeansAbort$Transaction", "saidYes", "I", false)
  | 4 => ("AbsentMeansAbort$Transaction", "saidRead", "I", false)
  | _ => ("AbsentMeansAbort$Transaction", "due", "I", false)
def tyX4 : Nat → FieldType := fun k => match k with
  | 0 => .int
  | 1 => .int
  | 2 => .int
  | 3 => .int
  | 4 => .int
  | _ => .int
theorem nmX4 : ∀ a, a < 6 → ∀ b, b < 6 → a ≠ b → (TX4 a).2.1 ≠ (TX4 b).2.1 := by decide +kernel
theorem tyX4_ok : ∀ k, k < 6 → parseFieldDescriptor (TX4 k).2.2.1 = some (tyX4 k) := by decide +kernel
def RX5 : String := "AbsentMeansAbortModel"
def TX5 : u_T := fun k => match k with
  | 0 => ("AbsentMeansAbortModel", "down", "[Z", true)
  | 1 => ("AbsentMeansAbortModel", "forces", "[I", true)
  | 2 => ("AbsentMeansAbortModel", "count", "I", false)
  | 3 => ("AbsentMeansAbortModel", "chief", "[I", true)
  | 4 => ("AbsentMeansAbortModel", "stages", "[I", true)
  | 5 => ("AbsentMeansAbortModel", "member", "[Z", true)
  | 6 => ("AbsentMeansAbortModel", "yes", "[Z", true)
  | 7 => ("AbsentMeansAbortModel", "read", "[Z", true)
  | 8 => ("AbsentMeansAbortModel", "due", "[Z", true)
  | 9 => ("AbsentMeansAbortModel", "states", "[I", true)
  | 10 => ("AbsentMeansAbortModel", "held", "[I", true)
  | 11 => ("AbsentMeansAbortModel", "length", "[I", true)
  | 12 => ("AbsentMeansAbortModel", "logOf", "[I", true)
  | 13 => ("AbsentMeansAbortModel", "logKind", "[I", true)
  | 14 => ("AbsentMeansAbortModel", "logWhat", "[I", true)
  | 15 => ("AbsentMeansAbortModel", "logSafe", "[Z", true)
  | 16 => ("AbsentMeansAbortModel", "waiting", "I", false)
  | 17 => ("AbsentMeansAbortModel", "kinds", "[I", true)
  | 18 => ("AbsentMeansAbortModel", "from", "[I", true)
  | 19 => ("AbsentMeansAbortModel", "to", "[I", true)
  | _ => ("AbsentMeansAbortModel", "about", "[I", true)
def tyX5 : Nat → FieldType := fun k => match k with
  | 0 => .array .boolean
  | 1 => .array .int
  | 2 => .int
  | 3 => .array .int
  | 4 => .array .int
  | 5 => .array .boolean
  | 6 => .array .boolean
  | 7 => .array .boolean
  | 8 => .array .boolean
  | 9 => .array .int
  | 10 => .array .int
  | 11 => .array .int
  | 12 => .array .int
  | 13 => .array .int
  | 14 => .array .int
  | 15 => .array .boolean
  | 16 => .int
  | 17 => .array .int
  | 18 => .array .int
  | 19 => .array .int
  | _ => .array .int
theorem nmX5 : ∀ a, a < 21 → ∀ b, b < 21 → a ≠ b → (TX5 a).2.1 ≠ (TX5 b).2.1 := by decide +kernel
theorem tyX5_ok : ∀ k, k < 21 → parseFieldDescriptor (TX5 k).2.2.1 = some (tyX5 k) := by decide +kernel
def RJ6 : String := "java/lang/Integer"
def RL : String := "AbsentMeansAbortLaw"
abbrev vwCl : List vw_C := [(RX0, TX0, 4), (RX1, TX1, 5), (RX2, TX2, 2), (RX3, TX3, 4), (RX4, TX4, 6), (RX5, TX5, 21)]
abbrev cX0_init : ByteArray := prog_1_method_1_code
def yX0_init : MethodName := ⟨RX0, "<init>", "()V"⟩
abbrev cX3_init : ByteArray := prog_4_method_1_code
def yX3_init : MethodName := ⟨RX3, "<init>", "()V"⟩
abbrev cX1_init : ByteArray := prog_2_method_1_code
def yX1_init : MethodName := ⟨RX1, "<init>", "()V"⟩
abbrev cX4_init : ByteArray := prog_5_method_1_code
def yX4_init : MethodName := ⟨RX4, "<init>", "()V"⟩
abbrev cX2_init : ByteArray := prog_3_method_1_code
def yX2_init : MethodName := ⟨RX2, "<init>", "()V"⟩
abbrev cX0_begin : ByteArray := prog_1_method_2_code
def yX0_begin : MethodName := ⟨RX0, "begin", "(I)I"⟩
abbrev cX0_isNode : ByteArray := prog_1_method_32_code
def yX0_isNode : MethodName := ⟨RX0, "isNode", "(I)Z"⟩
abbrev cX0_work : ByteArray := prog_1_method_3_code
def yX0_work : MethodName := ⟨RX0, "work", "(III)I"⟩
abbrev cX0_isTransaction : ByteArray := prog_1_method_31_code
def yX0_isTransaction : MethodName := ⟨RX0, "isTransaction", "(I)Z"⟩
abbrev cX0_isResource : ByteArray := prog_1_method_33_code
def yX0_isResource : MethodName := ⟨RX0, "isResource", "(I)Z"⟩
abbrev cX0_isIn : ByteArray := prog_1_method_35_code
def yX0_isIn : MethodName := ⟨RX0, "isIn", "(II)Z"⟩
abbrev cX0_only : ByteArray := prog_1_method_34_code
def yX0_only : MethodName := ⟨RX0, "only", "(I)I"⟩
abbrev cX3_grant : ByteArray := prog_4_method_3_code
def yX3_grant : MethodName := ⟨RX3, "grant", "(II)Z"⟩
abbrev cX3_findOwner : ByteArray := prog_4_method_2_code
def yX3_findOwner : MethodName := ⟨RX3, "findOwner", "(I)I"⟩
abbrev cX0_commit : ByteArray := prog_1_method_4_code
def yX0_commit : MethodName := ⟨RX0, "commit", "(I)I"⟩
abbrev cX4_forget : ByteArray := prog_5_method_3_code
def yX4_forget : MethodName := ⟨RX4, "forget", "()V"⟩
abbrev cX2_sendToEach : ByteArray := prog_3_method_4_code
def yX2_sendToEach : MethodName := ⟨RX2, "sendToEach", "(IIII)V"⟩
abbrev cX2_send : ByteArray := prog_3_method_3_code
def yX2_send : MethodName := ⟨RX2, "send", "(IIII)V"⟩
abbrev cJ6_bitCount : ByteArray := prog_8_method_49_code
def yJ6_bitCount : MethodName := ⟨RJ6, "bitCount", "(I)I"⟩
abbrev cX0_withdraw : ByteArray := prog_1_method_5_code
def yX0_withdraw : MethodName := ⟨RX0, "withdraw", "(I)I"⟩
abbrev cX0_giveUp : ByteArray := prog_1_method_27_code
def yX0_giveUp : MethodName := ⟨RX0, "giveUp", "(II)I"⟩
abbrev cX1_write : ByteArray := prog_2_method_3_code
def yX1_write : MethodName := ⟨RX1, "write", "(III)V"⟩
abbrev cX1_labelOf : ByteArray := prog_2_method_7_code
def yX1_labelOf : MethodName := ⟨RX1, "labelOf", "(II)I"⟩
abbrev cX0_deliver : ByteArray := prog_1_method_6_code
def yX0_deliver : MethodName := ⟨RX0, "deliver", "(I)I"⟩
abbrev cX2_has : ByteArray := prog_3_method_2_code
def yX2_has : MethodName := ⟨RX2, "has", "(I)Z"⟩
abbrev cX2_takeOut : ByteArray := prog_3_method_5_code
def yX2_takeOut : MethodName := ⟨RX2, "takeOut", "(I)V"⟩
abbrev cX0_hear : ByteArray := prog_1_method_22_code
def yX0_hear : MethodName := ⟨RX0, "hear", "(IIII)V"⟩
abbrev cX3_voteOn : ByteArray := prog_4_method_5_code
def yX3_voteOn : MethodName := ⟨RX3, "voteOn", "(I)I"⟩
abbrev cX3_voteWhenWorking : ByteArray := prog_4_method_6_code
def yX3_voteWhenWorking : MethodName := ⟨RX3, "voteWhenWorking", "(I)I"⟩
abbrev cX3_letGo : ByteArray := prog_4_method_4_code
def yX3_letGo : MethodName := ⟨RX3, "letGo", "(I)V"⟩
abbrev cX1_force : ByteArray := prog_2_method_4_code
def yX1_force : MethodName := ⟨RX1, "force", "(III)V"⟩
abbrev cX3_abort : ByteArray := prog_4_method_8_code
def yX3_abort : MethodName := ⟨RX3, "abort", "(I)V"⟩
abbrev cX0_hearVote : ByteArray := prog_1_method_23_code
def yX0_hearVote : MethodName := ⟨RX0, "hearVote", "(III)V"⟩
abbrev cX4_hasAllVotes : ByteArray := prog_5_method_2_code
def yX4_hasAllVotes : MethodName := ⟨RX4, "hasAllVotes", "()Z"⟩
abbrev cX0_decide : ByteArray := prog_1_method_24_code
def yX0_decide : MethodName := ⟨RX0, "decide", "(I)V"⟩
abbrev cX3_finishCommit : ByteArray := prog_4_method_7_code
def yX3_finishCommit : MethodName := ⟨RX3, "finishCommit", "(I)V"⟩
abbrev cX0_hearAck : ByteArray := prog_1_method_25_code
def yX0_hearAck : MethodName := ⟨RX0, "hearAck", "(II)V"⟩
abbrev cX0_hearInquiry : ByteArray := prog_1_method_26_code
def yX0_hearInquiry : MethodName := ⟨RX0, "hearInquiry", "(III)V"⟩
abbrev cX0_lose : ByteArray := prog_1_method_7_code
def yX0_lose : MethodName := ⟨RX0, "lose", "(I)I"⟩
abbrev cX0_expire : ByteArray := prog_1_method_8_code
def yX0_expire : MethodName := ⟨RX0, "expire", "(IIZ)I"⟩
abbrev cX0_expireAsMember : ByteArray := prog_1_method_28_code
def yX0_expireAsMember : MethodName := ⟨RX0, "expireAsMember", "(II)I"⟩
abbrev cX0_expireAsCoordinator : ByteArray := prog_1_method_29_code
def yX0_expireAsCoordinator : MethodName := ⟨RX0, "expireAsCoordinator", "(I)I"⟩
abbrev cX0_crash : ByteArray := prog_1_method_9_code
def yX0_crash : MethodName := ⟨RX0, "crash", "(I)I"⟩
abbrev cX1_dropUnsafe : ByteArray := prog_2_method_5_code
def yX1_dropUnsafe : MethodName := ⟨RX1, "dropUnsafe", "()I"⟩
abbrev cX0_recover : ByteArray := prog_1_method_10_code
def yX0_recover : MethodName := ⟨RX0, "recover", "(I)I"⟩
abbrev cX3_restorePrepared : ByteArray := prog_4_method_9_code
def yX3_restorePrepared : MethodName := ⟨RX3, "restorePrepared", "(I)Z"⟩
abbrev cX1_find : ByteArray := prog_2_method_6_code
def yX1_find : MethodName := ⟨RX1, "find", "(II)I"⟩
abbrev cX0_restoreCommitting : ByteArray := prog_1_method_30_code
def yX0_restoreCommitting : MethodName := ⟨RX0, "restoreCommitting", "(II)Z"⟩
abbrev cX0_up : ByteArray := prog_1_method_11_code
def yX0_up : MethodName := ⟨RX0, "up", "(I)Z"⟩
abbrev cX0_stage : ByteArray := prog_1_method_12_code
def yX0_stage : MethodName := ⟨RX0, "stage", "(I)I"⟩
abbrev cX0_nodes : ByteArray := prog_1_method_13_code
def yX0_nodes : MethodName := ⟨RX0, "nodes", "(II)I"⟩
abbrev cX0_state : ByteArray := prog_1_method_14_code
def yX0_state : MethodName := ⟨RX0, "state", "(II)I"⟩
abbrev cX0_holder : ByteArray := prog_1_method_15_code
def yX0_holder : MethodName := ⟨RX0, "holder", "(II)I"⟩
abbrev cX0_records : ByteArray := prog_1_method_16_code
def yX0_records : MethodName := ⟨RX0, "records", "(IZ)I"⟩
abbrev cX0_entry : ByteArray := prog_1_method_17_code
def yX0_entry : MethodName := ⟨RX0, "entry", "(II)I"⟩
abbrev cX1_has : ByteArray := prog_2_method_2_code
def yX1_has : MethodName := ⟨RX1, "has", "(I)Z"⟩
abbrev cX0_content : ByteArray := prog_1_method_18_code
def yX0_content : MethodName := ⟨RX0, "content", "(II)I"⟩
abbrev cX0_messages : ByteArray := prog_1_method_19_code
def yX0_messages : MethodName := ⟨RX0, "messages", "()I"⟩
abbrev cX0_message : ByteArray := prog_1_method_20_code
def yX0_message : MethodName := ⟨RX0, "message", "(II)I"⟩
abbrev cX0_forced : ByteArray := prog_1_method_21_code
def yX0_forced : MethodName := ⟨RX0, "forced", "(I)I"⟩
abbrev cX5_init : ByteArray := prog_7_method_1_code
def yX5_init : MethodName := ⟨RX5, "<init>", "()V"⟩
abbrev cX5_begin : ByteArray := prog_7_method_21_code
def yX5_begin : MethodName := ⟨RX5, "begin", "(I)I"⟩
abbrev cX5_noNode : ByteArray := prog_7_method_2_code
def yX5_noNode : MethodName := ⟨RX5, "noNode", "(I)Z"⟩
abbrev cX5_work : ByteArray := prog_7_method_22_code
def yX5_work : MethodName := ⟨RX5, "work", "(III)I"⟩
abbrev cX5_noWork : ByteArray := prog_7_method_3_code
def yX5_noWork : MethodName := ⟨RX5, "noWork", "(I)Z"⟩
abbrev cX5_commit : ByteArray := prog_7_method_23_code
def yX5_commit : MethodName := ⟨RX5, "commit", "(I)I"⟩
abbrev cX5_send : ByteArray := prog_7_method_4_code
def yX5_send : MethodName := ⟨RX5, "send", "(IIII)V"⟩
abbrev cX5_forget : ByteArray := prog_7_method_12_code
def yX5_forget : MethodName := ⟨RX5, "forget", "(I)V"⟩
abbrev cX5_withdraw : ByteArray := prog_7_method_24_code
def yX5_withdraw : MethodName := ⟨RX5, "withdraw", "(I)I"⟩
abbrev cX5_pullBack : ByteArray := prog_7_method_13_code
def yX5_pullBack : MethodName := ⟨RX5, "pullBack", "(II)I"⟩
abbrev cX5_write : ByteArray := prog_7_method_6_code
def yX5_write : MethodName := ⟨RX5, "write", "(IIII)V"⟩
abbrev cX5_deliver : ByteArray := prog_7_method_25_code
def yX5_deliver : MethodName := ⟨RX5, "deliver", "(I)I"⟩
abbrev cX5_take : ByteArray := prog_7_method_5_code
def yX5_take : MethodName := ⟨RX5, "take", "(I)V"⟩
abbrev cX5_hear : ByteArray := prog_7_method_20_code
def yX5_hear : MethodName := ⟨RX5, "hear", "(IIII)V"⟩
abbrev cX5_hearPrepare : ByteArray := prog_7_method_17_code
def yX5_hearPrepare : MethodName := ⟨RX5, "hearPrepare", "(III)V"⟩
abbrev cX5_giveUp : ByteArray := prog_7_method_11_code
def yX5_giveUp : MethodName := ⟨RX5, "giveUp", "(II)V"⟩
abbrev cX5_letGo : ByteArray := prog_7_method_10_code
def yX5_letGo : MethodName := ⟨RX5, "letGo", "(II)V"⟩
abbrev cX5_holding : ByteArray := prog_7_method_9_code
def yX5_holding : MethodName := ⟨RX5, "holding", "(II)I"⟩
abbrev cX5_force : ByteArray := prog_7_method_7_code
def yX5_force : MethodName := ⟨RX5, "force", "(IIII)V"⟩
abbrev cX5_hearVote : ByteArray := prog_7_method_18_code
def yX5_hearVote : MethodName := ⟨RX5, "hearVote", "(III)V"⟩
abbrev cX5_decide : ByteArray := prog_7_method_16_code
def yX5_decide : MethodName := ⟨RX5, "decide", "(I)V"⟩
abbrev cX5_bits : ByteArray := prog_7_method_15_code
def yX5_bits : MethodName := ⟨RX5, "bits", "(II)I"⟩
abbrev cX5_sendDue : ByteArray := prog_7_method_14_code
def yX5_sendDue : MethodName := ⟨RX5, "sendDue", "(I)V"⟩
abbrev cX5_hearAck : ByteArray := prog_7_method_19_code
def yX5_hearAck : MethodName := ⟨RX5, "hearAck", "(II)V"⟩
abbrev cX5_lose : ByteArray := prog_7_method_26_code
def yX5_lose : MethodName := ⟨RX5, "lose", "(I)I"⟩
abbrev cX5_expire : ByteArray := prog_7_method_27_code
def yX5_expire : MethodName := ⟨RX5, "expire", "(IIZ)I"⟩
abbrev cX5_crash : ByteArray := prog_7_method_28_code
def yX5_crash : MethodName := ⟨RX5, "crash", "(I)I"⟩
abbrev cX5_recover : ByteArray := prog_7_method_31_code
def yX5_recover : MethodName := ⟨RX5, "recover", "(I)I"⟩
abbrev cX5_recoverMember : ByteArray := prog_7_method_29_code
def yX5_recoverMember : MethodName := ⟨RX5, "recoverMember", "(II)I"⟩
abbrev cX5_logged : ByteArray := prog_7_method_8_code
def yX5_logged : MethodName := ⟨RX5, "logged", "(III)I"⟩
abbrev cX5_recoverChief : ByteArray := prog_7_method_30_code
def yX5_recoverChief : MethodName := ⟨RX5, "recoverChief", "(II)I"⟩
abbrev cX5_up : ByteArray := prog_7_method_32_code
def yX5_up : MethodName := ⟨RX5, "up", "(I)Z"⟩
abbrev cX5_stage : ByteArray := prog_7_method_33_code
def yX5_stage : MethodName := ⟨RX5, "stage", "(I)I"⟩
abbrev cX5_nodes : ByteArray := prog_7_method_34_code
def yX5_nodes : MethodName := ⟨RX5, "nodes", "(II)I"⟩
abbrev cX5_state : ByteArray := prog_7_method_35_code
def yX5_state : MethodName := ⟨RX5, "state", "(II)I"⟩
abbrev cX5_holder : ByteArray := prog_7_method_36_code
def yX5_holder : MethodName := ⟨RX5, "holder", "(II)I"⟩
abbrev cX5_records : ByteArray := prog_7_method_37_code
def yX5_records : MethodName := ⟨RX5, "records", "(IZ)I"⟩
abbrev cX5_entry : ByteArray := prog_7_method_39_code
def yX5_entry : MethodName := ⟨RX5, "entry", "(II)I"⟩
abbrev cX5_isRecord : ByteArray := prog_7_method_38_code
def yX5_isRecord : MethodName := ⟨RX5, "isRecord", "(II)Z"⟩
abbrev cX5_content : ByteArray := prog_7_method_40_code
def yX5_content : MethodName := ⟨RX5, "content", "(II)I"⟩
abbrev cX5_messages : ByteArray := prog_7_method_41_code
def yX5_messages : MethodName := ⟨RX5, "messages", "()I"⟩
abbrev cX5_message : ByteArray := prog_7_method_42_code
def yX5_message : MethodName := ⟨RX5, "message", "(II)I"⟩
abbrev cX5_forced : ByteArray := prog_7_method_43_code
def yX5_forced : MethodName := ⟨RX5, "forced", "(I)I"⟩
abbrev cL_law : ByteArray := code
def yL_law : MethodName := ⟨RL, "law", "([I)Z"⟩
def am_all : List Cond := lw_tbl.filter goodWord
theorem am_in {c : Cond} (i : Nat) (h : tables_1[i]? = some c) (hg : goodWord c = true) : c ∈ am_all := List.mem_filter.mpr ⟨List.mem_append_right _ (List.mem_of_getElem? h), hg⟩
theorem am_inS {c : Cond} (i : Nat) (h : (k2_sels lw_privs)[i]? = some c) (hg : goodWord c = true) : c ∈ am_all := List.mem_filter.mpr ⟨List.mem_append_left _ (List.mem_of_getElem? h), hg⟩
theorem am_gd {c c2 : Cond} (h : c2 ∈ am_all) : GoodIn (c :: am_all) (c2 :: am_all) := by
  intro w hw
  have hw : w ∈ am_all := (List.mem_cons.mp hw).elim (fun q => q ▸ h) id
  exact ⟨List.mem_cons_of_mem _ hw, good_of_word (List.mem_filter.mp hw).2⟩
theorem mn_L : Cond.initialized RL ∈ am_all := am_in 0 (by decide +kernel) rfl
theorem mn_X0 : Cond.initialized RX0 ∈ am_all := am_in 1 (by decide +kernel) rfl
theorem mn_X3 : Cond.initialized RX3 ∈ am_all := am_in 2 (by decide +kernel) rfl
theorem mn_X1 : Cond.initialized RX1 ∈ am_all := am_in 3 (by decide +kernel) rfl
theorem mn_X4 : Cond.initialized RX4 ∈ am_all := am_in 4 (by decide +kernel) rfl
theorem mn_X2 : Cond.initialized RX2 ∈ am_all := am_in 5 (by decide +kernel) rfl
theorem mn_X5 : Cond.initialized RX5 ∈ am_all := am_in 6 (by decide +kernel) rfl
theorem mn_J6 : Cond.initialized RJ6 ∈ am_all := am_in 7 (by decide +kernel) rfl
theorem ml_L_9 : Cond.methodLink RL 9 yX0_init ∈ am_all := am_in 10 (by decide +kernel) rfl
theorem mi_X0_init : Cond.instanceMethod yX0_init ∈ am_all := am_in 11 (by decide +kernel) rfl
set_option maxRecDepth 100000 in
theorem mc_X0_init : Cond.code yX0_init cX0_init 2 none ∈ am_all := am_in 12 rfl rfl
theorem mi_X3_init : Cond.instanceMethod yX3_init ∈ am_all := am_in 20 (by decide +kernel) rfl
set_option maxRecDepth 100000 in
theorem mc_X3_init : Cond.code yX3_init cX3_init 1 none ∈ am_all := am_in 21 rfl rfl
theorem mi_X1_init : Cond.instanceMethod yX1_init ∈ am_all := am_in 26 (by decide +kernel) rfl
set_option maxRecDepth 100000 in
theorem mc_X1_init : Cond.code yX1_init cX1_init 1 none ∈ am_all := am_in 27 rfl rfl
theorem mf_X1_9 : Cond.fieldLink RX1 9 RX1 "labels" "[I" ∈ am_all := am_in 29 (by decide +kernel) rfl
theorem mf_X0_146 : Cond.fieldLink RX0 146 RX1 "labels" "[I" ∈ am_all := am_in 30 (by decide +kernel) rfl
theorem mf_X1_15 : Cond.fieldLink RX1 15 RX1 "contents" "[I" ∈ am_all := am_in 31 (by decide +kernel) rfl
theorem mf_X3_61 : Cond.fieldLink RX3 61 RX1 "contents" "[I" ∈ am_all := am_in 32 (by decide +kernel) rfl
theorem mf_X0_149 : Cond.fieldLink RX0 149 RX1 "contents" "[I" ∈ am_all := am_in 33 (by decide +kernel) rfl
theorem mf_X1_18 : Cond.fieldLink RX1 18 RX1 "count" "I" ∈ am_all := am_in 34 (by decide +kernel) rfl
theorem mf_X0_142 : Cond.fieldLink RX0 142 RX1 "count" "I" ∈ am_all := am_in 35 (by decide +kernel) rfl
theorem mf_X1_30 : Cond.fieldLink RX1 30 RX1 "safeCount" "I" ∈ am_all := am_in 36 (by decide +kernel) rfl
theorem mf_X0_139 : Cond.fieldLink RX0 139 RX1 "safeCount" "I" ∈ am_all := am_in 37 (by decide +kernel) rfl
theorem mf_X1_33 : Cond.fieldLink RX1 33 RX1 "forcedCount" "I" ∈ am_all := am_in 38 (by decide +kernel) rfl
theorem mf_X0_153 : Cond.fieldLink RX0 153 RX1 "forcedCount" "I" ∈ am_all := am_in 39 (by decide +kernel) rfl
theorem mf_X3_9 : Cond.fieldLink RX3 9 RX3 "running" "Z" ∈ am_all := am_in 52 (by decide +kernel) rfl
theorem mf_X0_38 : Cond.fieldLink RX0 38 RX3 "running" "Z" ∈ am_all := am_in 53 (by decide +kernel) rfl
theorem mf_X3_15 : Cond.fieldLink RX3 15 RX3 "states" "[I" ∈ am_all := am_in 54 (by decide +kernel) rfl
theorem mf_X0_61 : Cond.fieldLink RX0 61 RX3 "states" "[I" ∈ am_all := am_in 55 (by decide +kernel) rfl
theorem mf_X3_19 : Cond.fieldLink RX3 19 RX3 "held" "[I" ∈ am_all := am_in 56 (by decide +kernel) rfl
theorem mf_X3_25 : Cond.fieldLink RX3 25 RX3 "log" "LAbsentMeansAbort$Log;" ∈ am_all := am_in 57 (by decide +kernel) rfl
theorem mf_X0_111 : Cond.fieldLink RX0 111 RX3 "log" "LAbsentMeansAbort$Log;" ∈ am_all := am_in 58 (by decide +kernel) rfl
theorem mi_X4_init : Cond.instanceMethod yX4_init ∈ am_all := am_in 72 (by decide +kernel) rfl
set_option maxRecDepth 100000 in
theorem mc_X4_init : Cond.code yX4_init cX4_init 1 none ∈ am_all := am_in 73 rfl rfl
theorem mf_X0_42 : Cond.fieldLink RX0 42 RX4 "coordinator" "I" ∈ am_all := am_in 75 (by decide +kernel) rfl
theorem mf_X0_45 : Cond.fieldLink RX0 45 RX4 "phase" "I" ∈ am_all := am_in 76 (by decide +kernel) rfl
theorem mf_X4_21 : Cond.fieldLink RX4 21 RX4 "phase" "I" ∈ am_all := am_in 77 (by decide +kernel) rfl
theorem mf_X4_9 : Cond.fieldLink RX4 9 RX4 "members" "I" ∈ am_all := am_in 78 (by decide +kernel) rfl
theorem mf_X0_54 : Cond.fieldLink RX0 54 RX4 "members" "I" ∈ am_all := am_in 79 (by decide +kernel) rfl
theorem mf_X4_15 : Cond.fieldLink RX4 15 RX4 "saidYes" "I" ∈ am_all := am_in 80 (by decide +kernel) rfl
theorem mf_X0_127 : Cond.fieldLink RX0 127 RX4 "saidYes" "I" ∈ am_all := am_in 81 (by decide +kernel) rfl
theorem mf_X4_18 : Cond.fieldLink RX4 18 RX4 "saidRead" "I" ∈ am_all := am_in 82 (by decide +kernel) rfl
theorem mf_X0_130 : Cond.fieldLink RX0 130 RX4 "saidRead" "I" ∈ am_all := am_in 83 (by decide +kernel) rfl
theorem mf_X4_24 : Cond.fieldLink RX4 24 RX4 "due" "I" ∈ am_all := am_in 84 (by decide +kernel) rfl
theorem mf_X0_133 : Cond.fieldLink RX0 133 RX4 "due" "I" ∈ am_all := am_in 85 (by decide +kernel) rfl
theorem mi_X2_init : Cond.instanceMethod yX2_init ∈ am_all := am_in 102 (by decide +kernel) rfl
set_option maxRecDepth 100000 in
theorem mc_X2_init : Cond.code yX2_init cX2_init 1 none ∈ am_all := am_in 103 rfl rfl
theorem mf_X2_11 : Cond.fieldLink RX2 11 RX2 "parts" "[[I" ∈ am_all := am_in 107 (by decide +kernel) rfl
theorem mf_X0_91 : Cond.fieldLink RX0 91 RX2 "parts" "[[I" ∈ am_all := am_in 108 (by decide +kernel) rfl
theorem mf_X2_16 : Cond.fieldLink RX2 16 RX2 "count" "I" ∈ am_all := am_in 109 (by decide +kernel) rfl
theorem mf_X0_152 : Cond.fieldLink RX0 152 RX2 "count" "I" ∈ am_all := am_in 110 (by decide +kernel) rfl
theorem mf_X0_11 : Cond.fieldLink RX0 11 RX0 "allNodes" "[LAbsentMeansAbort$Node;" ∈ am_all := am_in 116 (by decide +kernel) rfl
theorem mf_X0_18 : Cond.fieldLink RX0 18 RX0 "transactions" "[LAbsentMeansAbort$Transaction;" ∈ am_all := am_in 117 (by decide +kernel) rfl
theorem mf_X0_26 : Cond.fieldLink RX0 26 RX0 "row" "LAbsentMeansAbort$MessageRow;" ∈ am_all := am_in 118 (by decide +kernel) rfl
theorem mf_X0_30 : Cond.fieldLink RX0 30 RX0 "begun" "I" ∈ am_all := am_in 119 (by decide +kernel) rfl
theorem ml_L_13 : Cond.methodLink RL 13 yX0_begin ∈ am_all := am_in 129 (by decide +kernel) rfl
theorem mi_X0_begin : Cond.instanceMethod yX0_begin ∈ am_all := am_in 130 (by decide +kernel) rfl
theorem me_X0_begin : Cond.selects RX0 yX0_begin yX0_begin ∈ am_all := am_in 131 (by decide +kernel) rfl
set_option maxRecDepth 100000 in
theorem mc_X0_begin : Cond.code yX0_begin cX0_begin 3 (some .int) ∈ am_all := am_in 132 rfl rfl
theorem ml_X0_34 : Cond.methodLink RX0 34 yX0_isNode ∈ am_all := am_in 133 (by decide +kernel) rfl
theorem ms_X0_isNode : Cond.static yX0_isNode ∈ am_all := am_in 134 (by decide +kernel) rfl
set_option maxRecDepth 100000 in
theorem mc_X0_isNode : Cond.code yX0_isNode cX0_isNode 1 (some .boolean) ∈ am_all := am_in 135 rfl rfl
theorem ml_L_18 : Cond.methodLink RL 18 yX0_work ∈ am_all := am_in 136 (by decide +kernel) rfl
theorem mi_X0_work : Cond.instanceMethod yX0_work ∈ am_all := am_in 137 (by decide +kernel) rfl
theorem me_X0_work : Cond.selects RX0 yX0_work yX0_work ∈ am_all := am_in 138 (by decide +kernel) rfl
set_option maxRecDepth 100000 in
theorem mc_X0_work : Cond.code yX0_work cX0_work 7 (some .int) ∈ am_all := am_in 139 rfl rfl
theorem ml_X0_48 : Cond.methodLink RX0 48 yX0_isTransaction ∈ am_all := am_in 140 (by decide +kernel) rfl
theorem mi_X0_isTransaction : Cond.instanceMethod yX0_isTransaction ∈ am_all := am_in 142 (by decide +kernel) rfl
set_option maxRecDepth 100000 in
theorem mc_X0_isTransaction : Cond.code yX0_isTransaction cX0_isTransaction 2 (some .boolean) ∈ am_all := am_in 143 rfl rfl
theorem ml_X0_51 : Cond.methodLink RX0 51 yX0_isResource ∈ am_all := am_in 144 (by decide +kernel) rfl
theorem ms_X0_isResource : Cond.static yX0_isResource ∈ am_all := am_in 145 (by decide +kernel) rfl
set_option maxRecDepth 100000 in
theorem mc_X0_isResource : Cond.code yX0_isResource cX0_isResource 1 (some .boolean) ∈ am_all := am_in 146 rfl rfl
theorem ml_X0_57 : Cond.methodLink RX0 57 yX0_isIn ∈ am_all := am_in 147 (by decide +kernel) rfl
theorem ms_X0_isIn : Cond.static yX0_isIn ∈ am_all := am_in 148 (by decide +kernel) rfl
set_option maxRecDepth 100000 in
theorem mc_X0_isIn : Cond.code yX0_isIn cX0_isIn 2 (some .boolean) ∈ am_all := am_in 149 rfl rfl
theorem ml_X0_65 : Cond.methodLink RX0 65 yX0_only ∈ am_all := am_in 150 (by decide +kernel) rfl
theorem ms_X0_only : Cond.static yX0_only ∈ am_all := am_in 151 (by decide +kernel) rfl
set_option maxRecDepth 100000 in
theorem mc_X0_only : Cond.code yX0_only cX0_only 1 (some .int) ∈ am_all := am_in 152 rfl rfl
theorem ml_X0_69 : Cond.methodLink RX0 69 yX3_grant ∈ am_all := am_in 153 (by decide +kernel) rfl
theorem mi_X3_grant : Cond.instanceMethod yX3_grant ∈ am_all := am_in 154 (by decide +kernel) rfl
theorem me_X3_grant : Cond.selects RX3 yX3_grant yX3_grant ∈ am_all := am_in 155 (by decide +kernel) rfl
set_option maxRecDepth 100000 in
theorem mc_X3_grant : Cond.code yX3_grant cX3_grant 4 (some .boolean) ∈ am_all := am_in 156 rfl rfl
theorem ml_X3_33 : Cond.methodLink RX3 33 yX3_findOwner ∈ am_all := am_in 157 (by decide +kernel) rfl
theorem mi_X3_findOwner : Cond.instanceMethod yX3_findOwner ∈ am_all := am_in 158 (by decide +kernel) rfl
theorem me_X3_findOwner : Cond.selects RX3 yX3_findOwner yX3_findOwner ∈ am_all := am_in 159 (by decide +kernel) rfl
set_option maxRecDepth 100000 in
theorem mc_X3_findOwner : Cond.code yX3_findOwner cX3_findOwner 3 (some .int) ∈ am_all := am_in 160 rfl rfl
theorem ml_L_23 : Cond.methodLink RL 23 yX0_commit ∈ am_all := am_in 163 (by decide +kernel) rfl
theorem mi_X0_commit : Cond.instanceMethod yX0_commit ∈ am_all := am_in 164 (by decide +kernel) rfl
theorem me_X0_commit : Cond.selects RX0 yX0_commit yX0_commit ∈ am_all := am_in 165 (by decide +kernel) rfl
set_option maxRecDepth 100000 in
theorem mc_X0_commit : Cond.code yX0_commit cX0_commit 3 (some .int) ∈ am_all := am_in 166 rfl rfl
theorem ml_X0_72 : Cond.methodLink RX0 72 yX4_forget ∈ am_all := am_in 167 (by decide +kernel) rfl
theorem mi_X4_forget : Cond.instanceMethod yX4_forget ∈ am_all := am_in 168 (by decide +kernel) rfl
theorem me_X4_forget : Cond.selects RX4 yX4_forget yX4_forget ∈ am_all := am_in 169 (by decide +kernel) rfl
set_option maxRecDepth 100000 in
theorem mc_X4_forget : Cond.code yX4_forget cX4_forget 1 none ∈ am_all := am_in 170 rfl rfl
theorem ml_X0_75 : Cond.methodLink RX0 75 yX2_sendToEach ∈ am_all := am_in 171 (by decide +kernel) rfl
theorem mi_X2_sendToEach : Cond.instanceMethod yX2_sendToEach ∈ am_all := am_in 172 (by decide +kernel) rfl
theorem me_X2_sendToEach : Cond.selects RX2 yX2_sendToEach yX2_sendToEach ∈ am_all := am_in 173 (by decide +kernel) rfl
set_option maxRecDepth 100000 in
theorem mc_X2_sendToEach : Cond.code yX2_sendToEach cX2_sendToEach 6 none ∈ am_all := am_in 174 rfl rfl
theorem ml_X2_24 : Cond.methodLink RX2 24 yX2_send ∈ am_all := am_in 176 (by decide +kernel) rfl
theorem mi_X2_send : Cond.instanceMethod yX2_send ∈ am_all := am_in 177 (by decide +kernel) rfl
theorem me_X2_send : Cond.selects RX2 yX2_send yX2_send ∈ am_all := am_in 178 (by decide +kernel) rfl
set_option maxRecDepth 100000 in
theorem mc_X2_send : Cond.code yX2_send cX2_send 5 none ∈ am_all := am_in 179 rfl rfl
theorem ml_X0_79 : Cond.methodLink RX0 79 yJ6_bitCount ∈ am_all := am_in 180 (by decide +kernel) rfl
theorem ms_J6_bitCount : Cond.static yJ6_bitCount ∈ am_all := am_in 181 (by decide +kernel) rfl
set_option maxRecDepth 100000 in
theorem mc_J6_bitCount : Cond.code yJ6_bitCount cJ6_bitCount 1 (some .int) ∈ am_all := am_in 182 rfl rfl
theorem mk_J6_265 : Cond.constant RJ6 265 1431655765 ∈ am_all := am_in 183 (by decide +kernel) rfl
theorem mk_J6_266 : Cond.constant RJ6 266 858993459 ∈ am_all := am_in 184 (by decide +kernel) rfl
theorem mk_J6_267 : Cond.constant RJ6 267 252645135 ∈ am_all := am_in 185 (by decide +kernel) rfl
theorem ml_L_27 : Cond.methodLink RL 27 yX0_withdraw ∈ am_all := am_in 186 (by decide +kernel) rfl
theorem mi_X0_withdraw : Cond.instanceMethod yX0_withdraw ∈ am_all := am_in 187 (by decide +kernel) rfl
theorem me_X0_withdraw : Cond.selects RX0 yX0_withdraw yX0_withdraw ∈ am_all := am_in 188 (by decide +kernel) rfl
set_option maxRecDepth 100000 in
theorem mc_X0_withdraw : Cond.code yX0_withdraw cX0_withdraw 3 (some .int) ∈ am_all := am_in 189 rfl rfl
theorem ml_X0_84 : Cond.methodLink RX0 84 yX0_giveUp ∈ am_all := am_in 190 (by decide +kernel) rfl
theorem mi_X0_giveUp : Cond.instanceMethod yX0_giveUp ∈ am_all := am_in 192 (by decide +kernel) rfl
set_option maxRecDepth 100000 in
theorem mc_X0_giveUp : Cond.code yX0_giveUp cX0_giveUp 5 (some .int) ∈ am_all := am_in 193 rfl rfl
theorem ml_X0_189 : Cond.methodLink RX0 189 yX1_write ∈ am_all := am_in 194 (by decide +kernel) rfl
theorem mi_X1_write : Cond.instanceMethod yX1_write ∈ am_all := am_in 195 (by decide +kernel) rfl
theorem me_X1_write : Cond.selects RX1 yX1_write yX1_write ∈ am_all := am_in 196 (by decide +kernel) rfl
set_option maxRecDepth 100000 in
theorem mc_X1_write : Cond.code yX1_write cX1_write 4 none ∈ am_all := am_in 197 rfl rfl
theorem ml_X1_22 : Cond.methodLink RX1 22 yX1_labelOf ∈ am_all := am_in 198 (by decide +kernel) rfl
theorem ms_X1_labelOf : Cond.static yX1_labelOf ∈ am_all := am_in 199 (by decide +kernel) rfl
set_option maxRecDepth 100000 in
theorem mc_X1_labelOf : Cond.code yX1_labelOf cX1_labelOf 2 (some .int) ∈ am_all := am_in 200 rfl rfl
theorem ml_L_31 : Cond.methodLink RL 31 yX0_deliver ∈ am_all := am_in 201 (by decide +kernel) rfl
theorem mi_X0_deliver : Cond.instanceMethod yX0_deliver ∈ am_all := am_in 202 (by decide +kernel) rfl
theorem me_X0_deliver : Cond.selects RX0 yX0_deliver yX0_deliver ∈ am_all := am_in 203 (by decide +kernel) rfl
set_option maxRecDepth 100000 in
theorem mc_X0_deliver : Cond.code yX0_deliver cX0_deliver 6 (some .int) ∈ am_all := am_in 204 rfl rfl
theorem ml_X0_88 : Cond.methodLink RX0 88 yX2_has ∈ am_all := am_in 205 (by decide +kernel) rfl
theorem mi_X2_has : Cond.instanceMethod yX2_has ∈ am_all := am_in 206 (by decide +kernel) rfl
theorem me_X2_has : Cond.selects RX2 yX2_has yX2_has ∈ am_all := am_in 207 (by decide +kernel) rfl
set_option maxRecDepth 100000 in
theorem mc_X2_has : Cond.code yX2_has cX2_has 2 (some .boolean) ∈ am_all := am_in 208 rfl rfl
theorem ml_X0_95 : Cond.methodLink RX0 95 yX2_takeOut ∈ am_all := am_in 209 (by decide +kernel) rfl
theorem mi_X2_takeOut : Cond.instanceMethod yX2_takeOut ∈ am_all := am_in 210 (by decide +kernel) rfl
theorem me_X2_takeOut : Cond.selects RX2 yX2_takeOut yX2_takeOut ∈ am_all := am_in 211 (by decide +kernel) rfl
set_option maxRecDepth 100000 in
theorem mc_X2_takeOut : Cond.code yX2_takeOut cX2_takeOut 4 none ∈ am_all := am_in 212 rfl rfl
theorem ml_X0_99 : Cond.methodLink RX0 99 yX0_hear ∈ am_all := am_in 213 (by decide +kernel) rfl
theorem mi_X0_hear : Cond.instanceMethod yX0_hear ∈ am_all := am_in 215 (by decide +kernel) rfl
set_option maxRecDepth 100000 in
theorem mc_X0_hear : Cond.code yX0_hear cX0_hear 5 none ∈ am_all := am_in 216 rfl rfl
theorem ml_X0_156 : Cond.methodLink RX0 156 yX3_voteOn ∈ am_all := am_in 217 (by decide +kernel) rfl
theorem mi_X3_voteOn : Cond.instanceMethod yX3_voteOn ∈ am_all := am_in 218 (by decide +kernel) rfl
theorem me_X3_voteOn : Cond.selects RX3 yX3_voteOn yX3_voteOn ∈ am_all := am_in 219 (by decide +kernel) rfl
set_option maxRecDepth 100000 in
theorem mc_X3_voteOn : Cond.code yX3_voteOn cX3_voteOn 2 (some .int) ∈ am_all := am_in 220 rfl rfl
theorem ml_X3_40 : Cond.methodLink RX3 40 yX3_voteWhenWorking ∈ am_all := am_in 221 (by decide +kernel) rfl
theorem mi_X3_voteWhenWorking : Cond.instanceMethod yX3_voteWhenWorking ∈ am_all := am_in 223 (by decide +kernel) rfl
set_option maxRecDepth 100000 in
theorem mc_X3_voteWhenWorking : Cond.code yX3_voteWhenWorking cX3_voteWhenWorking 2 (some .int) ∈ am_all := am_in 224 rfl rfl
theorem ml_X3_47 : Cond.methodLink RX3 47 yX3_letGo ∈ am_all := am_in 225 (by decide +kernel) rfl
theorem mi_X3_letGo : Cond.instanceMethod yX3_letGo ∈ am_all := am_in 226 (by decide +kernel) rfl
theorem me_X3_letGo : Cond.selects RX3 yX3_letGo yX3_letGo ∈ am_all := am_in 227 (by decide +kernel) rfl
set_option maxRecDepth 100000 in
theorem mc_X3_letGo : Cond.code yX3_letGo cX3_letGo 2 none ∈ am_all := am_in 228 rfl rfl
theorem ml_X3_50 : Cond.methodLink RX3 50 yX1_force ∈ am_all := am_in 229 (by decide +kernel) rfl
theorem mi_X1_force : Cond.instanceMethod yX1_force ∈ am_all := am_in 230 (by decide +kernel) rfl
theorem me_X1_force : Cond.selects RX1 yX1_force yX1_force ∈ am_all := am_in 231 (by decide +kernel) rfl
set_option maxRecDepth 100000 in
theorem mc_X1_force : Cond.code yX1_force cX1_force 4 none ∈ am_all := am_in 232 rfl rfl
theorem ml_X1_26 : Cond.methodLink RX1 26 yX1_write ∈ am_all := am_in 233 (by decide +kernel) rfl
theorem ml_X3_43 : Cond.methodLink RX3 43 yX3_abort ∈ am_all := am_in 234 (by decide +kernel) rfl
theorem mi_X3_abort : Cond.instanceMethod yX3_abort ∈ am_all := am_in 235 (by decide +kernel) rfl
theorem me_X3_abort : Cond.selects RX3 yX3_abort yX3_abort ∈ am_all := am_in 236 (by decide +kernel) rfl
set_option maxRecDepth 100000 in
theorem mc_X3_abort : Cond.code yX3_abort cX3_abort 2 none ∈ am_all := am_in 237 rfl rfl
theorem ml_X3_54 : Cond.methodLink RX3 54 yX1_write ∈ am_all := am_in 238 (by decide +kernel) rfl
theorem ml_X0_159 : Cond.methodLink RX0 159 yX2_send ∈ am_all := am_in 239 (by decide +kernel) rfl
theorem ml_X0_162 : Cond.methodLink RX0 162 yX0_hearVote ∈ am_all := am_in 240 (by decide +kernel) rfl
theorem mi_X0_hearVote : Cond.instanceMethod yX0_hearVote ∈ am_all := am_in 242 (by decide +kernel) rfl
set_option maxRecDepth 100000 in
theorem mc_X0_hearVote : Cond.code yX0_hearVote cX0_hearVote 5 none ∈ am_all := am_in 243 rfl rfl
theorem ml_X0_179 : Cond.methodLink RX0 179 yX4_hasAllVotes ∈ am_all := am_in 244 (by decide +kernel) rfl
theorem mi_X4_hasAllVotes : Cond.instanceMethod yX4_hasAllVotes ∈ am_all := am_in 245 (by decide +kernel) rfl
theorem me_X4_hasAllVotes : Cond.selects RX4 yX4_hasAllVotes yX4_hasAllVotes ∈ am_all := am_in 246 (by decide +kernel) rfl
set_option maxRecDepth 100000 in
theorem mc_X4_hasAllVotes : Cond.code yX4_hasAllVotes cX4_hasAllVotes 1 (some .boolean) ∈ am_all := am_in 247 rfl rfl
theorem ml_X0_183 : Cond.methodLink RX0 183 yX0_decide ∈ am_all := am_in 248 (by decide +kernel) rfl
theorem mi_X0_decide : Cond.instanceMethod yX0_decide ∈ am_all := am_in 250 (by decide +kernel) rfl
set_option maxRecDepth 100000 in
theorem mc_X0_decide : Cond.code yX0_decide cX0_decide 3 none ∈ am_all := am_in 251 rfl rfl
theorem ml_X0_186 : Cond.methodLink RX0 186 yX1_force ∈ am_all := am_in 252 (by decide +kernel) rfl
theorem ml_X0_166 : Cond.methodLink RX0 166 yX3_finishCommit ∈ am_all := am_in 253 (by decide +kernel) rfl
theorem mi_X3_finishCommit : Cond.instanceMethod yX3_finishCommit ∈ am_all := am_in 254 (by decide +kernel) rfl
theorem me_X3_finishCommit : Cond.selects RX3 yX3_finishCommit yX3_finishCommit ∈ am_all := am_in 255 (by decide +kernel) rfl
set_option maxRecDepth 100000 in
theorem mc_X3_finishCommit : Cond.code yX3_finishCommit cX3_finishCommit 2 none ∈ am_all := am_in 256 rfl rfl
theorem ml_X0_169 : Cond.methodLink RX0 169 yX3_abort ∈ am_all := am_in 257 (by decide +kernel) rfl
theorem ml_X0_172 : Cond.methodLink RX0 172 yX0_hearAck ∈ am_all := am_in 258 (by decide +kernel) rfl
theorem mi_X0_hearAck : Cond.instanceMethod yX0_hearAck ∈ am_all := am_in 260 (by decide +kernel) rfl
set_option maxRecDepth 100000 in
theorem mc_X0_hearAck : Cond.code yX0_hearAck cX0_hearAck 4 none ∈ am_all := am_in 261 rfl rfl
theorem ml_X0_176 : Cond.methodLink RX0 176 yX0_hearInquiry ∈ am_all := am_in 262 (by decide +kernel) rfl
theorem mi_X0_hearInquiry : Cond.instanceMethod yX0_hearInquiry ∈ am_all := am_in 264 (by decide +kernel) rfl
set_option maxRecDepth 100000 in
theorem mc_X0_hearInquiry : Cond.code yX0_hearInquiry cX0_hearInquiry 5 none ∈ am_all := am_in 265 rfl rfl
theorem ml_L_35 : Cond.methodLink RL 35 yX0_lose ∈ am_all := am_in 266 (by decide +kernel) rfl
theorem mi_X0_lose : Cond.instanceMethod yX0_lose ∈ am_all := am_in 267 (by decide +kernel) rfl
theorem me_X0_lose : Cond.selects RX0 yX0_lose yX0_lose ∈ am_all := am_in 268 (by decide +kernel) rfl
set_option maxRecDepth 100000 in
theorem mc_X0_lose : Cond.code yX0_lose cX0_lose 3 (some .int) ∈ am_all := am_in 269 rfl rfl
theorem ml_L_39 : Cond.methodLink RL 39 yX0_expire ∈ am_all := am_in 270 (by decide +kernel) rfl
theorem mi_X0_expire : Cond.instanceMethod yX0_expire ∈ am_all := am_in 271 (by decide +kernel) rfl
theorem me_X0_expire : Cond.selects RX0 yX0_expire yX0_expire ∈ am_all := am_in 272 (by decide +kernel) rfl
set_option maxRecDepth 100000 in
theorem mc_X0_expire : Cond.code yX0_expire cX0_expire 4 (some .int) ∈ am_all := am_in 273 rfl rfl
theorem ml_X0_102 : Cond.methodLink RX0 102 yX0_expireAsMember ∈ am_all := am_in 274 (by decide +kernel) rfl
theorem mi_X0_expireAsMember : Cond.instanceMethod yX0_expireAsMember ∈ am_all := am_in 276 (by decide +kernel) rfl
set_option maxRecDepth 100000 in
theorem mc_X0_expireAsMember : Cond.code yX0_expireAsMember cX0_expireAsMember 4 (some .int) ∈ am_all := am_in 277 rfl rfl
theorem ml_X0_105 : Cond.methodLink RX0 105 yX0_expireAsCoordinator ∈ am_all := am_in 278 (by decide +kernel) rfl
theorem mi_X0_expireAsCoordinator : Cond.instanceMethod yX0_expireAsCoordinator ∈ am_all := am_in 280 (by decide +kernel) rfl
set_option maxRecDepth 100000 in
theorem mc_X0_expireAsCoordinator : Cond.code yX0_expireAsCoordinator cX0_expireAsCoordinator 3 (some .int) ∈ am_all := am_in 281 rfl rfl
theorem ml_L_44 : Cond.methodLink RL 44 yX0_crash ∈ am_all := am_in 282 (by decide +kernel) rfl
theorem mi_X0_crash : Cond.instanceMethod yX0_crash ∈ am_all := am_in 283 (by decide +kernel) rfl
theorem me_X0_crash : Cond.selects RX0 yX0_crash yX0_crash ∈ am_all := am_in 284 (by decide +kernel) rfl
set_option maxRecDepth 100000 in
theorem mc_X0_crash : Cond.code yX0_crash cX0_crash 4 (some .int) ∈ am_all := am_in 285 rfl rfl
theorem ml_X0_108 : Cond.methodLink RX0 108 yX3_letGo ∈ am_all := am_in 286 (by decide +kernel) rfl
theorem ml_X0_115 : Cond.methodLink RX0 115 yX1_dropUnsafe ∈ am_all := am_in 287 (by decide +kernel) rfl
theorem mi_X1_dropUnsafe : Cond.instanceMethod yX1_dropUnsafe ∈ am_all := am_in 288 (by decide +kernel) rfl
theorem me_X1_dropUnsafe : Cond.selects RX1 yX1_dropUnsafe yX1_dropUnsafe ∈ am_all := am_in 289 (by decide +kernel) rfl
set_option maxRecDepth 100000 in
theorem mc_X1_dropUnsafe : Cond.code yX1_dropUnsafe cX1_dropUnsafe 2 (some .int) ∈ am_all := am_in 290 rfl rfl
theorem ml_L_48 : Cond.methodLink RL 48 yX0_recover ∈ am_all := am_in 291 (by decide +kernel) rfl
theorem mi_X0_recover : Cond.instanceMethod yX0_recover ∈ am_all := am_in 292 (by decide +kernel) rfl
theorem me_X0_recover : Cond.selects RX0 yX0_recover yX0_recover ∈ am_all := am_in 293 (by decide +kernel) rfl
set_option maxRecDepth 100000 in
theorem mc_X0_recover : Cond.code yX0_recover cX0_recover 5 (some .int) ∈ am_all := am_in 294 rfl rfl
theorem ml_X0_121 : Cond.methodLink RX0 121 yX3_restorePrepared ∈ am_all := am_in 295 (by decide +kernel) rfl
theorem mi_X3_restorePrepared : Cond.instanceMethod yX3_restorePrepared ∈ am_all := am_in 296 (by decide +kernel) rfl
theorem me_X3_restorePrepared : Cond.selects RX3 yX3_restorePrepared yX3_restorePrepared ∈ am_all := am_in 297 (by decide +kernel) rfl
set_option maxRecDepth 100000 in
theorem mc_X3_restorePrepared : Cond.code yX3_restorePrepared cX3_restorePrepared 3 (some .boolean) ∈ am_all := am_in 298 rfl rfl
theorem ml_X3_57 : Cond.methodLink RX3 57 yX1_find ∈ am_all := am_in 299 (by decide +kernel) rfl
theorem mi_X1_find : Cond.instanceMethod yX1_find ∈ am_all := am_in 300 (by decide +kernel) rfl
theorem me_X1_find : Cond.selects RX1 yX1_find yX1_find ∈ am_all := am_in 301 (by decide +kernel) rfl
set_option maxRecDepth 100000 in
theorem mc_X1_find : Cond.code yX1_find cX1_find 5 (some .int) ∈ am_all := am_in 302 rfl rfl
theorem ml_X0_124 : Cond.methodLink RX0 124 yX0_restoreCommitting ∈ am_all := am_in 303 (by decide +kernel) rfl
theorem mi_X0_restoreCommitting : Cond.instanceMethod yX0_restoreCommitting ∈ am_all := am_in 305 (by decide +kernel) rfl
set_option maxRecDepth 100000 in
theorem mc_X0_restoreCommitting : Cond.code yX0_restoreCommitting cX0_restoreCommitting 7 (some .boolean) ∈ am_all := am_in 306 rfl rfl
theorem ml_X0_192 : Cond.methodLink RX0 192 yX1_find ∈ am_all := am_in 307 (by decide +kernel) rfl
theorem ml_L_52 : Cond.methodLink RL 52 yX0_up ∈ am_all := am_in 308 (by decide +kernel) rfl
theorem mi_X0_up : Cond.instanceMethod yX0_up ∈ am_all := am_in 309 (by decide +kernel) rfl
theorem me_X0_up : Cond.selects RX0 yX0_up yX0_up ∈ am_all := am_in 310 (by decide +kernel) rfl
set_option maxRecDepth 100000 in
theorem mc_X0_up : Cond.code yX0_up cX0_up 2 (some .boolean) ∈ am_all := am_in 311 rfl rfl
theorem ml_L_57 : Cond.methodLink RL 57 yX0_stage ∈ am_all := am_in 312 (by decide +kernel) rfl
theorem mi_X0_stage : Cond.instanceMethod yX0_stage ∈ am_all := am_in 313 (by decide +kernel) rfl
theorem me_X0_stage : Cond.selects RX0 yX0_stage yX0_stage ∈ am_all := am_in 314 (by decide +kernel) rfl
set_option maxRecDepth 100000 in
theorem mc_X0_stage : Cond.code yX0_stage cX0_stage 2 (some .int) ∈ am_all := am_in 315 rfl rfl
theorem ml_L_61 : Cond.methodLink RL 61 yX0_nodes ∈ am_all := am_in 316 (by decide +kernel) rfl
theorem mi_X0_nodes : Cond.instanceMethod yX0_nodes ∈ am_all := am_in 317 (by decide +kernel) rfl
theorem me_X0_nodes : Cond.selects RX0 yX0_nodes yX0_nodes ∈ am_all := am_in 318 (by decide +kernel) rfl
set_option maxRecDepth 100000 in
theorem mc_X0_nodes : Cond.code yX0_nodes cX0_nodes 3 (some .int) ∈ am_all := am_in 319 rfl rfl
theorem ml_L_66 : Cond.methodLink RL 66 yX0_state ∈ am_all := am_in 320 (by decide +kernel) rfl
theorem mi_X0_state : Cond.instanceMethod yX0_state ∈ am_all := am_in 321 (by decide +kernel) rfl
theorem me_X0_state : Cond.selects RX0 yX0_state yX0_state ∈ am_all := am_in 322 (by decide +kernel) rfl
set_option maxRecDepth 100000 in
theorem mc_X0_state : Cond.code yX0_state cX0_state 3 (some .int) ∈ am_all := am_in 323 rfl rfl
theorem ml_L_70 : Cond.methodLink RL 70 yX0_holder ∈ am_all := am_in 324 (by decide +kernel) rfl
theorem mi_X0_holder : Cond.instanceMethod yX0_holder ∈ am_all := am_in 325 (by decide +kernel) rfl
theorem me_X0_holder : Cond.selects RX0 yX0_holder yX0_holder ∈ am_all := am_in 326 (by decide +kernel) rfl
set_option maxRecDepth 100000 in
theorem mc_X0_holder : Cond.code yX0_holder cX0_holder 3 (some .int) ∈ am_all := am_in 327 rfl rfl
theorem ml_X0_136 : Cond.methodLink RX0 136 yX3_findOwner ∈ am_all := am_in 328 (by decide +kernel) rfl
theorem ml_L_74 : Cond.methodLink RL 74 yX0_records ∈ am_all := am_in 329 (by decide +kernel) rfl
theorem mi_X0_records : Cond.instanceMethod yX0_records ∈ am_all := am_in 330 (by decide +kernel) rfl
theorem me_X0_records : Cond.selects RX0 yX0_records yX0_records ∈ am_all := am_in 331 (by decide +kernel) rfl
set_option maxRecDepth 100000 in
theorem mc_X0_records : Cond.code yX0_records cX0_records 4 (some .int) ∈ am_all := am_in 332 rfl rfl
theorem ml_L_79 : Cond.methodLink RL 79 yX0_entry ∈ am_all := am_in 333 (by decide +kernel) rfl
theorem mi_X0_entry : Cond.instanceMethod yX0_entry ∈ am_all := am_in 334 (by decide +kernel) rfl
theorem me_X0_entry : Cond.selects RX0 yX0_entry yX0_entry ∈ am_all := am_in 335 (by decide +kernel) rfl
set_option maxRecDepth 100000 in
theorem mc_X0_entry : Cond.code yX0_entry cX0_entry 4 (some .int) ∈ am_all := am_in 336 rfl rfl
theorem ml_X0_145 : Cond.methodLink RX0 145 yX1_has ∈ am_all := am_in 337 (by decide +kernel) rfl
theorem mi_X1_has : Cond.instanceMethod yX1_has ∈ am_all := am_in 338 (by decide +kernel) rfl
theorem me_X1_has : Cond.selects RX1 yX1_has yX1_has ∈ am_all := am_in 339 (by decide +kernel) rfl
set_option maxRecDepth 100000 in
theorem mc_X1_has : Cond.code yX1_has cX1_has 2 (some .boolean) ∈ am_all := am_in 340 rfl rfl
theorem ml_L_83 : Cond.methodLink RL 83 yX0_content ∈ am_all := am_in 341 (by decide +kernel) rfl
theorem mi_X0_content : Cond.instanceMethod yX0_content ∈ am_all := am_in 342 (by decide +kernel) rfl
theorem me_X0_content : Cond.selects RX0 yX0_content yX0_content ∈ am_all := am_in 343 (by decide +kernel) rfl
set_option maxRecDepth 100000 in
theorem mc_X0_content : Cond.code yX0_content cX0_content 4 (some .int) ∈ am_all := am_in 344 rfl rfl
theorem ml_L_87 : Cond.methodLink RL 87 yX0_messages ∈ am_all := am_in 345 (by decide +kernel) rfl
theorem mi_X0_messages : Cond.instanceMethod yX0_messages ∈ am_all := am_in 346 (by decide +kernel) rfl
theorem me_X0_messages : Cond.selects RX0 yX0_messages yX0_messages ∈ am_all := am_in 347 (by decide +kernel) rfl
set_option maxRecDepth 100000 in
theorem mc_X0_messages : Cond.code yX0_messages cX0_messages 1 (some .int) ∈ am_all := am_in 348 rfl rfl
theorem ml_L_92 : Cond.methodLink RL 92 yX0_message ∈ am_all := am_in 349 (by decide +kernel) rfl
theorem mi_X0_message : Cond.instanceMethod yX0_message ∈ am_all := am_in 350 (by decide +kernel) rfl
theorem me_X0_message : Cond.selects RX0 yX0_message yX0_message ∈ am_all := am_in 351 (by decide +kernel) rfl
set_option maxRecDepth 100000 in
theorem mc_X0_message : Cond.code yX0_message cX0_message 3 (some .int) ∈ am_all := am_in 352 rfl rfl
theorem ml_L_96 : Cond.methodLink RL 96 yX0_forced ∈ am_all := am_in 353 (by decide +kernel) rfl
theorem mi_X0_forced : Cond.instanceMethod yX0_forced ∈ am_all := am_in 354 (by decide +kernel) rfl
theorem me_X0_forced : Cond.selects RX0 yX0_forced yX0_forced ∈ am_all := am_in 355 (by decide +kernel) rfl
set_option maxRecDepth 100000 in
theorem mc_X0_forced : Cond.code yX0_forced cX0_forced 2 (some .int) ∈ am_all := am_in 356 rfl rfl
theorem ml_L_12 : Cond.methodLink RL 12 yX5_init ∈ am_all := am_in 359 (by decide +kernel) rfl
theorem mi_X5_init : Cond.instanceMethod yX5_init ∈ am_all := am_in 360 (by decide +kernel) rfl
set_option maxRecDepth 100000 in
theorem mc_X5_init : Cond.code yX5_init cX5_init 1 none ∈ am_all := am_in 361 rfl rfl
theorem mf_X5_7 : Cond.fieldLink RX5 7 RX5 "down" "[Z" ∈ am_all := am_in 363 (by decide +kernel) rfl
theorem mf_X5_13 : Cond.fieldLink RX5 13 RX5 "forces" "[I" ∈ am_all := am_in 364 (by decide +kernel) rfl
theorem mf_X5_68 : Cond.fieldLink RX5 68 RX5 "count" "I" ∈ am_all := am_in 365 (by decide +kernel) rfl
theorem mf_X5_17 : Cond.fieldLink RX5 17 RX5 "chief" "[I" ∈ am_all := am_in 366 (by decide +kernel) rfl
theorem mf_X5_20 : Cond.fieldLink RX5 20 RX5 "stages" "[I" ∈ am_all := am_in 367 (by decide +kernel) rfl
theorem mf_X5_23 : Cond.fieldLink RX5 23 RX5 "member" "[Z" ∈ am_all := am_in 368 (by decide +kernel) rfl
theorem mf_X5_26 : Cond.fieldLink RX5 26 RX5 "yes" "[Z" ∈ am_all := am_in 369 (by decide +kernel) rfl
theorem mf_X5_29 : Cond.fieldLink RX5 29 RX5 "read" "[Z" ∈ am_all := am_in 370 (by decide +kernel) rfl
theorem mf_X5_32 : Cond.fieldLink RX5 32 RX5 "due" "[Z" ∈ am_all := am_in 371 (by decide +kernel) rfl
theorem mf_X5_35 : Cond.fieldLink RX5 35 RX5 "states" "[I" ∈ am_all := am_in 372 (by decide +kernel) rfl
theorem mf_X5_38 : Cond.fieldLink RX5 38 RX5 "held" "[I" ∈ am_all := am_in 373 (by decide +kernel) rfl
theorem mf_X5_41 : Cond.fieldLink RX5 41 RX5 "length" "[I" ∈ am_all := am_in 374 (by decide +kernel) rfl
theorem mf_X5_44 : Cond.fieldLink RX5 44 RX5 "logOf" "[I" ∈ am_all := am_in 375 (by decide +kernel) rfl
theorem mf_X5_47 : Cond.fieldLink RX5 47 RX5 "logKind" "[I" ∈ am_all := am_in 376 (by decide +kernel) rfl
theorem mf_X5_50 : Cond.fieldLink RX5 50 RX5 "logWhat" "[I" ∈ am_all := am_in 377 (by decide +kernel) rfl
theorem mf_X5_53 : Cond.fieldLink RX5 53 RX5 "logSafe" "[Z" ∈ am_all := am_in 378 (by decide +kernel) rfl
theorem mf_X5_72 : Cond.fieldLink RX5 72 RX5 "waiting" "I" ∈ am_all := am_in 379 (by decide +kernel) rfl
theorem mf_X5_56 : Cond.fieldLink RX5 56 RX5 "kinds" "[I" ∈ am_all := am_in 380 (by decide +kernel) rfl
theorem mf_X5_59 : Cond.fieldLink RX5 59 RX5 "from" "[I" ∈ am_all := am_in 381 (by decide +kernel) rfl
theorem mf_X5_62 : Cond.fieldLink RX5 62 RX5 "to" "[I" ∈ am_all := am_in 382 (by decide +kernel) rfl
theorem mf_X5_65 : Cond.fieldLink RX5 65 RX5 "about" "[I" ∈ am_all := am_in 383 (by decide +kernel) rfl
theorem ml_L_17 : Cond.methodLink RL 17 yX5_begin ∈ am_all := am_in 428 (by decide +kernel) rfl
theorem mi_X5_begin : Cond.instanceMethod yX5_begin ∈ am_all := am_in 429 (by decide +kernel) rfl
theorem me_X5_begin : Cond.selects RX5 yX5_begin yX5_begin ∈ am_all := am_in 430 (by decide +kernel) rfl
set_option maxRecDepth 100000 in
theorem mc_X5_begin : Cond.code yX5_begin cX5_begin 2 (some .int) ∈ am_all := am_in 431 rfl rfl
theorem ml_X5_122 : Cond.methodLink RX5 122 yX5_noNode ∈ am_all := am_in 432 (by decide +kernel) rfl
theorem ms_X5_noNode : Cond.static yX5_noNode ∈ am_all := am_in 433 (by decide +kernel) rfl
set_option maxRecDepth 100000 in
theorem mc_X5_noNode : Cond.code yX5_noNode cX5_noNode 1 (some .boolean) ∈ am_all := am_in 434 rfl rfl
theorem ml_L_22 : Cond.methodLink RL 22 yX5_work ∈ am_all := am_in 435 (by decide +kernel) rfl
theorem mi_X5_work : Cond.instanceMethod yX5_work ∈ am_all := am_in 436 (by decide +kernel) rfl
theorem me_X5_work : Cond.selects RX5 yX5_work yX5_work ∈ am_all := am_in 437 (by decide +kernel) rfl
set_option maxRecDepth 100000 in
theorem mc_X5_work : Cond.code yX5_work cX5_work 6 (some .int) ∈ am_all := am_in 438 rfl rfl
theorem ml_X5_126 : Cond.methodLink RX5 126 yX5_noWork ∈ am_all := am_in 439 (by decide +kernel) rfl
theorem mi_X5_noWork : Cond.instanceMethod yX5_noWork ∈ am_all := am_in 441 (by decide +kernel) rfl
set_option maxRecDepth 100000 in
theorem mc_X5_noWork : Cond.code yX5_noWork cX5_noWork 2 (some .boolean) ∈ am_all := am_in 442 rfl rfl
theorem ml_L_26 : Cond.methodLink RL 26 yX5_commit ∈ am_all := am_in 443 (by decide +kernel) rfl
theorem mi_X5_commit : Cond.instanceMethod yX5_commit ∈ am_all := am_in 444 (by decide +kernel) rfl
theorem me_X5_commit : Cond.selects RX5 yX5_commit yX5_commit ∈ am_all := am_in 445 (by decide +kernel) rfl
set_option maxRecDepth 100000 in
theorem mc_X5_commit : Cond.code yX5_commit cX5_commit 4 (some .int) ∈ am_all := am_in 446 rfl rfl
theorem ml_X5_83 : Cond.methodLink RX5 83 yX5_send ∈ am_all := am_in 447 (by decide +kernel) rfl
theorem mi_X5_send : Cond.instanceMethod yX5_send ∈ am_all := am_in 449 (by decide +kernel) rfl
set_option maxRecDepth 100000 in
theorem mc_X5_send : Cond.code yX5_send cX5_send 5 none ∈ am_all := am_in 450 rfl rfl
theorem ml_X5_86 : Cond.methodLink RX5 86 yX5_forget ∈ am_all := am_in 451 (by decide +kernel) rfl
theorem mi_X5_forget : Cond.instanceMethod yX5_forget ∈ am_all := am_in 453 (by decide +kernel) rfl
set_option maxRecDepth 100000 in
theorem mc_X5_forget : Cond.code yX5_forget cX5_forget 3 none ∈ am_all := am_in 454 rfl rfl
theorem ml_L_30 : Cond.methodLink RL 30 yX5_withdraw ∈ am_all := am_in 455 (by decide +kernel) rfl
theorem mi_X5_withdraw : Cond.instanceMethod yX5_withdraw ∈ am_all := am_in 456 (by decide +kernel) rfl
theorem me_X5_withdraw : Cond.selects RX5 yX5_withdraw yX5_withdraw ∈ am_all := am_in 457 (by decide +kernel) rfl
set_option maxRecDepth 100000 in
theorem mc_X5_withdraw : Cond.code yX5_withdraw cX5_withdraw 2 (some .int) ∈ am_all := am_in 458 rfl rfl
theorem ml_X5_106 : Cond.methodLink RX5 106 yX5_pullBack ∈ am_all := am_in 459 (by decide +kernel) rfl
theorem mi_X5_pullBack : Cond.instanceMethod yX5_pullBack ∈ am_all := am_in 461 (by decide +kernel) rfl
set_option maxRecDepth 100000 in
theorem mc_X5_pullBack : Cond.code yX5_pullBack cX5_pullBack 5 (some .int) ∈ am_all := am_in 462 rfl rfl
theorem ml_X5_75 : Cond.methodLink RX5 75 yX5_write ∈ am_all := am_in 463 (by decide +kernel) rfl
theorem mi_X5_write : Cond.instanceMethod yX5_write ∈ am_all := am_in 465 (by decide +kernel) rfl
set_option maxRecDepth 100000 in
theorem mc_X5_write : Cond.code yX5_write cX5_write 6 none ∈ am_all := am_in 466 rfl rfl
theorem ml_L_34 : Cond.methodLink RL 34 yX5_deliver ∈ am_all := am_in 467 (by decide +kernel) rfl
theorem mi_X5_deliver : Cond.instanceMethod yX5_deliver ∈ am_all := am_in 468 (by decide +kernel) rfl
theorem me_X5_deliver : Cond.selects RX5 yX5_deliver yX5_deliver ∈ am_all := am_in 469 (by decide +kernel) rfl
set_option maxRecDepth 100000 in
theorem mc_X5_deliver : Cond.code yX5_deliver cX5_deliver 6 (some .int) ∈ am_all := am_in 470 rfl rfl
theorem ml_X5_129 : Cond.methodLink RX5 129 yX5_take ∈ am_all := am_in 471 (by decide +kernel) rfl
theorem mi_X5_take : Cond.instanceMethod yX5_take ∈ am_all := am_in 473 (by decide +kernel) rfl
set_option maxRecDepth 100000 in
theorem mc_X5_take : Cond.code yX5_take cX5_take 3 none ∈ am_all := am_in 474 rfl rfl
theorem ml_X5_132 : Cond.methodLink RX5 132 yX5_hear ∈ am_all := am_in 475 (by decide +kernel) rfl
theorem mi_X5_hear : Cond.instanceMethod yX5_hear ∈ am_all := am_in 477 (by decide +kernel) rfl
set_option maxRecDepth 100000 in
theorem mc_X5_hear : Cond.code yX5_hear cX5_hear 5 none ∈ am_all := am_in 478 rfl rfl
theorem ml_X5_112 : Cond.methodLink RX5 112 yX5_hearPrepare ∈ am_all := am_in 479 (by decide +kernel) rfl
theorem mi_X5_hearPrepare : Cond.instanceMethod yX5_hearPrepare ∈ am_all := am_in 481 (by decide +kernel) rfl
set_option maxRecDepth 100000 in
theorem mc_X5_hearPrepare : Cond.code yX5_hearPrepare cX5_hearPrepare 6 none ∈ am_all := am_in 482 rfl rfl
theorem ml_X5_100 : Cond.methodLink RX5 100 yX5_giveUp ∈ am_all := am_in 483 (by decide +kernel) rfl
theorem mi_X5_giveUp : Cond.instanceMethod yX5_giveUp ∈ am_all := am_in 485 (by decide +kernel) rfl
set_option maxRecDepth 100000 in
theorem mc_X5_giveUp : Cond.code yX5_giveUp cX5_giveUp 3 none ∈ am_all := am_in 486 rfl rfl
theorem ml_X5_79 : Cond.methodLink RX5 79 yX5_letGo ∈ am_all := am_in 487 (by decide +kernel) rfl
theorem mi_X5_letGo : Cond.instanceMethod yX5_letGo ∈ am_all := am_in 489 (by decide +kernel) rfl
set_option maxRecDepth 100000 in
theorem mc_X5_letGo : Cond.code yX5_letGo cX5_letGo 4 none ∈ am_all := am_in 490 rfl rfl
theorem ml_X5_103 : Cond.methodLink RX5 103 yX5_holding ∈ am_all := am_in 491 (by decide +kernel) rfl
theorem mi_X5_holding : Cond.instanceMethod yX5_holding ∈ am_all := am_in 493 (by decide +kernel) rfl
set_option maxRecDepth 100000 in
theorem mc_X5_holding : Cond.code yX5_holding cX5_holding 5 (some .int) ∈ am_all := am_in 494 rfl rfl
theorem ml_X5_94 : Cond.methodLink RX5 94 yX5_force ∈ am_all := am_in 495 (by decide +kernel) rfl
theorem mi_X5_force : Cond.instanceMethod yX5_force ∈ am_all := am_in 497 (by decide +kernel) rfl
set_option maxRecDepth 100000 in
theorem mc_X5_force : Cond.code yX5_force cX5_force 6 none ∈ am_all := am_in 498 rfl rfl
theorem ml_X5_116 : Cond.methodLink RX5 116 yX5_hearVote ∈ am_all := am_in 499 (by decide +kernel) rfl
theorem mi_X5_hearVote : Cond.instanceMethod yX5_hearVote ∈ am_all := am_in 501 (by decide +kernel) rfl
set_option maxRecDepth 100000 in
theorem mc_X5_hearVote : Cond.code yX5_hearVote cX5_hearVote 5 none ∈ am_all := am_in 502 rfl rfl
theorem ml_X5_109 : Cond.methodLink RX5 109 yX5_decide ∈ am_all := am_in 503 (by decide +kernel) rfl
theorem mi_X5_decide : Cond.instanceMethod yX5_decide ∈ am_all := am_in 505 (by decide +kernel) rfl
set_option maxRecDepth 100000 in
theorem mc_X5_decide : Cond.code yX5_decide cX5_decide 4 none ∈ am_all := am_in 506 rfl rfl
theorem ml_X5_90 : Cond.methodLink RX5 90 yX5_bits ∈ am_all := am_in 507 (by decide +kernel) rfl
theorem mi_X5_bits : Cond.instanceMethod yX5_bits ∈ am_all := am_in 509 (by decide +kernel) rfl
set_option maxRecDepth 100000 in
theorem mc_X5_bits : Cond.code yX5_bits cX5_bits 7 (some .int) ∈ am_all := am_in 510 rfl rfl
theorem ml_X5_97 : Cond.methodLink RX5 97 yX5_sendDue ∈ am_all := am_in 511 (by decide +kernel) rfl
theorem mi_X5_sendDue : Cond.instanceMethod yX5_sendDue ∈ am_all := am_in 513 (by decide +kernel) rfl
set_option maxRecDepth 100000 in
theorem mc_X5_sendDue : Cond.code yX5_sendDue cX5_sendDue 3 none ∈ am_all := am_in 514 rfl rfl
theorem ml_X5_119 : Cond.methodLink RX5 119 yX5_hearAck ∈ am_all := am_in 515 (by decide +kernel) rfl
theorem mi_X5_hearAck : Cond.instanceMethod yX5_hearAck ∈ am_all := am_in 517 (by decide +kernel) rfl
set_option maxRecDepth 100000 in
theorem mc_X5_hearAck : Cond.code yX5_hearAck cX5_hearAck 3 none ∈ am_all := am_in 518 rfl rfl
theorem ml_L_38 : Cond.methodLink RL 38 yX5_lose ∈ am_all := am_in 519 (by decide +kernel) rfl
theorem mi_X5_lose : Cond.instanceMethod yX5_lose ∈ am_all := am_in 520 (by decide +kernel) rfl
theorem me_X5_lose : Cond.selects RX5 yX5_lose yX5_lose ∈ am_all := am_in 521 (by decide +kernel) rfl
set_option maxRecDepth 100000 in
theorem mc_X5_lose : Cond.code yX5_lose cX5_lose 3 (some .int) ∈ am_all := am_in 522 rfl rfl
theorem ml_L_43 : Cond.methodLink RL 43 yX5_expire ∈ am_all := am_in 523 (by decide +kernel) rfl
theorem mi_X5_expire : Cond.instanceMethod yX5_expire ∈ am_all := am_in 524 (by decide +kernel) rfl
theorem me_X5_expire : Cond.selects RX5 yX5_expire yX5_expire ∈ am_all := am_in 525 (by decide +kernel) rfl
set_option maxRecDepth 100000 in
theorem mc_X5_expire : Cond.code yX5_expire cX5_expire 6 (some .int) ∈ am_all := am_in 526 rfl rfl
theorem ml_L_47 : Cond.methodLink RL 47 yX5_crash ∈ am_all := am_in 527 (by decide +kernel) rfl
theorem mi_X5_crash : Cond.instanceMethod yX5_crash ∈ am_all := am_in 528 (by decide +kernel) rfl
theorem me_X5_crash : Cond.selects RX5 yX5_crash yX5_crash ∈ am_all := am_in 529 (by decide +kernel) rfl
set_option maxRecDepth 100000 in
theorem mc_X5_crash : Cond.code yX5_crash cX5_crash 3 (some .int) ∈ am_all := am_in 530 rfl rfl
theorem ml_L_51 : Cond.methodLink RL 51 yX5_recover ∈ am_all := am_in 531 (by decide +kernel) rfl
theorem mi_X5_recover : Cond.instanceMethod yX5_recover ∈ am_all := am_in 532 (by decide +kernel) rfl
theorem me_X5_recover : Cond.selects RX5 yX5_recover yX5_recover ∈ am_all := am_in 533 (by decide +kernel) rfl
set_option maxRecDepth 100000 in
theorem mc_X5_recover : Cond.code yX5_recover cX5_recover 4 (some .int) ∈ am_all := am_in 534 rfl rfl
theorem ml_X5_139 : Cond.methodLink RX5 139 yX5_recoverMember ∈ am_all := am_in 535 (by decide +kernel) rfl
theorem mi_X5_recoverMember : Cond.instanceMethod yX5_recoverMember ∈ am_all := am_in 537 (by decide +kernel) rfl
set_option maxRecDepth 100000 in
theorem mc_X5_recoverMember : Cond.code yX5_recoverMember cX5_recoverMember 5 (some .int) ∈ am_all := am_in 538 rfl rfl
theorem ml_X5_135 : Cond.methodLink RX5 135 yX5_logged ∈ am_all := am_in 539 (by decide +kernel) rfl
theorem mi_X5_logged : Cond.instanceMethod yX5_logged ∈ am_all := am_in 541 (by decide +kernel) rfl
set_option maxRecDepth 100000 in
theorem mc_X5_logged : Cond.code yX5_logged cX5_logged 5 (some .int) ∈ am_all := am_in 542 rfl rfl
theorem ml_X5_142 : Cond.methodLink RX5 142 yX5_recoverChief ∈ am_all := am_in 543 (by decide +kernel) rfl
theorem mi_X5_recoverChief : Cond.instanceMethod yX5_recoverChief ∈ am_all := am_in 545 (by decide +kernel) rfl
set_option maxRecDepth 100000 in
theorem mc_X5_recoverChief : Cond.code yX5_recoverChief cX5_recoverChief 6 (some .int) ∈ am_all := am_in 546 rfl rfl
theorem ml_L_56 : Cond.methodLink RL 56 yX5_up ∈ am_all := am_in 547 (by decide +kernel) rfl
theorem mi_X5_up : Cond.instanceMethod yX5_up ∈ am_all := am_in 548 (by decide +kernel) rfl
theorem me_X5_up : Cond.selects RX5 yX5_up yX5_up ∈ am_all := am_in 549 (by decide +kernel) rfl
set_option maxRecDepth 100000 in
theorem mc_X5_up : Cond.code yX5_up cX5_up 2 (some .boolean) ∈ am_all := am_in 550 rfl rfl
theorem ml_L_60 : Cond.methodLink RL 60 yX5_stage ∈ am_all := am_in 551 (by decide +kernel) rfl
theorem mi_X5_stage : Cond.instanceMethod yX5_stage ∈ am_all := am_in 552 (by decide +kernel) rfl
theorem me_X5_stage : Cond.selects RX5 yX5_stage yX5_stage ∈ am_all := am_in 553 (by decide +kernel) rfl
set_option maxRecDepth 100000 in
theorem mc_X5_stage : Cond.code yX5_stage cX5_stage 2 (some .int) ∈ am_all := am_in 554 rfl rfl
theorem ml_L_65 : Cond.methodLink RL 65 yX5_nodes ∈ am_all := am_in 555 (by decide +kernel) rfl
theorem mi_X5_nodes : Cond.instanceMethod yX5_nodes ∈ am_all := am_in 556 (by decide +kernel) rfl
theorem me_X5_nodes : Cond.selects RX5 yX5_nodes yX5_nodes ∈ am_all := am_in 557 (by decide +kernel) rfl
set_option maxRecDepth 100000 in
theorem mc_X5_nodes : Cond.code yX5_nodes cX5_nodes 3 (some .int) ∈ am_all := am_in 558 rfl rfl
theorem ml_L_69 : Cond.methodLink RL 69 yX5_state ∈ am_all := am_in 559 (by decide +kernel) rfl
theorem mi_X5_state : Cond.instanceMethod yX5_state ∈ am_all := am_in 560 (by decide +kernel) rfl
theorem me_X5_state : Cond.selects RX5 yX5_state yX5_state ∈ am_all := am_in 561 (by decide +kernel) rfl
set_option maxRecDepth 100000 in
theorem mc_X5_state : Cond.code yX5_state cX5_state 3 (some .int) ∈ am_all := am_in 562 rfl rfl
theorem ml_L_73 : Cond.methodLink RL 73 yX5_holder ∈ am_all := am_in 563 (by decide +kernel) rfl
theorem mi_X5_holder : Cond.instanceMethod yX5_holder ∈ am_all := am_in 564 (by decide +kernel) rfl
theorem me_X5_holder : Cond.selects RX5 yX5_holder yX5_holder ∈ am_all := am_in 565 (by decide +kernel) rfl
set_option maxRecDepth 100000 in
theorem mc_X5_holder : Cond.code yX5_holder cX5_holder 3 (some .int) ∈ am_all := am_in 566 rfl rfl
theorem ml_L_78 : Cond.methodLink RL 78 yX5_records ∈ am_all := am_in 567 (by decide +kernel) rfl
theorem mi_X5_records : Cond.instanceMethod yX5_records ∈ am_all := am_in 568 (by decide +kernel) rfl
theorem me_X5_records : Cond.selects RX5 yX5_records yX5_records ∈ am_all := am_in 569 (by decide +kernel) rfl
set_option maxRecDepth 100000 in
theorem mc_X5_records : Cond.code yX5_records cX5_records 5 (some .int) ∈ am_all := am_in 570 rfl rfl
theorem ml_L_82 : Cond.methodLink RL 82 yX5_entry ∈ am_all := am_in 571 (by decide +kernel) rfl
theorem mi_X5_entry : Cond.instanceMethod yX5_entry ∈ am_all := am_in 572 (by decide +kernel) rfl
theorem me_X5_entry : Cond.selects RX5 yX5_entry yX5_entry ∈ am_all := am_in 573 (by decide +kernel) rfl
set_option maxRecDepth 100000 in
theorem mc_X5_entry : Cond.code yX5_entry cX5_entry 3 (some .int) ∈ am_all := am_in 574 rfl rfl
theorem ml_X5_145 : Cond.methodLink RX5 145 yX5_isRecord ∈ am_all := am_in 575 (by decide +kernel) rfl
theorem mi_X5_isRecord : Cond.instanceMethod yX5_isRecord ∈ am_all := am_in 577 (by decide +kernel) rfl
set_option maxRecDepth 100000 in
theorem mc_X5_isRecord : Cond.code yX5_isRecord cX5_isRecord 3 (some .boolean) ∈ am_all := am_in 578 rfl rfl
theorem ml_L_86 : Cond.methodLink RL 86 yX5_content ∈ am_all := am_in 579 (by decide +kernel) rfl
theorem mi_X5_content : Cond.instanceMethod yX5_content ∈ am_all := am_in 580 (by decide +kernel) rfl
theorem me_X5_content : Cond.selects RX5 yX5_content yX5_content ∈ am_all := am_in 581 (by decide +kernel) rfl
set_option maxRecDepth 100000 in
theorem mc_X5_content : Cond.code yX5_content cX5_content 3 (some .int) ∈ am_all := am_in 582 rfl rfl
theorem ml_L_91 : Cond.methodLink RL 91 yX5_messages ∈ am_all := am_in 583 (by decide +kernel) rfl
theorem mi_X5_messages : Cond.instanceMethod yX5_messages ∈ am_all := am_in 584 (by decide +kernel) rfl
theorem me_X5_messages : Cond.selects RX5 yX5_messages yX5_messages ∈ am_all := am_in 585 (by decide +kernel) rfl
set_option maxRecDepth 100000 in
theorem mc_X5_messages : Cond.code yX5_messages cX5_messages 1 (some .int) ∈ am_all := am_in 586 rfl rfl
theorem ml_L_95 : Cond.methodLink RL 95 yX5_message ∈ am_all := am_in 587 (by decide +kernel) rfl
theorem mi_X5_message : Cond.instanceMethod yX5_message ∈ am_all := am_in 588 (by decide +kernel) rfl
theorem me_X5_message : Cond.selects RX5 yX5_message yX5_message ∈ am_all := am_in 589 (by decide +kernel) rfl
set_option maxRecDepth 100000 in
theorem mc_X5_message : Cond.code yX5_message cX5_message 3 (some .int) ∈ am_all := am_in 590 rfl rfl
theorem ml_L_99 : Cond.methodLink RL 99 yX5_forced ∈ am_all := am_in 591 (by decide +kernel) rfl
theorem mi_X5_forced : Cond.instanceMethod yX5_forced ∈ am_all := am_in 592 (by decide +kernel) rfl
theorem me_X5_forced : Cond.selects RX5 yX5_forced yX5_forced ∈ am_all := am_in 593 (by decide +kernel) rfl
set_option maxRecDepth 100000 in
theorem mc_X5_forced : Cond.code yX5_forced cX5_forced 2 (some .int) ∈ am_all := am_in 594 rfl rfl
theorem me_X0_isTransaction : Cond.selects RX0 yX0_isTransaction yX0_isTransaction ∈ am_all := am_inS 0 (by decide +kernel) rfl
theorem me_X0_giveUp : Cond.selects RX0 yX0_giveUp yX0_giveUp ∈ am_all := am_inS 1 (by decide +kernel) rfl
theorem me_X0_hear : Cond.selects RX0 yX0_hear yX0_hear ∈ am_all := am_inS 2 (by decide +kernel) rfl
theorem me_X3_voteWhenWorking : Cond.selects RX3 yX3_voteWhenWorking yX3_voteWhenWorking ∈ am_all := am_inS 3 (by decide +kernel) rfl
theorem me_X0_hearVote : Cond.selects RX0 yX0_hearVote yX0_hearVote ∈ am_all := am_inS 4 (by decide +kernel) rfl
theorem me_X0_decide : Cond.selects RX0 yX0_decide yX0_decide ∈ am_all := am_inS 5 (by decide +kernel) rfl
theorem me_X0_hearAck : Cond.selects RX0 yX0_hearAck yX0_hearAck ∈ am_all := am_inS 6 (by decide +kernel) rfl
theorem me_X0_hearInquiry : Cond.selects RX0 yX0_hearInquiry yX0_hearInquiry ∈ am_all := am_inS 7 (by decide +kernel) rfl
theorem me_X0_expireAsMember : Cond.selects RX0 yX0_expireAsMember yX0_expireAsMember ∈ am_all := am_inS 8 (by decide +kernel) rfl
theorem me_X0_expireAsCoordinator : Cond.selects RX0 yX0_expireAsCoordinator yX0_expireAsCoordinator ∈ am_all := am_inS 9 (by decide +kernel) rfl
theorem me_X0_restoreCommitting : Cond.selects RX0 yX0_restoreCommitting yX0_restoreCommitting ∈ am_all := am_inS 10 (by decide +kernel) rfl
theorem me_X5_noWork : Cond.selects RX5 yX5_noWork yX5_noWork ∈ am_all := am_inS 11 (by decide +kernel) rfl
theorem me_X5_send : Cond.selects RX5 yX5_send yX5_send ∈ am_all := am_inS 12 (by decide +kernel) rfl
theorem me_X5_forget : Cond.selects RX5 yX5_forget yX5_forget ∈ am_all := am_inS 13 (by decide +kernel) rfl
theorem me_X5_pullBack : Cond.selects RX5 yX5_pullBack yX5_pullBack ∈ am_all := am_inS 14 (by decide +kernel) rfl
theorem me_X5_write : Cond.selects RX5 yX5_write yX5_write ∈ am_all := am_inS 15 (by decide +kernel) rfl
theorem me_X5_take : Cond.selects RX5 yX5_take yX5_take ∈ am_all := am_inS 16 (by decide +kernel) rfl
theorem me_X5_hear : Cond.selects RX5 yX5_hear yX5_hear ∈ am_all := am_inS 17 (by decide +kernel) rfl
theorem me_X5_hearPrepare : Cond.selects RX5 yX5_hearPrepare yX5_hearPrepare ∈ am_all := am_inS 18 (by decide +kernel) rfl
theorem me_X5_giveUp : Cond.selects RX5 yX5_giveUp yX5_giveUp ∈ am_all := am_inS 19 (by decide +kernel) rfl
theorem me_X5_letGo : Cond.selects RX5 yX5_letGo yX5_letGo ∈ am_all := am_inS 20 (by decide +kernel) rfl
theorem me_X5_holding : Cond.selects RX5 yX5_holding yX5_holding ∈ am_all := am_inS 21 (by decide +kernel) rfl
theorem me_X5_force : Cond.selects RX5 yX5_force yX5_force ∈ am_all := am_inS 22 (by decide +kernel) rfl
theorem me_X5_hearVote : Cond.selects RX5 yX5_hearVote yX5_hearVote ∈ am_all := am_inS 23 (by decide +kernel) rfl
theorem me_X5_decide : Cond.selects RX5 yX5_decide yX5_decide ∈ am_all := am_inS 24 (by decide +kernel) rfl
theorem me_X5_bits : Cond.selects RX5 yX5_bits yX5_bits ∈ am_all := am_inS 25 (by decide +kernel) rfl
theorem me_X5_sendDue : Cond.selects RX5 yX5_sendDue yX5_sendDue ∈ am_all := am_inS 26 (by decide +kernel) rfl
theorem me_X5_hearAck : Cond.selects RX5 yX5_hearAck yX5_hearAck ∈ am_all := am_inS 27 (by decide +kernel) rfl
theorem me_X5_recoverMember : Cond.selects RX5 yX5_recoverMember yX5_recoverMember ∈ am_all := am_inS 28 (by decide +kernel) rfl
theorem me_X5_logged : Cond.selects RX5 yX5_logged yX5_logged ∈ am_all := am_inS 29 (by decide +kernel) rfl
theorem me_X5_recoverChief : Cond.selects RX5 yX5_recoverChief yX5_recoverChief ∈ am_all := am_inS 30 (by decide +kernel) rfl
theorem me_X5_isRecord : Cond.selects RX5 yX5_isRecord yX5_isRecord ∈ am_all := am_inS 31 (by decide +kernel) rfl
theorem mu_X0 : ∀ w ∈ u_ws RX0 TX0 4, w ∈ am_all := by
  have h : (u_ws RX0 TX0 4).all (fun w => decide (w ∈ am_all)) = true := by decide +kernel
  exact fun w hw => of_decide_eq_true (List.all_eq_true.mp h w hw)
theorem mu_X1 : ∀ w ∈ u_ws RX1 TX1 5, w ∈ am_all := by
  have h : (u_ws RX1 TX1 5).all (fun w => decide (w ∈ am_all)) = true := by decide +kernel
  exact fun w hw => of_decide_eq_true (List.all_eq_true.mp h w hw)
theorem mu_X2 : ∀ w ∈ u_ws RX2 TX2 2, w ∈ am_all := by
  have h : (u_ws RX2 TX2 2).all (fun w => decide (w ∈ am_all)) = true := by decide +kernel
  exact fun w hw => of_decide_eq_true (List.all_eq_true.mp h w hw)
theorem mu_X3 : ∀ w ∈ u_ws RX3 TX3 4, w ∈ am_all := by
  have h : (u_ws RX3 TX3 4).all (fun w => decide (w ∈ am_all)) = true := by decide +kernel
  exact fun w hw => of_decide_eq_true (List.all_eq_true.mp h w hw)
theorem mu_X4 : ∀ w ∈ u_ws RX4 TX4 6, w ∈ am_all := by
  have h : (u_ws RX4 TX4 6).all (fun w => decide (w ∈ am_all)) = true := by decide +kernel
  exact fun w hw => of_decide_eq_true (List.all_eq_true.mp h w hw)
theorem mu_X5 : ∀ w ∈ u_ws RX5 TX5 21, w ∈ am_all := by
  have h : (u_ws RX5 TX5 21).all (fun w => decide (w ∈ am_all)) = true := by decide +kernel
  exact fun w hw => of_decide_eq_true (List.all_eq_true.mp h w hw)
def wsX0_init : List Cond := Cond.code yX0_init cX0_init 2 none :: am_all
theorem dc_X0_init : yX0_init.cls ≠ "java/lang/invoke/MethodHandle" ∧ yX0_init.cls ≠ "java/lang/invoke/VarHandle" ∧ (parseMethodDescriptor yX0_init.desc).map (fun d => d.parameters.length) = some 0 := by decide +kernel
def wsX3_init : List Cond := Cond.code yX3_init cX3_init 1 none :: am_all
theorem dc_X3_init : yX3_init.cls ≠ "java/lang/invoke/MethodHandle" ∧ yX3_init.cls ≠ "java/lang/invoke/VarHandle" ∧ (parseMethodDescriptor yX3_init.desc).map (fun d => d.parameters.length) = some 0 := by decide +kernel
def wsX1_init : List Cond := Cond.code yX1_init cX1_init 1 none :: am_all
theorem dc_X1_init : yX1_init.cls ≠ "java/lang/invoke/MethodHandle" ∧ yX1_init.cls ≠ "java/lang/invoke/VarHandle" ∧ (parseMethodDescriptor yX1_init.desc).map (fun d => d.parameters.length) = some 0 := by decide +kernel
def wsX4_init : List Cond := Cond.code yX4_init cX4_init 1 none :: am_all
theorem dc_X4_init : yX4_init.cls ≠ "java/lang/invoke/MethodHandle" ∧ yX4_init.cls ≠ "java/lang/invoke/VarHandle" ∧ (parseMethodDescriptor yX4_init.desc).map (fun d => d.parameters.length) = some 0 := by decide +kernel
def wsX2_init : List Cond := Cond.code yX2_init cX2_init 1 none :: am_all
theorem dc_X2_init : yX2_init.cls ≠ "java/lang/invoke/MethodHandle" ∧ yX2_init.cls ≠ "java/lang/invoke/VarHandle" ∧ (parseMethodDescriptor yX2_init.desc).map (fun d => d.parameters.length) = some 0 := by decide +kernel
def wsX0_begin : List Cond := Cond.code yX0_begin cX0_begin 3 (some .int) :: am_all
theorem dc_X0_begin : yX0_begin.cls ≠ "java/lang/invoke/MethodHandle" ∧ yX0_begin.cls ≠ "java/lang/invoke/VarHandle" ∧ (parseMethodDescriptor yX0_begin.desc).map (fun d => d.parameters.length) = some 1 := by decide +kernel
def wsX0_isNode : List Cond := Cond.code yX0_isNode cX0_isNode 1 (some .boolean) :: am_all
theorem dc_X0_isNode : yX0_isNode.cls ≠ "java/lang/invoke/MethodHandle" ∧ yX0_isNode.cls ≠ "java/lang/invoke/VarHandle" ∧ (parseMethodDescriptor yX0_isNode.desc).map (fun d => d.parameters.length) = some 1 := by decide +kernel
def wsX0_work : List Cond := Cond.code yX0_work cX0_work 7 (some .int) :: am_all
theorem dc_X0_work : yX0_work.cls ≠ "java/lang/invoke/MethodHandle" ∧ yX0_work.cls ≠ "java/lang/invoke/VarHandle" ∧ (parseMethodDescriptor yX0_work.desc).map (fun d => d.parameters.length) = some 3 := by decide +kernel
def wsX0_isTransaction : List Cond := Cond.code yX0_isTransaction cX0_isTransaction 2 (some .boolean) :: am_all
theorem dc_X0_isTransaction : yX0_isTransaction.cls ≠ "java/lang/invoke/MethodHandle" ∧ yX0_isTransaction.cls ≠ "java/lang/invoke/VarHandle" ∧ (parseMethodDescriptor yX0_isTransaction.desc).map (fun d => d.parameters.length) = some 1 := by decide +kernel
def wsX0_isResource : List Cond := Cond.code yX0_isResource cX0_isResource 1 (some .boolean) :: am_all
theorem dc_X0_isResource : yX0_isResource.cls ≠ "java/lang/invoke/MethodHandle" ∧ yX0_isResource.cls ≠ "java/lang/invoke/VarHandle" ∧ (parseMethodDescriptor yX0_isResource.desc).map (fun d => d.parameters.length) = some 1 := by decide +kernel
def wsX0_isIn : List Cond := Cond.code yX0_isIn cX0_isIn 2 (some .boolean) :: am_all
theorem dc_X0_isIn : yX0_isIn.cls ≠ "java/lang/invoke/MethodHandle" ∧ yX0_isIn.cls ≠ "java/lang/invoke/VarHandle" ∧ (parseMethodDescriptor yX0_isIn.desc).map (fun d => d.parameters.length) = some 2 := by decide +kernel
def wsX0_only : List Cond := Cond.code yX0_only cX0_only 1 (some .int) :: am_all
theorem dc_X0_only : yX0_only.cls ≠ "java/lang/invoke/MethodHandle" ∧ yX0_only.cls ≠ "java/lang/invoke/VarHandle" ∧ (parseMethodDescriptor yX0_only.desc).map (fun d => d.parameters.length) = some 1 := by decide +kernel
def wsX3_grant : List Cond := Cond.code yX3_grant cX3_grant 4 (some .boolean) :: am_all
theorem dc_X3_grant : yX3_grant.cls ≠ "java/lang/invoke/MethodHandle" ∧ yX3_grant.cls ≠ "java/lang/invoke/VarHandle" ∧ (parseMethodDescriptor yX3_grant.desc).map (fun d => d.parameters.length) = some 2 := by decide +kernel
def wsX3_findOwner : List Cond := Cond.code yX3_findOwner cX3_findOwner 3 (some .int) :: am_all
theorem dc_X3_findOwner : yX3_findOwner.cls ≠ "java/lang/invoke/MethodHandle" ∧ yX3_findOwner.cls ≠ "java/lang/invoke/VarHandle" ∧ (parseMethodDescriptor yX3_findOwner.desc).map (fun d => d.parameters.length) = some 1 := by decide +kernel
def wsX0_commit : List Cond := Cond.code yX0_commit cX0_commit 3 (some .int) :: am_all
theorem dc_X0_commit : yX0_commit.cls ≠ "java/lang/invoke/MethodHandle" ∧ yX0_commit.cls ≠ "java/lang/invoke/VarHandle" ∧ (parseMethodDescriptor yX0_commit.desc).map (fun d => d.parameters.length) = some 1 := by decide +kernel
def wsX4_forget : List Cond := Cond.code yX4_forget cX4_forget 1 none :: am_all
theorem dc_X4_forget : yX4_forget.cls ≠ "java/lang/invoke/MethodHandle" ∧ yX4_forget.cls ≠ "java/lang/invoke/VarHandle" ∧ (parseMethodDescriptor yX4_forget.desc).map (fun d => d.parameters.length) = some 0 := by decide +kernel
def wsX2_sendToEach : List Cond := Cond.code yX2_sendToEach cX2_sendToEach 6 none :: am_all
theorem dc_X2_sendToEach : yX2_sendToEach.cls ≠ "java/lang/invoke/MethodHandle" ∧ yX2_sendToEach.cls ≠ "java/lang/invoke/VarHandle" ∧ (parseMethodDescriptor yX2_sendToEach.desc).map (fun d => d.parameters.length) = some 4 := by decide +kernel
def wsX2_send : List Cond := Cond.code yX2_send cX2_send 5 none :: am_all
theorem dc_X2_send : yX2_send.cls ≠ "java/lang/invoke/MethodHandle" ∧ yX2_send.cls ≠ "java/lang/invoke/VarHandle" ∧ (parseMethodDescriptor yX2_send.desc).map (fun d => d.parameters.length) = some 4 := by decide +kernel
def wsJ6_bitCount : List Cond := Cond.code yJ6_bitCount cJ6_bitCount 1 (some .int) :: am_all
theorem dc_J6_bitCount : yJ6_bitCount.cls ≠ "java/lang/invoke/MethodHandle" ∧ yJ6_bitCount.cls ≠ "java/lang/invoke/VarHandle" ∧ (parseMethodDescriptor yJ6_bitCount.desc).map (fun d => d.parameters.length) = some 1 := by decide +kernel
def wsX0_withdraw : List Cond := Cond.code yX0_withdraw cX0_withdraw 3 (some .int) :: am_all
theorem dc_X0_withdraw : yX0_withdraw.cls ≠ "java/lang/invoke/MethodHandle" ∧ yX0_withdraw.cls ≠ "java/lang/invoke/VarHandle" ∧ (parseMethodDescriptor yX0_withdraw.desc).map (fun d => d.parameters.length) = some 1 := by decide +kernel
def wsX0_giveUp : List Cond := Cond.code yX0_giveUp cX0_giveUp 5 (some .int) :: am_all
theorem dc_X0_giveUp : yX0_giveUp.cls ≠ "java/lang/invoke/MethodHandle" ∧ yX0_giveUp.cls ≠ "java/lang/invoke/VarHandle" ∧ (parseMethodDescriptor yX0_giveUp.desc).map (fun d => d.parameters.length) = some 2 := by decide +kernel
def wsX1_write : List Cond := Cond.code yX1_write cX1_write 4 none :: am_all
theorem dc_X1_write : yX1_write.cls ≠ "java/lang/invoke/MethodHandle" ∧ yX1_write.cls ≠ "java/lang/invoke/VarHandle" ∧ (parseMethodDescriptor yX1_write.desc).map (fun d => d.parameters.length) = some 3 := by decide +kernel
def wsX1_labelOf : List Cond := Cond.code yX1_labelOf cX1_labelOf 2 (some .int) :: am_all
theorem dc_X1_labelOf : yX1_labelOf.cls ≠ "java/lang/invoke/MethodHandle" ∧ yX1_labelOf.cls ≠ "java/lang/invoke/VarHandle" ∧ (parseMethodDescriptor yX1_labelOf.desc).map (fun d => d.parameters.length) = some 2 := by decide +kernel
def wsX0_deliver : List Cond := Cond.code yX0_deliver cX0_deliver 6 (some .int) :: am_all
theorem dc_X0_deliver : yX0_deliver.cls ≠ "java/lang/invoke/MethodHandle" ∧ yX0_deliver.cls ≠ "java/lang/invoke/VarHandle" ∧ (parseMethodDescriptor yX0_deliver.desc).map (fun d => d.parameters.length) = some 1 := by decide +kernel
def wsX2_has : List Cond := Cond.code yX2_has cX2_has 2 (some .boolean) :: am_all
theorem dc_X2_has : yX2_has.cls ≠ "java/lang/invoke/MethodHandle" ∧ yX2_has.cls ≠ "java/lang/invoke/VarHandle" ∧ (parseMethodDescriptor yX2_has.desc).map (fun d => d.parameters.length) = some 1 := by decide +kernel
def wsX2_takeOut : List Cond := Cond.code yX2_takeOut cX2_takeOut 4 none :: am_all
theorem dc_X2_takeOut : yX2_takeOut.cls ≠ "java/lang/invoke/MethodHandle" ∧ yX2_takeOut.cls ≠ "java/lang/invoke/VarHandle" ∧ (parseMethodDescriptor yX2_takeOut.desc).map (fun d => d.parameters.length) = some 1 := by decide +kernel
def wsX0_hear : List Cond := Cond.code yX0_hear cX0_hear 5 none :: am_all
theorem dc_X0_hear : yX0_hear.cls ≠ "java/lang/invoke/MethodHandle" ∧ yX0_hear.cls ≠ "java/lang/invoke/VarHandle" ∧ (parseMethodDescriptor yX0_hear.desc).map (fun d => d.parameters.length) = some 4 := by decide +kernel
def wsX3_voteOn : List Cond := Cond.code yX3_voteOn cX3_voteOn 2 (some .int) :: am_all
theorem dc_X3_voteOn : yX3_voteOn.cls ≠ "java/lang/invoke/MethodHandle" ∧ yX3_voteOn.cls ≠ "java/lang/invoke/VarHandle" ∧ (parseMethodDescriptor yX3_voteOn.desc).map (fun d => d.parameters.length) = some 1 := by decide +kernel
def wsX3_voteWhenWorking : List Cond := Cond.code yX3_voteWhenWorking cX3_voteWhenWorking 2 (some .int) :: am_all
theorem dc_X3_voteWhenWorking : yX3_voteWhenWorking.cls ≠ "java/lang/invoke/MethodHandle" ∧ yX3_voteWhenWorking.cls ≠ "java/lang/invoke/VarHandle" ∧ (parseMethodDescriptor yX3_voteWhenWorking.desc).map (fun d => d.parameters.length) = some 1 := by decide +kernel
def wsX3_letGo : List Cond := Cond.code yX3_letGo cX3_letGo 2 none :: am_all
theorem dc_X3_letGo : yX3_letGo.cls ≠ "java/lang/invoke/MethodHandle" ∧ yX3_letGo.cls ≠ "java/lang/invoke/VarHandle" ∧ (parseMethodDescriptor yX3_letGo.desc).map (fun d => d.parameters.length) = some 1 := by decide +kernel
def wsX1_force : List Cond := Cond.code yX1_force cX1_force 4 none :: am_all
theorem dc_X1_force : yX1_force.cls ≠ "java/lang/invoke/MethodHandle" ∧ yX1_force.cls ≠ "java/lang/invoke/VarHandle" ∧ (parseMethodDescriptor yX1_force.desc).map (fun d => d.parameters.length) = some 3 := by decide +kernel
def wsX3_abort : List Cond := Cond.code yX3_abort cX3_abort 2 none :: am_all
theorem dc_X3_abort : yX3_abort.cls ≠ "java/lang/invoke/MethodHandle" ∧ yX3_abort.cls ≠ "java/lang/invoke/VarHandle" ∧ (parseMethodDescriptor yX3_abort.desc).map (fun d => d.parameters.length) = some 1 := by decide +kernel
def wsX0_hearVote : List Cond := Cond.code yX0_hearVote cX0_hearVote 5 none :: am_all
theorem dc_X0_hearVote : yX0_hearVote.cls ≠ "java/lang/invoke/MethodHandle" ∧ yX0_hearVote.cls ≠ "java/lang/invoke/VarHandle" ∧ (parseMethodDescriptor yX0_hearVote.desc).map (fun d => d.parameters.length) = some 3 := by decide +kernel
def wsX4_hasAllVotes : List Cond := Cond.code yX4_hasAllVotes cX4_hasAllVotes 1 (some .boolean) :: am_all
theorem dc_X4_hasAllVotes : yX4_hasAllVotes.cls ≠ "java/lang/invoke/MethodHandle" ∧ yX4_hasAllVotes.cls ≠ "java/lang/invoke/VarHandle" ∧ (parseMethodDescriptor yX4_hasAllVotes.desc).map (fun d => d.parameters.length) = some 0 := by decide +kernel
def wsX0_decide : List Cond := Cond.code yX0_decide cX0_decide 3 none :: am_all
theorem dc_X0_decide : yX0_decide.cls ≠ "java/lang/invoke/MethodHandle" ∧ yX0_decide.cls ≠ "java/lang/invoke/VarHandle" ∧ (parseMethodDescriptor yX0_decide.desc).map (fun d => d.parameters.length) = some 1 := by decide +kernel
def wsX3_finishCommit : List Cond := Cond.code yX3_finishCommit cX3_finishCommit 2 none :: am_all
theorem dc_X3_finishCommit : yX3_finishCommit.cls ≠ "java/lang/invoke/MethodHandle" ∧ yX3_finishCommit.cls ≠ "java/lang/invoke/VarHandle" ∧ (parseMethodDescriptor yX3_finishCommit.desc).map (fun d => d.parameters.length) = some 1 := by decide +kernel
def wsX0_hearAck : List Cond := Cond.code yX0_hearAck cX0_hearAck 4 none :: am_all
theorem dc_X0_hearAck : yX0_hearAck.cls ≠ "java/lang/invoke/MethodHandle" ∧ yX0_hearAck.cls ≠ "java/lang/invoke/VarHandle" ∧ (parseMethodDescriptor yX0_hearAck.desc).map (fun d => d.parameters.length) = some 2 := by decide +kernel
def wsX0_hearInquiry : List Cond := Cond.code yX0_hearInquiry cX0_hearInquiry 5 none :: am_all
theorem dc_X0_hearInquiry : yX0_hearInquiry.cls ≠ "java/lang/invoke/MethodHandle" ∧ yX0_hearInquiry.cls ≠ "java/lang/invoke/VarHandle" ∧ (parseMethodDescriptor yX0_hearInquiry.desc).map (fun d => d.parameters.length) = some 3 := by decide +kernel
def wsX0_lose : List Cond := Cond.code yX0_lose cX0_lose 3 (some .int) :: am_all
theorem dc_X0_lose : yX0_lose.cls ≠ "java/lang/invoke/MethodHandle" ∧ yX0_lose.cls ≠ "java/lang/invoke/VarHandle" ∧ (parseMethodDescriptor yX0_lose.desc).map (fun d => d.parameters.length) = some 1 := by decide +kernel
def wsX0_expire : List Cond := Cond.code yX0_expire cX0_expire 4 (some .int) :: am_all
theorem dc_X0_expire : yX0_expire.cls ≠ "java/lang/invoke/MethodHandle" ∧ yX0_expire.cls ≠ "java/lang/invoke/VarHandle" ∧ (parseMethodDescriptor yX0_expire.desc).map (fun d => d.parameters.length) = some 3 := by decide +kernel
def wsX0_expireAsMember : List Cond := Cond.code yX0_expireAsMember cX0_expireAsMember 4 (some .int) :: am_all
theorem dc_X0_expireAsMember : yX0_expireAsMember.cls ≠ "java/lang/invoke/MethodHandle" ∧ yX0_expireAsMember.cls ≠ "java/lang/invoke/VarHandle" ∧ (parseMethodDescriptor yX0_expireAsMember.desc).map (fun d => d.parameters.length) = some 2 := by decide +kernel
def wsX0_expireAsCoordinator : List Cond := Cond.code yX0_expireAsCoordinator cX0_expireAsCoordinator 3 (some .int) :: am_all
theorem dc_X0_expireAsCoordinator : yX0_expireAsCoordinator.cls ≠ "java/lang/invoke/MethodHandle" ∧ yX0_expireAsCoordinator.cls ≠ "java/lang/invoke/VarHandle" ∧ (parseMethodDescriptor yX0_expireAsCoordinator.desc).map (fun d => d.parameters.length) = some 1 := by decide +kernel
def wsX0_crash : List Cond := Cond.code yX0_crash cX0_crash 4 (some .int) :: am_all
theorem dc_X0_crash : yX0_crash.cls ≠ "java/lang/invoke/MethodHandle" ∧ yX0_crash.cls ≠ "java/lang/invoke/VarHandle" ∧ (parseMethodDescriptor yX0_crash.desc).map (fun d => d.parameters.length) = some 1 := by decide +kernel
def wsX1_dropUnsafe : List Cond := Cond.code yX1_dropUnsafe cX1_dropUnsafe 2 (some .int) :: am_all
theorem dc_X1_dropUnsafe : yX1_dropUnsafe.cls ≠ "java/lang/invoke/MethodHandle" ∧ yX1_dropUnsafe.cls ≠ "java/lang/invoke/VarHandle" ∧ (parseMethodDescriptor yX1_dropUnsafe.desc).map (fun d => d.parameters.length) = some 0 := by decide +kernel
def wsX0_recover : List Cond := Cond.code yX0_recover cX0_recover 5 (some .int) :: am_all
theorem dc_X0_recover : yX0_recover.cls ≠ "java/lang/invoke/MethodHandle" ∧ yX0_recover.cls ≠ "java/lang/invoke/VarHandle" ∧ (parseMethodDescriptor yX0_recover.desc).map (fun d => d.parameters.length) = some 1 := by decide +kernel
def wsX3_restorePrepared : List Cond := Cond.code yX3_restorePrepared cX3_restorePrepared 3 (some .boolean) :: am_all
theorem dc_X3_restorePrepared : yX3_restorePrepared.cls ≠ "java/lang/invoke/MethodHandle" ∧ yX3_restorePrepared.cls ≠ "java/lang/invoke/VarHandle" ∧ (parseMethodDescriptor yX3_restorePrepared.desc).map (fun d => d.parameters.length) = some 1 := by decide +kernel
def wsX1_find : List Cond := Cond.code yX1_find cX1_find 5 (some .int) :: am_all
theorem dc_X1_find : yX1_find.cls ≠ "java/lang/invoke/MethodHandle" ∧ yX1_find.cls ≠ "java/lang/invoke/VarHandle" ∧ (parseMethodDescriptor yX1_find.desc).map (fun d => d.parameters.length) = some 2 := by decide +kernel
def wsX0_restoreCommitting : List Cond := Cond.code yX0_restoreCommitting cX0_restoreCommitting 7 (some .boolean) :: am_all
theorem dc_X0_restoreCommitting : yX0_restoreCommitting.cls ≠ "java/lang/invoke/MethodHandle" ∧ yX0_restoreCommitting.cls ≠ "java/lang/invoke/VarHandle" ∧ (parseMethodDescriptor yX0_restoreCommitting.desc).map (fun d => d.parameters.length) = some 2 := by decide +kernel
def wsX0_up : List Cond := Cond.code yX0_up cX0_up 2 (some .boolean) :: am_all
theorem dc_X0_up : yX0_up.cls ≠ "java/lang/invoke/MethodHandle" ∧ yX0_up.cls ≠ "java/lang/invoke/VarHandle" ∧ (parseMethodDescriptor yX0_up.desc).map (fun d => d.parameters.length) = some 1 := by decide +kernel
def wsX0_stage : List Cond := Cond.code yX0_stage cX0_stage 2 (some .int) :: am_all
theorem dc_X0_stage : yX0_stage.cls ≠ "java/lang/invoke/MethodHandle" ∧ yX0_stage.cls ≠ "java/lang/invoke/VarHandle" ∧ (parseMethodDescriptor yX0_stage.desc).map (fun d => d.parameters.length) = some 1 := by decide +kernel
def wsX0_nodes : List Cond := Cond.code yX0_nodes cX0_nodes 3 (some .int) :: am_all
theorem dc_X0_nodes : yX0_nodes.cls ≠ "java/lang/invoke/MethodHandle" ∧ yX0_nodes.cls ≠ "java/lang/invoke/VarHandle" ∧ (parseMethodDescriptor yX0_nodes.desc).map (fun d => d.parameters.length) = some 2 := by decide +kernel
def wsX0_state : List Cond := Cond.code yX0_state cX0_state 3 (some .int) :: am_all
theorem dc_X0_state : yX0_state.cls ≠ "java/lang/invoke/MethodHandle" ∧ yX0_state.cls ≠ "java/lang/invoke/VarHandle" ∧ (parseMethodDescriptor yX0_state.desc).map (fun d => d.parameters.length) = some 2 := by decide +kernel
def wsX0_holder : List Cond := Cond.code yX0_holder cX0_holder 3 (some .int) :: am_all
theorem dc_X0_holder : yX0_holder.cls ≠ "java/lang/invoke/MethodHandle" ∧ yX0_holder.cls ≠ "java/lang/invoke/VarHandle" ∧ (parseMethodDescriptor yX0_holder.desc).map (fun d => d.parameters.length) = some 2 := by decide +kernel
def wsX0_records : List Cond := Cond.code yX0_records cX0_records 4 (some .int) :: am_all
theorem dc_X0_records : yX0_records.cls ≠ "java/lang/invoke/MethodHandle" ∧ yX0_records.cls ≠ "java/lang/invoke/VarHandle" ∧ (parseMethodDescriptor yX0_records.desc).map (fun d => d.parameters.length) = some 2 := by decide +kernel
def wsX0_entry : List Cond := Cond.code yX0_entry cX0_entry 4 (some .int) :: am_all
theorem dc_X0_entry : yX0_entry.cls ≠ "java/lang/invoke/MethodHandle" ∧ yX0_entry.cls ≠ "java/lang/invoke/VarHandle" ∧ (parseMethodDescriptor yX0_entry.desc).map (fun d => d.parameters.length) = some 2 := by decide +kernel
def wsX1_has : List Cond := Cond.code yX1_has cX1_has 2 (some .boolean) :: am_all
theorem dc_X1_has : yX1_has.cls ≠ "java/lang/invoke/MethodHandle" ∧ yX1_has.cls ≠ "java/lang/invoke/VarHandle" ∧ (parseMethodDescriptor yX1_has.desc).map (fun d => d.parameters.length) = some 1 := by decide +kernel
def wsX0_content : List Cond := Cond.code yX0_content cX0_content 4 (some .int) :: am_all
theorem dc_X0_content : yX0_content.cls ≠ "java/lang/invoke/MethodHandle" ∧ yX0_content.cls ≠ "java/lang/invoke/VarHandle" ∧ (parseMethodDescriptor yX0_content.desc).map (fun d => d.parameters.length) = some 2 := by decide +kernel
def wsX0_messages : List Cond := Cond.code yX0_messages cX0_messages 1 (some .int) :: am_all
theorem dc_X0_messages : yX0_messages.cls ≠ "java/lang/invoke/MethodHandle" ∧ yX0_messages.cls ≠ "java/lang/invoke/VarHandle" ∧ (parseMethodDescriptor yX0_messages.desc).map (fun d => d.parameters.length) = some 0 := by decide +kernel
def wsX0_message : List Cond := Cond.code yX0_message cX0_message 3 (some .int) :: am_all
theorem dc_X0_message : yX0_message.cls ≠ "java/lang/invoke/MethodHandle" ∧ yX0_message.cls ≠ "java/lang/invoke/VarHandle" ∧ (parseMethodDescriptor yX0_message.desc).map (fun d => d.parameters.length) = some 2 := by decide +kernel
def wsX0_forced : List Cond := Cond.code yX0_forced cX0_forced 2 (some .int) :: am_all
theorem dc_X0_forced : yX0_forced.cls ≠ "java/lang/invoke/MethodHandle" ∧ yX0_forced.cls ≠ "java/lang/invoke/VarHandle" ∧ (parseMethodDescriptor yX0_forced.desc).map (fun d => d.parameters.length) = some 1 := by decide +kernel
def wsX5_init : List Cond := Cond.code yX5_init cX5_init 1 none :: am_all
theorem dc_X5_init : yX5_init.cls ≠ "java/lang/invoke/MethodHandle" ∧ yX5_init.cls ≠ "java/lang/invoke/VarHandle" ∧ (parseMethodDescriptor yX5_init.desc).map (fun d => d.parameters.length) = some 0 := by decide +kernel
def wsX5_begin : List Cond := Cond.code yX5_begin cX5_begin 2 (some .int) :: am_all
theorem dc_X5_begin : yX5_begin.cls ≠ "java/lang/invoke/MethodHandle" ∧ yX5_begin.cls ≠ "java/lang/invoke/VarHandle" ∧ (parseMethodDescriptor yX5_begin.desc).map (fun d => d.parameters.length) = some 1 := by decide +kernel
def wsX5_noNode : List Cond := Cond.code yX5_noNode cX5_noNode 1 (some .boolean) :: am_all
theorem dc_X5_noNode : yX5_noNode.cls ≠ "java/lang/invoke/MethodHandle" ∧ yX5_noNode.cls ≠ "java/lang/invoke/VarHandle" ∧ (parseMethodDescriptor yX5_noNode.desc).map (fun d => d.parameters.length) = some 1 := by decide +kernel
def wsX5_work : List Cond := Cond.code yX5_work cX5_work 6 (some .int) :: am_all
theorem dc_X5_work : yX5_work.cls ≠ "java/lang/invoke/MethodHandle" ∧ yX5_work.cls ≠ "java/lang/invoke/VarHandle" ∧ (parseMethodDescriptor yX5_work.desc).map (fun d => d.parameters.length) = some 3 := by decide +kernel
def wsX5_noWork : List Cond := Cond.code yX5_noWork cX5_noWork 2 (some .boolean) :: am_all
theorem dc_X5_noWork : yX5_noWork.cls ≠ "java/lang/invoke/MethodHandle" ∧ yX5_noWork.cls ≠ "java/lang/invoke/VarHandle" ∧ (parseMethodDescriptor yX5_noWork.desc).map (fun d => d.parameters.length) = some 1 := by decide +kernel
def wsX5_commit : List Cond := Cond.code yX5_commit cX5_commit 4 (some .int) :: am_all
theorem dc_X5_commit : yX5_commit.cls ≠ "java/lang/invoke/MethodHandle" ∧ yX5_commit.cls ≠ "java/lang/invoke/VarHandle" ∧ (parseMethodDescriptor yX5_commit.desc).map (fun d => d.parameters.length) = some 1 := by decide +kernel
def wsX5_send : List Cond := Cond.code yX5_send cX5_send 5 none :: am_all
theorem dc_X5_send : yX5_send.cls ≠ "java/lang/invoke/MethodHandle" ∧ yX5_send.cls ≠ "java/lang/invoke/VarHandle" ∧ (parseMethodDescriptor yX5_send.desc).map (fun d => d.parameters.length) = some 4 := by decide +kernel
def wsX5_forget : List Cond := Cond.code yX5_forget cX5_forget 3 none :: am_all
theorem dc_X5_forget : yX5_forget.cls ≠ "java/lang/invoke/MethodHandle" ∧ yX5_forget.cls ≠ "java/lang/invoke/VarHandle" ∧ (parseMethodDescriptor yX5_forget.desc).map (fun d => d.parameters.length) = some 1 := by decide +kernel
def wsX5_withdraw : List Cond := Cond.code yX5_withdraw cX5_withdraw 2 (some .int) :: am_all
theorem dc_X5_withdraw : yX5_withdraw.cls ≠ "java/lang/invoke/MethodHandle" ∧ yX5_withdraw.cls ≠ "java/lang/invoke/VarHandle" ∧ (parseMethodDescriptor yX5_withdraw.desc).map (fun d => d.parameters.length) = some 1 := by decide +kernel
def wsX5_pullBack : List Cond := Cond.code yX5_pullBack cX5_pullBack 5 (some .int) :: am_all
theorem dc_X5_pullBack : yX5_pullBack.cls ≠ "java/lang/invoke/MethodHandle" ∧ yX5_pullBack.cls ≠ "java/lang/invoke/VarHandle" ∧ (parseMethodDescriptor yX5_pullBack.desc).map (fun d => d.parameters.length) = some 2 := by decide +kernel
def wsX5_write : List Cond := Cond.code yX5_write cX5_write 6 none :: am_all
theorem dc_X5_write : yX5_write.cls ≠ "java/lang/invoke/MethodHandle" ∧ yX5_write.cls ≠ "java/lang/invoke/VarHandle" ∧ (parseMethodDescriptor yX5_write.desc).map (fun d => d.parameters.length) = some 4 := by decide +kernel
def wsX5_deliver : List Cond := Cond.code yX5_deliver cX5_deliver 6 (some .int) :: am_all
theorem dc_X5_deliver : yX5_deliver.cls ≠ "java/lang/invoke/MethodHandle" ∧ yX5_deliver.cls ≠ "java/lang/invoke/VarHandle" ∧ (parseMethodDescriptor yX5_deliver.desc).map (fun d => d.parameters.length) = some 1 := by decide +kernel
def wsX5_take : List Cond := Cond.code yX5_take cX5_take 3 none :: am_all
theorem dc_X5_take : yX5_take.cls ≠ "java/lang/invoke/MethodHandle" ∧ yX5_take.cls ≠ "java/lang/invoke/VarHandle" ∧ (parseMethodDescriptor yX5_take.desc).map (fun d => d.parameters.length) = some 1 := by decide +kernel
def wsX5_hear : List Cond := Cond.code yX5_hear cX5_hear 5 none :: am_all
theorem dc_X5_hear : yX5_hear.cls ≠ "java/lang/invoke/MethodHandle" ∧ yX5_hear.cls ≠ "java/lang/invoke/VarHandle" ∧ (parseMethodDescriptor yX5_hear.desc).map (fun d => d.parameters.length) = some 4 := by decide +kernel
def wsX5_hearPrepare : List Cond := Cond.code yX5_hearPrepare cX5_hearPrepare 6 none :: am_all
theorem dc_X5_hearPrepare : yX5_hearPrepare.cls ≠ "java/lang/invoke/MethodHandle" ∧ yX5_hearPrepare.cls ≠ "java/lang/invoke/VarHandle" ∧ (parseMethodDescriptor yX5_hearPrepare.desc).map (fun d => d.parameters.length) = some 3 := by decide +kernel
def wsX5_giveUp : List Cond := Cond.code yX5_giveUp cX5_giveUp 3 none :: am_all
theorem dc_X5_giveUp : yX5_giveUp.cls ≠ "java/lang/invoke/MethodHandle" ∧ yX5_giveUp.cls ≠ "java/lang/invoke/VarHandle" ∧ (parseMethodDescriptor yX5_giveUp.desc).map (fun d => d.parameters.length) = some 2 := by decide +kernel
def wsX5_letGo : List Cond := Cond.code yX5_letGo cX5_letGo 4 none :: am_all
theorem dc_X5_letGo : yX5_letGo.cls ≠ "java/lang/invoke/MethodHandle" ∧ yX5_letGo.cls ≠ "java/lang/invoke/VarHandle" ∧ (parseMethodDescriptor yX5_letGo.desc).map (fun d => d.parameters.length) = some 2 := by decide +kernel
def wsX5_holding : List Cond := Cond.code yX5_holding cX5_holding 5 (some .int) :: am_all
theorem dc_X5_holding : yX5_holding.cls ≠ "java/lang/invoke/MethodHandle" ∧ yX5_holding.cls ≠ "java/lang/invoke/VarHandle" ∧ (parseMethodDescriptor yX5_holding.desc).map (fun d => d.parameters.length) = some 2 := by decide +kernel
def wsX5_force : List Cond := Cond.code yX5_force cX5_force 6 none :: am_all
theorem dc_X5_force : yX5_force.cls ≠ "java/lang/invoke/MethodHandle" ∧ yX5_force.cls ≠ "java/lang/invoke/VarHandle" ∧ (parseMethodDescriptor yX5_force.desc).map (fun d => d.parameters.length) = some 4 := by decide +kernel
def wsX5_hearVote : List Cond := Cond.code yX5_hearVote cX5_hearVote 5 none :: am_all
theorem dc_X5_hearVote : yX5_hearVote.cls ≠ "java/lang/invoke/MethodHandle" ∧ yX5_hearVote.cls ≠ "java/lang/invoke/VarHandle" ∧ (parseMethodDescriptor yX5_hearVote.desc).map (fun d => d.parameters.length) = some 3 := by decide +kernel
def wsX5_decide : List Cond := Cond.code yX5_decide cX5_decide 4 none :: am_all
theorem dc_X5_decide : yX5_decide.cls ≠ "java/lang/invoke/MethodHandle" ∧ yX5_decide.cls ≠ "java/lang/invoke/VarHandle" ∧ (parseMethodDescriptor yX5_decide.desc).map (fun d => d.parameters.length) = some 1 := by decide +kernel
def wsX5_bits : List Cond := Cond.code yX5_bits cX5_bits 7 (some .int) :: am_all
theorem dc_X5_bits : yX5_bits.cls ≠ "java/lang/invoke/MethodHandle" ∧ yX5_bits.cls ≠ "java/lang/invoke/VarHandle" ∧ (parseMethodDescriptor yX5_bits.desc).map (fun d => d.parameters.length) = some 2 := by decide +kernel
def wsX5_sendDue : List Cond := Cond.code yX5_sendDue cX5_sendDue 3 none :: am_all
theorem dc_X5_sendDue : yX5_sendDue.cls ≠ "java/lang/invoke/MethodHandle" ∧ yX5_sendDue.cls ≠ "java/lang/invoke/VarHandle" ∧ (parseMethodDescriptor yX5_sendDue.desc).map (fun d => d.parameters.length) = some 1 := by decide +kernel
def wsX5_hearAck : List Cond := Cond.code yX5_hearAck cX5_hearAck 3 none :: am_all
theorem dc_X5_hearAck : yX5_hearAck.cls ≠ "java/lang/invoke/MethodHandle" ∧ yX5_hearAck.cls ≠ "java/lang/invoke/VarHandle" ∧ (parseMethodDescriptor yX5_hearAck.desc).map (fun d => d.parameters.length) = some 2 := by decide +kernel
def wsX5_lose : List Cond := Cond.code yX5_lose cX5_lose 3 (some .int) :: am_all
theorem dc_X5_lose : yX5_lose.cls ≠ "java/lang/invoke/MethodHandle" ∧ yX5_lose.cls ≠ "java/lang/invoke/VarHandle" ∧ (parseMethodDescriptor yX5_lose.desc).map (fun d => d.parameters.length) = some 1 := by decide +kernel
def wsX5_expire : List Cond := Cond.code yX5_expire cX5_expire 6 (some .int) :: am_all
theorem dc_X5_expire : yX5_expire.cls ≠ "java/lang/invoke/MethodHandle" ∧ yX5_expire.cls ≠ "java/lang/invoke/VarHandle" ∧ (parseMethodDescriptor yX5_expire.desc).map (fun d => d.parameters.length) = some 3 := by decide +kernel
def wsX5_crash : List Cond := Cond.code yX5_crash cX5_crash 3 (some .int) :: am_all
theorem dc_X5_crash : yX5_crash.cls ≠ "java/lang/invoke/MethodHandle" ∧ yX5_crash.cls ≠ "java/lang/invoke/VarHandle" ∧ (parseMethodDescriptor yX5_crash.desc).map (fun d => d.parameters.length) = some 1 := by decide +kernel
def wsX5_recover : List Cond := Cond.code yX5_recover cX5_recover 4 (some .int) :: am_all
theorem dc_X5_recover : yX5_recover.cls ≠ "java/lang/invoke/MethodHandle" ∧ yX5_recover.cls ≠ "java/lang/invoke/VarHandle" ∧ (parseMethodDescriptor yX5_recover.desc).map (fun d => d.parameters.length) = some 1 := by decide +kernel
def wsX5_recoverMember : List Cond := Cond.code yX5_recoverMember cX5_recoverMember 5 (some .int) :: am_all
theorem dc_X5_recoverMember : yX5_recoverMember.cls ≠ "java/lang/invoke/MethodHandle" ∧ yX5_recoverMember.cls ≠ "java/lang/invoke/VarHandle" ∧ (parseMethodDescriptor yX5_recoverMember.desc).map (fun d => d.parameters.length) = some 2 := by decide +kernel
def wsX5_logged : List Cond := Cond.code yX5_logged cX5_logged 5 (some .int) :: am_all
theorem dc_X5_logged : yX5_logged.cls ≠ "java/lang/invoke/MethodHandle" ∧ yX5_logged.cls ≠ "java/lang/invoke/VarHandle" ∧ (parseMethodDescriptor yX5_logged.desc).map (fun d => d.parameters.length) = some 3 := by decide +kernel
def wsX5_recoverChief : List Cond := Cond.code yX5_recoverChief cX5_recoverChief 6 (some .int) :: am_all
theorem dc_X5_recoverChief : yX5_recoverChief.cls ≠ "java/lang/invoke/MethodHandle" ∧ yX5_recoverChief.cls ≠ "java/lang/invoke/VarHandle" ∧ (parseMethodDescriptor yX5_recoverChief.desc).map (fun d => d.parameters.length) = some 2 := by decide +kernel
def wsX5_up : List Cond := Cond.code yX5_up cX5_up 2 (some .boolean) :: am_all
theorem dc_X5_up : yX5_up.cls ≠ "java/lang/invoke/MethodHandle" ∧ yX5_up.cls ≠ "java/lang/invoke/VarHandle" ∧ (parseMethodDescriptor yX5_up.desc).map (fun d => d.parameters.length) = some 1 := by decide +kernel
def wsX5_stage : List Cond := Cond.code yX5_stage cX5_stage 2 (some .int) :: am_all
theorem dc_X5_stage : yX5_stage.cls ≠ "java/lang/invoke/MethodHandle" ∧ yX5_stage.cls ≠ "java/lang/invoke/VarHandle" ∧ (parseMethodDescriptor yX5_stage.desc).map (fun d => d.parameters.length) = some 1 := by decide +kernel
def wsX5_nodes : List Cond := Cond.code yX5_nodes cX5_nodes 3 (some .int) :: am_all
theorem dc_X5_nodes : yX5_nodes.cls ≠ "java/lang/invoke/MethodHandle" ∧ yX5_nodes.cls ≠ "java/lang/invoke/VarHandle" ∧ (parseMethodDescriptor yX5_nodes.desc).map (fun d => d.parameters.length) = some 2 := by decide +kernel
def wsX5_state : List Cond := Cond.code yX5_state cX5_state 3 (some .int) :: am_all
theorem dc_X5_state : yX5_state.cls ≠ "java/lang/invoke/MethodHandle" ∧ yX5_state.cls ≠ "java/lang/invoke/VarHandle" ∧ (parseMethodDescriptor yX5_state.desc).map (fun d => d.parameters.length) = some 2 := by decide +kernel
def wsX5_holder : List Cond := Cond.code yX5_holder cX5_holder 3 (some .int) :: am_all
theorem dc_X5_holder : yX5_holder.cls ≠ "java/lang/invoke/MethodHandle" ∧ yX5_holder.cls ≠ "java/lang/invoke/VarHandle" ∧ (parseMethodDescriptor yX5_holder.desc).map (fun d => d.parameters.length) = some 2 := by decide +kernel
def wsX5_records : List Cond := Cond.code yX5_records cX5_records 5 (some .int) :: am_all
theorem dc_X5_records : yX5_records.cls ≠ "java/lang/invoke/MethodHandle" ∧ yX5_records.cls ≠ "java/lang/invoke/VarHandle" ∧ (parseMethodDescriptor yX5_records.desc).map (fun d => d.parameters.length) = some 2 := by decide +kernel
def wsX5_entry : List Cond := Cond.code yX5_entry cX5_entry 3 (some .int) :: am_all
theorem dc_X5_entry : yX5_entry.cls ≠ "java/lang/invoke/MethodHandle" ∧ yX5_entry.cls ≠ "java/lang/invoke/VarHandle" ∧ (parseMethodDescriptor yX5_entry.desc).map (fun d => d.parameters.length) = some 2 := by decide +kernel
def wsX5_isRecord : List Cond := Cond.code yX5_isRecord cX5_isRecord 3 (some .boolean) :: am_all
theorem dc_X5_isRecord : yX5_isRecord.cls ≠ "java/lang/invoke/MethodHandle" ∧ yX5_isRecord.cls ≠ "java/lang/invoke/VarHandle" ∧ (parseMethodDescriptor yX5_isRecord.desc).map (fun d => d.parameters.length) = some 2 := by decide +kernel
def wsX5_content : List Cond := Cond.code yX5_content cX5_content 3 (some .int) :: am_all
theorem dc_X5_content : yX5_content.cls ≠ "java/lang/invoke/MethodHandle" ∧ yX5_content.cls ≠ "java/lang/invoke/VarHandle" ∧ (parseMethodDescriptor yX5_content.desc).map (fun d => d.parameters.length) = some 2 := by decide +kernel
def wsX5_messages : List Cond := Cond.code yX5_messages cX5_messages 1 (some .int) :: am_all
theorem dc_X5_messages : yX5_messages.cls ≠ "java/lang/invoke/MethodHandle" ∧ yX5_messages.cls ≠ "java/lang/invoke/VarHandle" ∧ (parseMethodDescriptor yX5_messages.desc).map (fun d => d.parameters.length) = some 0 := by decide +kernel
def wsX5_message : List Cond := Cond.code yX5_message cX5_message 3 (some .int) :: am_all
theorem dc_X5_message : yX5_message.cls ≠ "java/lang/invoke/MethodHandle" ∧ yX5_message.cls ≠ "java/lang/invoke/VarHandle" ∧ (parseMethodDescriptor yX5_message.desc).map (fun d => d.parameters.length) = some 2 := by decide +kernel
def wsX5_forced : List Cond := Cond.code yX5_forced cX5_forced 2 (some .int) :: am_all
theorem dc_X5_forced : yX5_forced.cls ≠ "java/lang/invoke/MethodHandle" ∧ yX5_forced.cls ≠ "java/lang/invoke/VarHandle" ∧ (parseMethodDescriptor yX5_forced.desc).map (fun d => d.parameters.length) = some 1 := by decide +kernel
end
section
/-! decode rows -/
theorem dX0_init_0 : decode cX0_init 0 = .ok (.aload_n 0, 1) := by decide +kernel
theorem dX0_init_1 : decode cX0_init 1 = .ok (.invokespecial 1, 3) := by decide +kernel
theorem dX0_init_4 : decode cX0_init 4 = .ok (.aload_n 0, 1) := by decide +kernel
theorem dX0_init_5 : decode cX0_init 5 = .ok (.iconst 4, 1) := by decide +kernel
theorem dX0_init_6 : decode cX0_init 6 = .ok (.anewarray 9, 3) := by decide +kernel
theorem dX0_init_9 : decode cX0_init 9 = .ok (.putfield 11, 3) := by decide +kernel
theorem dX0_init_12 : decode cX0_init 12 = .ok (.iconst 0, 1) := by decide +kernel
theorem dX0_init_13 : decode cX0_init 13 = .ok (.istore_n 1, 1) := by decide +kernel
theorem dX0_init_14 : decode cX0_init 14 = .ok (.iload_n 1, 1) := by decide +kernel
theorem dX0_init_15 : decode cX0_init 15 = .ok (.iconst 4, 1) := by decide +kernel
theorem dX0_init_16 : decode cX0_init 16 = .ok (.if_icmp .ge 22, 3) := by decide +kernel
theorem dX0_init_19 : decode cX0_init 19 = .ok (.aload_n 0, 1) := by decide +kernel
theorem dX0_init_20 : decode cX0_init 20 = .ok (.getfield 11, 3) := by decide +kernel
theorem dX0_init_23 : decode cX0_init 23 = .ok (.iload_n 1, 1) := by decide +kernel
theorem dX0_init_24 : decode cX0_init 24 = .ok (.new 9, 3) := by decide +kernel
theorem dX0_init_27 : decode cX0_init 27 = .ok (.dup, 1) := by decide +kernel
theorem dX0_init_28 : decode cX0_init 28 = .ok (.invokespecial 15, 3) := by decide +kernel
theorem dX0_init_31 : decode cX0_init 31 = .ok (.aastore, 1) := by decide +kernel
theorem dX0_init_32 : decode cX0_init 32 = .ok (.iinc 1 1, 3) := by decide +kernel
theorem dX0_init_35 : decode cX0_init 35 = .ok (.goto (-21), 3) := by decide +kernel
theorem dX0_init_38 : decode cX0_init 38 = .ok (.aload_n 0, 1) := by decide +kernel
theorem dX0_init_39 : decode cX0_init 39 = .ok (.bipush 10, 2) := by decide +kernel
theorem dX0_init_41 : decode cX0_init 41 = .ok (.anewarray 16, 3) := by decide +kernel
theorem dX0_init_44 : decode cX0_init 44 = .ok (.putfield 18, 3) := by decide +kernel
theorem dX0_init_47 : decode cX0_init 47 = .ok (.iconst 0, 1) := by decide +kernel
theorem dX0_init_48 : decode cX0_init 48 = .ok (.istore_n 1, 1) := by decide +kernel
theorem dX0_init_49 : decode cX0_init 49 = .ok (.iload_n 1, 1) := by decide +kernel
theorem dX0_init_50 : decode cX0_init 50 = .ok (.bipush 10, 2) := by decide +kernel
theorem dX0_init_52 : decode cX0_init 52 = .ok (.if_icmp .ge 22, 3) := by decide +kernel
theorem dX0_init_55 : decode cX0_init 55 = .ok (.aload_n 0, 1) := by decide +kernel
theorem dX0_init_56 : decode cX0_init 56 = .ok (.getfield 18, 3) := by decide +kernel
theorem dX0_init_59 : decode cX0_init 59 = .ok (.iload_n 1, 1) := by decide +kernel
theorem dX0_init_60 : decode cX0_init 60 = .ok (.new 16, 3) := by decide +kernel
theorem dX0_init_63 : decode cX0_init 63 = .ok (.dup, 1) := by decide +kernel
theorem dX0_init_64 : decode cX0_init 64 = .ok (.invokespecial 22, 3) := by decide +kernel
theorem dX0_init_67 : decode cX0_init 67 = .ok (.aastore, 1) := by decide +kernel
theorem dX0_init_68 : decode cX0_init 68 = .ok (.iinc 1 1, 3) := by decide +kernel
theorem dX0_init_71 : decode cX0_init 71 = .ok (.goto (-22), 3) := by decide +kernel
theorem dX0_init_74 : decode cX0_init 74 = .ok (.aload_n 0, 1) := by decide +kernel
theorem dX0_init_75 : decode cX0_init 75 = .ok (.new 23, 3) := by decide +kernel
theorem dX0_init_78 : decode cX0_init 78 = .ok (.dup, 1) := by decide +kernel
theorem dX0_init_79 : decode cX0_init 79 = .ok (.invokespecial 25, 3) := by decide +kernel
theorem dX0_init_82 : decode cX0_init 82 = .ok (.putfield 26, 3) := by decide +kernel
theorem dX0_init_85 : decode cX0_init 85 = .ok (.aload_n 0, 1) := by decide +kernel
theorem dX0_init_86 : decode cX0_init 86 = .ok (.iconst 0, 1) := by decide +kernel
theorem dX0_init_87 : decode cX0_init 87 = .ok (.putfield 30, 3) := by decide +kernel
theorem dX0_init_90 : decode cX0_init 90 = .ok (.return_, 1) := by decide +kernel
theorem dX3_init_0 : decode cX3_init 0 = .ok (.aload_n 0, 1) := by decide +kernel
theorem dX3_init_1 : decode cX3_init 1 = .ok (.invokespecial 3, 3) := by decide +kernel
theorem dX3_init_4 : decode cX3_init 4 = .ok (.aload_n 0, 1) := by decide +kernel
theorem dX3_init_5 : decode cX3_init 5 = .ok (.iconst 1, 1) := by decide +kernel
theorem dX3_init_6 : decode cX3_init 6 = .ok (.putfield 9, 3) := by decide +kernel
theorem dX3_init_9 : decode cX3_init 9 = .ok (.aload_n 0, 1) := by decide +kernel
theorem dX3_init_10 : decode cX3_init 10 = .ok (.bipush 10, 2) := by decide +kernel
theorem dX3_init_12 : decode cX3_init 12 = .ok (.newarray .int, 2) := by decide +kernel
theorem dX3_init_14 : decode cX3_init 14 = .ok (.putfield 15, 3) := by decide +kernel
theorem dX3_init_17 : decode cX3_init 17 = .ok (.aload_n 0, 1) := by decide +kernel
theorem dX3_init_18 : decode cX3_init 18 = .ok (.bipush 10, 2) := by decide +kernel
theorem dX3_init_20 : decode cX3_init 20 = .ok (.newarray .int, 2) := by decide +kernel
theorem dX3_init_22 : decode cX3_init 22 = .ok (.putfield 19, 3) := by decide +kernel
theorem dX3_init_25 : decode cX3_init 25 = .ok (.aload_n 0, 1) := by decide +kernel
theorem dX3_init_26 : decode cX3_init 26 = .ok (.new 22, 3) := by decide +kernel
theorem dX3_init_29 : decode cX3_init 29 = .ok (.dup, 1) := by decide +kernel
theorem dX3_init_30 : decode cX3_init 30 = .ok (.invokespecial 24, 3) := by decide +kernel
theorem dX3_init_33 : decode cX3_init 33 = .ok (.putfield 25, 3) := by decide +kernel
theorem dX3_init_36 : decode cX3_init 36 = .ok (.return_, 1) := by decide +kernel
theorem dX1_init_0 : decode cX1_init 0 = .ok (.aload_n 0, 1) := by decide +kernel
theorem dX1_init_1 : decode cX1_init 1 = .ok (.invokespecial 3, 3) := by decide +kernel
theorem dX1_init_4 : decode cX1_init 4 = .ok (.aload_n 0, 1) := by decide +kernel
theorem dX1_init_5 : decode cX1_init 5 = .ok (.bipush 60, 2) := by decide +kernel
theorem dX1_init_7 : decode cX1_init 7 = .ok (.newarray .int, 2) := by decide +kernel
theorem dX1_init_9 : decode cX1_init 9 = .ok (.putfield 9, 3) := by decide +kernel
theorem dX1_init_12 : decode cX1_init 12 = .ok (.aload_n 0, 1) := by decide +kernel
theorem dX1_init_13 : decode cX1_init 13 = .ok (.bipush 60, 2) := by decide +kernel
theorem dX1_init_15 : decode cX1_init 15 = .ok (.newarray .int, 2) := by decide +kernel
theorem dX1_init_17 : decode cX1_init 17 = .ok (.putfield 15, 3) := by decide +kernel
theorem dX1_init_20 : decode cX1_init 20 = .ok (.return_, 1) := by decide +kernel
theorem dX4_init_0 : decode cX4_init 0 = .ok (.aload_n 0, 1) := by decide +kernel
theorem dX4_init_1 : decode cX4_init 1 = .ok (.invokespecial 3, 3) := by decide +kernel
theorem dX4_init_4 : decode cX4_init 4 = .ok (.return_, 1) := by decide +kernel
theorem dX2_init_0 : decode cX2_init 0 = .ok (.aload_n 0, 1) := by decide +kernel
theorem dX2_init_1 : decode cX2_init 1 = .ok (.invokespecial 3, 3) := by decide +kernel
theorem dX2_init_4 : decode cX2_init 4 = .ok (.aload_n 0, 1) := by decide +kernel
theorem dX2_init_5 : decode cX2_init 5 = .ok (.iconst 4, 1) := by decide +kernel
theorem dX2_init_6 : decode cX2_init 6 = .ok (.bipush 40, 2) := by decide +kernel
theorem dX2_init_8 : decode cX2_init 8 = .ok (.multianewarray 9 2, 4) := by decide +kernel
theorem dX2_init_12 : decode cX2_init 12 = .ok (.putfield 11, 3) := by decide +kernel
theorem dX2_init_15 : decode cX2_init 15 = .ok (.return_, 1) := by decide +kernel
theorem dX0_begin_0 : decode cX0_begin 0 = .ok (.iload_n 1, 1) := by decide +kernel
theorem dX0_begin_1 : decode cX0_begin 1 = .ok (.invokestatic 34, 3) := by decide +kernel
theorem dX0_begin_4 : decode cX0_begin 4 = .ok (.ifCond .ne 6, 3) := by decide +kernel
theorem dX0_begin_7 : decode cX0_begin 7 = .ok (.bipush (-2), 2) := by decide +kernel
theorem dX0_begin_9 : decode cX0_begin 9 = .ok (.ireturn, 1) := by decide +kernel
theorem dX0_begin_10 : decode cX0_begin 10 = .ok (.aload_n 0, 1) := by decide +kernel
theorem dX0_begin_11 : decode cX0_begin 11 = .ok (.getfield 11, 3) := by decide +kernel
theorem dX0_begin_14 : decode cX0_begin 14 = .ok (.iload_n 1, 1) := by decide +kernel
theorem dX0_begin_15 : decode cX0_begin 15 = .ok (.aaload, 1) := by decide +kernel
theorem dX0_begin_16 : decode cX0_begin 16 = .ok (.getfield 38, 3) := by decide +kernel
theorem dX0_begin_19 : decode cX0_begin 19 = .ok (.ifCond .ne 6, 3) := by decide +kernel
theorem dX0_begin_22 : decode cX0_begin 22 = .ok (.bipush (-3), 2) := by decide +kernel
theorem dX0_begin_24 : decode cX0_begin 24 = .ok (.ireturn, 1) := by decide +kernel
theorem dX0_begin_25 : decode cX0_begin 25 = .ok (.aload_n 0, 1) := by decide +kernel
theorem dX0_begin_26 : decode cX0_begin 26 = .ok (.getfield 30, 3) := by decide +kernel
theorem dX0_begin_29 : decode cX0_begin 29 = .ok (.bipush 10, 2) := by decide +kernel
theorem dX0_begin_31 : decode cX0_begin 31 = .ok (.if_icmp .lt 6, 3) := by decide +kernel
theorem dX0_begin_34 : decode cX0_begin 34 = .ok (.bipush (-5), 2) := by decide +kernel
theorem dX0_begin_36 : decode cX0_begin 36 = .ok (.ireturn, 1) := by decide +kernel
theorem dX0_begin_37 : decode cX0_begin 37 = .ok (.aload_n 0, 1) := by decide +kernel
theorem dX0_begin_38 : decode cX0_begin 38 = .ok (.getfield 30, 3) := by decide +kernel
theorem dX0_begin_41 : decode cX0_begin 41 = .ok (.istore_n 2, 1) := by decide +kernel
theorem dX0_begin_42 : decode cX0_begin 42 = .ok (.aload_n 0, 1) := by decide +kernel
theorem dX0_begin_43 : decode cX0_begin 43 = .ok (.dup, 1) := by decide +kernel
theorem dX0_begin_44 : decode cX0_begin 44 = .ok (.getfield 30, 3) := by decide +kernel
theorem dX0_begin_47 : decode cX0_begin 47 = .ok (.iconst 1, 1) := by decide +kernel
theorem dX0_begin_48 : decode cX0_begin 48 = .ok (.iadd, 1) := by decide +kernel
theorem dX0_begin_49 : decode cX0_begin 49 = .ok (.putfield 30, 3) := by decide +kernel
theorem dX0_begin_52 : decode cX0_begin 52 = .ok (.aload_n 0, 1) := by decide +kernel
theorem dX0_begin_53 : decode cX0_begin 53 = .ok (.getfield 18, 3) := by decide +kernel
theorem dX0_begin_56 : decode cX0_begin 56 = .ok (.iload_n 2, 1) := by decide +kernel
theorem dX0_begin_57 : decode cX0_begin 57 = .ok (.aaload, 1) := by decide +kernel
theorem dX0_begin_58 : decode cX0_begin 58 = .ok (.iload_n 1, 1) := by decide +kernel
theorem dX0_begin_59 : decode cX0_begin 59 = .ok (.putfield 42, 3) := by decide +kernel
theorem dX0_begin_62 : decode cX0_begin 62 = .ok (.aload_n 0, 1) := by decide +kernel
theorem dX0_begin_63 : decode cX0_begin 63 = .ok (.getfield 18, 3) := by decide +kernel
theorem dX0_begin_66 : decode cX0_begin 66 = .ok (.iload_n 2, 1) := by decide +kernel
theorem dX0_begin_67 : decode cX0_begin 67 = .ok (.aaload, 1) := by decide +kernel
theorem dX0_begin_68 : decode cX0_begin 68 = .ok (.iconst 1, 1) := by decide +kernel
theorem dX0_begin_69 : decode cX0_begin 69 = .ok (.putfield 45, 3) := by decide +kernel
theorem dX0_begin_72 : decode cX0_begin 72 = .ok (.iload_n 2, 1) := by decide +kernel
theorem dX0_begin_73 : decode cX0_begin 73 = .ok (.ireturn, 1) := by decide +kernel
theorem dX0_isNode_0 : decode cX0_isNode 0 = .ok (.iload_n 0, 1) := by decide +kernel
theorem dX0_isNode_1 : decode cX0_isNode 1 = .ok (.ifCond .lt 12, 3) := by decide +kernel
theorem dX0_isNode_4 : decode cX0_isNode 4 = .ok (.iload_n 0, 1) := by decide +kernel
theorem dX0_isNode_5 : decode cX0_isNode 5 = .ok (.iconst 4, 1) := by decide +kernel
theorem dX0_isNode_6 : decode cX0_isNode 6 = .ok (.if_icmp .ge 7, 3) := by decide +kernel
theorem dX0_isNode_9 : decode cX0_isNode 9 = .ok (.iconst 1, 1) := by decide +kernel
theorem dX0_isNode_10 : decode cX0_isNode 10 = .ok (.goto 4, 3) := by decide +kernel
theorem dX0_isNode_13 : decode cX0_isNode 13 = .ok (.iconst 0, 1) := by decide +kernel
theorem dX0_isNode_14 : decode cX0_isNode 14 = .ok (.ireturn, 1) := by decide +kernel
theorem dX0_work_0 : decode cX0_work 0 = .ok (.aload_n 0, 1) := by decide +kernel
theorem dX0_work_1 : decode cX0_work 1 = .ok (.iload_n 1, 1) := by decide +kernel
theorem dX0_work_2 : decode cX0_work 2 = .ok (.invokevirtual 48, 3) := by decide +kernel
theorem dX0_work_5 : decode cX0_work 5 = .ok (.ifCond .eq 22, 3) := by decide +kernel
theorem dX0_work_8 : decode cX0_work 8 = .ok (.iload_n 2, 1) := by decide +kernel
theorem dX0_work_9 : decode cX0_work 9 = .ok (.invokestatic 34, 3) := by decide +kernel
theorem dX0_work_12 : decode cX0_work 12 = .ok (.ifCond .eq 15, 3) := by decide +kernel
theorem dX0_work_15 : decode cX0_work 15 = .ok (.iload_n 3, 1) := by decide +kernel
theorem dX0_work_16 : decode cX0_work 16 = .ok (.iconst (-1), 1) := by decide +kernel
theorem dX0_work_17 : decode cX0_work 17 = .ok (.if_icmp .eq 13, 3) := by decide +kernel
theorem dX0_work_20 : decode cX0_work 20 = .ok (.iload_n 3, 1) := by decide +kernel
theorem dX0_work_21 : decode cX0_work 21 = .ok (.invokestatic 51, 3) := by decide +kernel
theorem dX0_work_24 : decode cX0_work 24 = .ok (.ifCond .ne 6, 3) := by decide +kernel
theorem dX0_work_27 : decode cX0_work 27 = .ok (.bipush (-2), 2) := by decide +kernel
theorem dX0_work_29 : decode cX0_work 29 = .ok (.ireturn, 1) := by decide +kernel
theorem dX0_work_30 : decode cX0_work 30 = .ok (.aload_n 0, 1) := by decide +kernel
theorem dX0_work_31 : decode cX0_work 31 = .ok (.getfield 11, 3) := by decide +kernel
theorem dX0_work_34 : decode cX0_work 34 = .ok (.iload_n 2, 1) := by decide +kernel
theorem dX0_work_35 : decode cX0_work 35 = .ok (.aaload, 1) := by decide +kernel
theorem dX0_work_36 : decode cX0_work 36 = .ok (.astore 4, 2) := by decide +kernel
theorem dX0_work_38 : decode cX0_work 38 = .ok (.aload_n 0, 1) := by decide +kernel
theorem dX0_work_39 : decode cX0_work 39 = .ok (.getfield 18, 3) := by decide +kernel
theorem dX0_work_42 : decode cX0_work 42 = .ok (.iload_n 1, 1) := by decide +kernel
theorem dX0_work_43 : decode cX0_work 43 = .ok (.aaload, 1) := by decide +kernel
theorem dX0_work_44 : decode cX0_work 44 = .ok (.astore 5, 2) := by decide +kernel
theorem dX0_work_46 : decode cX0_work 46 = .ok (.aload 4, 2) := by decide +kernel
theorem dX0_work_48 : decode cX0_work 48 = .ok (.getfield 38, 3) := by decide +kernel
theorem dX0_work_51 : decode cX0_work 51 = .ok (.ifCond .eq 19, 3) := by decide +kernel
theorem dX0_work_54 : decode cX0_work 54 = .ok (.aload_n 0, 1) := by decide +kernel
theorem dX0_work_55 : decode cX0_work 55 = .ok (.getfield 11, 3) := by decide +kernel
theorem dX0_work_58 : decode cX0_work 58 = .ok (.aload 5, 2) := by decide +kernel
theorem dX0_work_60 : decode cX0_work 60 = .ok (.getfield 42, 3) := by decide +kernel
theorem dX0_work_63 : decode cX0_work 63 = .ok (.aaload, 1) := by decide +kernel
theorem dX0_work_64 : decode cX0_work 64 = .ok (.getfield 38, 3) := by decide +kernel
theorem dX0_work_67 : decode cX0_work 67 = .ok (.ifCond .ne 6, 3) := by decide +kernel
theorem dX0_work_70 : decode cX0_work 70 = .ok (.bipush (-3), 2) := by decide +kernel
theorem dX0_work_72 : decode cX0_work 72 = .ok (.ireturn, 1) := by decide +kernel
theorem dX0_work_73 : decode cX0_work 73 = .ok (.aload 5, 2) := by decide +kernel
theorem dX0_work_75 : decode cX0_work 75 = .ok (.getfield 54, 3) := by decide +kernel
theorem dX0_work_78 : decode cX0_work 78 = .ok (.iload_n 2, 1) := by decide +kernel
theorem dX0_work_79 : decode cX0_work 79 = .ok (.invokestatic 57, 3) := by decide +kernel
theorem dX0_work_82 : decode cX0_work 82 = .ok (.istore 6, 2) := by decide +kernel
theorem dX0_work_84 : decode cX0_work 84 = .ok (.aload 5, 2) := by decide +kernel
theorem dX0_work_86 : decode cX0_work 86 = .ok (.getfield 45, 3) := by decide +kernel
theorem dX0_work_89 : decode cX0_work 89 = .ok (.iconst 1, 1) := by decide +kernel
theorem dX0_work_90 : decode cX0_work 90 = .ok (.if_icmp .ne 18, 3) := by decide +kernel
theorem dX0_work_93 : decode cX0_work 93 = .ok (.iload 6, 2) := by decide +kernel
theorem dX0_work_95 : decode cX0_work 95 = .ok (.ifCond .eq 16, 3) := by decide +kernel
theorem dX0_work_98 : decode cX0_work 98 = .ok (.aload 4, 2) := by decide +kernel
theorem dX0_work_100 : decode cX0_work 100 = .ok (.getfield 61, 3) := by decide +kernel
theorem dX0_work_103 : decode cX0_work 103 = .ok (.iload_n 1, 1) := by decide +kernel
theorem dX0_work_104 : decode cX0_work 104 = .ok (.iaload, 1) := by decide +kernel
theorem dX0_work_105 : decode cX0_work 105 = .ok (.ifCond .ne 6, 3) := by decide +kernel
theorem dX0_work_108 : decode cX0_work 108 = .ok (.bipush (-4), 2) := by decide +kernel
theorem dX0_work_110 : decode cX0_work 110 = .ok (.ireturn, 1) := by decide +kernel
theorem dX0_work_111 : decode cX0_work 111 = .ok (.iload 6, 2) := by decide +kernel
theorem dX0_work_113 : decode cX0_work 113 = .ok (.ifCond .ne 25, 3) := by decide +kernel
theorem dX0_work_116 : decode cX0_work 116 = .ok (.aload 5, 2) := by decide +kernel
theorem dX0_work_118 : decode cX0_work 118 = .ok (.dup, 1) := by decide +kernel
theorem dX0_work_119 : decode cX0_work 119 = .ok (.getfield 54, 3) := by decide +kernel
theorem dX0_work_122 : decode cX0_work 122 = .ok (.iload_n 2, 1) := by decide +kernel
theorem dX0_work_123 : decode cX0_work 123 = .ok (.invokestatic 65, 3) := by decide +kernel
theorem dX0_work_126 : decode cX0_work 126 = .ok (.ior, 1) := by decide +kernel
theorem dX0_work_127 : decode cX0_work 127 = .ok (.putfield 54, 3) := by decide +kernel
theorem dX0_work_130 : decode cX0_work 130 = .ok (.aload 4, 2) := by decide +kernel
theorem dX0_work_132 : decode cX0_work 132 = .ok (.getfield 61, 3) := by decide +kernel
theorem dX0_work_135 : decode cX0_work 135 = .ok (.iload_n 1, 1) := by decide +kernel
theorem dX0_work_136 : decode cX0_work 136 = .ok (.iconst 1, 1) := by decide +kernel
theorem dX0_work_137 : decode cX0_work 137 = .ok (.iastore, 1) := by decide +kernel
theorem dX0_work_138 : decode cX0_work 138 = .ok (.aload 4, 2) := by decide +kernel
theorem dX0_work_140 : decode cX0_work 140 = .ok (.iload_n 1, 1) := by decide +kernel
theorem dX0_work_141 : decode cX0_work 141 = .ok (.iload_n 3, 1) := by decide +kernel
theorem dX0_work_142 : decode cX0_work 142 = .ok (.invokevirtual 69, 3) := by decide +kernel
theorem dX0_work_145 : decode cX0_work 145 = .ok (.ifCond .eq 7, 3) := by decide +kernel
theorem dX0_work_148 : decode cX0_work 148 = .ok (.iconst 1, 1) := by decide +kernel
theorem dX0_work_149 : decode cX0_work 149 = .ok (.goto 4, 3) := by decide +kernel
theorem dX0_work_152 : decode cX0_work 152 = .ok (.iconst 0, 1) := by decide +kernel
theorem dX0_work_153 : decode cX0_work 153 = .ok (.ireturn, 1) := by decide +kernel
theorem dX0_isTransaction_0 : decode cX0_isTransaction 0 = .ok (.iload_n 1, 1) := by decide +kernel
theorem dX0_isTransaction_1 : decode cX0_isTransaction 1 = .ok (.ifCond .lt 15, 3) := by decide +kernel
theorem dX0_isTransaction_4 : decode cX0_isTransaction 4 = .ok (.iload_n 1, 1) := by decide +kernel
theorem dX0_isTransaction_5 : decode cX0_isTransaction 5 = .ok (.aload_n 0, 1) := by decide +kernel
theorem dX0_isTransaction_6 : decode cX0_isTransaction 6 = .ok (.getfield 30, 3) := by decide +kernel
theorem dX0_isTransaction_9 : decode cX0_isTransaction 9 = .ok (.if_icmp .ge 7, 3) := by decide +kernel
theorem dX0_isTransaction_12 : decode cX0_isTransaction 12 = .ok (.iconst 1, 1) := by decide +kernel
theorem dX0_isTransaction_13 : decode cX0_isTransaction 13 = .ok (.goto 4, 3) := by decide +kernel
theorem dX0_isTransaction_16 : decode cX0_isTransaction 16 = .ok (.iconst 0, 1) := by decide +kernel
theorem dX0_isTransaction_17 : decode cX0_isTransaction 17 = .ok (.ireturn, 1) := by decide +kernel
theorem dX0_isResource_0 : decode cX0_isResource 0 = .ok (.iload_n 0, 1) := by decide +kernel
theorem dX0_isResource_1 : decode cX0_isResource 1 = .ok (.ifCond .lt 13, 3) := by decide +kernel
theorem dX0_isResource_4 : decode cX0_isResource 4 = .ok (.iload_n 0, 1) := by decide +kernel
theorem dX0_isResource_5 : decode cX0_isResource 5 = .ok (.bipush 8, 2) := by decide +kernel
theorem dX0_isResource_7 : decode cX0_isResource 7 = .ok (.if_icmp .ge 7, 3) := by decide +kernel
theorem dX0_isResource_10 : decode cX0_isResource 10 = .ok (.iconst 1, 1) := by decide +kernel
theorem dX0_isResource_11 : decode cX0_isResource 11 = .ok (.goto 4, 3) := by decide +kernel
theorem dX0_isResource_14 : decode cX0_isResource 14 = .ok (.iconst 0, 1) := by decide +kernel
theorem dX0_isResource_15 : decode cX0_isResource 15 = .ok (.ireturn, 1) := by decide +kernel
theorem dX0_isIn_0 : decode cX0_isIn 0 = .ok (.iload_n 0, 1) := by decide +kernel
theorem dX0_isIn_1 : decode cX0_isIn 1 = .ok (.iload_n 1, 1) := by decide +kernel
theorem dX0_isIn_2 : decode cX0_isIn 2 = .ok (.invokestatic 65, 3) := by decide +kernel
theorem dX0_isIn_5 : decode cX0_isIn 5 = .ok (.iand, 1) := by decide +kernel
theorem dX0_isIn_6 : decode cX0_isIn 6 = .ok (.ifCond .eq 7, 3) := by decide +kernel
theorem dX0_isIn_9 : decode cX0_isIn 9 = .ok (.iconst 1, 1) := by decide +kernel
theorem dX0_isIn_10 : decode cX0_isIn 10 = .ok (.goto 4, 3) := by decide +kernel
theorem dX0_isIn_13 : decode cX0_isIn 13 = .ok (.iconst 0, 1) := by decide +kernel
theorem dX0_isIn_14 : decode cX0_isIn 14 = .ok (.ireturn, 1) := by decide +kernel
theorem dX0_only_0 : decode cX0_only 0 = .ok (.iconst 1, 1) := by decide +kernel
theorem dX0_only_1 : decode cX0_only 1 = .ok (.iload_n 0, 1) := by decide +kernel
theorem dX0_only_2 : decode cX0_only 2 = .ok (.ishl, 1) := by decide +kernel
theorem dX0_only_3 : decode cX0_only 3 = .ok (.ireturn, 1) := by decide +kernel
theorem dX3_grant_0 : decode cX3_grant 0 = .ok (.aload_n 0, 1) := by decide +kernel
theorem dX3_grant_1 : decode cX3_grant 1 = .ok (.getfield 15, 3) := by decide +kernel
theorem dX3_grant_4 : decode cX3_grant 4 = .ok (.iload_n 1, 1) := by decide +kernel
theorem dX3_grant_5 : decode cX3_grant 5 = .ok (.iaload, 1) := by decide +kernel
theorem dX3_grant_6 : decode cX3_grant 6 = .ok (.iconst 2, 1) := by decide +kernel
theorem dX3_grant_7 : decode cX3_grant 7 = .ok (.if_icmp .ne 5, 3) := by decide +kernel
theorem dX3_grant_10 : decode cX3_grant 10 = .ok (.iconst 0, 1) := by decide +kernel
theorem dX3_grant_11 : decode cX3_grant 11 = .ok (.ireturn, 1) := by decide +kernel
theorem dX3_grant_12 : decode cX3_grant 12 = .ok (.iload_n 2, 1) := by decide +kernel
theorem dX3_grant_13 : decode cX3_grant 13 = .ok (.iconst (-1), 1) := by decide +kernel
theorem dX3_grant_14 : decode cX3_grant 14 = .ok (.if_icmp .ne 5, 3) := by decide +kernel
theorem dX3_grant_17 : decode cX3_grant 17 = .ok (.iconst 1, 1) := by decide +kernel
theorem dX3_grant_18 : decode cX3_grant 18 = .ok (.ireturn, 1) := by decide +kernel
theorem dX3_grant_19 : decode cX3_grant 19 = .ok (.aload_n 0, 1) := by decide +kernel
theorem dX3_grant_20 : decode cX3_grant 20 = .ok (.iload_n 2, 1) := by decide +kernel
theorem dX3_grant_21 : decode cX3_grant 21 = .ok (.invokevirtual 33, 3) := by decide +kernel
theorem dX3_grant_24 : decode cX3_grant 24 = .ok (.istore_n 3, 1) := by decide +kernel
theorem dX3_grant_25 : decode cX3_grant 25 = .ok (.iload_n 3, 1) := by decide +kernel
theorem dX3_grant_26 : decode cX3_grant 26 = .ok (.iconst (-1), 1) := by decide +kernel
theorem dX3_grant_27 : decode cX3_grant 27 = .ok (.if_icmp .eq 17, 3) := by decide +kernel
theorem dX3_grant_30 : decode cX3_grant 30 = .ok (.iload_n 3, 1) := by decide +kernel
theorem dX3_grant_31 : decode cX3_grant 31 = .ok (.iload_n 1, 1) := by decide +kernel
theorem dX3_grant_32 : decode cX3_grant 32 = .ok (.if_icmp .eq 12, 3) := by decide +kernel
theorem dX3_grant_35 : decode cX3_grant 35 = .ok (.aload_n 0, 1) := by decide +kernel
theorem dX3_grant_36 : decode cX3_grant 36 = .ok (.getfield 15, 3) := by decide +kernel
theorem dX3_grant_39 : decode cX3_grant 39 = .ok (.iload_n 1, 1) := by decide +kernel
theorem dX3_grant_40 : decode cX3_grant 40 = .ok (.iconst 2, 1) := by decide +kernel
theorem dX3_grant_41 : decode cX3_grant 41 = .ok (.iastore, 1) := by decide +kernel
theorem dX3_grant_42 : decode cX3_grant 42 = .ok (.iconst 0, 1) := by decide +kernel
theorem dX3_grant_43 : decode cX3_grant 43 = .ok (.ireturn, 1) := by decide +kernel
theorem dX3_grant_44 : decode cX3_grant 44 = .ok (.aload_n 0, 1) := by decide +kernel
theorem dX3_grant_45 : decode cX3_grant 45 = .ok (.getfield 19, 3) := by decide +kernel
theorem dX3_grant_48 : decode cX3_grant 48 = .ok (.iload_n 1, 1) := by decide +kernel
theorem dX3_grant_49 : decode cX3_grant 49 = .ok (.dup2, 1) := by decide +kernel
theorem dX3_grant_50 : decode cX3_grant 50 = .ok (.iaload, 1) := by decide +kernel
theorem dX3_grant_51 : decode cX3_grant 51 = .ok (.iload_n 2, 1) := by decide +kernel
theorem dX3_grant_52 : decode cX3_grant 52 = .ok (.invokestatic 37, 3) := by decide +kernel
theorem dX3_grant_55 : decode cX3_grant 55 = .ok (.ior, 1) := by decide +kernel
theorem dX3_grant_56 : decode cX3_grant 56 = .ok (.iastore, 1) := by decide +kernel
theorem dX3_grant_57 : decode cX3_grant 57 = .ok (.iconst 1, 1) := by decide +kernel
theorem dX3_grant_58 : decode cX3_grant 58 = .ok (.ireturn, 1) := by decide +kernel
theorem dX3_findOwner_0 : decode cX3_findOwner 0 = .ok (.iconst 0, 1) := by decide +kernel
theorem dX3_findOwner_1 : decode cX3_findOwner 1 = .ok (.istore_n 2, 1) := by decide +kernel
theorem dX3_findOwner_2 : decode cX3_findOwner 2 = .ok (.iload_n 2, 1) := by decide +kernel
theorem dX3_findOwner_3 : decode cX3_findOwner 3 = .ok (.bipush 10, 2) := by decide +kernel
theorem dX3_findOwner_5 : decode cX3_findOwner 5 = .ok (.if_icmp .ge 24, 3) := by decide +kernel
theorem dX3_findOwner_8 : decode cX3_findOwner 8 = .ok (.aload_n 0, 1) := by decide +kernel
theorem dX3_findOwner_9 : decode cX3_findOwner 9 = .ok (.getfield 19, 3) := by decide +kernel
theorem dX3_findOwner_12 : decode cX3_findOwner 12 = .ok (.iload_n 2, 1) := by decide +kernel
theorem dX3_findOwner_13 : decode cX3_findOwner 13 = .ok (.iaload, 1) := by decide +kernel
theorem dX3_findOwner_14 : decode cX3_findOwner 14 = .ok (.iload_n 1, 1) := by decide +kernel
theorem dX3_findOwner_15 : decode cX3_findOwner 15 = .ok (.invokestatic 29, 3) := by decide +kernel
theorem dX3_findOwner_18 : decode cX3_findOwner 18 = .ok (.ifCond .eq 5, 3) := by decide +kernel
theorem dX3_findOwner_21 : decode cX3_findOwner 21 = .ok (.iload_n 2, 1) := by decide +kernel
theorem dX3_findOwner_22 : decode cX3_findOwner 22 = .ok (.ireturn, 1) := by decide +kernel
theorem dX3_findOwner_23 : decode cX3_findOwner 23 = .ok (.iinc 2 1, 3) := by decide +kernel
theorem dX3_findOwner_26 : decode cX3_findOwner 26 = .ok (.goto (-24), 3) := by decide +kernel
theorem dX3_findOwner_29 : decode cX3_findOwner 29 = .ok (.iconst (-1), 1) := by decide +kernel
theorem dX3_findOwner_30 : decode cX3_findOwner 30 = .ok (.ireturn, 1) := by decide +kernel
theorem dX0_commit_0 : decode cX0_commit 0 = .ok (.aload_n 0, 1) := by decide +kernel
theorem dX0_commit_1 : decode cX0_commit 1 = .ok (.iload_n 1, 1) := by decide +kernel
theorem dX0_commit_2 : decode cX0_commit 2 = .ok (.invokevirtual 48, 3) := by decide +kernel
theorem dX0_commit_5 : decode cX0_commit 5 = .ok (.ifCond .ne 6, 3) := by decide +kernel
theorem dX0_commit_8 : decode cX0_commit 8 = .ok (.bipush (-2), 2) := by decide +kernel
theorem dX0_commit_10 : decode cX0_commit 10 = .ok (.ireturn, 1) := by decide +kernel
theorem dX0_commit_11 : decode cX0_commit 11 = .ok (.aload_n 0, 1) := by decide +kernel
theorem dX0_commit_12 : decode cX0_commit 12 = .ok (.getfield 18, 3) := by decide +kernel
theorem dX0_commit_15 : decode cX0_commit 15 = .ok (.iload_n 1, 1) := by decide +kernel
theorem dX0_commit_16 : decode cX0_commit 16 = .ok (.aaload, 1) := by decide +kernel
theorem dX0_commit_17 : decode cX0_commit 17 = .ok (.astore_n 2, 1) := by decide +kernel
theorem dX0_commit_18 : decode cX0_commit 18 = .ok (.aload_n 0, 1) := by decide +kernel
theorem dX0_commit_19 : decode cX0_commit 19 = .ok (.getfield 11, 3) := by decide +kernel
theorem dX0_commit_22 : decode cX0_commit 22 = .ok (.aload_n 2, 1) := by decide +kernel
theorem dX0_commit_23 : decode cX0_commit 23 = .ok (.getfield 42, 3) := by decide +kernel
theorem dX0_commit_26 : decode cX0_commit 26 = .ok (.aaload, 1) := by decide +kernel
theorem dX0_commit_27 : decode cX0_commit 27 = .ok (.getfield 38, 3) := by decide +kernel
theorem dX0_commit_30 : decode cX0_commit 30 = .ok (.ifCond .ne 6, 3) := by decide +kernel
theorem dX0_commit_33 : decode cX0_commit 33 = .ok (.bipush (-3), 2) := by decide +kernel
theorem dX0_commit_35 : decode cX0_commit 35 = .ok (.ireturn, 1) := by decide +kernel
theorem dX0_commit_36 : decode cX0_commit 36 = .ok (.aload_n 2, 1) := by decide +kernel
theorem dX0_commit_37 : decode cX0_commit 37 = .ok (.getfield 45, 3) := by decide +kernel
theorem dX0_commit_40 : decode cX0_commit 40 = .ok (.iconst 1, 1) := by decide +kernel
theorem dX0_commit_41 : decode cX0_commit 41 = .ok (.if_icmp .eq 6, 3) := by decide +kernel
theorem dX0_commit_44 : decode cX0_commit 44 = .ok (.bipush (-4), 2) := by decide +kernel
theorem dX0_commit_46 : decode cX0_commit 46 = .ok (.ireturn, 1) := by decide +kernel
theorem dX0_commit_47 : decode cX0_commit 47 = .ok (.aload_n 2, 1) := by decide +kernel
theorem dX0_commit_48 : decode cX0_commit 48 = .ok (.getfield 54, 3) := by decide +kernel
theorem dX0_commit_51 : decode cX0_commit 51 = .ok (.ifCond .ne 9, 3) := by decide +kernel
theorem dX0_commit_54 : decode cX0_commit 54 = .ok (.aload_n 2, 1) := by decide +kernel
theorem dX0_commit_55 : decode cX0_commit 55 = .ok (.invokevirtual 72, 3) := by decide +kernel
theorem dX0_commit_58 : decode cX0_commit 58 = .ok (.iconst 0, 1) := by decide +kernel
theorem dX0_commit_59 : decode cX0_commit 59 = .ok (.ireturn, 1) := by decide +kernel
theorem dX0_commit_60 : decode cX0_commit 60 = .ok (.aload_n 2, 1) := by decide +kernel
theorem dX0_commit_61 : decode cX0_commit 61 = .ok (.iconst 2, 1) := by decide +kernel
theorem dX0_commit_62 : decode cX0_commit 62 = .ok (.putfield 45, 3) := by decide +kernel
theorem dX0_commit_65 : decode cX0_commit 65 = .ok (.aload_n 0, 1) := by decide +kernel
theorem dX0_commit_66 : decode cX0_commit 66 = .ok (.getfield 26, 3) := by decide +kernel
theorem dX0_commit_69 : decode cX0_commit 69 = .ok (.iconst 1, 1) := by decide +kernel
theorem dX0_commit_70 : decode cX0_commit 70 = .ok (.aload_n 2, 1) := by decide +kernel
theorem dX0_commit_71 : decode cX0_commit 71 = .ok (.getfield 42, 3) := by decide +kernel
theorem dX0_commit_74 : decode cX0_commit 74 = .ok (.aload_n 2, 1) := by decide +kernel
theorem dX0_commit_75 : decode cX0_commit 75 = .ok (.getfield 54, 3) := by decide +kernel
theorem dX0_commit_78 : decode cX0_commit 78 = .ok (.iload_n 1, 1) := by decide +kernel
theorem dX0_commit_79 : decode cX0_commit 79 = .ok (.invokevirtual 75, 3) := by decide +kernel
theorem dX0_commit_82 : decode cX0_commit 82 = .ok (.aload_n 2, 1) := by decide +kernel
theorem dX0_commit_83 : decode cX0_commit 83 = .ok (.getfield 54, 3) := by decide +kernel
theorem dX0_commit_86 : decode cX0_commit 86 = .ok (.invokestatic 79, 3) := by decide +kernel
theorem dX0_commit_89 : decode cX0_commit 89 = .ok (.ireturn, 1) := by decide +kernel
theorem dX4_forget_0 : decode cX4_forget 0 = .ok (.aload_n 0, 1) := by decide +kernel
theorem dX4_forget_1 : decode cX4_forget 1 = .ok (.iconst 0, 1) := by decide +kernel
theorem dX4_forget_2 : decode cX4_forget 2 = .ok (.putfield 21, 3) := by decide +kernel
theorem dX4_forget_5 : decode cX4_forget 5 = .ok (.aload_n 0, 1) := by decide +kernel
theorem dX4_forget_6 : decode cX4_forget 6 = .ok (.iconst 0, 1) := by decide +kernel
theorem dX4_forget_7 : decode cX4_forget 7 = .ok (.putfield 9, 3) := by decide +kernel
theorem dX4_forget_10 : decode cX4_forget 10 = .ok (.aload_n 0, 1) := by decide +kernel
theorem dX4_forget_11 : decode cX4_forget 11 = .ok (.iconst 0, 1) := by decide +kernel
theorem dX4_forget_12 : decode cX4_forget 12 = .ok (.putfield 15, 3) := by decide +kernel
theorem dX4_forget_15 : decode cX4_forget 15 = .ok (.aload_n 0, 1) := by decide +kernel
theorem dX4_forget_16 : decode cX4_forget 16 = .ok (.iconst 0, 1) := by decide +kernel
theorem dX4_forget_17 : decode cX4_forget 17 = .ok (.putfield 18, 3) := by decide +kernel
theorem dX4_forget_20 : decode cX4_forget 20 = .ok (.aload_n 0, 1) := by decide +kernel
theorem dX4_forget_21 : decode cX4_forget 21 = .ok (.iconst 0, 1) := by decide +kernel
theorem dX4_forget_22 : decode cX4_forget 22 = .ok (.putfield 24, 3) := by decide +kernel
theorem dX4_forget_25 : decode cX4_forget 25 = .ok (.return_, 1) := by decide +kernel
theorem dX2_sendToEach_0 : decode cX2_sendToEach 0 = .ok (.iconst 0, 1) := by decide +kernel
theorem dX2_sendToEach_1 : decode cX2_sendToEach 1 = .ok (.istore 5, 2) := by decide +kernel
theorem dX2_sendToEach_3 : decode cX2_sendToEach 3 = .ok (.iload 5, 2) := by decide +kernel
theorem dX2_sendToEach_5 : decode cX2_sendToEach 5 = .ok (.iconst 4, 1) := by decide +kernel
theorem dX2_sendToEach_6 : decode cX2_sendToEach 6 = .ok (.if_icmp .ge 28, 3) := by decide +kernel
theorem dX2_sendToEach_9 : decode cX2_sendToEach 9 = .ok (.iload_n 3, 1) := by decide +kernel
theorem dX2_sendToEach_10 : decode cX2_sendToEach 10 = .ok (.iload 5, 2) := by decide +kernel
theorem dX2_sendToEach_12 : decode cX2_sendToEach 12 = .ok (.invokestatic 20, 3) := by decide +kernel
theorem dX2_sendToEach_15 : decode cX2_sendToEach 15 = .ok (.ifCond .eq 13, 3) := by decide +kernel
theorem dX2_sendToEach_18 : decode cX2_sendToEach 18 = .ok (.aload_n 0, 1) := by decide +kernel
theorem dX2_sendToEach_19 : decode cX2_sendToEach 19 = .ok (.iload_n 1, 1) := by decide +kernel
theorem dX2_sendToEach_20 : decode cX2_sendToEach 20 = .ok (.iload_n 2, 1) := by decide +kernel
theorem dX2_sendToEach_21 : decode cX2_sendToEach 21 = .ok (.iload 5, 2) := by decide +kernel
theorem dX2_sendToEach_23 : decode cX2_sendToEach 23 = .ok (.iload 4, 2) := by decide +kernel
theorem dX2_sendToEach_25 : decode cX2_sendToEach 25 = .ok (.invokevirtual 24, 3) := by decide +kernel
theorem dX2_sendToEach_28 : decode cX2_sendToEach 28 = .ok (.iinc 5 1, 3) := by decide +kernel
theorem dX2_sendToEach_31 : decode cX2_sendToEach 31 = .ok (.goto (-28), 3) := by decide +kernel
theorem dX2_sendToEach_34 : decode cX2_sendToEach 34 = .ok (.return_, 1) := by decide +kernel
theorem dX2_send_0 : decode cX2_send 0 = .ok (.aload_n 0, 1) := by decide +kernel
theorem dX2_send_1 : decode cX2_send 1 = .ok (.getfield 16, 3) := by decide +kernel
theorem dX2_send_4 : decode cX2_send 4 = .ok (.bipush 40, 2) := by decide +kernel
theorem dX2_send_6 : decode cX2_send 6 = .ok (.if_icmp .lt 4, 3) := by decide +kernel
theorem dX2_send_9 : decode cX2_send 9 = .ok (.return_, 1) := by decide +kernel
theorem dX2_send_10 : decode cX2_send 10 = .ok (.aload_n 0, 1) := by decide +kernel
theorem dX2_send_11 : decode cX2_send 11 = .ok (.getfield 11, 3) := by decide +kernel
theorem dX2_send_14 : decode cX2_send 14 = .ok (.iconst 0, 1) := by decide +kernel
theorem dX2_send_15 : decode cX2_send 15 = .ok (.aaload, 1) := by decide +kernel
theorem dX2_send_16 : decode cX2_send 16 = .ok (.aload_n 0, 1) := by decide +kernel
theorem dX2_send_17 : decode cX2_send 17 = .ok (.getfield 16, 3) := by decide +kernel
theorem dX2_send_20 : decode cX2_send 20 = .ok (.iload_n 1, 1) := by decide +kernel
theorem dX2_send_21 : decode cX2_send 21 = .ok (.iastore, 1) := by decide +kernel
theorem dX2_send_22 : decode cX2_send 22 = .ok (.aload_n 0, 1) := by decide +kernel
theorem dX2_send_23 : decode cX2_send 23 = .ok (.getfield 11, 3) := by decide +kernel
theorem dX2_send_26 : decode cX2_send 26 = .ok (.iconst 1, 1) := by decide +kernel
theorem dX2_send_27 : decode cX2_send 27 = .ok (.aaload, 1) := by decide +kernel
theorem dX2_send_28 : decode cX2_send 28 = .ok (.aload_n 0, 1) := by decide +kernel
theorem dX2_send_29 : decode cX2_send 29 = .ok (.getfield 16, 3) := by decide +kernel
theorem dX2_send_32 : decode cX2_send 32 = .ok (.iload_n 2, 1) := by decide +kernel
theorem dX2_send_33 : decode cX2_send 33 = .ok (.iastore, 1) := by decide +kernel
theorem dX2_send_34 : decode cX2_send 34 = .ok (.aload_n 0, 1) := by decide +kernel
theorem dX2_send_35 : decode cX2_send 35 = .ok (.getfield 11, 3) := by decide +kernel
theorem dX2_send_38 : decode cX2_send 38 = .ok (.iconst 2, 1) := by decide +kernel
theorem dX2_send_39 : decode cX2_send 39 = .ok (.aaload, 1) := by decide +kernel
theorem dX2_send_40 : decode cX2_send 40 = .ok (.aload_n 0, 1) := by decide +kernel
theorem dX2_send_41 : decode cX2_send 41 = .ok (.getfield 16, 3) := by decide +kernel
theorem dX2_send_44 : decode cX2_send 44 = .ok (.iload_n 3, 1) := by decide +kernel
theorem dX2_send_45 : decode cX2_send 45 = .ok (.iastore, 1) := by decide +kernel
theorem dX2_send_46 : decode cX2_send 46 = .ok (.aload_n 0, 1) := by decide +kernel
theorem dX2_send_47 : decode cX2_send 47 = .ok (.getfield 11, 3) := by decide +kernel
theorem dX2_send_50 : decode cX2_send 50 = .ok (.iconst 3, 1) := by decide +kernel
theorem dX2_send_51 : decode cX2_send 51 = .ok (.aaload, 1) := by decide +kernel
theorem dX2_send_52 : decode cX2_send 52 = .ok (.aload_n 0, 1) := by decide +kernel
theorem dX2_send_53 : decode cX2_send 53 = .ok (.getfield 16, 3) := by decide +kernel
theorem dX2_send_56 : decode cX2_send 56 = .ok (.iload 4, 2) := by decide +kernel
theorem dX2_send_58 : decode cX2_send 58 = .ok (.iastore, 1) := by decide +kernel
theorem dX2_send_59 : decode cX2_send 59 = .ok (.aload_n 0, 1) := by decide +kernel
theorem dX2_send_60 : decode cX2_send 60 = .ok (.dup, 1) := by decide +kernel
theorem dX2_send_61 : decode cX2_send 61 = .ok (.getfield 16, 3) := by decide +kernel
theorem dX2_send_64 : decode cX2_send 64 = .ok (.iconst 1, 1) := by decide +kernel
theorem dX2_send_65 : decode cX2_send 65 = .ok (.iadd, 1) := by decide +kernel
theorem dX2_send_66 : decode cX2_send 66 = .ok (.putfield 16, 3) := by decide +kernel
theorem dX2_send_69 : decode cX2_send 69 = .ok (.return_, 1) := by decide +kernel
theorem dJ6_bitCount_0 : decode cJ6_bitCount 0 = .ok (.iload_n 0, 1) := by decide +kernel
theorem dJ6_bitCount_1 : decode cJ6_bitCount 1 = .ok (.iload_n 0, 1) := by decide +kernel
theorem dJ6_bitCount_2 : decode cJ6_bitCount 2 = .ok (.iconst 1, 1) := by decide +kernel
theorem dJ6_bitCount_3 : decode cJ6_bitCount 3 = .ok (.iushr, 1) := by decide +kernel
theorem dJ6_bitCount_4 : decode cJ6_bitCount 4 = .ok (.ldc_w 265, 3) := by decide +kernel
theorem dJ6_bitCount_7 : decode cJ6_bitCount 7 = .ok (.iand, 1) := by decide +kernel
theorem dJ6_bitCount_8 : decode cJ6_bitCount 8 = .ok (.isub, 1) := by decide +kernel
theorem dJ6_bitCount_9 : decode cJ6_bitCount 9 = .ok (.istore_n 0, 1) := by decide +kernel
theorem dJ6_bitCount_10 : decode cJ6_bitCount 10 = .ok (.iload_n 0, 1) := by decide +kernel
theorem dJ6_bitCount_11 : decode cJ6_bitCount 11 = .ok (.ldc_w 266, 3) := by decide +kernel
theorem dJ6_bitCount_14 : decode cJ6_bitCount 14 = .ok (.iand, 1) := by decide +kernel
theorem dJ6_bitCount_15 : decode cJ6_bitCount 15 = .ok (.iload_n 0, 1) := by decide +kernel
theorem dJ6_bitCount_16 : decode cJ6_bitCount 16 = .ok (.iconst 2, 1) := by decide +kernel
theorem dJ6_bitCount_17 : decode cJ6_bitCount 17 = .ok (.iushr, 1) := by decide +kernel
theorem dJ6_bitCount_18 : decode cJ6_bitCount 18 = .ok (.ldc_w 266, 3) := by decide +kernel
theorem dJ6_bitCount_21 : decode cJ6_bitCount 21 = .ok (.iand, 1) := by decide +kernel
theorem dJ6_bitCount_22 : decode cJ6_bitCount 22 = .ok (.iadd, 1) := by decide +kernel
theorem dJ6_bitCount_23 : decode cJ6_bitCount 23 = .ok (.istore_n 0, 1) := by decide +kernel
theorem dJ6_bitCount_24 : decode cJ6_bitCount 24 = .ok (.iload_n 0, 1) := by decide +kernel
theorem dJ6_bitCount_25 : decode cJ6_bitCount 25 = .ok (.iload_n 0, 1) := by decide +kernel
theorem dJ6_bitCount_26 : decode cJ6_bitCount 26 = .ok (.iconst 4, 1) := by decide +kernel
theorem dJ6_bitCount_27 : decode cJ6_bitCount 27 = .ok (.iushr, 1) := by decide +kernel
theorem dJ6_bitCount_28 : decode cJ6_bitCount 28 = .ok (.iadd, 1) := by decide +kernel
theorem dJ6_bitCount_29 : decode cJ6_bitCount 29 = .ok (.ldc_w 267, 3) := by decide +kernel
theorem dJ6_bitCount_32 : decode cJ6_bitCount 32 = .ok (.iand, 1) := by decide +kernel
theorem dJ6_bitCount_33 : decode cJ6_bitCount 33 = .ok (.istore_n 0, 1) := by decide +kernel
theorem dJ6_bitCount_34 : decode cJ6_bitCount 34 = .ok (.iload_n 0, 1) := by decide +kernel
theorem dJ6_bitCount_35 : decode cJ6_bitCount 35 = .ok (.iload_n 0, 1) := by decide +kernel
theorem dJ6_bitCount_36 : decode cJ6_bitCount 36 = .ok (.bipush 8, 2) := by decide +kernel
theorem dJ6_bitCount_38 : decode cJ6_bitCount 38 = .ok (.iushr, 1) := by decide +kernel
theorem dJ6_bitCount_39 : decode cJ6_bitCount 39 = .ok (.iadd, 1) := by decide +kernel
theorem dJ6_bitCount_40 : decode cJ6_bitCount 40 = .ok (.istore_n 0, 1) := by decide +kernel
theorem dJ6_bitCount_41 : decode cJ6_bitCount 41 = .ok (.iload_n 0, 1) := by decide +kernel
theorem dJ6_bitCount_42 : decode cJ6_bitCount 42 = .ok (.iload_n 0, 1) := by decide +kernel
theorem dJ6_bitCount_43 : decode cJ6_bitCount 43 = .ok (.bipush 16, 2) := by decide +kernel
theorem dJ6_bitCount_45 : decode cJ6_bitCount 45 = .ok (.iushr, 1) := by decide +kernel
theorem dJ6_bitCount_46 : decode cJ6_bitCount 46 = .ok (.iadd, 1) := by decide +kernel
theorem dJ6_bitCount_47 : decode cJ6_bitCount 47 = .ok (.istore_n 0, 1) := by decide +kernel
theorem dJ6_bitCount_48 : decode cJ6_bitCount 48 = .ok (.iload_n 0, 1) := by decide +kernel
theorem dJ6_bitCount_49 : decode cJ6_bitCount 49 = .ok (.bipush 63, 2) := by decide +kernel
theorem dJ6_bitCount_51 : decode cJ6_bitCount 51 = .ok (.iand, 1) := by decide +kernel
theorem dJ6_bitCount_52 : decode cJ6_bitCount 52 = .ok (.ireturn, 1) := by decide +kernel
theorem dX0_withdraw_0 : decode cX0_withdraw 0 = .ok (.aload_n 0, 1) := by decide +kernel
theorem dX0_withdraw_1 : decode cX0_withdraw 1 = .ok (.iload_n 1, 1) := by decide +kernel
theorem dX0_withdraw_2 : decode cX0_withdraw 2 = .ok (.invokevirtual 48, 3) := by decide +kernel
theorem dX0_withdraw_5 : decode cX0_withdraw 5 = .ok (.ifCond .ne 6, 3) := by decide +kernel
theorem dX0_withdraw_8 : decode cX0_withdraw 8 = .ok (.bipush (-2), 2) := by decide +kernel
theorem dX0_withdraw_10 : decode cX0_withdraw 10 = .ok (.ireturn, 1) := by decide +kernel
theorem dX0_withdraw_11 : decode cX0_withdraw 11 = .ok (.aload_n 0, 1) := by decide +kernel
theorem dX0_withdraw_12 : decode cX0_withdraw 12 = .ok (.getfield 18, 3) := by decide +kernel
theorem dX0_withdraw_15 : decode cX0_withdraw 15 = .ok (.iload_n 1, 1) := by decide +kernel
theorem dX0_withdraw_16 : decode cX0_withdraw 16 = .ok (.aaload, 1) := by decide +kernel
theorem dX0_withdraw_17 : decode cX0_withdraw 17 = .ok (.astore_n 2, 1) := by decide +kernel
theorem dX0_withdraw_18 : decode cX0_withdraw 18 = .ok (.aload_n 0, 1) := by decide +kernel
theorem dX0_withdraw_19 : decode cX0_withdraw 19 = .ok (.getfield 11, 3) := by decide +kernel
theorem dX0_withdraw_22 : decode cX0_withdraw 22 = .ok (.aload_n 2, 1) := by decide +kernel
theorem dX0_withdraw_23 : decode cX0_withdraw 23 = .ok (.getfield 42, 3) := by decide +kernel
theorem dX0_withdraw_26 : decode cX0_withdraw 26 = .ok (.aaload, 1) := by decide +kernel
theorem dX0_withdraw_27 : decode cX0_withdraw 27 = .ok (.getfield 38, 3) := by decide +kernel
theorem dX0_withdraw_30 : decode cX0_withdraw 30 = .ok (.ifCond .ne 6, 3) := by decide +kernel
theorem dX0_withdraw_33 : decode cX0_withdraw 33 = .ok (.bipush (-3), 2) := by decide +kernel
theorem dX0_withdraw_35 : decode cX0_withdraw 35 = .ok (.ireturn, 1) := by decide +kernel
theorem dX0_withdraw_36 : decode cX0_withdraw 36 = .ok (.aload_n 2, 1) := by decide +kernel
theorem dX0_withdraw_37 : decode cX0_withdraw 37 = .ok (.getfield 45, 3) := by decide +kernel
theorem dX0_withdraw_40 : decode cX0_withdraw 40 = .ok (.iconst 1, 1) := by decide +kernel
theorem dX0_withdraw_41 : decode cX0_withdraw 41 = .ok (.if_icmp .eq 14, 3) := by decide +kernel
theorem dX0_withdraw_44 : decode cX0_withdraw 44 = .ok (.aload_n 2, 1) := by decide +kernel
theorem dX0_withdraw_45 : decode cX0_withdraw 45 = .ok (.getfield 45, 3) := by decide +kernel
theorem dX0_withdraw_48 : decode cX0_withdraw 48 = .ok (.iconst 2, 1) := by decide +kernel
theorem dX0_withdraw_49 : decode cX0_withdraw 49 = .ok (.if_icmp .eq 6, 3) := by decide +kernel
theorem dX0_withdraw_52 : decode cX0_withdraw 52 = .ok (.bipush (-4), 2) := by decide +kernel
theorem dX0_withdraw_54 : decode cX0_withdraw 54 = .ok (.ireturn, 1) := by decide +kernel
theorem dX0_withdraw_55 : decode cX0_withdraw 55 = .ok (.aload_n 0, 1) := by decide +kernel
theorem dX0_withdraw_56 : decode cX0_withdraw 56 = .ok (.iload_n 1, 1) := by decide +kernel
theorem dX0_withdraw_57 : decode cX0_withdraw 57 = .ok (.iconst 0, 1) := by decide +kernel
theorem dX0_withdraw_58 : decode cX0_withdraw 58 = .ok (.invokevirtual 84, 3) := by decide +kernel
theorem dX0_withdraw_61 : decode cX0_withdraw 61 = .ok (.ireturn, 1) := by decide +kernel
theorem dX0_giveUp_0 : decode cX0_giveUp 0 = .ok (.aload_n 0, 1) := by decide +kernel
theorem dX0_giveUp_1 : decode cX0_giveUp 1 = .ok (.getfield 18, 3) := by decide +kernel
theorem dX0_giveUp_4 : decode cX0_giveUp 4 = .ok (.iload_n 1, 1) := by decide +kernel
theorem dX0_giveUp_5 : decode cX0_giveUp 5 = .ok (.aaload, 1) := by decide +kernel
theorem dX0_giveUp_6 : decode cX0_giveUp 6 = .ok (.astore_n 3, 1) := by decide +kernel
theorem dX0_giveUp_7 : decode cX0_giveUp 7 = .ok (.aload_n 3, 1) := by decide +kernel
theorem dX0_giveUp_8 : decode cX0_giveUp 8 = .ok (.getfield 54, 3) := by decide +kernel
theorem dX0_giveUp_11 : decode cX0_giveUp 11 = .ok (.aload_n 3, 1) := by decide +kernel
theorem dX0_giveUp_12 : decode cX0_giveUp 12 = .ok (.getfield 130, 3) := by decide +kernel
theorem dX0_giveUp_15 : decode cX0_giveUp 15 = .ok (.iconst (-1), 1) := by decide +kernel
theorem dX0_giveUp_16 : decode cX0_giveUp 16 = .ok (.ixor, 1) := by decide +kernel
theorem dX0_giveUp_17 : decode cX0_giveUp 17 = .ok (.iand, 1) := by decide +kernel
theorem dX0_giveUp_18 : decode cX0_giveUp 18 = .ok (.iload_n 2, 1) := by decide +kernel
theorem dX0_giveUp_19 : decode cX0_giveUp 19 = .ok (.iconst (-1), 1) := by decide +kernel
theorem dX0_giveUp_20 : decode cX0_giveUp 20 = .ok (.ixor, 1) := by decide +kernel
theorem dX0_giveUp_21 : decode cX0_giveUp 21 = .ok (.iand, 1) := by decide +kernel
theorem dX0_giveUp_22 : decode cX0_giveUp 22 = .ok (.istore 4, 2) := by decide +kernel
theorem dX0_giveUp_24 : decode cX0_giveUp 24 = .ok (.aload_n 0, 1) := by decide +kernel
theorem dX0_giveUp_25 : decode cX0_giveUp 25 = .ok (.getfield 11, 3) := by decide +kernel
theorem dX0_giveUp_28 : decode cX0_giveUp 28 = .ok (.aload_n 3, 1) := by decide +kernel
theorem dX0_giveUp_29 : decode cX0_giveUp 29 = .ok (.getfield 42, 3) := by decide +kernel
theorem dX0_giveUp_32 : decode cX0_giveUp 32 = .ok (.aaload, 1) := by decide +kernel
theorem dX0_giveUp_33 : decode cX0_giveUp 33 = .ok (.getfield 111, 3) := by decide +kernel
theorem dX0_giveUp_36 : decode cX0_giveUp 36 = .ok (.iload_n 1, 1) := by decide +kernel
theorem dX0_giveUp_37 : decode cX0_giveUp 37 = .ok (.iconst 5, 1) := by decide +kernel
theorem dX0_giveUp_38 : decode cX0_giveUp 38 = .ok (.iconst 0, 1) := by decide +kernel
theorem dX0_giveUp_39 : decode cX0_giveUp 39 = .ok (.invokevirtual 189, 3) := by decide +kernel
theorem dX0_giveUp_42 : decode cX0_giveUp 42 = .ok (.aload_n 0, 1) := by decide +kernel
theorem dX0_giveUp_43 : decode cX0_giveUp 43 = .ok (.getfield 26, 3) := by decide +kernel
theorem dX0_giveUp_46 : decode cX0_giveUp 46 = .ok (.bipush 6, 2) := by decide +kernel
theorem dX0_giveUp_48 : decode cX0_giveUp 48 = .ok (.aload_n 3, 1) := by decide +kernel
theorem dX0_giveUp_49 : decode cX0_giveUp 49 = .ok (.getfield 42, 3) := by decide +kernel
theorem dX0_giveUp_52 : decode cX0_giveUp 52 = .ok (.iload 4, 2) := by decide +kernel
theorem dX0_giveUp_54 : decode cX0_giveUp 54 = .ok (.iload_n 1, 1) := by decide +kernel
theorem dX0_giveUp_55 : decode cX0_giveUp 55 = .ok (.invokevirtual 75, 3) := by decide +kernel
theorem dX0_giveUp_58 : decode cX0_giveUp 58 = .ok (.aload_n 3, 1) := by decide +kernel
theorem dX0_giveUp_59 : decode cX0_giveUp 59 = .ok (.invokevirtual 72, 3) := by decide +kernel
theorem dX0_giveUp_62 : decode cX0_giveUp 62 = .ok (.iload 4, 2) := by decide +kernel
theorem dX0_giveUp_64 : decode cX0_giveUp 64 = .ok (.invokestatic 79, 3) := by decide +kernel
theorem dX0_giveUp_67 : decode cX0_giveUp 67 = .ok (.ireturn, 1) := by decide +kernel
theorem dX1_write_0 : decode cX1_write 0 = .ok (.aload_n 0, 1) := by decide +kernel
theorem dX1_write_1 : decode cX1_write 1 = .ok (.getfield 18, 3) := by decide +kernel
theorem dX1_write_4 : decode cX1_write 4 = .ok (.bipush 60, 2) := by decide +kernel
theorem dX1_write_6 : decode cX1_write 6 = .ok (.if_icmp .lt 4, 3) := by decide +kernel
theorem dX1_write_9 : decode cX1_write 9 = .ok (.return_, 1) := by decide +kernel
theorem dX1_write_10 : decode cX1_write 10 = .ok (.aload_n 0, 1) := by decide +kernel
theorem dX1_write_11 : decode cX1_write 11 = .ok (.getfield 9, 3) := by decide +kernel
theorem dX1_write_14 : decode cX1_write 14 = .ok (.aload_n 0, 1) := by decide +kernel
theorem dX1_write_15 : decode cX1_write 15 = .ok (.getfield 18, 3) := by decide +kernel
theorem dX1_write_18 : decode cX1_write 18 = .ok (.iload_n 1, 1) := by decide +kernel
theorem dX1_write_19 : decode cX1_write 19 = .ok (.iload_n 2, 1) := by decide +kernel
theorem dX1_write_20 : decode cX1_write 20 = .ok (.invokestatic 22, 3) := by decide +kernel
theorem dX1_write_23 : decode cX1_write 23 = .ok (.iastore, 1) := by decide +kernel
theorem dX1_write_24 : decode cX1_write 24 = .ok (.aload_n 0, 1) := by decide +kernel
theorem dX1_write_25 : decode cX1_write 25 = .ok (.getfield 15, 3) := by decide +kernel
theorem dX1_write_28 : decode cX1_write 28 = .ok (.aload_n 0, 1) := by decide +kernel
theorem dX1_write_29 : decode cX1_write 29 = .ok (.getfield 18, 3) := by decide +kernel
theorem dX1_write_32 : decode cX1_write 32 = .ok (.iload_n 3, 1) := by decide +kernel
theorem dX1_write_33 : decode cX1_write 33 = .ok (.iastore, 1) := by decide +kernel
theorem dX1_write_34 : decode cX1_write 34 = .ok (.aload_n 0, 1) := by decide +kernel
theorem dX1_write_35 : decode cX1_write 35 = .ok (.dup, 1) := by decide +kernel
theorem dX1_write_36 : decode cX1_write 36 = .ok (.getfield 18, 3) := by decide +kernel
theorem dX1_write_39 : decode cX1_write 39 = .ok (.iconst 1, 1) := by decide +kernel
theorem dX1_write_40 : decode cX1_write 40 = .ok (.iadd, 1) := by decide +kernel
theorem dX1_write_41 : decode cX1_write 41 = .ok (.putfield 18, 3) := by decide +kernel
theorem dX1_write_44 : decode cX1_write 44 = .ok (.return_, 1) := by decide +kernel
theorem dX1_labelOf_0 : decode cX1_labelOf 0 = .ok (.bipush 10, 2) := by decide +kernel
theorem dX1_labelOf_2 : decode cX1_labelOf 2 = .ok (.iload_n 0, 1) := by decide +kernel
theorem dX1_labelOf_3 : decode cX1_labelOf 3 = .ok (.imul, 1) := by decide +kernel
theorem dX1_labelOf_4 : decode cX1_labelOf 4 = .ok (.iload_n 1, 1) := by decide +kernel
theorem dX1_labelOf_5 : decode cX1_labelOf 5 = .ok (.iadd, 1) := by decide +kernel
theorem dX1_labelOf_6 : decode cX1_labelOf 6 = .ok (.ireturn, 1) := by decide +kernel
theorem dX0_deliver_0 : decode cX0_deliver 0 = .ok (.aload_n 0, 1) := by decide +kernel
theorem dX0_deliver_1 : decode cX0_deliver 1 = .ok (.getfield 26, 3) := by decide +kernel
theorem dX0_deliver_4 : decode cX0_deliver 4 = .ok (.iload_n 1, 1) := by decide +kernel
theorem dX0_deliver_5 : decode cX0_deliver 5 = .ok (.invokevirtual 88, 3) := by decide +kernel
theorem dX0_deliver_8 : decode cX0_deliver 8 = .ok (.ifCond .ne 6, 3) := by decide +kernel
theorem dX0_deliver_11 : decode cX0_deliver 11 = .ok (.bipush (-2), 2) := by decide +kernel
theorem dX0_deliver_13 : decode cX0_deliver 13 = .ok (.ireturn, 1) := by decide +kernel
theorem dX0_deliver_14 : decode cX0_deliver 14 = .ok (.aload_n 0, 1) := by decide +kernel
theorem dX0_deliver_15 : decode cX0_deliver 15 = .ok (.getfield 26, 3) := by decide +kernel
theorem dX0_deliver_18 : decode cX0_deliver 18 = .ok (.getfield 91, 3) := by decide +kernel
theorem dX0_deliver_21 : decode cX0_deliver 21 = .ok (.iconst 0, 1) := by decide +kernel
theorem dX0_deliver_22 : decode cX0_deliver 22 = .ok (.aaload, 1) := by decide +kernel
theorem dX0_deliver_23 : decode cX0_deliver 23 = .ok (.iload_n 1, 1) := by decide +kernel
theorem dX0_deliver_24 : decode cX0_deliver 24 = .ok (.iaload, 1) := by decide +kernel
theorem dX0_deliver_25 : decode cX0_deliver 25 = .ok (.istore_n 2, 1) := by decide +kernel
theorem dX0_deliver_26 : decode cX0_deliver 26 = .ok (.aload_n 0, 1) := by decide +kernel
theorem dX0_deliver_27 : decode cX0_deliver 27 = .ok (.getfield 26, 3) := by decide +kernel
theorem dX0_deliver_30 : decode cX0_deliver 30 = .ok (.getfield 91, 3) := by decide +kernel
theorem dX0_deliver_33 : decode cX0_deliver 33 = .ok (.iconst 1, 1) := by decide +kernel
theorem dX0_deliver_34 : decode cX0_deliver 34 = .ok (.aaload, 1) := by decide +kernel
theorem dX0_deliver_35 : decode cX0_deliver 35 = .ok (.iload_n 1, 1) := by decide +kernel
theorem dX0_deliver_36 : decode cX0_deliver 36 = .ok (.iaload, 1) := by decide +kernel
theorem dX0_deliver_37 : decode cX0_deliver 37 = .ok (.istore_n 3, 1) := by decide +kernel
theorem dX0_deliver_38 : decode cX0_deliver 38 = .ok (.aload_n 0, 1) := by decide +kernel
theorem dX0_deliver_39 : decode cX0_deliver 39 = .ok (.getfield 26, 3) := by decide +kernel
theorem dX0_deliver_42 : decode cX0_deliver 42 = .ok (.getfield 91, 3) := by decide +kernel
theorem dX0_deliver_45 : decode cX0_deliver 45 = .ok (.iconst 2, 1) := by decide +kernel
theorem dX0_deliver_46 : decode cX0_deliver 46 = .ok (.aaload, 1) := by decide +kernel
theorem dX0_deliver_47 : decode cX0_deliver 47 = .ok (.iload_n 1, 1) := by decide +kernel
theorem dX0_deliver_48 : decode cX0_deliver 48 = .ok (.iaload, 1) := by decide +kernel
theorem dX0_deliver_49 : decode cX0_deliver 49 = .ok (.istore 4, 2) := by decide +kernel
theorem dX0_deliver_51 : decode cX0_deliver 51 = .ok (.aload_n 0, 1) := by decide +kernel
theorem dX0_deliver_52 : decode cX0_deliver 52 = .ok (.getfield 26, 3) := by decide +kernel
theorem dX0_deliver_55 : decode cX0_deliver 55 = .ok (.getfield 91, 3) := by decide +kernel
theorem dX0_deliver_58 : decode cX0_deliver 58 = .ok (.iconst 3, 1) := by decide +kernel
theorem dX0_deliver_59 : decode cX0_deliver 59 = .ok (.aaload, 1) := by decide +kernel
theorem dX0_deliver_60 : decode cX0_deliver 60 = .ok (.iload_n 1, 1) := by decide +kernel
theorem dX0_deliver_61 : decode cX0_deliver 61 = .ok (.iaload, 1) := by decide +kernel
theorem dX0_deliver_62 : decode cX0_deliver 62 = .ok (.istore 5, 2) := by decide +kernel
theorem dX0_deliver_64 : decode cX0_deliver 64 = .ok (.aload_n 0, 1) := by decide +kernel
theorem dX0_deliver_65 : decode cX0_deliver 65 = .ok (.getfield 26, 3) := by decide +kernel
theorem dX0_deliver_68 : decode cX0_deliver 68 = .ok (.iload_n 1, 1) := by decide +kernel
theorem dX0_deliver_69 : decode cX0_deliver 69 = .ok (.invokevirtual 95, 3) := by decide +kernel
theorem dX0_deliver_72 : decode cX0_deliver 72 = .ok (.aload_n 0, 1) := by decide +kernel
theorem dX0_deliver_73 : decode cX0_deliver 73 = .ok (.getfield 11, 3) := by decide +kernel
theorem dX0_deliver_76 : decode cX0_deliver 76 = .ok (.iload 4, 2) := by decide +kernel
theorem dX0_deliver_78 : decode cX0_deliver 78 = .ok (.aaload, 1) := by decide +kernel
theorem dX0_deliver_79 : decode cX0_deliver 79 = .ok (.getfield 38, 3) := by decide +kernel
theorem dX0_deliver_82 : decode cX0_deliver 82 = .ok (.ifCond .eq 13, 3) := by decide +kernel
theorem dX0_deliver_85 : decode cX0_deliver 85 = .ok (.aload_n 0, 1) := by decide +kernel
theorem dX0_deliver_86 : decode cX0_deliver 86 = .ok (.iload_n 2, 1) := by decide +kernel
theorem dX0_deliver_87 : decode cX0_deliver 87 = .ok (.iload_n 3, 1) := by decide +kernel
theorem dX0_deliver_88 : decode cX0_deliver 88 = .ok (.iload 4, 2) := by decide +kernel
theorem dX0_deliver_90 : decode cX0_deliver 90 = .ok (.iload 5, 2) := by decide +kernel
theorem dX0_deliver_92 : decode cX0_deliver 92 = .ok (.invokevirtual 99, 3) := by decide +kernel
theorem dX0_deliver_95 : decode cX0_deliver 95 = .ok (.iload_n 2, 1) := by decide +kernel
theorem dX0_deliver_96 : decode cX0_deliver 96 = .ok (.ireturn, 1) := by decide +kernel
theorem dX2_has_0 : decode cX2_has 0 = .ok (.iload_n 1, 1) := by decide +kernel
theorem dX2_has_1 : decode cX2_has 1 = .ok (.ifCond .lt 15, 3) := by decide +kernel
theorem dX2_has_4 : decode cX2_has 4 = .ok (.iload_n 1, 1) := by decide +kernel
theorem dX2_has_5 : decode cX2_has 5 = .ok (.aload_n 0, 1) := by decide +kernel
theorem dX2_has_6 : decode cX2_has 6 = .ok (.getfield 16, 3) := by decide +kernel
theorem dX2_has_9 : decode cX2_has 9 = .ok (.if_icmp .ge 7, 3) := by decide +kernel
theorem dX2_has_12 : decode cX2_has 12 = .ok (.iconst 1, 1) := by decide +kernel
theorem dX2_has_13 : decode cX2_has 13 = .ok (.goto 4, 3) := by decide +kernel
theorem dX2_has_16 : decode cX2_has 16 = .ok (.iconst 0, 1) := by decide +kernel
theorem dX2_has_17 : decode cX2_has 17 = .ok (.ireturn, 1) := by decide +kernel
theorem dX2_takeOut_0 : decode cX2_takeOut 0 = .ok (.aload_n 0, 1) := by decide +kernel
theorem dX2_takeOut_1 : decode cX2_takeOut 1 = .ok (.dup, 1) := by decide +kernel
theorem dX2_takeOut_2 : decode cX2_takeOut 2 = .ok (.getfield 16, 3) := by decide +kernel
theorem dX2_takeOut_5 : decode cX2_takeOut 5 = .ok (.iconst 1, 1) := by decide +kernel
theorem dX2_takeOut_6 : decode cX2_takeOut 6 = .ok (.isub, 1) := by decide +kernel
theorem dX2_takeOut_7 : decode cX2_takeOut 7 = .ok (.putfield 16, 3) := by decide +kernel
theorem dX2_takeOut_10 : decode cX2_takeOut 10 = .ok (.iconst 0, 1) := by decide +kernel
theorem dX2_takeOut_11 : decode cX2_takeOut 11 = .ok (.istore_n 2, 1) := by decide +kernel
theorem dX2_takeOut_12 : decode cX2_takeOut 12 = .ok (.iload_n 2, 1) := by decide +kernel
theorem dX2_takeOut_13 : decode cX2_takeOut 13 = .ok (.iconst 4, 1) := by decide +kernel
theorem dX2_takeOut_14 : decode cX2_takeOut 14 = .ok (.if_icmp .ge 43, 3) := by decide +kernel
theorem dX2_takeOut_17 : decode cX2_takeOut 17 = .ok (.iload_n 1, 1) := by decide +kernel
theorem dX2_takeOut_18 : decode cX2_takeOut 18 = .ok (.istore_n 3, 1) := by decide +kernel
theorem dX2_takeOut_19 : decode cX2_takeOut 19 = .ok (.iload_n 3, 1) := by decide +kernel
theorem dX2_takeOut_20 : decode cX2_takeOut 20 = .ok (.aload_n 0, 1) := by decide +kernel
theorem dX2_takeOut_21 : decode cX2_takeOut 21 = .ok (.getfield 16, 3) := by decide +kernel
theorem dX2_takeOut_24 : decode cX2_takeOut 24 = .ok (.if_icmp .ge 27, 3) := by decide +kernel
theorem dX2_takeOut_27 : decode cX2_takeOut 27 = .ok (.aload_n 0, 1) := by decide +kernel
theorem dX2_takeOut_28 : decode cX2_takeOut 28 = .ok (.getfield 11, 3) := by decide +kernel
theorem dX2_takeOut_31 : decode cX2_takeOut 31 = .ok (.iload_n 2, 1) := by decide +kernel
theorem dX2_takeOut_32 : decode cX2_takeOut 32 = .ok (.aaload, 1) := by decide +kernel
theorem dX2_takeOut_33 : decode cX2_takeOut 33 = .ok (.iload_n 3, 1) := by decide +kernel
theorem dX2_takeOut_34 : decode cX2_takeOut 34 = .ok (.aload_n 0, 1) := by decide +kernel
theorem dX2_takeOut_35 : decode cX2_takeOut 35 = .ok (.getfield 11, 3) := by decide +kernel
theorem dX2_takeOut_38 : decode cX2_takeOut 38 = .ok (.iload_n 2, 1) := by decide +kernel
theorem dX2_takeOut_39 : decode cX2_takeOut 39 = .ok (.aaload, 1) := by decide +kernel
theorem dX2_takeOut_40 : decode cX2_takeOut 40 = .ok (.iload_n 3, 1) := by decide +kernel
theorem dX2_takeOut_41 : decode cX2_takeOut 41 = .ok (.iconst 1, 1) := by decide +kernel
theorem dX2_takeOut_42 : decode cX2_takeOut 42 = .ok (.iadd, 1) := by decide +kernel
theorem dX2_takeOut_43 : decode cX2_takeOut 43 = .ok (.iaload, 1) := by decide +kernel
theorem dX2_takeOut_44 : decode cX2_takeOut 44 = .ok (.iastore, 1) := by decide +kernel
theorem dX2_takeOut_45 : decode cX2_takeOut 45 = .ok (.iinc 3 1, 3) := by decide +kernel
theorem dX2_takeOut_48 : decode cX2_takeOut 48 = .ok (.goto (-29), 3) := by decide +kernel
theorem dX2_takeOut_51 : decode cX2_takeOut 51 = .ok (.iinc 2 1, 3) := by decide +kernel
theorem dX2_takeOut_54 : decode cX2_takeOut 54 = .ok (.goto (-42), 3) := by decide +kernel
theorem dX2_takeOut_57 : decode cX2_takeOut 57 = .ok (.return_, 1) := by decide +kernel
theorem dX0_hear_0 : decode cX0_hear 0 = .ok (.iload_n 1, 1) := by decide +kernel
theorem dX0_hear_1 : decode cX0_hear 1 = .ok (.tableswitch 145 1 8 #[47, 72, 72, 72, 83, 110, 124, 134], 47) := by decide +kernel
theorem dX0_hear_48 : decode cX0_hear 48 = .ok (.aload_n 0, 1) := by decide +kernel
theorem dX0_hear_49 : decode cX0_hear 49 = .ok (.getfield 26, 3) := by decide +kernel
theorem dX0_hear_52 : decode cX0_hear 52 = .ok (.aload_n 0, 1) := by decide +kernel
theorem dX0_hear_53 : decode cX0_hear 53 = .ok (.getfield 11, 3) := by decide +kernel
theorem dX0_hear_56 : decode cX0_hear 56 = .ok (.iload_n 3, 1) := by decide +kernel
theorem dX0_hear_57 : decode cX0_hear 57 = .ok (.aaload, 1) := by decide +kernel
theorem dX0_hear_58 : decode cX0_hear 58 = .ok (.iload 4, 2) := by decide +kernel
theorem dX0_hear_60 : decode cX0_hear 60 = .ok (.invokevirtual 156, 3) := by decide +kernel
theorem dX0_hear_63 : decode cX0_hear 63 = .ok (.iload_n 3, 1) := by decide +kernel
theorem dX0_hear_64 : decode cX0_hear 64 = .ok (.iload_n 2, 1) := by decide +kernel
theorem dX0_hear_65 : decode cX0_hear 65 = .ok (.iload 4, 2) := by decide +kernel
theorem dX0_hear_67 : decode cX0_hear 67 = .ok (.invokevirtual 159, 3) := by decide +kernel
theorem dX0_hear_70 : decode cX0_hear 70 = .ok (.goto 76, 3) := by decide +kernel
theorem dX0_hear_73 : decode cX0_hear 73 = .ok (.aload_n 0, 1) := by decide +kernel
theorem dX0_hear_74 : decode cX0_hear 74 = .ok (.iload_n 1, 1) := by decide +kernel
theorem dX0_hear_75 : decode cX0_hear 75 = .ok (.iload_n 2, 1) := by decide +kernel
theorem dX0_hear_76 : decode cX0_hear 76 = .ok (.iload 4, 2) := by decide +kernel
theorem dX0_hear_78 : decode cX0_hear 78 = .ok (.invokevirtual 162, 3) := by decide +kernel
theorem dX0_hear_81 : decode cX0_hear 81 = .ok (.goto 65, 3) := by decide +kernel
theorem dX0_hear_84 : decode cX0_hear 84 = .ok (.aload_n 0, 1) := by decide +kernel
theorem dX0_hear_85 : decode cX0_hear 85 = .ok (.getfield 11, 3) := by decide +kernel
theorem dX0_hear_88 : decode cX0_hear 88 = .ok (.iload_n 3, 1) := by decide +kernel
theorem dX0_hear_89 : decode cX0_hear 89 = .ok (.aaload, 1) := by decide +kernel
theorem dX0_hear_90 : decode cX0_hear 90 = .ok (.iload 4, 2) := by decide +kernel
theorem dX0_hear_92 : decode cX0_hear 92 = .ok (.invokevirtual 166, 3) := by decide +kernel
theorem dX0_hear_95 : decode cX0_hear 95 = .ok (.aload_n 0, 1) := by decide +kernel
theorem dX0_hear_96 : decode cX0_hear 96 = .ok (.getfield 26, 3) := by decide +kernel
theorem dX0_hear_99 : decode cX0_hear 99 = .ok (.bipush 7, 2) := by decide +kernel
theorem dX0_hear_101 : decode cX0_hear 101 = .ok (.iload_n 3, 1) := by decide +kernel
theorem dX0_hear_102 : decode cX0_hear 102 = .ok (.iload_n 2, 1) := by decide +kernel
theorem dX0_hear_103 : decode cX0_hear 103 = .ok (.iload 4, 2) := by decide +kernel
theorem dX0_hear_105 : decode cX0_hear 105 = .ok (.invokevirtual 159, 3) := by decide +kernel
theorem dX0_hear_108 : decode cX0_hear 108 = .ok (.goto 38, 3) := by decide +kernel
theorem dX0_hear_111 : decode cX0_hear 111 = .ok (.aload_n 0, 1) := by decide +kernel
theorem dX0_hear_112 : decode cX0_hear 112 = .ok (.getfield 11, 3) := by decide +kernel
theorem dX0_hear_115 : decode cX0_hear 115 = .ok (.iload_n 3, 1) := by decide +kernel
theorem dX0_hear_116 : decode cX0_hear 116 = .ok (.aaload, 1) := by decide +kernel
theorem dX0_hear_117 : decode cX0_hear 117 = .ok (.iload 4, 2) := by decide +kernel
theorem dX0_hear_119 : decode cX0_hear 119 = .ok (.invokevirtual 169, 3) := by decide +kernel
theorem dX0_hear_122 : decode cX0_hear 122 = .ok (.goto 24, 3) := by decide +kernel
theorem dX0_hear_125 : decode cX0_hear 125 = .ok (.aload_n 0, 1) := by decide +kernel
theorem dX0_hear_126 : decode cX0_hear 126 = .ok (.iload_n 2, 1) := by decide +kernel
theorem dX0_hear_127 : decode cX0_hear 127 = .ok (.iload 4, 2) := by decide +kernel
theorem dX0_hear_129 : decode cX0_hear 129 = .ok (.invokevirtual 172, 3) := by decide +kernel
theorem dX0_hear_132 : decode cX0_hear 132 = .ok (.goto 14, 3) := by decide +kernel
theorem dX0_hear_135 : decode cX0_hear 135 = .ok (.aload_n 0, 1) := by decide +kernel
theorem dX0_hear_136 : decode cX0_hear 136 = .ok (.iload_n 2, 1) := by decide +kernel
theorem dX0_hear_137 : decode cX0_hear 137 = .ok (.iload_n 3, 1) := by decide +kernel
theorem dX0_hear_138 : decode cX0_hear 138 = .ok (.iload 4, 2) := by decide +kernel
theorem dX0_hear_140 : decode cX0_hear 140 = .ok (.invokevirtual 176, 3) := by decide +kernel
theorem dX0_hear_143 : decode cX0_hear 143 = .ok (.goto 3, 3) := by decide +kernel
theorem dX0_hear_146 : decode cX0_hear 146 = .ok (.return_, 1) := by decide +kernel
theorem dX3_voteOn_0 : decode cX3_voteOn 0 = .ok (.aload_n 0, 1) := by decide +kernel
theorem dX3_voteOn_1 : decode cX3_voteOn 1 = .ok (.getfield 15, 3) := by decide +kernel
theorem dX3_voteOn_4 : decode cX3_voteOn 4 = .ok (.iload_n 1, 1) := by decide +kernel
theorem dX3_voteOn_5 : decode cX3_voteOn 5 = .ok (.iaload, 1) := by decide +kernel
theorem dX3_voteOn_6 : decode cX3_voteOn 6 = .ok (.lookupswitch 34 #[(1, 26), (3, 32)], 26) := by decide +kernel
theorem dX3_voteOn_32 : decode cX3_voteOn 32 = .ok (.aload_n 0, 1) := by decide +kernel
theorem dX3_voteOn_33 : decode cX3_voteOn 33 = .ok (.iload_n 1, 1) := by decide +kernel
theorem dX3_voteOn_34 : decode cX3_voteOn 34 = .ok (.invokevirtual 40, 3) := by decide +kernel
theorem dX3_voteOn_37 : decode cX3_voteOn 37 = .ok (.ireturn, 1) := by decide +kernel
theorem dX3_voteOn_38 : decode cX3_voteOn 38 = .ok (.iconst 2, 1) := by decide +kernel
theorem dX3_voteOn_39 : decode cX3_voteOn 39 = .ok (.ireturn, 1) := by decide +kernel
theorem dX3_voteOn_40 : decode cX3_voteOn 40 = .ok (.aload_n 0, 1) := by decide +kernel
theorem dX3_voteOn_41 : decode cX3_voteOn 41 = .ok (.iload_n 1, 1) := by decide +kernel
theorem dX3_voteOn_42 : decode cX3_voteOn 42 = .ok (.invokevirtual 43, 3) := by decide +kernel
theorem dX3_voteOn_45 : decode cX3_voteOn 45 = .ok (.iconst 4, 1) := by decide +kernel
theorem dX3_voteOn_46 : decode cX3_voteOn 46 = .ok (.ireturn, 1) := by decide +kernel
theorem dX3_voteWhenWorking_0 : decode cX3_voteWhenWorking 0 = .ok (.aload_n 0, 1) := by decide +kernel
theorem dX3_voteWhenWorking_1 : decode cX3_voteWhenWorking 1 = .ok (.getfield 19, 3) := by decide +kernel
theorem dX3_voteWhenWorking_4 : decode cX3_voteWhenWorking 4 = .ok (.iload_n 1, 1) := by decide +kernel
theorem dX3_voteWhenWorking_5 : decode cX3_voteWhenWorking 5 = .ok (.iaload, 1) := by decide +kernel
theorem dX3_voteWhenWorking_6 : decode cX3_voteWhenWorking 6 = .ok (.ifCond .ne 10, 3) := by decide +kernel
theorem dX3_voteWhenWorking_9 : decode cX3_voteWhenWorking 9 = .ok (.aload_n 0, 1) := by decide +kernel
theorem dX3_voteWhenWorking_10 : decode cX3_voteWhenWorking 10 = .ok (.iload_n 1, 1) := by decide +kernel
theorem dX3_voteWhenWorking_11 : decode cX3_voteWhenWorking 11 = .ok (.invokevirtual 47, 3) := by decide +kernel
theorem dX3_voteWhenWorking_14 : decode cX3_voteWhenWorking 14 = .ok (.iconst 3, 1) := by decide +kernel
theorem dX3_voteWhenWorking_15 : decode cX3_voteWhenWorking 15 = .ok (.ireturn, 1) := by decide +kernel
theorem dX3_voteWhenWorking_16 : decode cX3_voteWhenWorking 16 = .ok (.aload_n 0, 1) := by decide +kernel
theorem dX3_voteWhenWorking_17 : decode cX3_voteWhenWorking 17 = .ok (.getfield 25, 3) := by decide +kernel
theorem dX3_voteWhenWorking_20 : decode cX3_voteWhenWorking 20 = .ok (.iload_n 1, 1) := by decide +kernel
theorem dX3_voteWhenWorking_21 : decode cX3_voteWhenWorking 21 = .ok (.iconst 1, 1) := by decide +kernel
theorem dX3_voteWhenWorking_22 : decode cX3_voteWhenWorking 22 = .ok (.aload_n 0, 1) := by decide +kernel
theorem dX3_voteWhenWorking_23 : decode cX3_voteWhenWorking 23 = .ok (.getfield 19, 3) := by decide +kernel
theorem dX3_voteWhenWorking_26 : decode cX3_voteWhenWorking 26 = .ok (.iload_n 1, 1) := by decide +kernel
theorem dX3_voteWhenWorking_27 : decode cX3_voteWhenWorking 27 = .ok (.iaload, 1) := by decide +kernel
theorem dX3_voteWhenWorking_28 : decode cX3_voteWhenWorking 28 = .ok (.invokevirtual 50, 3) := by decide +kernel
theorem dX3_voteWhenWorking_31 : decode cX3_voteWhenWorking 31 = .ok (.aload_n 0, 1) := by decide +kernel
theorem dX3_voteWhenWorking_32 : decode cX3_voteWhenWorking 32 = .ok (.getfield 15, 3) := by decide +kernel
theorem dX3_voteWhenWorking_35 : decode cX3_voteWhenWorking 35 = .ok (.iload_n 1, 1) := by decide +kernel
theorem dX3_voteWhenWorking_36 : decode cX3_voteWhenWorking 36 = .ok (.iconst 3, 1) := by decide +kernel
theorem dX3_voteWhenWorking_37 : decode cX3_voteWhenWorking 37 = .ok (.iastore, 1) := by decide +kernel
theorem dX3_voteWhenWorking_38 : decode cX3_voteWhenWorking 38 = .ok (.iconst 2, 1) := by decide +kernel
theorem dX3_voteWhenWorking_39 : decode cX3_voteWhenWorking 39 = .ok (.ireturn, 1) := by decide +kernel
theorem dX3_letGo_0 : decode cX3_letGo 0 = .ok (.aload_n 0, 1) := by decide +kernel
theorem dX3_letGo_1 : decode cX3_letGo 1 = .ok (.getfield 19, 3) := by decide +kernel
theorem dX3_letGo_4 : decode cX3_letGo 4 = .ok (.iload_n 1, 1) := by decide +kernel
theorem dX3_letGo_5 : decode cX3_letGo 5 = .ok (.iconst 0, 1) := by decide +kernel
theorem dX3_letGo_6 : decode cX3_letGo 6 = .ok (.iastore, 1) := by decide +kernel
theorem dX3_letGo_7 : decode cX3_letGo 7 = .ok (.aload_n 0, 1) := by decide +kernel
theorem dX3_letGo_8 : decode cX3_letGo 8 = .ok (.getfield 15, 3) := by decide +kernel
theorem dX3_letGo_11 : decode cX3_letGo 11 = .ok (.iload_n 1, 1) := by decide +kernel
theorem dX3_letGo_12 : decode cX3_letGo 12 = .ok (.iconst 0, 1) := by decide +kernel
theorem dX3_letGo_13 : decode cX3_letGo 13 = .ok (.iastore, 1) := by decide +kernel
theorem dX3_letGo_14 : decode cX3_letGo 14 = .ok (.return_, 1) := by decide +kernel
theorem dX1_force_0 : decode cX1_force 0 = .ok (.aload_n 0, 1) := by decide +kernel
theorem dX1_force_1 : decode cX1_force 1 = .ok (.iload_n 1, 1) := by decide +kernel
theorem dX1_force_2 : decode cX1_force 2 = .ok (.iload_n 2, 1) := by decide +kernel
theorem dX1_force_3 : decode cX1_force 3 = .ok (.iload_n 3, 1) := by decide +kernel
theorem dX1_force_4 : decode cX1_force 4 = .ok (.invokevirtual 26, 3) := by decide +kernel
theorem dX1_force_7 : decode cX1_force 7 = .ok (.aload_n 0, 1) := by decide +kernel
theorem dX1_force_8 : decode cX1_force 8 = .ok (.aload_n 0, 1) := by decide +kernel
theorem dX1_force_9 : decode cX1_force 9 = .ok (.getfield 18, 3) := by decide +kernel
theorem dX1_force_12 : decode cX1_force 12 = .ok (.putfield 30, 3) := by decide +kernel
theorem dX1_force_15 : decode cX1_force 15 = .ok (.aload_n 0, 1) := by decide +kernel
theorem dX1_force_16 : decode cX1_force 16 = .ok (.dup, 1) := by decide +kernel
theorem dX1_force_17 : decode cX1_force 17 = .ok (.getfield 33, 3) := by decide +kernel
theorem dX1_force_20 : decode cX1_force 20 = .ok (.iconst 1, 1) := by decide +kernel
theorem dX1_force_21 : decode cX1_force 21 = .ok (.iadd, 1) := by decide +kernel
theorem dX1_force_22 : decode cX1_force 22 = .ok (.putfield 33, 3) := by decide +kernel
theorem dX1_force_25 : decode cX1_force 25 = .ok (.return_, 1) := by decide +kernel
theorem dX3_abort_0 : decode cX3_abort 0 = .ok (.aload_n 0, 1) := by decide +kernel
theorem dX3_abort_1 : decode cX3_abort 1 = .ok (.getfield 15, 3) := by decide +kernel
theorem dX3_abort_4 : decode cX3_abort 4 = .ok (.iload_n 1, 1) := by decide +kernel
theorem dX3_abort_5 : decode cX3_abort 5 = .ok (.iaload, 1) := by decide +kernel
theorem dX3_abort_6 : decode cX3_abort 6 = .ok (.ifCond .eq 18, 3) := by decide +kernel
theorem dX3_abort_9 : decode cX3_abort 9 = .ok (.aload_n 0, 1) := by decide +kernel
theorem dX3_abort_10 : decode cX3_abort 10 = .ok (.getfield 25, 3) := by decide +kernel
theorem dX3_abort_13 : decode cX3_abort 13 = .ok (.iload_n 1, 1) := by decide +kernel
theorem dX3_abort_14 : decode cX3_abort 14 = .ok (.iconst 3, 1) := by decide +kernel
theorem dX3_abort_15 : decode cX3_abort 15 = .ok (.iconst 0, 1) := by decide +kernel
theorem dX3_abort_16 : decode cX3_abort 16 = .ok (.invokevirtual 54, 3) := by decide +kernel
theorem dX3_abort_19 : decode cX3_abort 19 = .ok (.aload_n 0, 1) := by decide +kernel
theorem dX3_abort_20 : decode cX3_abort 20 = .ok (.iload_n 1, 1) := by decide +kernel
theorem dX3_abort_21 : decode cX3_abort 21 = .ok (.invokevirtual 47, 3) := by decide +kernel
theorem dX3_abort_24 : decode cX3_abort 24 = .ok (.return_, 1) := by decide +kernel
theorem dX0_hearVote_0 : decode cX0_hearVote 0 = .ok (.aload_n 0, 1) := by decide +kernel
theorem dX0_hearVote_1 : decode cX0_hearVote 1 = .ok (.getfield 18, 3) := by decide +kernel
theorem dX0_hearVote_4 : decode cX0_hearVote 4 = .ok (.iload_n 3, 1) := by decide +kernel
theorem dX0_hearVote_5 : decode cX0_hearVote 5 = .ok (.aaload, 1) := by decide +kernel
theorem dX0_hearVote_6 : decode cX0_hearVote 6 = .ok (.astore 4, 2) := by decide +kernel
theorem dX0_hearVote_8 : decode cX0_hearVote 8 = .ok (.aload 4, 2) := by decide +kernel
theorem dX0_hearVote_10 : decode cX0_hearVote 10 = .ok (.getfield 45, 3) := by decide +kernel
theorem dX0_hearVote_13 : decode cX0_hearVote 13 = .ok (.iconst 2, 1) := by decide +kernel
theorem dX0_hearVote_14 : decode cX0_hearVote 14 = .ok (.if_icmp .ne 15, 3) := by decide +kernel
theorem dX0_hearVote_17 : decode cX0_hearVote 17 = .ok (.aload 4, 2) := by decide +kernel
theorem dX0_hearVote_19 : decode cX0_hearVote 19 = .ok (.getfield 54, 3) := by decide +kernel
theorem dX0_hearVote_22 : decode cX0_hearVote 22 = .ok (.iload_n 2, 1) := by decide +kernel
theorem dX0_hearVote_23 : decode cX0_hearVote 23 = .ok (.invokestatic 57, 3) := by decide +kernel
theorem dX0_hearVote_26 : decode cX0_hearVote 26 = .ok (.ifCond .ne 4, 3) := by decide +kernel
theorem dX0_hearVote_29 : decode cX0_hearVote 29 = .ok (.return_, 1) := by decide +kernel
theorem dX0_hearVote_30 : decode cX0_hearVote 30 = .ok (.iload_n 1, 1) := by decide +kernel
theorem dX0_hearVote_31 : decode cX0_hearVote 31 = .ok (.iconst 4, 1) := by decide +kernel
theorem dX0_hearVote_32 : decode cX0_hearVote 32 = .ok (.if_icmp .ne 14, 3) := by decide +kernel
theorem dX0_hearVote_35 : decode cX0_hearVote 35 = .ok (.aload_n 0, 1) := by decide +kernel
theorem dX0_hearVote_36 : decode cX0_hearVote 36 = .ok (.iload_n 3, 1) := by decide +kernel
theorem dX0_hearVote_37 : decode cX0_hearVote 37 = .ok (.iload_n 2, 1) := by decide +kernel
theorem dX0_hearVote_38 : decode cX0_hearVote 38 = .ok (.invokestatic 65, 3) := by decide +kernel
theorem dX0_hearVote_41 : decode cX0_hearVote 41 = .ok (.invokevirtual 84, 3) := by decide +kernel
theorem dX0_hearVote_44 : decode cX0_hearVote 44 = .ok (.pop, 1) := by decide +kernel
theorem dX0_hearVote_45 : decode cX0_hearVote 45 = .ok (.return_, 1) := by decide +kernel
theorem dX0_hearVote_46 : decode cX0_hearVote 46 = .ok (.iload_n 1, 1) := by decide +kernel
theorem dX0_hearVote_47 : decode cX0_hearVote 47 = .ok (.iconst 2, 1) := by decide +kernel
theorem dX0_hearVote_48 : decode cX0_hearVote 48 = .ok (.if_icmp .ne 20, 3) := by decide +kernel
theorem dX0_hearVote_51 : decode cX0_hearVote 51 = .ok (.aload 4, 2) := by decide +kernel
theorem dX0_hearVote_53 : decode cX0_hearVote 53 = .ok (.dup, 1) := by decide +kernel
theorem dX0_hearVote_54 : decode cX0_hearVote 54 = .ok (.getfield 127, 3) := by decide +kernel
theorem dX0_hearVote_57 : decode cX0_hearVote 57 = .ok (.iload_n 2, 1) := by decide +kernel
theorem dX0_hearVote_58 : decode cX0_hearVote 58 = .ok (.invokestatic 65, 3) := by decide +kernel
theorem dX0_hearVote_61 : decode cX0_hearVote 61 = .ok (.ior, 1) := by decide +kernel
theorem dX0_hearVote_62 : decode cX0_hearVote 62 = .ok (.putfield 127, 3) := by decide +kernel
theorem dX0_hearVote_65 : decode cX0_hearVote 65 = .ok (.goto 17, 3) := by decide +kernel
theorem dX0_hearVote_68 : decode cX0_hearVote 68 = .ok (.aload 4, 2) := by decide +kernel
theorem dX0_hearVote_70 : decode cX0_hearVote 70 = .ok (.dup, 1) := by decide +kernel
theorem dX0_hearVote_71 : decode cX0_hearVote 71 = .ok (.getfield 130, 3) := by decide +kernel
theorem dX0_hearVote_74 : decode cX0_hearVote 74 = .ok (.iload_n 2, 1) := by decide +kernel
theorem dX0_hearVote_75 : decode cX0_hearVote 75 = .ok (.invokestatic 65, 3) := by decide +kernel
theorem dX0_hearVote_78 : decode cX0_hearVote 78 = .ok (.ior, 1) := by decide +kernel
theorem dX0_hearVote_79 : decode cX0_hearVote 79 = .ok (.putfield 130, 3) := by decide +kernel
theorem dX0_hearVote_82 : decode cX0_hearVote 82 = .ok (.aload 4, 2) := by decide +kernel
theorem dX0_hearVote_84 : decode cX0_hearVote 84 = .ok (.invokevirtual 179, 3) := by decide +kernel
theorem dX0_hearVote_87 : decode cX0_hearVote 87 = .ok (.ifCond .eq 8, 3) := by decide +kernel
theorem dX0_hearVote_90 : decode cX0_hearVote 90 = .ok (.aload_n 0, 1) := by decide +kernel
theorem dX0_hearVote_91 : decode cX0_hearVote 91 = .ok (.iload_n 3, 1) := by decide +kernel
theorem dX0_hearVote_92 : decode cX0_hearVote 92 = .ok (.invokevirtual 183, 3) := by decide +kernel
theorem dX0_hearVote_95 : decode cX0_hearVote 95 = .ok (.return_, 1) := by decide +kernel
theorem dX4_hasAllVotes_0 : decode cX4_hasAllVotes 0 = .ok (.aload_n 0, 1) := by decide +kernel
theorem dX4_hasAllVotes_1 : decode cX4_hasAllVotes 1 = .ok (.getfield 9, 3) := by decide +kernel
theorem dX4_hasAllVotes_4 : decode cX4_hasAllVotes 4 = .ok (.aload_n 0, 1) := by decide +kernel
theorem dX4_hasAllVotes_5 : decode cX4_hasAllVotes 5 = .ok (.getfield 15, 3) := by decide +kernel
theorem dX4_hasAllVotes_8 : decode cX4_hasAllVotes 8 = .ok (.aload_n 0, 1) := by decide +kernel
theorem dX4_hasAllVotes_9 : decode cX4_hasAllVotes 9 = .ok (.getfield 18, 3) := by decide +kernel
theorem dX4_hasAllVotes_12 : decode cX4_hasAllVotes 12 = .ok (.ior, 1) := by decide +kernel
theorem dX4_hasAllVotes_13 : decode cX4_hasAllVotes 13 = .ok (.iconst (-1), 1) := by decide +kernel
theorem dX4_hasAllVotes_14 : decode cX4_hasAllVotes 14 = .ok (.ixor, 1) := by decide +kernel
theorem dX4_hasAllVotes_15 : decode cX4_hasAllVotes 15 = .ok (.iand, 1) := by decide +kernel
theorem dX4_hasAllVotes_16 : decode cX4_hasAllVotes 16 = .ok (.ifCond .ne 7, 3) := by decide +kernel
theorem dX4_hasAllVotes_19 : decode cX4_hasAllVotes 19 = .ok (.iconst 1, 1) := by decide +kernel
theorem dX4_hasAllVotes_20 : decode cX4_hasAllVotes 20 = .ok (.goto 4, 3) := by decide +kernel
theorem dX4_hasAllVotes_23 : decode cX4_hasAllVotes 23 = .ok (.iconst 0, 1) := by decide +kernel
theorem dX4_hasAllVotes_24 : decode cX4_hasAllVotes 24 = .ok (.ireturn, 1) := by decide +kernel
theorem dX0_decide_0 : decode cX0_decide 0 = .ok (.aload_n 0, 1) := by decide +kernel
theorem dX0_decide_1 : decode cX0_decide 1 = .ok (.getfield 18, 3) := by decide +kernel
theorem dX0_decide_4 : decode cX0_decide 4 = .ok (.iload_n 1, 1) := by decide +kernel
theorem dX0_decide_5 : decode cX0_decide 5 = .ok (.aaload, 1) := by decide +kernel
theorem dX0_decide_6 : decode cX0_decide 6 = .ok (.astore_n 2, 1) := by decide +kernel
theorem dX0_decide_7 : decode cX0_decide 7 = .ok (.aload_n 2, 1) := by decide +kernel
theorem dX0_decide_8 : decode cX0_decide 8 = .ok (.getfield 127, 3) := by decide +kernel
theorem dX0_decide_11 : decode cX0_decide 11 = .ok (.ifCond .ne 8, 3) := by decide +kernel
theorem dX0_decide_14 : decode cX0_decide 14 = .ok (.aload_n 2, 1) := by decide +kernel
theorem dX0_decide_15 : decode cX0_decide 15 = .ok (.invokevirtual 72, 3) := by decide +kernel
theorem dX0_decide_18 : decode cX0_decide 18 = .ok (.return_, 1) := by decide +kernel
theorem dX0_decide_19 : decode cX0_decide 19 = .ok (.aload_n 2, 1) := by decide +kernel
theorem dX0_decide_20 : decode cX0_decide 20 = .ok (.aload_n 2, 1) := by decide +kernel
theorem dX0_decide_21 : decode cX0_decide 21 = .ok (.getfield 127, 3) := by decide +kernel
theorem dX0_decide_24 : decode cX0_decide 24 = .ok (.putfield 133, 3) := by decide +kernel
theorem dX0_decide_27 : decode cX0_decide 27 = .ok (.aload_n 0, 1) := by decide +kernel
theorem dX0_decide_28 : decode cX0_decide 28 = .ok (.getfield 11, 3) := by decide +kernel
theorem dX0_decide_31 : decode cX0_decide 31 = .ok (.aload_n 2, 1) := by decide +kernel
theorem dX0_decide_32 : decode cX0_decide 32 = .ok (.getfield 42, 3) := by decide +kernel
theorem dX0_decide_35 : decode cX0_decide 35 = .ok (.aaload, 1) := by decide +kernel
theorem dX0_decide_36 : decode cX0_decide 36 = .ok (.getfield 111, 3) := by decide +kernel
theorem dX0_decide_39 : decode cX0_decide 39 = .ok (.iload_n 1, 1) := by decide +kernel
theorem dX0_decide_40 : decode cX0_decide 40 = .ok (.iconst 4, 1) := by decide +kernel
theorem dX0_decide_41 : decode cX0_decide 41 = .ok (.aload_n 2, 1) := by decide +kernel
theorem dX0_decide_42 : decode cX0_decide 42 = .ok (.getfield 133, 3) := by decide +kernel
theorem dX0_decide_45 : decode cX0_decide 45 = .ok (.invokevirtual 186, 3) := by decide +kernel
theorem dX0_decide_48 : decode cX0_decide 48 = .ok (.aload_n 2, 1) := by decide +kernel
theorem dX0_decide_49 : decode cX0_decide 49 = .ok (.iconst 3, 1) := by decide +kernel
theorem dX0_decide_50 : decode cX0_decide 50 = .ok (.putfield 45, 3) := by decide +kernel
theorem dX0_decide_53 : decode cX0_decide 53 = .ok (.aload_n 0, 1) := by decide +kernel
theorem dX0_decide_54 : decode cX0_decide 54 = .ok (.getfield 26, 3) := by decide +kernel
theorem dX0_decide_57 : decode cX0_decide 57 = .ok (.iconst 5, 1) := by decide +kernel
theorem dX0_decide_58 : decode cX0_decide 58 = .ok (.aload_n 2, 1) := by decide +kernel
theorem dX0_decide_59 : decode cX0_decide 59 = .ok (.getfield 42, 3) := by decide +kernel
theorem dX0_decide_62 : decode cX0_decide 62 = .ok (.aload_n 2, 1) := by decide +kernel
theorem dX0_decide_63 : decode cX0_decide 63 = .ok (.getfield 133, 3) := by decide +kernel
theorem dX0_decide_66 : decode cX0_decide 66 = .ok (.iload_n 1, 1) := by decide +kernel
theorem dX0_decide_67 : decode cX0_decide 67 = .ok (.invokevirtual 75, 3) := by decide +kernel
theorem dX0_decide_70 : decode cX0_decide 70 = .ok (.return_, 1) := by decide +kernel
theorem dX3_finishCommit_0 : decode cX3_finishCommit 0 = .ok (.aload_n 0, 1) := by decide +kernel
theorem dX3_finishCommit_1 : decode cX3_finishCommit 1 = .ok (.getfield 15, 3) := by decide +kernel
theorem dX3_finishCommit_4 : decode cX3_finishCommit 4 = .ok (.iload_n 1, 1) := by decide +kernel
theorem dX3_finishCommit_5 : decode cX3_finishCommit 5 = .ok (.iaload, 1) := by decide +kernel
theorem dX3_finishCommit_6 : decode cX3_finishCommit 6 = .ok (.iconst 3, 1) := by decide +kernel
theorem dX3_finishCommit_7 : decode cX3_finishCommit 7 = .ok (.if_icmp .ne 18, 3) := by decide +kernel
theorem dX3_finishCommit_10 : decode cX3_finishCommit 10 = .ok (.aload_n 0, 1) := by decide +kernel
theorem dX3_finishCommit_11 : decode cX3_finishCommit 11 = .ok (.getfield 25, 3) := by decide +kernel
theorem dX3_finishCommit_14 : decode cX3_finishCommit 14 = .ok (.iload_n 1, 1) := by decide +kernel
theorem dX3_finishCommit_15 : decode cX3_finishCommit 15 = .ok (.iconst 2, 1) := by decide +kernel
theorem dX3_finishCommit_16 : decode cX3_finishCommit 16 = .ok (.iconst 0, 1) := by decide +kernel
theorem dX3_finishCommit_17 : decode cX3_finishCommit 17 = .ok (.invokevirtual 50, 3) := by decide +kernel
theorem dX3_finishCommit_20 : decode cX3_finishCommit 20 = .ok (.aload_n 0, 1) := by decide +kernel
theorem dX3_finishCommit_21 : decode cX3_finishCommit 21 = .ok (.iload_n 1, 1) := by decide +kernel
theorem dX3_finishCommit_22 : decode cX3_finishCommit 22 = .ok (.invokevirtual 47, 3) := by decide +kernel
theorem dX3_finishCommit_25 : decode cX3_finishCommit 25 = .ok (.return_, 1) := by decide +kernel
theorem dX0_hearAck_0 : decode cX0_hearAck 0 = .ok (.aload_n 0, 1) := by decide +kernel
theorem dX0_hearAck_1 : decode cX0_hearAck 1 = .ok (.getfield 18, 3) := by decide +kernel
theorem dX0_hearAck_4 : decode cX0_hearAck 4 = .ok (.iload_n 2, 1) := by decide +kernel
theorem dX0_hearAck_5 : decode cX0_hearAck 5 = .ok (.aaload, 1) := by decide +kernel
theorem dX0_hearAck_6 : decode cX0_hearAck 6 = .ok (.astore_n 3, 1) := by decide +kernel
theorem dX0_hearAck_7 : decode cX0_hearAck 7 = .ok (.aload_n 3, 1) := by decide +kernel
theorem dX0_hearAck_8 : decode cX0_hearAck 8 = .ok (.getfield 45, 3) := by decide +kernel
theorem dX0_hearAck_11 : decode cX0_hearAck 11 = .ok (.iconst 3, 1) := by decide +kernel
theorem dX0_hearAck_12 : decode cX0_hearAck 12 = .ok (.if_icmp .eq 4, 3) := by decide +kernel
theorem dX0_hearAck_15 : decode cX0_hearAck 15 = .ok (.return_, 1) := by decide +kernel
theorem dX0_hearAck_16 : decode cX0_hearAck 16 = .ok (.aload_n 3, 1) := by decide +kernel
theorem dX0_hearAck_17 : decode cX0_hearAck 17 = .ok (.dup, 1) := by decide +kernel
theorem dX0_hearAck_18 : decode cX0_hearAck 18 = .ok (.getfield 133, 3) := by decide +kernel
theorem dX0_hearAck_21 : decode cX0_hearAck 21 = .ok (.iload_n 1, 1) := by decide +kernel
theorem dX0_hearAck_22 : decode cX0_hearAck 22 = .ok (.invokestatic 65, 3) := by decide +kernel
theorem dX0_hearAck_25 : decode cX0_hearAck 25 = .ok (.iconst (-1), 1) := by decide +kernel
theorem dX0_hearAck_26 : decode cX0_hearAck 26 = .ok (.ixor, 1) := by decide +kernel
theorem dX0_hearAck_27 : decode cX0_hearAck 27 = .ok (.iand, 1) := by decide +kernel
theorem dX0_hearAck_28 : decode cX0_hearAck 28 = .ok (.putfield 133, 3) := by decide +kernel
theorem dX0_hearAck_31 : decode cX0_hearAck 31 = .ok (.aload_n 3, 1) := by decide +kernel
theorem dX0_hearAck_32 : decode cX0_hearAck 32 = .ok (.getfield 133, 3) := by decide +kernel
theorem dX0_hearAck_35 : decode cX0_hearAck 35 = .ok (.ifCond .ne 26, 3) := by decide +kernel
theorem dX0_hearAck_38 : decode cX0_hearAck 38 = .ok (.aload_n 0, 1) := by decide +kernel
theorem dX0_hearAck_39 : decode cX0_hearAck 39 = .ok (.getfield 11, 3) := by decide +kernel
theorem dX0_hearAck_42 : decode cX0_hearAck 42 = .ok (.aload_n 3, 1) := by decide +kernel
theorem dX0_hearAck_43 : decode cX0_hearAck 43 = .ok (.getfield 42, 3) := by decide +kernel
theorem dX0_hearAck_46 : decode cX0_hearAck 46 = .ok (.aaload, 1) := by decide +kernel
theorem dX0_hearAck_47 : decode cX0_hearAck 47 = .ok (.getfield 111, 3) := by decide +kernel
theorem dX0_hearAck_50 : decode cX0_hearAck 50 = .ok (.iload_n 2, 1) := by decide +kernel
theorem dX0_hearAck_51 : decode cX0_hearAck 51 = .ok (.bipush 6, 2) := by decide +kernel
theorem dX0_hearAck_53 : decode cX0_hearAck 53 = .ok (.iconst 0, 1) := by decide +kernel
theorem dX0_hearAck_54 : decode cX0_hearAck 54 = .ok (.invokevirtual 189, 3) := by decide +kernel
theorem dX0_hearAck_57 : decode cX0_hearAck 57 = .ok (.aload_n 3, 1) := by decide +kernel
theorem dX0_hearAck_58 : decode cX0_hearAck 58 = .ok (.invokevirtual 72, 3) := by decide +kernel
theorem dX0_hearAck_61 : decode cX0_hearAck 61 = .ok (.return_, 1) := by decide +kernel
theorem dX0_hearInquiry_0 : decode cX0_hearInquiry 0 = .ok (.aload_n 0, 1) := by decide +kernel
theorem dX0_hearInquiry_1 : decode cX0_hearInquiry 1 = .ok (.getfield 18, 3) := by decide +kernel
theorem dX0_hearInquiry_4 : decode cX0_hearInquiry 4 = .ok (.iload_n 3, 1) := by decide +kernel
theorem dX0_hearInquiry_5 : decode cX0_hearInquiry 5 = .ok (.aaload, 1) := by decide +kernel
theorem dX0_hearInquiry_6 : decode cX0_hearInquiry 6 = .ok (.getfield 45, 3) := by decide +kernel
theorem dX0_hearInquiry_9 : decode cX0_hearInquiry 9 = .ok (.istore 4, 2) := by decide +kernel
theorem dX0_hearInquiry_11 : decode cX0_hearInquiry 11 = .ok (.iload 4, 2) := by decide +kernel
theorem dX0_hearInquiry_13 : decode cX0_hearInquiry 13 = .ok (.iconst 3, 1) := by decide +kernel
theorem dX0_hearInquiry_14 : decode cX0_hearInquiry 14 = .ok (.if_icmp .ne 17, 3) := by decide +kernel
theorem dX0_hearInquiry_17 : decode cX0_hearInquiry 17 = .ok (.aload_n 0, 1) := by decide +kernel
theorem dX0_hearInquiry_18 : decode cX0_hearInquiry 18 = .ok (.getfield 26, 3) := by decide +kernel
theorem dX0_hearInquiry_21 : decode cX0_hearInquiry 21 = .ok (.iconst 5, 1) := by decide +kernel
theorem dX0_hearInquiry_22 : decode cX0_hearInquiry 22 = .ok (.iload_n 2, 1) := by decide +kernel
theorem dX0_hearInquiry_23 : decode cX0_hearInquiry 23 = .ok (.iload_n 1, 1) := by decide +kernel
theorem dX0_hearInquiry_24 : decode cX0_hearInquiry 24 = .ok (.iload_n 3, 1) := by decide +kernel
theorem dX0_hearInquiry_25 : decode cX0_hearInquiry 25 = .ok (.invokevirtual 159, 3) := by decide +kernel
theorem dX0_hearInquiry_28 : decode cX0_hearInquiry 28 = .ok (.goto 20, 3) := by decide +kernel
theorem dX0_hearInquiry_31 : decode cX0_hearInquiry 31 = .ok (.iload 4, 2) := by decide +kernel
theorem dX0_hearInquiry_33 : decode cX0_hearInquiry 33 = .ok (.ifCond .ne 15, 3) := by decide +kernel
theorem dX0_hearInquiry_36 : decode cX0_hearInquiry 36 = .ok (.aload_n 0, 1) := by decide +kernel
theorem dX0_hearInquiry_37 : decode cX0_hearInquiry 37 = .ok (.getfield 26, 3) := by decide +kernel
theorem dX0_hearInquiry_40 : decode cX0_hearInquiry 40 = .ok (.bipush 6, 2) := by decide +kernel
theorem dX0_hearInquiry_42 : decode cX0_hearInquiry 42 = .ok (.iload_n 2, 1) := by decide +kernel
theorem dX0_hearInquiry_43 : decode cX0_hearInquiry 43 = .ok (.iload_n 1, 1) := by decide +kernel
theorem dX0_hearInquiry_44 : decode cX0_hearInquiry 44 = .ok (.iload_n 3, 1) := by decide +kernel
theorem dX0_hearInquiry_45 : decode cX0_hearInquiry 45 = .ok (.invokevirtual 159, 3) := by decide +kernel
theorem dX0_hearInquiry_48 : decode cX0_hearInquiry 48 = .ok (.return_, 1) := by decide +kernel
theorem dX0_lose_0 : decode cX0_lose 0 = .ok (.aload_n 0, 1) := by decide +kernel
theorem dX0_lose_1 : decode cX0_lose 1 = .ok (.getfield 26, 3) := by decide +kernel
theorem dX0_lose_4 : decode cX0_lose 4 = .ok (.iload_n 1, 1) := by decide +kernel
theorem dX0_lose_5 : decode cX0_lose 5 = .ok (.invokevirtual 88, 3) := by decide +kernel
theorem dX0_lose_8 : decode cX0_lose 8 = .ok (.ifCond .ne 6, 3) := by decide +kernel
theorem dX0_lose_11 : decode cX0_lose 11 = .ok (.bipush (-2), 2) := by decide +kernel
theorem dX0_lose_13 : decode cX0_lose 13 = .ok (.ireturn, 1) := by decide +kernel
theorem dX0_lose_14 : decode cX0_lose 14 = .ok (.aload_n 0, 1) := by decide +kernel
theorem dX0_lose_15 : decode cX0_lose 15 = .ok (.getfield 26, 3) := by decide +kernel
theorem dX0_lose_18 : decode cX0_lose 18 = .ok (.getfield 91, 3) := by decide +kernel
theorem dX0_lose_21 : decode cX0_lose 21 = .ok (.iconst 0, 1) := by decide +kernel
theorem dX0_lose_22 : decode cX0_lose 22 = .ok (.aaload, 1) := by decide +kernel
theorem dX0_lose_23 : decode cX0_lose 23 = .ok (.iload_n 1, 1) := by decide +kernel
theorem dX0_lose_24 : decode cX0_lose 24 = .ok (.iaload, 1) := by decide +kernel
theorem dX0_lose_25 : decode cX0_lose 25 = .ok (.istore_n 2, 1) := by decide +kernel
theorem dX0_lose_26 : decode cX0_lose 26 = .ok (.aload_n 0, 1) := by decide +kernel
theorem dX0_lose_27 : decode cX0_lose 27 = .ok (.getfield 26, 3) := by decide +kernel
theorem dX0_lose_30 : decode cX0_lose 30 = .ok (.iload_n 1, 1) := by decide +kernel
theorem dX0_lose_31 : decode cX0_lose 31 = .ok (.invokevirtual 95, 3) := by decide +kernel
theorem dX0_lose_34 : decode cX0_lose 34 = .ok (.iload_n 2, 1) := by decide +kernel
theorem dX0_lose_35 : decode cX0_lose 35 = .ok (.ireturn, 1) := by decide +kernel
theorem dX0_expire_0 : decode cX0_expire 0 = .ok (.iload_n 1, 1) := by decide +kernel
theorem dX0_expire_1 : decode cX0_expire 1 = .ok (.invokestatic 34, 3) := by decide +kernel
theorem dX0_expire_4 : decode cX0_expire 4 = .ok (.ifCond .eq 11, 3) := by decide +kernel
theorem dX0_expire_7 : decode cX0_expire 7 = .ok (.aload_n 0, 1) := by decide +kernel
theorem dX0_expire_8 : decode cX0_expire 8 = .ok (.iload_n 2, 1) := by decide +kernel
theorem dX0_expire_9 : decode cX0_expire 9 = .ok (.invokevirtual 48, 3) := by decide +kernel
theorem dX0_expire_12 : decode cX0_expire 12 = .ok (.ifCond .ne 6, 3) := by decide +kernel
theorem dX0_expire_15 : decode cX0_expire 15 = .ok (.bipush (-2), 2) := by decide +kernel
theorem dX0_expire_17 : decode cX0_expire 17 = .ok (.ireturn, 1) := by decide +kernel
theorem dX0_expire_18 : decode cX0_expire 18 = .ok (.iload_n 3, 1) := by decide +kernel
theorem dX0_expire_19 : decode cX0_expire 19 = .ok (.ifCond .ne 19, 3) := by decide +kernel
theorem dX0_expire_22 : decode cX0_expire 22 = .ok (.aload_n 0, 1) := by decide +kernel
theorem dX0_expire_23 : decode cX0_expire 23 = .ok (.getfield 18, 3) := by decide +kernel
theorem dX0_expire_26 : decode cX0_expire 26 = .ok (.iload_n 2, 1) := by decide +kernel
theorem dX0_expire_27 : decode cX0_expire 27 = .ok (.aaload, 1) := by decide +kernel
theorem dX0_expire_28 : decode cX0_expire 28 = .ok (.getfield 42, 3) := by decide +kernel
theorem dX0_expire_31 : decode cX0_expire 31 = .ok (.iload_n 1, 1) := by decide +kernel
theorem dX0_expire_32 : decode cX0_expire 32 = .ok (.if_icmp .eq 6, 3) := by decide +kernel
theorem dX0_expire_35 : decode cX0_expire 35 = .ok (.bipush (-2), 2) := by decide +kernel
theorem dX0_expire_37 : decode cX0_expire 37 = .ok (.ireturn, 1) := by decide +kernel
theorem dX0_expire_38 : decode cX0_expire 38 = .ok (.aload_n 0, 1) := by decide +kernel
theorem dX0_expire_39 : decode cX0_expire 39 = .ok (.getfield 11, 3) := by decide +kernel
theorem dX0_expire_42 : decode cX0_expire 42 = .ok (.iload_n 1, 1) := by decide +kernel
theorem dX0_expire_43 : decode cX0_expire 43 = .ok (.aaload, 1) := by decide +kernel
theorem dX0_expire_44 : decode cX0_expire 44 = .ok (.getfield 38, 3) := by decide +kernel
theorem dX0_expire_47 : decode cX0_expire 47 = .ok (.ifCond .ne 6, 3) := by decide +kernel
theorem dX0_expire_50 : decode cX0_expire 50 = .ok (.bipush (-3), 2) := by decide +kernel
theorem dX0_expire_52 : decode cX0_expire 52 = .ok (.ireturn, 1) := by decide +kernel
theorem dX0_expire_53 : decode cX0_expire 53 = .ok (.iload_n 3, 1) := by decide +kernel
theorem dX0_expire_54 : decode cX0_expire 54 = .ok (.ifCond .eq 12, 3) := by decide +kernel
theorem dX0_expire_57 : decode cX0_expire 57 = .ok (.aload_n 0, 1) := by decide +kernel
theorem dX0_expire_58 : decode cX0_expire 58 = .ok (.iload_n 1, 1) := by decide +kernel
theorem dX0_expire_59 : decode cX0_expire 59 = .ok (.iload_n 2, 1) := by decide +kernel
theorem dX0_expire_60 : decode cX0_expire 60 = .ok (.invokevirtual 102, 3) := by decide +kernel
theorem dX0_expire_63 : decode cX0_expire 63 = .ok (.goto 8, 3) := by decide +kernel
theorem dX0_expire_66 : decode cX0_expire 66 = .ok (.aload_n 0, 1) := by decide +kernel
theorem dX0_expire_67 : decode cX0_expire 67 = .ok (.iload_n 2, 1) := by decide +kernel
theorem dX0_expire_68 : decode cX0_expire 68 = .ok (.invokevirtual 105, 3) := by decide +kernel
theorem dX0_expire_71 : decode cX0_expire 71 = .ok (.ireturn, 1) := by decide +kernel
theorem dX0_expireAsMember_0 : decode cX0_expireAsMember 0 = .ok (.aload_n 0, 1) := by decide +kernel
theorem dX0_expireAsMember_1 : decode cX0_expireAsMember 1 = .ok (.getfield 11, 3) := by decide +kernel
theorem dX0_expireAsMember_4 : decode cX0_expireAsMember 4 = .ok (.iload_n 1, 1) := by decide +kernel
theorem dX0_expireAsMember_5 : decode cX0_expireAsMember 5 = .ok (.aaload, 1) := by decide +kernel
theorem dX0_expireAsMember_6 : decode cX0_expireAsMember 6 = .ok (.astore_n 3, 1) := by decide +kernel
theorem dX0_expireAsMember_7 : decode cX0_expireAsMember 7 = .ok (.aload_n 3, 1) := by decide +kernel
theorem dX0_expireAsMember_8 : decode cX0_expireAsMember 8 = .ok (.getfield 61, 3) := by decide +kernel
theorem dX0_expireAsMember_11 : decode cX0_expireAsMember 11 = .ok (.iload_n 2, 1) := by decide +kernel
theorem dX0_expireAsMember_12 : decode cX0_expireAsMember 12 = .ok (.iaload, 1) := by decide +kernel
theorem dX0_expireAsMember_13 : decode cX0_expireAsMember 13 = .ok (.ifCond .ne 6, 3) := by decide +kernel
theorem dX0_expireAsMember_16 : decode cX0_expireAsMember 16 = .ok (.bipush (-4), 2) := by decide +kernel
theorem dX0_expireAsMember_18 : decode cX0_expireAsMember 18 = .ok (.ireturn, 1) := by decide +kernel
theorem dX0_expireAsMember_19 : decode cX0_expireAsMember 19 = .ok (.aload_n 3, 1) := by decide +kernel
theorem dX0_expireAsMember_20 : decode cX0_expireAsMember 20 = .ok (.getfield 61, 3) := by decide +kernel
theorem dX0_expireAsMember_23 : decode cX0_expireAsMember 23 = .ok (.iload_n 2, 1) := by decide +kernel
theorem dX0_expireAsMember_24 : decode cX0_expireAsMember 24 = .ok (.iaload, 1) := by decide +kernel
theorem dX0_expireAsMember_25 : decode cX0_expireAsMember 25 = .ok (.iconst 3, 1) := by decide +kernel
theorem dX0_expireAsMember_26 : decode cX0_expireAsMember 26 = .ok (.if_icmp .ne 26, 3) := by decide +kernel
theorem dX0_expireAsMember_29 : decode cX0_expireAsMember 29 = .ok (.aload_n 0, 1) := by decide +kernel
theorem dX0_expireAsMember_30 : decode cX0_expireAsMember 30 = .ok (.getfield 26, 3) := by decide +kernel
theorem dX0_expireAsMember_33 : decode cX0_expireAsMember 33 = .ok (.bipush 8, 2) := by decide +kernel
theorem dX0_expireAsMember_35 : decode cX0_expireAsMember 35 = .ok (.iload_n 1, 1) := by decide +kernel
theorem dX0_expireAsMember_36 : decode cX0_expireAsMember 36 = .ok (.aload_n 0, 1) := by decide +kernel
theorem dX0_expireAsMember_37 : decode cX0_expireAsMember 37 = .ok (.getfield 18, 3) := by decide +kernel
theorem dX0_expireAsMember_40 : decode cX0_expireAsMember 40 = .ok (.iload_n 2, 1) := by decide +kernel
theorem dX0_expireAsMember_41 : decode cX0_expireAsMember 41 = .ok (.aaload, 1) := by decide +kernel
theorem dX0_expireAsMember_42 : decode cX0_expireAsMember 42 = .ok (.getfield 42, 3) := by decide +kernel
theorem dX0_expireAsMember_45 : decode cX0_expireAsMember 45 = .ok (.iload_n 2, 1) := by decide +kernel
theorem dX0_expireAsMember_46 : decode cX0_expireAsMember 46 = .ok (.invokevirtual 159, 3) := by decide +kernel
theorem dX0_expireAsMember_49 : decode cX0_expireAsMember 49 = .ok (.goto 8, 3) := by decide +kernel
theorem dX0_expireAsMember_52 : decode cX0_expireAsMember 52 = .ok (.aload_n 3, 1) := by decide +kernel
theorem dX0_expireAsMember_53 : decode cX0_expireAsMember 53 = .ok (.iload_n 2, 1) := by decide +kernel
theorem dX0_expireAsMember_54 : decode cX0_expireAsMember 54 = .ok (.invokevirtual 169, 3) := by decide +kernel
theorem dX0_expireAsMember_57 : decode cX0_expireAsMember 57 = .ok (.iconst 1, 1) := by decide +kernel
theorem dX0_expireAsMember_58 : decode cX0_expireAsMember 58 = .ok (.ireturn, 1) := by decide +kernel
theorem dX0_expireAsCoordinator_0 : decode cX0_expireAsCoordinator 0 = .ok (.aload_n 0, 1) := by decide +kernel
theorem dX0_expireAsCoordinator_1 : decode cX0_expireAsCoordinator 1 = .ok (.getfield 18, 3) := by decide +kernel
theorem dX0_expireAsCoordinator_4 : decode cX0_expireAsCoordinator 4 = .ok (.iload_n 1, 1) := by decide +kernel
theorem dX0_expireAsCoordinator_5 : decode cX0_expireAsCoordinator 5 = .ok (.aaload, 1) := by decide +kernel
theorem dX0_expireAsCoordinator_6 : decode cX0_expireAsCoordinator 6 = .ok (.astore_n 2, 1) := by decide +kernel
theorem dX0_expireAsCoordinator_7 : decode cX0_expireAsCoordinator 7 = .ok (.aload_n 2, 1) := by decide +kernel
theorem dX0_expireAsCoordinator_8 : decode cX0_expireAsCoordinator 8 = .ok (.getfield 45, 3) := by decide +kernel
theorem dX0_expireAsCoordinator_11 : decode cX0_expireAsCoordinator 11 = .ok (.iconst 2, 1) := by decide +kernel
theorem dX0_expireAsCoordinator_12 : decode cX0_expireAsCoordinator 12 = .ok (.if_icmp .ne 12, 3) := by decide +kernel
theorem dX0_expireAsCoordinator_15 : decode cX0_expireAsCoordinator 15 = .ok (.aload_n 0, 1) := by decide +kernel
theorem dX0_expireAsCoordinator_16 : decode cX0_expireAsCoordinator 16 = .ok (.iload_n 1, 1) := by decide +kernel
theorem dX0_expireAsCoordinator_17 : decode cX0_expireAsCoordinator 17 = .ok (.iconst 0, 1) := by decide +kernel
theorem dX0_expireAsCoordinator_18 : decode cX0_expireAsCoordinator 18 = .ok (.invokevirtual 84, 3) := by decide +kernel
theorem dX0_expireAsCoordinator_21 : decode cX0_expireAsCoordinator 21 = .ok (.pop, 1) := by decide +kernel
theorem dX0_expireAsCoordinator_22 : decode cX0_expireAsCoordinator 22 = .ok (.iconst 1, 1) := by decide +kernel
theorem dX0_expireAsCoordinator_23 : decode cX0_expireAsCoordinator 23 = .ok (.ireturn, 1) := by decide +kernel
theorem dX0_expireAsCoordinator_24 : decode cX0_expireAsCoordinator 24 = .ok (.aload_n 2, 1) := by decide +kernel
theorem dX0_expireAsCoordinator_25 : decode cX0_expireAsCoordinator 25 = .ok (.getfield 45, 3) := by decide +kernel
theorem dX0_expireAsCoordinator_28 : decode cX0_expireAsCoordinator 28 = .ok (.iconst 3, 1) := by decide +kernel
theorem dX0_expireAsCoordinator_29 : decode cX0_expireAsCoordinator 29 = .ok (.if_icmp .ne 22, 3) := by decide +kernel
theorem dX0_expireAsCoordinator_32 : decode cX0_expireAsCoordinator 32 = .ok (.aload_n 0, 1) := by decide +kernel
theorem dX0_expireAsCoordinator_33 : decode cX0_expireAsCoordinator 33 = .ok (.getfield 26, 3) := by decide +kernel
theorem dX0_expireAsCoordinator_36 : decode cX0_expireAsCoordinator 36 = .ok (.iconst 5, 1) := by decide +kernel
theorem dX0_expireAsCoordinator_37 : decode cX0_expireAsCoordinator 37 = .ok (.aload_n 2, 1) := by decide +kernel
theorem dX0_expireAsCoordinator_38 : decode cX0_expireAsCoordinator 38 = .ok (.getfield 42, 3) := by decide +kernel
theorem dX0_expireAsCoordinator_41 : decode cX0_expireAsCoordinator 41 = .ok (.aload_n 2, 1) := by decide +kernel
theorem dX0_expireAsCoordinator_42 : decode cX0_expireAsCoordinator 42 = .ok (.getfield 133, 3) := by decide +kernel
theorem dX0_expireAsCoordinator_45 : decode cX0_expireAsCoordinator 45 = .ok (.iload_n 1, 1) := by decide +kernel
theorem dX0_expireAsCoordinator_46 : decode cX0_expireAsCoordinator 46 = .ok (.invokevirtual 75, 3) := by decide +kernel
theorem dX0_expireAsCoordinator_49 : decode cX0_expireAsCoordinator 49 = .ok (.iconst 1, 1) := by decide +kernel
theorem dX0_expireAsCoordinator_50 : decode cX0_expireAsCoordinator 50 = .ok (.ireturn, 1) := by decide +kernel
theorem dX0_expireAsCoordinator_51 : decode cX0_expireAsCoordinator 51 = .ok (.bipush (-4), 2) := by decide +kernel
theorem dX0_expireAsCoordinator_53 : decode cX0_expireAsCoordinator 53 = .ok (.ireturn, 1) := by decide +kernel
theorem dX0_crash_0 : decode cX0_crash 0 = .ok (.iload_n 1, 1) := by decide +kernel
theorem dX0_crash_1 : decode cX0_crash 1 = .ok (.invokestatic 34, 3) := by decide +kernel
theorem dX0_crash_4 : decode cX0_crash 4 = .ok (.ifCond .ne 6, 3) := by decide +kernel
theorem dX0_crash_7 : decode cX0_crash 7 = .ok (.bipush (-2), 2) := by decide +kernel
theorem dX0_crash_9 : decode cX0_crash 9 = .ok (.ireturn, 1) := by decide +kernel
theorem dX0_crash_10 : decode cX0_crash 10 = .ok (.aload_n 0, 1) := by decide +kernel
theorem dX0_crash_11 : decode cX0_crash 11 = .ok (.getfield 11, 3) := by decide +kernel
theorem dX0_crash_14 : decode cX0_crash 14 = .ok (.iload_n 1, 1) := by decide +kernel
theorem dX0_crash_15 : decode cX0_crash 15 = .ok (.aaload, 1) := by decide +kernel
theorem dX0_crash_16 : decode cX0_crash 16 = .ok (.astore_n 2, 1) := by decide +kernel
theorem dX0_crash_17 : decode cX0_crash 17 = .ok (.aload_n 2, 1) := by decide +kernel
theorem dX0_crash_18 : decode cX0_crash 18 = .ok (.getfield 38, 3) := by decide +kernel
theorem dX0_crash_21 : decode cX0_crash 21 = .ok (.ifCond .ne 6, 3) := by decide +kernel
theorem dX0_crash_24 : decode cX0_crash 24 = .ok (.bipush (-3), 2) := by decide +kernel
theorem dX0_crash_26 : decode cX0_crash 26 = .ok (.ireturn, 1) := by decide +kernel
theorem dX0_crash_27 : decode cX0_crash 27 = .ok (.aload_n 2, 1) := by decide +kernel
theorem dX0_crash_28 : decode cX0_crash 28 = .ok (.iconst 0, 1) := by decide +kernel
theorem dX0_crash_29 : decode cX0_crash 29 = .ok (.putfield 38, 3) := by decide +kernel
theorem dX0_crash_32 : decode cX0_crash 32 = .ok (.iconst 0, 1) := by decide +kernel
theorem dX0_crash_33 : decode cX0_crash 33 = .ok (.istore_n 3, 1) := by decide +kernel
theorem dX0_crash_34 : decode cX0_crash 34 = .ok (.iload_n 3, 1) := by decide +kernel
theorem dX0_crash_35 : decode cX0_crash 35 = .ok (.aload_n 0, 1) := by decide +kernel
theorem dX0_crash_36 : decode cX0_crash 36 = .ok (.getfield 30, 3) := by decide +kernel
theorem dX0_crash_39 : decode cX0_crash 39 = .ok (.if_icmp .ge 36, 3) := by decide +kernel
theorem dX0_crash_42 : decode cX0_crash 42 = .ok (.aload_n 2, 1) := by decide +kernel
theorem dX0_crash_43 : decode cX0_crash 43 = .ok (.iload_n 3, 1) := by decide +kernel
theorem dX0_crash_44 : decode cX0_crash 44 = .ok (.invokevirtual 108, 3) := by decide +kernel
theorem dX0_crash_47 : decode cX0_crash 47 = .ok (.aload_n 0, 1) := by decide +kernel
theorem dX0_crash_48 : decode cX0_crash 48 = .ok (.getfield 18, 3) := by decide +kernel
theorem dX0_crash_51 : decode cX0_crash 51 = .ok (.iload_n 3, 1) := by decide +kernel
theorem dX0_crash_52 : decode cX0_crash 52 = .ok (.aaload, 1) := by decide +kernel
theorem dX0_crash_53 : decode cX0_crash 53 = .ok (.getfield 42, 3) := by decide +kernel
theorem dX0_crash_56 : decode cX0_crash 56 = .ok (.iload_n 1, 1) := by decide +kernel
theorem dX0_crash_57 : decode cX0_crash 57 = .ok (.if_icmp .ne 12, 3) := by decide +kernel
theorem dX0_crash_60 : decode cX0_crash 60 = .ok (.aload_n 0, 1) := by decide +kernel
theorem dX0_crash_61 : decode cX0_crash 61 = .ok (.getfield 18, 3) := by decide +kernel
theorem dX0_crash_64 : decode cX0_crash 64 = .ok (.iload_n 3, 1) := by decide +kernel
theorem dX0_crash_65 : decode cX0_crash 65 = .ok (.aaload, 1) := by decide +kernel
theorem dX0_crash_66 : decode cX0_crash 66 = .ok (.invokevirtual 72, 3) := by decide +kernel
theorem dX0_crash_69 : decode cX0_crash 69 = .ok (.iinc 3 1, 3) := by decide +kernel
theorem dX0_crash_72 : decode cX0_crash 72 = .ok (.goto (-38), 3) := by decide +kernel
theorem dX0_crash_75 : decode cX0_crash 75 = .ok (.aload_n 2, 1) := by decide +kernel
theorem dX0_crash_76 : decode cX0_crash 76 = .ok (.getfield 111, 3) := by decide +kernel
theorem dX0_crash_79 : decode cX0_crash 79 = .ok (.invokevirtual 115, 3) := by decide +kernel
theorem dX0_crash_82 : decode cX0_crash 82 = .ok (.ireturn, 1) := by decide +kernel
theorem dX1_dropUnsafe_0 : decode cX1_dropUnsafe 0 = .ok (.aload_n 0, 1) := by decide +kernel
theorem dX1_dropUnsafe_1 : decode cX1_dropUnsafe 1 = .ok (.getfield 18, 3) := by decide +kernel
theorem dX1_dropUnsafe_4 : decode cX1_dropUnsafe 4 = .ok (.aload_n 0, 1) := by decide +kernel
theorem dX1_dropUnsafe_5 : decode cX1_dropUnsafe 5 = .ok (.getfield 30, 3) := by decide +kernel
theorem dX1_dropUnsafe_8 : decode cX1_dropUnsafe 8 = .ok (.isub, 1) := by decide +kernel
theorem dX1_dropUnsafe_9 : decode cX1_dropUnsafe 9 = .ok (.istore_n 1, 1) := by decide +kernel
theorem dX1_dropUnsafe_10 : decode cX1_dropUnsafe 10 = .ok (.aload_n 0, 1) := by decide +kernel
theorem dX1_dropUnsafe_11 : decode cX1_dropUnsafe 11 = .ok (.aload_n 0, 1) := by decide +kernel
theorem dX1_dropUnsafe_12 : decode cX1_dropUnsafe 12 = .ok (.getfield 30, 3) := by decide +kernel
theorem dX1_dropUnsafe_15 : decode cX1_dropUnsafe 15 = .ok (.putfield 18, 3) := by decide +kernel
theorem dX1_dropUnsafe_18 : decode cX1_dropUnsafe 18 = .ok (.iload_n 1, 1) := by decide +kernel
theorem dX1_dropUnsafe_19 : decode cX1_dropUnsafe 19 = .ok (.ireturn, 1) := by decide +kernel
theorem dX0_recover_0 : decode cX0_recover 0 = .ok (.iload_n 1, 1) := by decide +kernel
theorem dX0_recover_1 : decode cX0_recover 1 = .ok (.invokestatic 34, 3) := by decide +kernel
theorem dX0_recover_4 : decode cX0_recover 4 = .ok (.ifCond .ne 6, 3) := by decide +kernel
theorem dX0_recover_7 : decode cX0_recover 7 = .ok (.bipush (-2), 2) := by decide +kernel
theorem dX0_recover_9 : decode cX0_recover 9 = .ok (.ireturn, 1) := by decide +kernel
theorem dX0_recover_10 : decode cX0_recover 10 = .ok (.aload_n 0, 1) := by decide +kernel
theorem dX0_recover_11 : decode cX0_recover 11 = .ok (.getfield 11, 3) := by decide +kernel
theorem dX0_recover_14 : decode cX0_recover 14 = .ok (.iload_n 1, 1) := by decide +kernel
theorem dX0_recover_15 : decode cX0_recover 15 = .ok (.aaload, 1) := by decide +kernel
theorem dX0_recover_16 : decode cX0_recover 16 = .ok (.astore_n 2, 1) := by decide +kernel
theorem dX0_recover_17 : decode cX0_recover 17 = .ok (.aload_n 2, 1) := by decide +kernel
theorem dX0_recover_18 : decode cX0_recover 18 = .ok (.getfield 38, 3) := by decide +kernel
theorem dX0_recover_21 : decode cX0_recover 21 = .ok (.ifCond .eq 6, 3) := by decide +kernel
theorem dX0_recover_24 : decode cX0_recover 24 = .ok (.bipush (-4), 2) := by decide +kernel
theorem dX0_recover_26 : decode cX0_recover 26 = .ok (.ireturn, 1) := by decide +kernel
theorem dX0_recover_27 : decode cX0_recover 27 = .ok (.aload_n 2, 1) := by decide +kernel
theorem dX0_recover_28 : decode cX0_recover 28 = .ok (.iconst 1, 1) := by decide +kernel
theorem dX0_recover_29 : decode cX0_recover 29 = .ok (.putfield 38, 3) := by decide +kernel
theorem dX0_recover_32 : decode cX0_recover 32 = .ok (.iconst 0, 1) := by decide +kernel
theorem dX0_recover_33 : decode cX0_recover 33 = .ok (.istore_n 3, 1) := by decide +kernel
theorem dX0_recover_34 : decode cX0_recover 34 = .ok (.iconst 0, 1) := by decide +kernel
theorem dX0_recover_35 : decode cX0_recover 35 = .ok (.istore 4, 2) := by decide +kernel
theorem dX0_recover_37 : decode cX0_recover 37 = .ok (.iload 4, 2) := by decide +kernel
theorem dX0_recover_39 : decode cX0_recover 39 = .ok (.aload_n 0, 1) := by decide +kernel
theorem dX0_recover_40 : decode cX0_recover 40 = .ok (.getfield 30, 3) := by decide +kernel
theorem dX0_recover_43 : decode cX0_recover 43 = .ok (.if_icmp .ge 34, 3) := by decide +kernel
theorem dX0_recover_46 : decode cX0_recover 46 = .ok (.aload_n 2, 1) := by decide +kernel
theorem dX0_recover_47 : decode cX0_recover 47 = .ok (.iload 4, 2) := by decide +kernel
theorem dX0_recover_49 : decode cX0_recover 49 = .ok (.invokevirtual 121, 3) := by decide +kernel
theorem dX0_recover_52 : decode cX0_recover 52 = .ok (.ifCond .eq 6, 3) := by decide +kernel
theorem dX0_recover_55 : decode cX0_recover 55 = .ok (.iinc 3 1, 3) := by decide +kernel
theorem dX0_recover_58 : decode cX0_recover 58 = .ok (.aload_n 0, 1) := by decide +kernel
theorem dX0_recover_59 : decode cX0_recover 59 = .ok (.iload_n 1, 1) := by decide +kernel
theorem dX0_recover_60 : decode cX0_recover 60 = .ok (.iload 4, 2) := by decide +kernel
theorem dX0_recover_62 : decode cX0_recover 62 = .ok (.invokevirtual 124, 3) := by decide +kernel
theorem dX0_recover_65 : decode cX0_recover 65 = .ok (.ifCond .eq 6, 3) := by decide +kernel
theorem dX0_recover_68 : decode cX0_recover 68 = .ok (.iinc 3 1, 3) := by decide +kernel
theorem dX0_recover_71 : decode cX0_recover 71 = .ok (.iinc 4 1, 3) := by decide +kernel
theorem dX0_recover_74 : decode cX0_recover 74 = .ok (.goto (-37), 3) := by decide +kernel
theorem dX0_recover_77 : decode cX0_recover 77 = .ok (.iload_n 3, 1) := by decide +kernel
theorem dX0_recover_78 : decode cX0_recover 78 = .ok (.ireturn, 1) := by decide +kernel
theorem dX3_restorePrepared_0 : decode cX3_restorePrepared 0 = .ok (.aload_n 0, 1) := by decide +kernel
theorem dX3_restorePrepared_1 : decode cX3_restorePrepared 1 = .ok (.getfield 25, 3) := by decide +kernel
theorem dX3_restorePrepared_4 : decode cX3_restorePrepared 4 = .ok (.iload_n 1, 1) := by decide +kernel
theorem dX3_restorePrepared_5 : decode cX3_restorePrepared 5 = .ok (.iconst 1, 1) := by decide +kernel
theorem dX3_restorePrepared_6 : decode cX3_restorePrepared 6 = .ok (.invokevirtual 57, 3) := by decide +kernel
theorem dX3_restorePrepared_9 : decode cX3_restorePrepared 9 = .ok (.istore_n 2, 1) := by decide +kernel
theorem dX3_restorePrepared_10 : decode cX3_restorePrepared 10 = .ok (.iload_n 2, 1) := by decide +kernel
theorem dX3_restorePrepared_11 : decode cX3_restorePrepared 11 = .ok (.iconst (-1), 1) := by decide +kernel
theorem dX3_restorePrepared_12 : decode cX3_restorePrepared 12 = .ok (.if_icmp .eq 29, 3) := by decide +kernel
theorem dX3_restorePrepared_15 : decode cX3_restorePrepared 15 = .ok (.aload_n 0, 1) := by decide +kernel
theorem dX3_restorePrepared_16 : decode cX3_restorePrepared 16 = .ok (.getfield 25, 3) := by decide +kernel
theorem dX3_restorePrepared_19 : decode cX3_restorePrepared 19 = .ok (.iload_n 1, 1) := by decide +kernel
theorem dX3_restorePrepared_20 : decode cX3_restorePrepared 20 = .ok (.iconst 2, 1) := by decide +kernel
theorem dX3_restorePrepared_21 : decode cX3_restorePrepared 21 = .ok (.invokevirtual 57, 3) := by decide +kernel
theorem dX3_restorePrepared_24 : decode cX3_restorePrepared 24 = .ok (.iconst (-1), 1) := by decide +kernel
theorem dX3_restorePrepared_25 : decode cX3_restorePrepared 25 = .ok (.if_icmp .ne 16, 3) := by decide +kernel
theorem dX3_restorePrepared_28 : decode cX3_restorePrepared 28 = .ok (.aload_n 0, 1) := by decide +kernel
theorem dX3_restorePrepared_29 : decode cX3_restorePrepared 29 = .ok (.getfield 25, 3) := by decide +kernel
theorem dX3_restorePrepared_32 : decode cX3_restorePrepared 32 = .ok (.iload_n 1, 1) := by decide +kernel
theorem dX3_restorePrepared_33 : decode cX3_restorePrepared 33 = .ok (.iconst 3, 1) := by decide +kernel
theorem dX3_restorePrepared_34 : decode cX3_restorePrepared 34 = .ok (.invokevirtual 57, 3) := by decide +kernel
theorem dX3_restorePrepared_37 : decode cX3_restorePrepared 37 = .ok (.iconst (-1), 1) := by decide +kernel
theorem dX3_restorePrepared_38 : decode cX3_restorePrepared 38 = .ok (.if_icmp .eq 5, 3) := by decide +kernel
theorem dX3_restorePrepared_41 : decode cX3_restorePrepared 41 = .ok (.iconst 0, 1) := by decide +kernel
theorem dX3_restorePrepared_42 : decode cX3_restorePrepared 42 = .ok (.ireturn, 1) := by decide +kernel
theorem dX3_restorePrepared_43 : decode cX3_restorePrepared 43 = .ok (.aload_n 0, 1) := by decide +kernel
theorem dX3_restorePrepared_44 : decode cX3_restorePrepared 44 = .ok (.getfield 15, 3) := by decide +kernel
theorem dX3_restorePrepared_47 : decode cX3_restorePrepared 47 = .ok (.iload_n 1, 1) := by decide +kernel
theorem dX3_restorePrepared_48 : decode cX3_restorePrepared 48 = .ok (.iconst 3, 1) := by decide +kernel
theorem dX3_restorePrepared_49 : decode cX3_restorePrepared 49 = .ok (.iastore, 1) := by decide +kernel
theorem dX3_restorePrepared_50 : decode cX3_restorePrepared 50 = .ok (.aload_n 0, 1) := by decide +kernel
theorem dX3_restorePrepared_51 : decode cX3_restorePrepared 51 = .ok (.getfield 19, 3) := by decide +kernel
theorem dX3_restorePrepared_54 : decode cX3_restorePrepared 54 = .ok (.iload_n 1, 1) := by decide +kernel
theorem dX3_restorePrepared_55 : decode cX3_restorePrepared 55 = .ok (.aload_n 0, 1) := by decide +kernel
theorem dX3_restorePrepared_56 : decode cX3_restorePrepared 56 = .ok (.getfield 25, 3) := by decide +kernel
theorem dX3_restorePrepared_59 : decode cX3_restorePrepared 59 = .ok (.getfield 61, 3) := by decide +kernel
theorem dX3_restorePrepared_62 : decode cX3_restorePrepared 62 = .ok (.iload_n 2, 1) := by decide +kernel
theorem dX3_restorePrepared_63 : decode cX3_restorePrepared 63 = .ok (.iaload, 1) := by decide +kernel
theorem dX3_restorePrepared_64 : decode cX3_restorePrepared 64 = .ok (.iastore, 1) := by decide +kernel
theorem dX3_restorePrepared_65 : decode cX3_restorePrepared 65 = .ok (.iconst 1, 1) := by decide +kernel
theorem dX3_restorePrepared_66 : decode cX3_restorePrepared 66 = .ok (.ireturn, 1) := by decide +kernel
theorem dX1_find_0 : decode cX1_find 0 = .ok (.iload_n 1, 1) := by decide +kernel
theorem dX1_find_1 : decode cX1_find 1 = .ok (.iload_n 2, 1) := by decide +kernel
theorem dX1_find_2 : decode cX1_find 2 = .ok (.invokestatic 22, 3) := by decide +kernel
theorem dX1_find_5 : decode cX1_find 5 = .ok (.istore_n 3, 1) := by decide +kernel
theorem dX1_find_6 : decode cX1_find 6 = .ok (.iconst 0, 1) := by decide +kernel
theorem dX1_find_7 : decode cX1_find 7 = .ok (.istore 4, 2) := by decide +kernel
theorem dX1_find_9 : decode cX1_find 9 = .ok (.iload 4, 2) := by decide +kernel
theorem dX1_find_11 : decode cX1_find 11 = .ok (.aload_n 0, 1) := by decide +kernel
theorem dX1_find_12 : decode cX1_find 12 = .ok (.getfield 18, 3) := by decide +kernel
theorem dX1_find_15 : decode cX1_find 15 = .ok (.if_icmp .ge 23, 3) := by decide +kernel
theorem dX1_find_18 : decode cX1_find 18 = .ok (.aload_n 0, 1) := by decide +kernel
theorem dX1_find_19 : decode cX1_find 19 = .ok (.getfield 9, 3) := by decide +kernel
theorem dX1_find_22 : decode cX1_find 22 = .ok (.iload 4, 2) := by decide +kernel
theorem dX1_find_24 : decode cX1_find 24 = .ok (.iaload, 1) := by decide +kernel
theorem dX1_find_25 : decode cX1_find 25 = .ok (.iload_n 3, 1) := by decide +kernel
theorem dX1_find_26 : decode cX1_find 26 = .ok (.if_icmp .ne 6, 3) := by decide +kernel
theorem dX1_find_29 : decode cX1_find 29 = .ok (.iload 4, 2) := by decide +kernel
theorem dX1_find_31 : decode cX1_find 31 = .ok (.ireturn, 1) := by decide +kernel
theorem dX1_find_32 : decode cX1_find 32 = .ok (.iinc 4 1, 3) := by decide +kernel
theorem dX1_find_35 : decode cX1_find 35 = .ok (.goto (-26), 3) := by decide +kernel
theorem dX1_find_38 : decode cX1_find 38 = .ok (.iconst (-1), 1) := by decide +kernel
theorem dX1_find_39 : decode cX1_find 39 = .ok (.ireturn, 1) := by decide +kernel
theorem dX0_restoreCommitting_0 : decode cX0_restoreCommitting 0 = .ok (.aload_n 0, 1) := by decide +kernel
theorem dX0_restoreCommitting_1 : decode cX0_restoreCommitting 1 = .ok (.getfield 11, 3) := by decide +kernel
theorem dX0_restoreCommitting_4 : decode cX0_restoreCommitting 4 = .ok (.iload_n 1, 1) := by decide +kernel
theorem dX0_restoreCommitting_5 : decode cX0_restoreCommitting 5 = .ok (.aaload, 1) := by decide +kernel
theorem dX0_restoreCommitting_6 : decode cX0_restoreCommitting 6 = .ok (.getfield 111, 3) := by decide +kernel
theorem dX0_restoreCommitting_9 : decode cX0_restoreCommitting 9 = .ok (.astore_n 3, 1) := by decide +kernel
theorem dX0_restoreCommitting_10 : decode cX0_restoreCommitting 10 = .ok (.aload_n 3, 1) := by decide +kernel
theorem dX0_restoreCommitting_11 : decode cX0_restoreCommitting 11 = .ok (.iload_n 2, 1) := by decide +kernel
theorem dX0_restoreCommitting_12 : decode cX0_restoreCommitting 12 = .ok (.iconst 4, 1) := by decide +kernel
theorem dX0_restoreCommitting_13 : decode cX0_restoreCommitting 13 = .ok (.invokevirtual 192, 3) := by decide +kernel
theorem dX0_restoreCommitting_16 : decode cX0_restoreCommitting 16 = .ok (.istore 4, 2) := by decide +kernel
theorem dX0_restoreCommitting_18 : decode cX0_restoreCommitting 18 = .ok (.iload 4, 2) := by decide +kernel
theorem dX0_restoreCommitting_20 : decode cX0_restoreCommitting 20 = .ok (.iconst (-1), 1) := by decide +kernel
theorem dX0_restoreCommitting_21 : decode cX0_restoreCommitting 21 = .ok (.if_icmp .eq 14, 3) := by decide +kernel
theorem dX0_restoreCommitting_24 : decode cX0_restoreCommitting 24 = .ok (.aload_n 3, 1) := by decide +kernel
theorem dX0_restoreCommitting_25 : decode cX0_restoreCommitting 25 = .ok (.iload_n 2, 1) := by decide +kernel
theorem dX0_restoreCommitting_26 : decode cX0_restoreCommitting 26 = .ok (.bipush 6, 2) := by decide +kernel
theorem dX0_restoreCommitting_28 : decode cX0_restoreCommitting 28 = .ok (.invokevirtual 192, 3) := by decide +kernel
theorem dX0_restoreCommitting_31 : decode cX0_restoreCommitting 31 = .ok (.iconst (-1), 1) := by decide +kernel
theorem dX0_restoreCommitting_32 : decode cX0_restoreCommitting 32 = .ok (.if_icmp .eq 5, 3) := by decide +kernel
theorem dX0_restoreCommitting_35 : decode cX0_restoreCommitting 35 = .ok (.iconst 0, 1) := by decide +kernel
theorem dX0_restoreCommitting_36 : decode cX0_restoreCommitting 36 = .ok (.ireturn, 1) := by decide +kernel
theorem dX0_restoreCommitting_37 : decode cX0_restoreCommitting 37 = .ok (.aload_n 3, 1) := by decide +kernel
theorem dX0_restoreCommitting_38 : decode cX0_restoreCommitting 38 = .ok (.getfield 149, 3) := by decide +kernel
theorem dX0_restoreCommitting_41 : decode cX0_restoreCommitting 41 = .ok (.iload 4, 2) := by decide +kernel
theorem dX0_restoreCommitting_43 : decode cX0_restoreCommitting 43 = .ok (.iaload, 1) := by decide +kernel
theorem dX0_restoreCommitting_44 : decode cX0_restoreCommitting 44 = .ok (.istore 5, 2) := by decide +kernel
theorem dX0_restoreCommitting_46 : decode cX0_restoreCommitting 46 = .ok (.aload_n 0, 1) := by decide +kernel
theorem dX0_restoreCommitting_47 : decode cX0_restoreCommitting 47 = .ok (.getfield 18, 3) := by decide +kernel
theorem dX0_restoreCommitting_50 : decode cX0_restoreCommitting 50 = .ok (.iload_n 2, 1) := by decide +kernel
theorem dX0_restoreCommitting_51 : decode cX0_restoreCommitting 51 = .ok (.aaload, 1) := by decide +kernel
theorem dX0_restoreCommitting_52 : decode cX0_restoreCommitting 52 = .ok (.astore 6, 2) := by decide +kernel
theorem dX0_restoreCommitting_54 : decode cX0_restoreCommitting 54 = .ok (.aload 6, 2) := by decide +kernel
theorem dX0_restoreCommitting_56 : decode cX0_restoreCommitting 56 = .ok (.iconst 3, 1) := by decide +kernel
theorem dX0_restoreCommitting_57 : decode cX0_restoreCommitting 57 = .ok (.putfield 45, 3) := by decide +kernel
theorem dX0_restoreCommitting_60 : decode cX0_restoreCommitting 60 = .ok (.aload 6, 2) := by decide +kernel
theorem dX0_restoreCommitting_62 : decode cX0_restoreCommitting 62 = .ok (.iload 5, 2) := by decide +kernel
theorem dX0_restoreCommitting_64 : decode cX0_restoreCommitting 64 = .ok (.putfield 54, 3) := by decide +kernel
theorem dX0_restoreCommitting_67 : decode cX0_restoreCommitting 67 = .ok (.aload 6, 2) := by decide +kernel
theorem dX0_restoreCommitting_69 : decode cX0_restoreCommitting 69 = .ok (.iload 5, 2) := by decide +kernel
theorem dX0_restoreCommitting_71 : decode cX0_restoreCommitting 71 = .ok (.putfield 127, 3) := by decide +kernel
theorem dX0_restoreCommitting_74 : decode cX0_restoreCommitting 74 = .ok (.aload 6, 2) := by decide +kernel
theorem dX0_restoreCommitting_76 : decode cX0_restoreCommitting 76 = .ok (.iload 5, 2) := by decide +kernel
theorem dX0_restoreCommitting_78 : decode cX0_restoreCommitting 78 = .ok (.putfield 133, 3) := by decide +kernel
theorem dX0_restoreCommitting_81 : decode cX0_restoreCommitting 81 = .ok (.aload_n 0, 1) := by decide +kernel
theorem dX0_restoreCommitting_82 : decode cX0_restoreCommitting 82 = .ok (.getfield 26, 3) := by decide +kernel
theorem dX0_restoreCommitting_85 : decode cX0_restoreCommitting 85 = .ok (.iconst 5, 1) := by decide +kernel
theorem dX0_restoreCommitting_86 : decode cX0_restoreCommitting 86 = .ok (.iload_n 1, 1) := by decide +kernel
theorem dX0_restoreCommitting_87 : decode cX0_restoreCommitting 87 = .ok (.iload 5, 2) := by decide +kernel
theorem dX0_restoreCommitting_89 : decode cX0_restoreCommitting 89 = .ok (.iload_n 2, 1) := by decide +kernel
theorem dX0_restoreCommitting_90 : decode cX0_restoreCommitting 90 = .ok (.invokevirtual 75, 3) := by decide +kernel
theorem dX0_restoreCommitting_93 : decode cX0_restoreCommitting 93 = .ok (.iconst 1, 1) := by decide +kernel
theorem dX0_restoreCommitting_94 : decode cX0_restoreCommitting 94 = .ok (.ireturn, 1) := by decide +kernel
theorem dX0_up_0 : decode cX0_up 0 = .ok (.iload_n 1, 1) := by decide +kernel
theorem dX0_up_1 : decode cX0_up 1 = .ok (.invokestatic 34, 3) := by decide +kernel
theorem dX0_up_4 : decode cX0_up 4 = .ok (.ifCond .eq 19, 3) := by decide +kernel
theorem dX0_up_7 : decode cX0_up 7 = .ok (.aload_n 0, 1) := by decide +kernel
theorem dX0_up_8 : decode cX0_up 8 = .ok (.getfield 11, 3) := by decide +kernel
theorem dX0_up_11 : decode cX0_up 11 = .ok (.iload_n 1, 1) := by decide +kernel
theorem dX0_up_12 : decode cX0_up 12 = .ok (.aaload, 1) := by decide +kernel
theorem dX0_up_13 : decode cX0_up 13 = .ok (.getfield 38, 3) := by decide +kernel
theorem dX0_up_16 : decode cX0_up 16 = .ok (.ifCond .eq 7, 3) := by decide +kernel
theorem dX0_up_19 : decode cX0_up 19 = .ok (.iconst 1, 1) := by decide +kernel
theorem dX0_up_20 : decode cX0_up 20 = .ok (.goto 4, 3) := by decide +kernel
theorem dX0_up_23 : decode cX0_up 23 = .ok (.iconst 0, 1) := by decide +kernel
theorem dX0_up_24 : decode cX0_up 24 = .ok (.ireturn, 1) := by decide +kernel
theorem dX0_stage_0 : decode cX0_stage 0 = .ok (.aload_n 0, 1) := by decide +kernel
theorem dX0_stage_1 : decode cX0_stage 1 = .ok (.iload_n 1, 1) := by decide +kernel
theorem dX0_stage_2 : decode cX0_stage 2 = .ok (.invokevirtual 48, 3) := by decide +kernel
theorem dX0_stage_5 : decode cX0_stage 5 = .ok (.ifCond .eq 15, 3) := by decide +kernel
theorem dX0_stage_8 : decode cX0_stage 8 = .ok (.aload_n 0, 1) := by decide +kernel
theorem dX0_stage_9 : decode cX0_stage 9 = .ok (.getfield 18, 3) := by decide +kernel
theorem dX0_stage_12 : decode cX0_stage 12 = .ok (.iload_n 1, 1) := by decide +kernel
theorem dX0_stage_13 : decode cX0_stage 13 = .ok (.aaload, 1) := by decide +kernel
theorem dX0_stage_14 : decode cX0_stage 14 = .ok (.getfield 45, 3) := by decide +kernel
theorem dX0_stage_17 : decode cX0_stage 17 = .ok (.goto 5, 3) := by decide +kernel
theorem dX0_stage_20 : decode cX0_stage 20 = .ok (.bipush (-2), 2) := by decide +kernel
theorem dX0_stage_22 : decode cX0_stage 22 = .ok (.ireturn, 1) := by decide +kernel
theorem dX0_nodes_0 : decode cX0_nodes 0 = .ok (.aload_n 0, 1) := by decide +kernel
theorem dX0_nodes_1 : decode cX0_nodes 1 = .ok (.iload_n 1, 1) := by decide +kernel
theorem dX0_nodes_2 : decode cX0_nodes 2 = .ok (.invokevirtual 48, 3) := by decide +kernel
theorem dX0_nodes_5 : decode cX0_nodes 5 = .ok (.ifCond .ne 6, 3) := by decide +kernel
theorem dX0_nodes_8 : decode cX0_nodes 8 = .ok (.bipush (-2), 2) := by decide +kernel
theorem dX0_nodes_10 : decode cX0_nodes 10 = .ok (.ireturn, 1) := by decide +kernel
theorem dX0_nodes_11 : decode cX0_nodes 11 = .ok (.iload_n 2, 1) := by decide +kernel
theorem dX0_nodes_12 : decode cX0_nodes 12 = .ok (.tableswitch 72 0 3 #[32, 42, 52, 62], 32) := by decide +kernel
theorem dX0_nodes_44 : decode cX0_nodes 44 = .ok (.aload_n 0, 1) := by decide +kernel
theorem dX0_nodes_45 : decode cX0_nodes 45 = .ok (.getfield 18, 3) := by decide +kernel
theorem dX0_nodes_48 : decode cX0_nodes 48 = .ok (.iload_n 1, 1) := by decide +kernel
theorem dX0_nodes_49 : decode cX0_nodes 49 = .ok (.aaload, 1) := by decide +kernel
theorem dX0_nodes_50 : decode cX0_nodes 50 = .ok (.getfield 54, 3) := by decide +kernel
theorem dX0_nodes_53 : decode cX0_nodes 53 = .ok (.ireturn, 1) := by decide +kernel
theorem dX0_nodes_54 : decode cX0_nodes 54 = .ok (.aload_n 0, 1) := by decide +kernel
theorem dX0_nodes_55 : decode cX0_nodes 55 = .ok (.getfield 18, 3) := by decide +kernel
theorem dX0_nodes_58 : decode cX0_nodes 58 = .ok (.iload_n 1, 1) := by decide +kernel
theorem dX0_nodes_59 : decode cX0_nodes 59 = .ok (.aaload, 1) := by decide +kernel
theorem dX0_nodes_60 : decode cX0_nodes 60 = .ok (.getfield 127, 3) := by decide +kernel
theorem dX0_nodes_63 : decode cX0_nodes 63 = .ok (.ireturn, 1) := by decide +kernel
theorem dX0_nodes_64 : decode cX0_nodes 64 = .ok (.aload_n 0, 1) := by decide +kernel
theorem dX0_nodes_65 : decode cX0_nodes 65 = .ok (.getfield 18, 3) := by decide +kernel
theorem dX0_nodes_68 : decode cX0_nodes 68 = .ok (.iload_n 1, 1) := by decide +kernel
theorem dX0_nodes_69 : decode cX0_nodes 69 = .ok (.aaload, 1) := by decide +kernel
theorem dX0_nodes_70 : decode cX0_nodes 70 = .ok (.getfield 130, 3) := by decide +kernel
theorem dX0_nodes_73 : decode cX0_nodes 73 = .ok (.ireturn, 1) := by decide +kernel
theorem dX0_nodes_74 : decode cX0_nodes 74 = .ok (.aload_n 0, 1) := by decide +kernel
theorem dX0_nodes_75 : decode cX0_nodes 75 = .ok (.getfield 18, 3) := by decide +kernel
theorem dX0_nodes_78 : decode cX0_nodes 78 = .ok (.iload_n 1, 1) := by decide +kernel
theorem dX0_nodes_79 : decode cX0_nodes 79 = .ok (.aaload, 1) := by decide +kernel
theorem dX0_nodes_80 : decode cX0_nodes 80 = .ok (.getfield 133, 3) := by decide +kernel
theorem dX0_nodes_83 : decode cX0_nodes 83 = .ok (.ireturn, 1) := by decide +kernel
theorem dX0_nodes_84 : decode cX0_nodes 84 = .ok (.bipush (-2), 2) := by decide +kernel
theorem dX0_nodes_86 : decode cX0_nodes 86 = .ok (.ireturn, 1) := by decide +kernel
theorem dX0_state_0 : decode cX0_state 0 = .ok (.iload_n 1, 1) := by decide +kernel
theorem dX0_state_1 : decode cX0_state 1 = .ok (.invokestatic 34, 3) := by decide +kernel
theorem dX0_state_4 : decode cX0_state 4 = .ok (.ifCond .eq 11, 3) := by decide +kernel
theorem dX0_state_7 : decode cX0_state 7 = .ok (.aload_n 0, 1) := by decide +kernel
theorem dX0_state_8 : decode cX0_state 8 = .ok (.iload_n 2, 1) := by decide +kernel
theorem dX0_state_9 : decode cX0_state 9 = .ok (.invokevirtual 48, 3) := by decide +kernel
theorem dX0_state_12 : decode cX0_state 12 = .ok (.ifCond .ne 6, 3) := by decide +kernel
theorem dX0_state_15 : decode cX0_state 15 = .ok (.bipush (-2), 2) := by decide +kernel
theorem dX0_state_17 : decode cX0_state 17 = .ok (.ireturn, 1) := by decide +kernel
theorem dX0_state_18 : decode cX0_state 18 = .ok (.aload_n 0, 1) := by decide +kernel
theorem dX0_state_19 : decode cX0_state 19 = .ok (.getfield 11, 3) := by decide +kernel
theorem dX0_state_22 : decode cX0_state 22 = .ok (.iload_n 1, 1) := by decide +kernel
theorem dX0_state_23 : decode cX0_state 23 = .ok (.aaload, 1) := by decide +kernel
theorem dX0_state_24 : decode cX0_state 24 = .ok (.getfield 61, 3) := by decide +kernel
theorem dX0_state_27 : decode cX0_state 27 = .ok (.iload_n 2, 1) := by decide +kernel
theorem dX0_state_28 : decode cX0_state 28 = .ok (.iaload, 1) := by decide +kernel
theorem dX0_state_29 : decode cX0_state 29 = .ok (.ireturn, 1) := by decide +kernel
theorem dX0_holder_0 : decode cX0_holder 0 = .ok (.iload_n 1, 1) := by decide +kernel
theorem dX0_holder_1 : decode cX0_holder 1 = .ok (.invokestatic 34, 3) := by decide +kernel
theorem dX0_holder_4 : decode cX0_holder 4 = .ok (.ifCond .eq 10, 3) := by decide +kernel
theorem dX0_holder_7 : decode cX0_holder 7 = .ok (.iload_n 2, 1) := by decide +kernel
theorem dX0_holder_8 : decode cX0_holder 8 = .ok (.invokestatic 51, 3) := by decide +kernel
theorem dX0_holder_11 : decode cX0_holder 11 = .ok (.ifCond .ne 6, 3) := by decide +kernel
theorem dX0_holder_14 : decode cX0_holder 14 = .ok (.bipush (-2), 2) := by decide +kernel
theorem dX0_holder_16 : decode cX0_holder 16 = .ok (.ireturn, 1) := by decide +kernel
theorem dX0_holder_17 : decode cX0_holder 17 = .ok (.aload_n 0, 1) := by decide +kernel
theorem dX0_holder_18 : decode cX0_holder 18 = .ok (.getfield 11, 3) := by decide +kernel
theorem dX0_holder_21 : decode cX0_holder 21 = .ok (.iload_n 1, 1) := by decide +kernel
theorem dX0_holder_22 : decode cX0_holder 22 = .ok (.aaload, 1) := by decide +kernel
theorem dX0_holder_23 : decode cX0_holder 23 = .ok (.iload_n 2, 1) := by decide +kernel
theorem dX0_holder_24 : decode cX0_holder 24 = .ok (.invokevirtual 136, 3) := by decide +kernel
theorem dX0_holder_27 : decode cX0_holder 27 = .ok (.ireturn, 1) := by decide +kernel
theorem dX0_records_0 : decode cX0_records 0 = .ok (.iload_n 1, 1) := by decide +kernel
theorem dX0_records_1 : decode cX0_records 1 = .ok (.invokestatic 34, 3) := by decide +kernel
theorem dX0_records_4 : decode cX0_records 4 = .ok (.ifCond .ne 6, 3) := by decide +kernel
theorem dX0_records_7 : decode cX0_records 7 = .ok (.bipush (-2), 2) := by decide +kernel
theorem dX0_records_9 : decode cX0_records 9 = .ok (.ireturn, 1) := by decide +kernel
theorem dX0_records_10 : decode cX0_records 10 = .ok (.aload_n 0, 1) := by decide +kernel
theorem dX0_records_11 : decode cX0_records 11 = .ok (.getfield 11, 3) := by decide +kernel
theorem dX0_records_14 : decode cX0_records 14 = .ok (.iload_n 1, 1) := by decide +kernel
theorem dX0_records_15 : decode cX0_records 15 = .ok (.aaload, 1) := by decide +kernel
theorem dX0_records_16 : decode cX0_records 16 = .ok (.getfield 111, 3) := by decide +kernel
theorem dX0_records_19 : decode cX0_records 19 = .ok (.astore_n 3, 1) := by decide +kernel
theorem dX0_records_20 : decode cX0_records 20 = .ok (.iload_n 2, 1) := by decide +kernel
theorem dX0_records_21 : decode cX0_records 21 = .ok (.ifCond .eq 10, 3) := by decide +kernel
theorem dX0_records_24 : decode cX0_records 24 = .ok (.aload_n 3, 1) := by decide +kernel
theorem dX0_records_25 : decode cX0_records 25 = .ok (.getfield 139, 3) := by decide +kernel
theorem dX0_records_28 : decode cX0_records 28 = .ok (.goto 7, 3) := by decide +kernel
theorem dX0_records_31 : decode cX0_records 31 = .ok (.aload_n 3, 1) := by decide +kernel
theorem dX0_records_32 : decode cX0_records 32 = .ok (.getfield 142, 3) := by decide +kernel
theorem dX0_records_35 : decode cX0_records 35 = .ok (.ireturn, 1) := by decide +kernel
theorem dX0_entry_0 : decode cX0_entry 0 = .ok (.iload_n 1, 1) := by decide +kernel
theorem dX0_entry_1 : decode cX0_entry 1 = .ok (.invokestatic 34, 3) := by decide +kernel
theorem dX0_entry_4 : decode cX0_entry 4 = .ok (.ifCond .ne 6, 3) := by decide +kernel
theorem dX0_entry_7 : decode cX0_entry 7 = .ok (.bipush (-2), 2) := by decide +kernel
theorem dX0_entry_9 : decode cX0_entry 9 = .ok (.ireturn, 1) := by decide +kernel
theorem dX0_entry_10 : decode cX0_entry 10 = .ok (.aload_n 0, 1) := by decide +kernel
theorem dX0_entry_11 : decode cX0_entry 11 = .ok (.getfield 11, 3) := by decide +kernel
theorem dX0_entry_14 : decode cX0_entry 14 = .ok (.iload_n 1, 1) := by decide +kernel
theorem dX0_entry_15 : decode cX0_entry 15 = .ok (.aaload, 1) := by decide +kernel
theorem dX0_entry_16 : decode cX0_entry 16 = .ok (.getfield 111, 3) := by decide +kernel
theorem dX0_entry_19 : decode cX0_entry 19 = .ok (.astore_n 3, 1) := by decide +kernel
theorem dX0_entry_20 : decode cX0_entry 20 = .ok (.aload_n 3, 1) := by decide +kernel
theorem dX0_entry_21 : decode cX0_entry 21 = .ok (.iload_n 2, 1) := by decide +kernel
theorem dX0_entry_22 : decode cX0_entry 22 = .ok (.invokevirtual 145, 3) := by decide +kernel
theorem dX0_entry_25 : decode cX0_entry 25 = .ok (.ifCond .eq 12, 3) := by decide +kernel
theorem dX0_entry_28 : decode cX0_entry 28 = .ok (.aload_n 3, 1) := by decide +kernel
theorem dX0_entry_29 : decode cX0_entry 29 = .ok (.getfield 146, 3) := by decide +kernel
theorem dX0_entry_32 : decode cX0_entry 32 = .ok (.iload_n 2, 1) := by decide +kernel
theorem dX0_entry_33 : decode cX0_entry 33 = .ok (.iaload, 1) := by decide +kernel
theorem dX0_entry_34 : decode cX0_entry 34 = .ok (.goto 4, 3) := by decide +kernel
theorem dX0_entry_37 : decode cX0_entry 37 = .ok (.iconst (-1), 1) := by decide +kernel
theorem dX0_entry_38 : decode cX0_entry 38 = .ok (.ireturn, 1) := by decide +kernel
theorem dX1_has_0 : decode cX1_has 0 = .ok (.iload_n 1, 1) := by decide +kernel
theorem dX1_has_1 : decode cX1_has 1 = .ok (.ifCond .lt 15, 3) := by decide +kernel
theorem dX1_has_4 : decode cX1_has 4 = .ok (.iload_n 1, 1) := by decide +kernel
theorem dX1_has_5 : decode cX1_has 5 = .ok (.aload_n 0, 1) := by decide +kernel
theorem dX1_has_6 : decode cX1_has 6 = .ok (.getfield 18, 3) := by decide +kernel
theorem dX1_has_9 : decode cX1_has 9 = .ok (.if_icmp .ge 7, 3) := by decide +kernel
theorem dX1_has_12 : decode cX1_has 12 = .ok (.iconst 1, 1) := by decide +kernel
theorem dX1_has_13 : decode cX1_has 13 = .ok (.goto 4, 3) := by decide +kernel
theorem dX1_has_16 : decode cX1_has 16 = .ok (.iconst 0, 1) := by decide +kernel
theorem dX1_has_17 : decode cX1_has 17 = .ok (.ireturn, 1) := by decide +kernel
theorem dX0_content_0 : decode cX0_content 0 = .ok (.iload_n 1, 1) := by decide +kernel
theorem dX0_content_1 : decode cX0_content 1 = .ok (.invokestatic 34, 3) := by decide +kernel
theorem dX0_content_4 : decode cX0_content 4 = .ok (.ifCond .ne 6, 3) := by decide +kernel
theorem dX0_content_7 : decode cX0_content 7 = .ok (.bipush (-2), 2) := by decide +kernel
theorem dX0_content_9 : decode cX0_content 9 = .ok (.ireturn, 1) := by decide +kernel
theorem dX0_content_10 : decode cX0_content 10 = .ok (.aload_n 0, 1) := by decide +kernel
theorem dX0_content_11 : decode cX0_content 11 = .ok (.getfield 11, 3) := by decide +kernel
theorem dX0_content_14 : decode cX0_content 14 = .ok (.iload_n 1, 1) := by decide +kernel
theorem dX0_content_15 : decode cX0_content 15 = .ok (.aaload, 1) := by decide +kernel
theorem dX0_content_16 : decode cX0_content 16 = .ok (.getfield 111, 3) := by decide +kernel
theorem dX0_content_19 : decode cX0_content 19 = .ok (.astore_n 3, 1) := by decide +kernel
theorem dX0_content_20 : decode cX0_content 20 = .ok (.aload_n 3, 1) := by decide +kernel
theorem dX0_content_21 : decode cX0_content 21 = .ok (.iload_n 2, 1) := by decide +kernel
theorem dX0_content_22 : decode cX0_content 22 = .ok (.invokevirtual 145, 3) := by decide +kernel
theorem dX0_content_25 : decode cX0_content 25 = .ok (.ifCond .eq 12, 3) := by decide +kernel
theorem dX0_content_28 : decode cX0_content 28 = .ok (.aload_n 3, 1) := by decide +kernel
theorem dX0_content_29 : decode cX0_content 29 = .ok (.getfield 149, 3) := by decide +kernel
theorem dX0_content_32 : decode cX0_content 32 = .ok (.iload_n 2, 1) := by decide +kernel
theorem dX0_content_33 : decode cX0_content 33 = .ok (.iaload, 1) := by decide +kernel
theorem dX0_content_34 : decode cX0_content 34 = .ok (.goto 4, 3) := by decide +kernel
theorem dX0_content_37 : decode cX0_content 37 = .ok (.iconst (-1), 1) := by decide +kernel
theorem dX0_content_38 : decode cX0_content 38 = .ok (.ireturn, 1) := by decide +kernel
theorem dX0_messages_0 : decode cX0_messages 0 = .ok (.aload_n 0, 1) := by decide +kernel
theorem dX0_messages_1 : decode cX0_messages 1 = .ok (.getfield 26, 3) := by decide +kernel
theorem dX0_messages_4 : decode cX0_messages 4 = .ok (.getfield 152, 3) := by decide +kernel
theorem dX0_messages_7 : decode cX0_messages 7 = .ok (.ireturn, 1) := by decide +kernel
theorem dX0_message_0 : decode cX0_message 0 = .ok (.aload_n 0, 1) := by decide +kernel
theorem dX0_message_1 : decode cX0_message 1 = .ok (.getfield 26, 3) := by decide +kernel
theorem dX0_message_4 : decode cX0_message 4 = .ok (.iload_n 1, 1) := by decide +kernel
theorem dX0_message_5 : decode cX0_message 5 = .ok (.invokevirtual 88, 3) := by decide +kernel
theorem dX0_message_8 : decode cX0_message 8 = .ok (.ifCond .eq 12, 3) := by decide +kernel
theorem dX0_message_11 : decode cX0_message 11 = .ok (.iload_n 2, 1) := by decide +kernel
theorem dX0_message_12 : decode cX0_message 12 = .ok (.ifCond .lt 8, 3) := by decide +kernel
theorem dX0_message_15 : decode cX0_message 15 = .ok (.iload_n 2, 1) := by decide +kernel
theorem dX0_message_16 : decode cX0_message 16 = .ok (.iconst 4, 1) := by decide +kernel
theorem dX0_message_17 : decode cX0_message 17 = .ok (.if_icmp .lt 6, 3) := by decide +kernel
theorem dX0_message_20 : decode cX0_message 20 = .ok (.bipush (-2), 2) := by decide +kernel
theorem dX0_message_22 : decode cX0_message 22 = .ok (.ireturn, 1) := by decide +kernel
theorem dX0_message_23 : decode cX0_message 23 = .ok (.aload_n 0, 1) := by decide +kernel
theorem dX0_message_24 : decode cX0_message 24 = .ok (.getfield 26, 3) := by decide +kernel
theorem dX0_message_27 : decode cX0_message 27 = .ok (.getfield 91, 3) := by decide +kernel
theorem dX0_message_30 : decode cX0_message 30 = .ok (.iload_n 2, 1) := by decide +kernel
theorem dX0_message_31 : decode cX0_message 31 = .ok (.aaload, 1) := by decide +kernel
theorem dX0_message_32 : decode cX0_message 32 = .ok (.iload_n 1, 1) := by decide +kernel
theorem dX0_message_33 : decode cX0_message 33 = .ok (.iaload, 1) := by decide +kernel
theorem dX0_message_34 : decode cX0_message 34 = .ok (.ireturn, 1) := by decide +kernel
theorem dX0_forced_0 : decode cX0_forced 0 = .ok (.iload_n 1, 1) := by decide +kernel
theorem dX0_forced_1 : decode cX0_forced 1 = .ok (.invokestatic 34, 3) := by decide +kernel
theorem dX0_forced_4 : decode cX0_forced 4 = .ok (.ifCond .eq 18, 3) := by decide +kernel
theorem dX0_forced_7 : decode cX0_forced 7 = .ok (.aload_n 0, 1) := by decide +kernel
theorem dX0_forced_8 : decode cX0_forced 8 = .ok (.getfield 11, 3) := by decide +kernel
theorem dX0_forced_11 : decode cX0_forced 11 = .ok (.iload_n 1, 1) := by decide +kernel
theorem dX0_forced_12 : decode cX0_forced 12 = .ok (.aaload, 1) := by decide +kernel
theorem dX0_forced_13 : decode cX0_forced 13 = .ok (.getfield 111, 3) := by decide +kernel
theorem dX0_forced_16 : decode cX0_forced 16 = .ok (.getfield 153, 3) := by decide +kernel
theorem dX0_forced_19 : decode cX0_forced 19 = .ok (.goto 5, 3) := by decide +kernel
theorem dX0_forced_22 : decode cX0_forced 22 = .ok (.bipush (-2), 2) := by decide +kernel
theorem dX0_forced_24 : decode cX0_forced 24 = .ok (.ireturn, 1) := by decide +kernel
theorem dX5_init_0 : decode cX5_init 0 = .ok (.aload_n 0, 1) := by decide +kernel
theorem dX5_init_1 : decode cX5_init 1 = .ok (.invokespecial 1, 3) := by decide +kernel
theorem dX5_init_4 : decode cX5_init 4 = .ok (.aload_n 0, 1) := by decide +kernel
theorem dX5_init_5 : decode cX5_init 5 = .ok (.iconst 4, 1) := by decide +kernel
theorem dX5_init_6 : decode cX5_init 6 = .ok (.newarray .boolean, 2) := by decide +kernel
theorem dX5_init_8 : decode cX5_init 8 = .ok (.putfield 7, 3) := by decide +kernel
theorem dX5_init_11 : decode cX5_init 11 = .ok (.aload_n 0, 1) := by decide +kernel
theorem dX5_init_12 : decode cX5_init 12 = .ok (.iconst 4, 1) := by decide +kernel
theorem dX5_init_13 : decode cX5_init 13 = .ok (.newarray .int, 2) := by decide +kernel
theorem dX5_init_15 : decode cX5_init 15 = .ok (.putfield 13, 3) := by decide +kernel
theorem dX5_init_18 : decode cX5_init 18 = .ok (.aload_n 0, 1) := by decide +kernel
theorem dX5_init_19 : decode cX5_init 19 = .ok (.bipush 10, 2) := by decide +kernel
theorem dX5_init_21 : decode cX5_init 21 = .ok (.newarray .int, 2) := by decide +kernel
theorem dX5_init_23 : decode cX5_init 23 = .ok (.putfield 17, 3) := by decide +kernel
theorem dX5_init_26 : decode cX5_init 26 = .ok (.aload_n 0, 1) := by decide +kernel
theorem dX5_init_27 : decode cX5_init 27 = .ok (.bipush 10, 2) := by decide +kernel
theorem dX5_init_29 : decode cX5_init 29 = .ok (.newarray .int, 2) := by decide +kernel
theorem dX5_init_31 : decode cX5_init 31 = .ok (.putfield 20, 3) := by decide +kernel
theorem dX5_init_34 : decode cX5_init 34 = .ok (.aload_n 0, 1) := by decide +kernel
theorem dX5_init_35 : decode cX5_init 35 = .ok (.bipush 40, 2) := by decide +kernel
theorem dX5_init_37 : decode cX5_init 37 = .ok (.newarray .boolean, 2) := by decide +kernel
theorem dX5_init_39 : decode cX5_init 39 = .ok (.putfield 23, 3) := by decide +kernel
theorem dX5_init_42 : decode cX5_init 42 = .ok (.aload_n 0, 1) := by decide +kernel
theorem dX5_init_43 : decode cX5_init 43 = .ok (.bipush 40, 2) := by decide +kernel
theorem dX5_init_45 : decode cX5_init 45 = .ok (.newarray .boolean, 2) := by decide +kernel
theorem dX5_init_47 : decode cX5_init 47 = .ok (.putfield 26, 3) := by decide +kernel
theorem dX5_init_50 : decode cX5_init 50 = .ok (.aload_n 0, 1) := by decide +kernel
theorem dX5_init_51 : decode cX5_init 51 = .ok (.bipush 40, 2) := by decide +kernel
theorem dX5_init_53 : decode cX5_init 53 = .ok (.newarray .boolean, 2) := by decide +kernel
theorem dX5_init_55 : decode cX5_init 55 = .ok (.putfield 29, 3) := by decide +kernel
theorem dX5_init_58 : decode cX5_init 58 = .ok (.aload_n 0, 1) := by decide +kernel
theorem dX5_init_59 : decode cX5_init 59 = .ok (.bipush 40, 2) := by decide +kernel
theorem dX5_init_61 : decode cX5_init 61 = .ok (.newarray .boolean, 2) := by decide +kernel
theorem dX5_init_63 : decode cX5_init 63 = .ok (.putfield 32, 3) := by decide +kernel
theorem dX5_init_66 : decode cX5_init 66 = .ok (.aload_n 0, 1) := by decide +kernel
theorem dX5_init_67 : decode cX5_init 67 = .ok (.bipush 40, 2) := by decide +kernel
theorem dX5_init_69 : decode cX5_init 69 = .ok (.newarray .int, 2) := by decide +kernel
theorem dX5_init_71 : decode cX5_init 71 = .ok (.putfield 35, 3) := by decide +kernel
theorem dX5_init_74 : decode cX5_init 74 = .ok (.aload_n 0, 1) := by decide +kernel
theorem dX5_init_75 : decode cX5_init 75 = .ok (.bipush 32, 2) := by decide +kernel
theorem dX5_init_77 : decode cX5_init 77 = .ok (.newarray .int, 2) := by decide +kernel
theorem dX5_init_79 : decode cX5_init 79 = .ok (.putfield 38, 3) := by decide +kernel
theorem dX5_init_82 : decode cX5_init 82 = .ok (.aload_n 0, 1) := by decide +kernel
theorem dX5_init_83 : decode cX5_init 83 = .ok (.iconst 4, 1) := by decide +kernel
theorem dX5_init_84 : decode cX5_init 84 = .ok (.newarray .int, 2) := by decide +kernel
theorem dX5_init_86 : decode cX5_init 86 = .ok (.putfield 41, 3) := by decide +kernel
theorem dX5_init_89 : decode cX5_init 89 = .ok (.aload_n 0, 1) := by decide +kernel
theorem dX5_init_90 : decode cX5_init 90 = .ok (.sipush 256, 3) := by decide +kernel
theorem dX5_init_93 : decode cX5_init 93 = .ok (.newarray .int, 2) := by decide +kernel
theorem dX5_init_95 : decode cX5_init 95 = .ok (.putfield 44, 3) := by decide +kernel
theorem dX5_init_98 : decode cX5_init 98 = .ok (.aload_n 0, 1) := by decide +kernel
theorem dX5_init_99 : decode cX5_init 99 = .ok (.sipush 256, 3) := by decide +kernel
theorem dX5_init_102 : decode cX5_init 102 = .ok (.newarray .int, 2) := by decide +kernel
theorem dX5_init_104 : decode cX5_init 104 = .ok (.putfield 47, 3) := by decide +kernel
theorem dX5_init_107 : decode cX5_init 107 = .ok (.aload_n 0, 1) := by decide +kernel
theorem dX5_init_108 : decode cX5_init 108 = .ok (.sipush 256, 3) := by decide +kernel
theorem dX5_init_111 : decode cX5_init 111 = .ok (.newarray .int, 2) := by decide +kernel
theorem dX5_init_113 : decode cX5_init 113 = .ok (.putfield 50, 3) := by decide +kernel
theorem dX5_init_116 : decode cX5_init 116 = .ok (.aload_n 0, 1) := by decide +kernel
theorem dX5_init_117 : decode cX5_init 117 = .ok (.sipush 256, 3) := by decide +kernel
theorem dX5_init_120 : decode cX5_init 120 = .ok (.newarray .boolean, 2) := by decide +kernel
theorem dX5_init_122 : decode cX5_init 122 = .ok (.putfield 53, 3) := by decide +kernel
theorem dX5_init_125 : decode cX5_init 125 = .ok (.aload_n 0, 1) := by decide +kernel
theorem dX5_init_126 : decode cX5_init 126 = .ok (.bipush 40, 2) := by decide +kernel
theorem dX5_init_128 : decode cX5_init 128 = .ok (.newarray .int, 2) := by decide +kernel
theorem dX5_init_130 : decode cX5_init 130 = .ok (.putfield 56, 3) := by decide +kernel
theorem dX5_init_133 : decode cX5_init 133 = .ok (.aload_n 0, 1) := by decide +kernel
theorem dX5_init_134 : decode cX5_init 134 = .ok (.bipush 40, 2) := by decide +kernel
theorem dX5_init_136 : decode cX5_init 136 = .ok (.newarray .int, 2) := by decide +kernel
theorem dX5_init_138 : decode cX5_init 138 = .ok (.putfield 59, 3) := by decide +kernel
theorem dX5_init_141 : decode cX5_init 141 = .ok (.aload_n 0, 1) := by decide +kernel
theorem dX5_init_142 : decode cX5_init 142 = .ok (.bipush 40, 2) := by decide +kernel
theorem dX5_init_144 : decode cX5_init 144 = .ok (.newarray .int, 2) := by decide +kernel
theorem dX5_init_146 : decode cX5_init 146 = .ok (.putfield 62, 3) := by decide +kernel
theorem dX5_init_149 : decode cX5_init 149 = .ok (.aload_n 0, 1) := by decide +kernel
theorem dX5_init_150 : decode cX5_init 150 = .ok (.bipush 40, 2) := by decide +kernel
theorem dX5_init_152 : decode cX5_init 152 = .ok (.newarray .int, 2) := by decide +kernel
theorem dX5_init_154 : decode cX5_init 154 = .ok (.putfield 65, 3) := by decide +kernel
theorem dX5_init_157 : decode cX5_init 157 = .ok (.return_, 1) := by decide +kernel
theorem dX5_begin_0 : decode cX5_begin 0 = .ok (.iload_n 1, 1) := by decide +kernel
theorem dX5_begin_1 : decode cX5_begin 1 = .ok (.invokestatic 122, 3) := by decide +kernel
theorem dX5_begin_4 : decode cX5_begin 4 = .ok (.ifCond .eq 6, 3) := by decide +kernel
theorem dX5_begin_7 : decode cX5_begin 7 = .ok (.bipush (-2), 2) := by decide +kernel
theorem dX5_begin_9 : decode cX5_begin 9 = .ok (.ireturn, 1) := by decide +kernel
theorem dX5_begin_10 : decode cX5_begin 10 = .ok (.aload_n 0, 1) := by decide +kernel
theorem dX5_begin_11 : decode cX5_begin 11 = .ok (.getfield 7, 3) := by decide +kernel
theorem dX5_begin_14 : decode cX5_begin 14 = .ok (.iload_n 1, 1) := by decide +kernel
theorem dX5_begin_15 : decode cX5_begin 15 = .ok (.baload, 1) := by decide +kernel
theorem dX5_begin_16 : decode cX5_begin 16 = .ok (.ifCond .eq 6, 3) := by decide +kernel
theorem dX5_begin_19 : decode cX5_begin 19 = .ok (.bipush (-3), 2) := by decide +kernel
theorem dX5_begin_21 : decode cX5_begin 21 = .ok (.ireturn, 1) := by decide +kernel
theorem dX5_begin_22 : decode cX5_begin 22 = .ok (.aload_n 0, 1) := by decide +kernel
theorem dX5_begin_23 : decode cX5_begin 23 = .ok (.getfield 68, 3) := by decide +kernel
theorem dX5_begin_26 : decode cX5_begin 26 = .ok (.bipush 10, 2) := by decide +kernel
theorem dX5_begin_28 : decode cX5_begin 28 = .ok (.if_icmp .ne 6, 3) := by decide +kernel
theorem dX5_begin_31 : decode cX5_begin 31 = .ok (.bipush (-5), 2) := by decide +kernel
theorem dX5_begin_33 : decode cX5_begin 33 = .ok (.ireturn, 1) := by decide +kernel
theorem dX5_begin_34 : decode cX5_begin 34 = .ok (.aload_n 0, 1) := by decide +kernel
theorem dX5_begin_35 : decode cX5_begin 35 = .ok (.getfield 17, 3) := by decide +kernel
theorem dX5_begin_38 : decode cX5_begin 38 = .ok (.aload_n 0, 1) := by decide +kernel
theorem dX5_begin_39 : decode cX5_begin 39 = .ok (.getfield 68, 3) := by decide +kernel
theorem dX5_begin_42 : decode cX5_begin 42 = .ok (.iload_n 1, 1) := by decide +kernel
theorem dX5_begin_43 : decode cX5_begin 43 = .ok (.iastore, 1) := by decide +kernel
theorem dX5_begin_44 : decode cX5_begin 44 = .ok (.aload_n 0, 1) := by decide +kernel
theorem dX5_begin_45 : decode cX5_begin 45 = .ok (.getfield 20, 3) := by decide +kernel
theorem dX5_begin_48 : decode cX5_begin 48 = .ok (.aload_n 0, 1) := by decide +kernel
theorem dX5_begin_49 : decode cX5_begin 49 = .ok (.getfield 68, 3) := by decide +kernel
theorem dX5_begin_52 : decode cX5_begin 52 = .ok (.iconst 1, 1) := by decide +kernel
theorem dX5_begin_53 : decode cX5_begin 53 = .ok (.iastore, 1) := by decide +kernel
theorem dX5_begin_54 : decode cX5_begin 54 = .ok (.aload_n 0, 1) := by decide +kernel
theorem dX5_begin_55 : decode cX5_begin 55 = .ok (.dup, 1) := by decide +kernel
theorem dX5_begin_56 : decode cX5_begin 56 = .ok (.getfield 68, 3) := by decide +kernel
theorem dX5_begin_59 : decode cX5_begin 59 = .ok (.iconst 1, 1) := by decide +kernel
theorem dX5_begin_60 : decode cX5_begin 60 = .ok (.iadd, 1) := by decide +kernel
theorem dX5_begin_61 : decode cX5_begin 61 = .ok (.putfield 68, 3) := by decide +kernel
theorem dX5_begin_64 : decode cX5_begin 64 = .ok (.aload_n 0, 1) := by decide +kernel
theorem dX5_begin_65 : decode cX5_begin 65 = .ok (.getfield 68, 3) := by decide +kernel
theorem dX5_begin_68 : decode cX5_begin 68 = .ok (.iconst 1, 1) := by decide +kernel
theorem dX5_begin_69 : decode cX5_begin 69 = .ok (.isub, 1) := by decide +kernel
theorem dX5_begin_70 : decode cX5_begin 70 = .ok (.ireturn, 1) := by decide +kernel
theorem dX5_noNode_0 : decode cX5_noNode 0 = .ok (.iload_n 0, 1) := by decide +kernel
theorem dX5_noNode_1 : decode cX5_noNode 1 = .ok (.ifCond .lt 8, 3) := by decide +kernel
theorem dX5_noNode_4 : decode cX5_noNode 4 = .ok (.iload_n 0, 1) := by decide +kernel
theorem dX5_noNode_5 : decode cX5_noNode 5 = .ok (.iconst 3, 1) := by decide +kernel
theorem dX5_noNode_6 : decode cX5_noNode 6 = .ok (.if_icmp .le 7, 3) := by decide +kernel
theorem dX5_noNode_9 : decode cX5_noNode 9 = .ok (.iconst 1, 1) := by decide +kernel
theorem dX5_noNode_10 : decode cX5_noNode 10 = .ok (.goto 4, 3) := by decide +kernel
theorem dX5_noNode_13 : decode cX5_noNode 13 = .ok (.iconst 0, 1) := by decide +kernel
theorem dX5_noNode_14 : decode cX5_noNode 14 = .ok (.ireturn, 1) := by decide +kernel
theorem dX5_work_0 : decode cX5_work 0 = .ok (.aload_n 0, 1) := by decide +kernel
theorem dX5_work_1 : decode cX5_work 1 = .ok (.iload_n 1, 1) := by decide +kernel
theorem dX5_work_2 : decode cX5_work 2 = .ok (.invokevirtual 126, 3) := by decide +kernel
theorem dX5_work_5 : decode cX5_work 5 = .ok (.ifCond .ne 21, 3) := by decide +kernel
theorem dX5_work_8 : decode cX5_work 8 = .ok (.iload_n 2, 1) := by decide +kernel
theorem dX5_work_9 : decode cX5_work 9 = .ok (.invokestatic 122, 3) := by decide +kernel
theorem dX5_work_12 : decode cX5_work 12 = .ok (.ifCond .ne 14, 3) := by decide +kernel
theorem dX5_work_15 : decode cX5_work 15 = .ok (.iload_n 3, 1) := by decide +kernel
theorem dX5_work_16 : decode cX5_work 16 = .ok (.iconst (-1), 1) := by decide +kernel
theorem dX5_work_17 : decode cX5_work 17 = .ok (.if_icmp .lt 9, 3) := by decide +kernel
theorem dX5_work_20 : decode cX5_work 20 = .ok (.iload_n 3, 1) := by decide +kernel
theorem dX5_work_21 : decode cX5_work 21 = .ok (.bipush 7, 2) := by decide +kernel
theorem dX5_work_23 : decode cX5_work 23 = .ok (.if_icmp .le 6, 3) := by decide +kernel
theorem dX5_work_26 : decode cX5_work 26 = .ok (.bipush (-2), 2) := by decide +kernel
theorem dX5_work_28 : decode cX5_work 28 = .ok (.ireturn, 1) := by decide +kernel
theorem dX5_work_29 : decode cX5_work 29 = .ok (.iconst 4, 1) := by decide +kernel
theorem dX5_work_30 : decode cX5_work 30 = .ok (.iload_n 1, 1) := by decide +kernel
theorem dX5_work_31 : decode cX5_work 31 = .ok (.imul, 1) := by decide +kernel
theorem dX5_work_32 : decode cX5_work 32 = .ok (.iload_n 2, 1) := by decide +kernel
theorem dX5_work_33 : decode cX5_work 33 = .ok (.iadd, 1) := by decide +kernel
theorem dX5_work_34 : decode cX5_work 34 = .ok (.istore 4, 2) := by decide +kernel
theorem dX5_work_36 : decode cX5_work 36 = .ok (.aload_n 0, 1) := by decide +kernel
theorem dX5_work_37 : decode cX5_work 37 = .ok (.getfield 7, 3) := by decide +kernel
theorem dX5_work_40 : decode cX5_work 40 = .ok (.iload_n 2, 1) := by decide +kernel
theorem dX5_work_41 : decode cX5_work 41 = .ok (.baload, 1) := by decide +kernel
theorem dX5_work_42 : decode cX5_work 42 = .ok (.ifCond .ne 17, 3) := by decide +kernel
theorem dX5_work_45 : decode cX5_work 45 = .ok (.aload_n 0, 1) := by decide +kernel
theorem dX5_work_46 : decode cX5_work 46 = .ok (.getfield 7, 3) := by decide +kernel
theorem dX5_work_49 : decode cX5_work 49 = .ok (.aload_n 0, 1) := by decide +kernel
theorem dX5_work_50 : decode cX5_work 50 = .ok (.getfield 17, 3) := by decide +kernel
theorem dX5_work_53 : decode cX5_work 53 = .ok (.iload_n 1, 1) := by decide +kernel
theorem dX5_work_54 : decode cX5_work 54 = .ok (.iaload, 1) := by decide +kernel
theorem dX5_work_55 : decode cX5_work 55 = .ok (.baload, 1) := by decide +kernel
theorem dX5_work_56 : decode cX5_work 56 = .ok (.ifCond .eq 6, 3) := by decide +kernel
theorem dX5_work_59 : decode cX5_work 59 = .ok (.bipush (-3), 2) := by decide +kernel
theorem dX5_work_61 : decode cX5_work 61 = .ok (.ireturn, 1) := by decide +kernel
theorem dX5_work_62 : decode cX5_work 62 = .ok (.aload_n 0, 1) := by decide +kernel
theorem dX5_work_63 : decode cX5_work 63 = .ok (.getfield 20, 3) := by decide +kernel
theorem dX5_work_66 : decode cX5_work 66 = .ok (.iload_n 1, 1) := by decide +kernel
theorem dX5_work_67 : decode cX5_work 67 = .ok (.iaload, 1) := by decide +kernel
theorem dX5_work_68 : decode cX5_work 68 = .ok (.iconst 1, 1) := by decide +kernel
theorem dX5_work_69 : decode cX5_work 69 = .ok (.if_icmp .ne 23, 3) := by decide +kernel
theorem dX5_work_72 : decode cX5_work 72 = .ok (.aload_n 0, 1) := by decide +kernel
theorem dX5_work_73 : decode cX5_work 73 = .ok (.getfield 23, 3) := by decide +kernel
theorem dX5_work_76 : decode cX5_work 76 = .ok (.iload 4, 2) := by decide +kernel
theorem dX5_work_78 : decode cX5_work 78 = .ok (.baload, 1) := by decide +kernel
theorem dX5_work_79 : decode cX5_work 79 = .ok (.ifCond .eq 16, 3) := by decide +kernel
theorem dX5_work_82 : decode cX5_work 82 = .ok (.aload_n 0, 1) := by decide +kernel
theorem dX5_work_83 : decode cX5_work 83 = .ok (.getfield 35, 3) := by decide +kernel
theorem dX5_work_86 : decode cX5_work 86 = .ok (.iload 4, 2) := by decide +kernel
theorem dX5_work_88 : decode cX5_work 88 = .ok (.iaload, 1) := by decide +kernel
theorem dX5_work_89 : decode cX5_work 89 = .ok (.ifCond .ne 6, 3) := by decide +kernel
theorem dX5_work_92 : decode cX5_work 92 = .ok (.bipush (-4), 2) := by decide +kernel
theorem dX5_work_94 : decode cX5_work 94 = .ok (.ireturn, 1) := by decide +kernel
theorem dX5_work_95 : decode cX5_work 95 = .ok (.aload_n 0, 1) := by decide +kernel
theorem dX5_work_96 : decode cX5_work 96 = .ok (.getfield 23, 3) := by decide +kernel
theorem dX5_work_99 : decode cX5_work 99 = .ok (.iload 4, 2) := by decide +kernel
theorem dX5_work_101 : decode cX5_work 101 = .ok (.baload, 1) := by decide +kernel
theorem dX5_work_102 : decode cX5_work 102 = .ok (.ifCond .ne 19, 3) := by decide +kernel
theorem dX5_work_105 : decode cX5_work 105 = .ok (.aload_n 0, 1) := by decide +kernel
theorem dX5_work_106 : decode cX5_work 106 = .ok (.getfield 23, 3) := by decide +kernel
theorem dX5_work_109 : decode cX5_work 109 = .ok (.iload 4, 2) := by decide +kernel
theorem dX5_work_111 : decode cX5_work 111 = .ok (.iconst 1, 1) := by decide +kernel
theorem dX5_work_112 : decode cX5_work 112 = .ok (.bastore, 1) := by decide +kernel
theorem dX5_work_113 : decode cX5_work 113 = .ok (.aload_n 0, 1) := by decide +kernel
theorem dX5_work_114 : decode cX5_work 114 = .ok (.getfield 35, 3) := by decide +kernel
theorem dX5_work_117 : decode cX5_work 117 = .ok (.iload 4, 2) := by decide +kernel
theorem dX5_work_119 : decode cX5_work 119 = .ok (.iconst 1, 1) := by decide +kernel
theorem dX5_work_120 : decode cX5_work 120 = .ok (.iastore, 1) := by decide +kernel
theorem dX5_work_121 : decode cX5_work 121 = .ok (.iload_n 3, 1) := by decide +kernel
theorem dX5_work_122 : decode cX5_work 122 = .ok (.ifCond .ge 7, 3) := by decide +kernel
theorem dX5_work_125 : decode cX5_work 125 = .ok (.iconst 0, 1) := by decide +kernel
theorem dX5_work_126 : decode cX5_work 126 = .ok (.goto 14, 3) := by decide +kernel
theorem dX5_work_129 : decode cX5_work 129 = .ok (.aload_n 0, 1) := by decide +kernel
theorem dX5_work_130 : decode cX5_work 130 = .ok (.getfield 38, 3) := by decide +kernel
theorem dX5_work_133 : decode cX5_work 133 = .ok (.bipush 8, 2) := by decide +kernel
theorem dX5_work_135 : decode cX5_work 135 = .ok (.iload_n 2, 1) := by decide +kernel
theorem dX5_work_136 : decode cX5_work 136 = .ok (.imul, 1) := by decide +kernel
theorem dX5_work_137 : decode cX5_work 137 = .ok (.iload_n 3, 1) := by decide +kernel
theorem dX5_work_138 : decode cX5_work 138 = .ok (.iadd, 1) := by decide +kernel
theorem dX5_work_139 : decode cX5_work 139 = .ok (.iaload, 1) := by decide +kernel
theorem dX5_work_140 : decode cX5_work 140 = .ok (.istore 5, 2) := by decide +kernel
theorem dX5_work_142 : decode cX5_work 142 = .ok (.iload 5, 2) := by decide +kernel
theorem dX5_work_144 : decode cX5_work 144 = .ok (.ifCond .eq 19, 3) := by decide +kernel
theorem dX5_work_147 : decode cX5_work 147 = .ok (.iload 5, 2) := by decide +kernel
theorem dX5_work_149 : decode cX5_work 149 = .ok (.iload_n 1, 1) := by decide +kernel
theorem dX5_work_150 : decode cX5_work 150 = .ok (.iconst 1, 1) := by decide +kernel
theorem dX5_work_151 : decode cX5_work 151 = .ok (.iadd, 1) := by decide +kernel
theorem dX5_work_152 : decode cX5_work 152 = .ok (.if_icmp .eq 11, 3) := by decide +kernel
theorem dX5_work_155 : decode cX5_work 155 = .ok (.aload_n 0, 1) := by decide +kernel
theorem dX5_work_156 : decode cX5_work 156 = .ok (.getfield 35, 3) := by decide +kernel
theorem dX5_work_159 : decode cX5_work 159 = .ok (.iload 4, 2) := by decide +kernel
theorem dX5_work_161 : decode cX5_work 161 = .ok (.iconst 2, 1) := by decide +kernel
theorem dX5_work_162 : decode cX5_work 162 = .ok (.iastore, 1) := by decide +kernel
theorem dX5_work_163 : decode cX5_work 163 = .ok (.aload_n 0, 1) := by decide +kernel
theorem dX5_work_164 : decode cX5_work 164 = .ok (.getfield 35, 3) := by decide +kernel
theorem dX5_work_167 : decode cX5_work 167 = .ok (.iload 4, 2) := by decide +kernel
theorem dX5_work_169 : decode cX5_work 169 = .ok (.iaload, 1) := by decide +kernel
theorem dX5_work_170 : decode cX5_work 170 = .ok (.iconst 2, 1) := by decide +kernel
theorem dX5_work_171 : decode cX5_work 171 = .ok (.if_icmp .ne 5, 3) := by decide +kernel
theorem dX5_work_174 : decode cX5_work 174 = .ok (.iconst 0, 1) := by decide +kernel
theorem dX5_work_175 : decode cX5_work 175 = .ok (.ireturn, 1) := by decide +kernel
theorem dX5_work_176 : decode cX5_work 176 = .ok (.iload_n 3, 1) := by decide +kernel
theorem dX5_work_177 : decode cX5_work 177 = .ok (.ifCond .lt 17, 3) := by decide +kernel
theorem dX5_work_180 : decode cX5_work 180 = .ok (.aload_n 0, 1) := by decide +kernel
theorem dX5_work_181 : decode cX5_work 181 = .ok (.getfield 38, 3) := by decide +kernel
theorem dX5_work_184 : decode cX5_work 184 = .ok (.bipush 8, 2) := by decide +kernel
theorem dX5_work_186 : decode cX5_work 186 = .ok (.iload_n 2, 1) := by decide +kernel
theorem dX5_work_187 : decode cX5_work 187 = .ok (.imul, 1) := by decide +kernel
theorem dX5_work_188 : decode cX5_work 188 = .ok (.iload_n 3, 1) := by decide +kernel
theorem dX5_work_189 : decode cX5_work 189 = .ok (.iadd, 1) := by decide +kernel
theorem dX5_work_190 : decode cX5_work 190 = .ok (.iload_n 1, 1) := by decide +kernel
theorem dX5_work_191 : decode cX5_work 191 = .ok (.iconst 1, 1) := by decide +kernel
theorem dX5_work_192 : decode cX5_work 192 = .ok (.iadd, 1) := by decide +kernel
theorem dX5_work_193 : decode cX5_work 193 = .ok (.iastore, 1) := by decide +kernel
theorem dX5_work_194 : decode cX5_work 194 = .ok (.iconst 1, 1) := by decide +kernel
theorem dX5_work_195 : decode cX5_work 195 = .ok (.ireturn, 1) := by decide +kernel
theorem dX5_noWork_0 : decode cX5_noWork 0 = .ok (.iload_n 1, 1) := by decide +kernel
theorem dX5_noWork_1 : decode cX5_noWork 1 = .ok (.ifCond .lt 11, 3) := by decide +kernel
theorem dX5_noWork_4 : decode cX5_noWork 4 = .ok (.iload_n 1, 1) := by decide +kernel
theorem dX5_noWork_5 : decode cX5_noWork 5 = .ok (.aload_n 0, 1) := by decide +kernel
theorem dX5_noWork_6 : decode cX5_noWork 6 = .ok (.getfield 68, 3) := by decide +kernel
theorem dX5_noWork_9 : decode cX5_noWork 9 = .ok (.if_icmp .lt 7, 3) := by decide +kernel
theorem dX5_noWork_12 : decode cX5_noWork 12 = .ok (.iconst 1, 1) := by decide +kernel
theorem dX5_noWork_13 : decode cX5_noWork 13 = .ok (.goto 4, 3) := by decide +kernel
theorem dX5_noWork_16 : decode cX5_noWork 16 = .ok (.iconst 0, 1) := by decide +kernel
theorem dX5_noWork_17 : decode cX5_noWork 17 = .ok (.ireturn, 1) := by decide +kernel
theorem dX5_commit_0 : decode cX5_commit 0 = .ok (.aload_n 0, 1) := by decide +kernel
theorem dX5_commit_1 : decode cX5_commit 1 = .ok (.iload_n 1, 1) := by decide +kernel
theorem dX5_commit_2 : decode cX5_commit 2 = .ok (.invokevirtual 126, 3) := by decide +kernel
theorem dX5_commit_5 : decode cX5_commit 5 = .ok (.ifCond .eq 6, 3) := by decide +kernel
theorem dX5_commit_8 : decode cX5_commit 8 = .ok (.bipush (-2), 2) := by decide +kernel
theorem dX5_commit_10 : decode cX5_commit 10 = .ok (.ireturn, 1) := by decide +kernel
theorem dX5_commit_11 : decode cX5_commit 11 = .ok (.aload_n 0, 1) := by decide +kernel
theorem dX5_commit_12 : decode cX5_commit 12 = .ok (.getfield 7, 3) := by decide +kernel
theorem dX5_commit_15 : decode cX5_commit 15 = .ok (.aload_n 0, 1) := by decide +kernel
theorem dX5_commit_16 : decode cX5_commit 16 = .ok (.getfield 17, 3) := by decide +kernel
theorem dX5_commit_19 : decode cX5_commit 19 = .ok (.iload_n 1, 1) := by decide +kernel
theorem dX5_commit_20 : decode cX5_commit 20 = .ok (.iaload, 1) := by decide +kernel
theorem dX5_commit_21 : decode cX5_commit 21 = .ok (.baload, 1) := by decide +kernel
theorem dX5_commit_22 : decode cX5_commit 22 = .ok (.ifCond .eq 6, 3) := by decide +kernel
theorem dX5_commit_25 : decode cX5_commit 25 = .ok (.bipush (-3), 2) := by decide +kernel
theorem dX5_commit_27 : decode cX5_commit 27 = .ok (.ireturn, 1) := by decide +kernel
theorem dX5_commit_28 : decode cX5_commit 28 = .ok (.aload_n 0, 1) := by decide +kernel
theorem dX5_commit_29 : decode cX5_commit 29 = .ok (.getfield 20, 3) := by decide +kernel
theorem dX5_commit_32 : decode cX5_commit 32 = .ok (.iload_n 1, 1) := by decide +kernel
theorem dX5_commit_33 : decode cX5_commit 33 = .ok (.iaload, 1) := by decide +kernel
theorem dX5_commit_34 : decode cX5_commit 34 = .ok (.iconst 1, 1) := by decide +kernel
theorem dX5_commit_35 : decode cX5_commit 35 = .ok (.if_icmp .eq 6, 3) := by decide +kernel
theorem dX5_commit_38 : decode cX5_commit 38 = .ok (.bipush (-4), 2) := by decide +kernel
theorem dX5_commit_40 : decode cX5_commit 40 = .ok (.ireturn, 1) := by decide +kernel
theorem dX5_commit_41 : decode cX5_commit 41 = .ok (.iconst 0, 1) := by decide +kernel
theorem dX5_commit_42 : decode cX5_commit 42 = .ok (.istore_n 2, 1) := by decide +kernel
theorem dX5_commit_43 : decode cX5_commit 43 = .ok (.aload_n 0, 1) := by decide +kernel
theorem dX5_commit_44 : decode cX5_commit 44 = .ok (.getfield 20, 3) := by decide +kernel
theorem dX5_commit_47 : decode cX5_commit 47 = .ok (.iload_n 1, 1) := by decide +kernel
theorem dX5_commit_48 : decode cX5_commit 48 = .ok (.iconst 2, 1) := by decide +kernel
theorem dX5_commit_49 : decode cX5_commit 49 = .ok (.iastore, 1) := by decide +kernel
theorem dX5_commit_50 : decode cX5_commit 50 = .ok (.iconst 0, 1) := by decide +kernel
theorem dX5_commit_51 : decode cX5_commit 51 = .ok (.istore_n 3, 1) := by decide +kernel
theorem dX5_commit_52 : decode cX5_commit 52 = .ok (.iload_n 3, 1) := by decide +kernel
theorem dX5_commit_53 : decode cX5_commit 53 = .ok (.iconst 4, 1) := by decide +kernel
theorem dX5_commit_54 : decode cX5_commit 54 = .ok (.if_icmp .ge 38, 3) := by decide +kernel
theorem dX5_commit_57 : decode cX5_commit 57 = .ok (.aload_n 0, 1) := by decide +kernel
theorem dX5_commit_58 : decode cX5_commit 58 = .ok (.getfield 23, 3) := by decide +kernel
theorem dX5_commit_61 : decode cX5_commit 61 = .ok (.iconst 4, 1) := by decide +kernel
theorem dX5_commit_62 : decode cX5_commit 62 = .ok (.iload_n 1, 1) := by decide +kernel
theorem dX5_commit_63 : decode cX5_commit 63 = .ok (.imul, 1) := by decide +kernel
theorem dX5_commit_64 : decode cX5_commit 64 = .ok (.iload_n 3, 1) := by decide +kernel
theorem dX5_commit_65 : decode cX5_commit 65 = .ok (.iadd, 1) := by decide +kernel
theorem dX5_commit_66 : decode cX5_commit 66 = .ok (.baload, 1) := by decide +kernel
theorem dX5_commit_67 : decode cX5_commit 67 = .ok (.ifCond .eq 19, 3) := by decide +kernel
theorem dX5_commit_70 : decode cX5_commit 70 = .ok (.aload_n 0, 1) := by decide +kernel
theorem dX5_commit_71 : decode cX5_commit 71 = .ok (.iconst 1, 1) := by decide +kernel
theorem dX5_commit_72 : decode cX5_commit 72 = .ok (.aload_n 0, 1) := by decide +kernel
theorem dX5_commit_73 : decode cX5_commit 73 = .ok (.getfield 17, 3) := by decide +kernel
theorem dX5_commit_76 : decode cX5_commit 76 = .ok (.iload_n 1, 1) := by decide +kernel
theorem dX5_commit_77 : decode cX5_commit 77 = .ok (.iaload, 1) := by decide +kernel
theorem dX5_commit_78 : decode cX5_commit 78 = .ok (.iload_n 3, 1) := by decide +kernel
theorem dX5_commit_79 : decode cX5_commit 79 = .ok (.iload_n 1, 1) := by decide +kernel
theorem dX5_commit_80 : decode cX5_commit 80 = .ok (.invokevirtual 83, 3) := by decide +kernel
theorem dX5_commit_83 : decode cX5_commit 83 = .ok (.iinc 2 1, 3) := by decide +kernel
theorem dX5_commit_86 : decode cX5_commit 86 = .ok (.iinc 3 1, 3) := by decide +kernel
theorem dX5_commit_89 : decode cX5_commit 89 = .ok (.goto (-37), 3) := by decide +kernel
theorem dX5_commit_92 : decode cX5_commit 92 = .ok (.iload_n 2, 1) := by decide +kernel
theorem dX5_commit_93 : decode cX5_commit 93 = .ok (.ifCond .ne 8, 3) := by decide +kernel
theorem dX5_commit_96 : decode cX5_commit 96 = .ok (.aload_n 0, 1) := by decide +kernel
theorem dX5_commit_97 : decode cX5_commit 97 = .ok (.iload_n 1, 1) := by decide +kernel
theorem dX5_commit_98 : decode cX5_commit 98 = .ok (.invokevirtual 86, 3) := by decide +kernel
theorem dX5_commit_101 : decode cX5_commit 101 = .ok (.iload_n 2, 1) := by decide +kernel
theorem dX5_commit_102 : decode cX5_commit 102 = .ok (.ireturn, 1) := by decide +kernel
theorem dX5_send_0 : decode cX5_send 0 = .ok (.aload_n 0, 1) := by decide +kernel
theorem dX5_send_1 : decode cX5_send 1 = .ok (.getfield 72, 3) := by decide +kernel
theorem dX5_send_4 : decode cX5_send 4 = .ok (.bipush 40, 2) := by decide +kernel
theorem dX5_send_6 : decode cX5_send 6 = .ok (.if_icmp .ge 54, 3) := by decide +kernel
theorem dX5_send_9 : decode cX5_send 9 = .ok (.aload_n 0, 1) := by decide +kernel
theorem dX5_send_10 : decode cX5_send 10 = .ok (.getfield 56, 3) := by decide +kernel
theorem dX5_send_13 : decode cX5_send 13 = .ok (.aload_n 0, 1) := by decide +kernel
theorem dX5_send_14 : decode cX5_send 14 = .ok (.getfield 72, 3) := by decide +kernel
theorem dX5_send_17 : decode cX5_send 17 = .ok (.iload_n 1, 1) := by decide +kernel
theorem dX5_send_18 : decode cX5_send 18 = .ok (.iastore, 1) := by decide +kernel
theorem dX5_send_19 : decode cX5_send 19 = .ok (.aload_n 0, 1) := by decide +kernel
theorem dX5_send_20 : decode cX5_send 20 = .ok (.getfield 59, 3) := by decide +kernel
theorem dX5_send_23 : decode cX5_send 23 = .ok (.aload_n 0, 1) := by decide +kernel
theorem dX5_send_24 : decode cX5_send 24 = .ok (.getfield 72, 3) := by decide +kernel
theorem dX5_send_27 : decode cX5_send 27 = .ok (.iload_n 2, 1) := by decide +kernel
theorem dX5_send_28 : decode cX5_send 28 = .ok (.iastore, 1) := by decide +kernel
theorem dX5_send_29 : decode cX5_send 29 = .ok (.aload_n 0, 1) := by decide +kernel
theorem dX5_send_30 : decode cX5_send 30 = .ok (.getfield 62, 3) := by decide +kernel
theorem dX5_send_33 : decode cX5_send 33 = .ok (.aload_n 0, 1) := by decide +kernel
theorem dX5_send_34 : decode cX5_send 34 = .ok (.getfield 72, 3) := by decide +kernel
theorem dX5_send_37 : decode cX5_send 37 = .ok (.iload_n 3, 1) := by decide +kernel
theorem dX5_send_38 : decode cX5_send 38 = .ok (.iastore, 1) := by decide +kernel
theorem dX5_send_39 : decode cX5_send 39 = .ok (.aload_n 0, 1) := by decide +kernel
theorem dX5_send_40 : decode cX5_send 40 = .ok (.getfield 65, 3) := by decide +kernel
theorem dX5_send_43 : decode cX5_send 43 = .ok (.aload_n 0, 1) := by decide +kernel
theorem dX5_send_44 : decode cX5_send 44 = .ok (.getfield 72, 3) := by decide +kernel
theorem dX5_send_47 : decode cX5_send 47 = .ok (.iload 4, 2) := by decide +kernel
theorem dX5_send_49 : decode cX5_send 49 = .ok (.iastore, 1) := by decide +kernel
theorem dX5_send_50 : decode cX5_send 50 = .ok (.aload_n 0, 1) := by decide +kernel
theorem dX5_send_51 : decode cX5_send 51 = .ok (.dup, 1) := by decide +kernel
theorem dX5_send_52 : decode cX5_send 52 = .ok (.getfield 72, 3) := by decide +kernel
theorem dX5_send_55 : decode cX5_send 55 = .ok (.iconst 1, 1) := by decide +kernel
theorem dX5_send_56 : decode cX5_send 56 = .ok (.iadd, 1) := by decide +kernel
end
section
/-! decode rows -/
theorem dX5_send_57 : decode cX5_send 57 = .ok (.putfield 72, 3) := by decide +kernel
theorem dX5_send_60 : decode cX5_send 60 = .ok (.return_, 1) := by decide +kernel
theorem dX5_forget_0 : decode cX5_forget 0 = .ok (.aload_n 0, 1) := by decide +kernel
theorem dX5_forget_1 : decode cX5_forget 1 = .ok (.getfield 20, 3) := by decide +kernel
theorem dX5_forget_4 : decode cX5_forget 4 = .ok (.iload_n 1, 1) := by decide +kernel
theorem dX5_forget_5 : decode cX5_forget 5 = .ok (.iconst 0, 1) := by decide +kernel
theorem dX5_forget_6 : decode cX5_forget 6 = .ok (.iastore, 1) := by decide +kernel
theorem dX5_forget_7 : decode cX5_forget 7 = .ok (.iconst 0, 1) := by decide +kernel
theorem dX5_forget_8 : decode cX5_forget 8 = .ok (.istore_n 2, 1) := by decide +kernel
theorem dX5_forget_9 : decode cX5_forget 9 = .ok (.iload_n 2, 1) := by decide +kernel
theorem dX5_forget_10 : decode cX5_forget 10 = .ok (.iconst 4, 1) := by decide +kernel
theorem dX5_forget_11 : decode cX5_forget 11 = .ok (.if_icmp .ge 53, 3) := by decide +kernel
theorem dX5_forget_14 : decode cX5_forget 14 = .ok (.aload_n 0, 1) := by decide +kernel
theorem dX5_forget_15 : decode cX5_forget 15 = .ok (.getfield 23, 3) := by decide +kernel
theorem dX5_forget_18 : decode cX5_forget 18 = .ok (.iconst 4, 1) := by decide +kernel
theorem dX5_forget_19 : decode cX5_forget 19 = .ok (.iload_n 1, 1) := by decide +kernel
theorem dX5_forget_20 : decode cX5_forget 20 = .ok (.imul, 1) := by decide +kernel
theorem dX5_forget_21 : decode cX5_forget 21 = .ok (.iload_n 2, 1) := by decide +kernel
theorem dX5_forget_22 : decode cX5_forget 22 = .ok (.iadd, 1) := by decide +kernel
theorem dX5_forget_23 : decode cX5_forget 23 = .ok (.iconst 0, 1) := by decide +kernel
theorem dX5_forget_24 : decode cX5_forget 24 = .ok (.bastore, 1) := by decide +kernel
theorem dX5_forget_25 : decode cX5_forget 25 = .ok (.aload_n 0, 1) := by decide +kernel
theorem dX5_forget_26 : decode cX5_forget 26 = .ok (.getfield 26, 3) := by decide +kernel
theorem dX5_forget_29 : decode cX5_forget 29 = .ok (.iconst 4, 1) := by decide +kernel
theorem dX5_forget_30 : decode cX5_forget 30 = .ok (.iload_n 1, 1) := by decide +kernel
theorem dX5_forget_31 : decode cX5_forget 31 = .ok (.imul, 1) := by decide +kernel
theorem dX5_forget_32 : decode cX5_forget 32 = .ok (.iload_n 2, 1) := by decide +kernel
theorem dX5_forget_33 : decode cX5_forget 33 = .ok (.iadd, 1) := by decide +kernel
theorem dX5_forget_34 : decode cX5_forget 34 = .ok (.iconst 0, 1) := by decide +kernel
theorem dX5_forget_35 : decode cX5_forget 35 = .ok (.bastore, 1) := by decide +kernel
theorem dX5_forget_36 : decode cX5_forget 36 = .ok (.aload_n 0, 1) := by decide +kernel
theorem dX5_forget_37 : decode cX5_forget 37 = .ok (.getfield 29, 3) := by decide +kernel
theorem dX5_forget_40 : decode cX5_forget 40 = .ok (.iconst 4, 1) := by decide +kernel
theorem dX5_forget_41 : decode cX5_forget 41 = .ok (.iload_n 1, 1) := by decide +kernel
theorem dX5_forget_42 : decode cX5_forget 42 = .ok (.imul, 1) := by decide +kernel
theorem dX5_forget_43 : decode cX5_forget 43 = .ok (.iload_n 2, 1) := by decide +kernel
theorem dX5_forget_44 : decode cX5_forget 44 = .ok (.iadd, 1) := by decide +kernel
theorem dX5_forget_45 : decode cX5_forget 45 = .ok (.iconst 0, 1) := by decide +kernel
theorem dX5_forget_46 : decode cX5_forget 46 = .ok (.bastore, 1) := by decide +kernel
theorem dX5_forget_47 : decode cX5_forget 47 = .ok (.aload_n 0, 1) := by decide +kernel
theorem dX5_forget_48 : decode cX5_forget 48 = .ok (.getfield 32, 3) := by decide +kernel
theorem dX5_forget_51 : decode cX5_forget 51 = .ok (.iconst 4, 1) := by decide +kernel
theorem dX5_forget_52 : decode cX5_forget 52 = .ok (.iload_n 1, 1) := by decide +kernel
theorem dX5_forget_53 : decode cX5_forget 53 = .ok (.imul, 1) := by decide +kernel
theorem dX5_forget_54 : decode cX5_forget 54 = .ok (.iload_n 2, 1) := by decide +kernel
theorem dX5_forget_55 : decode cX5_forget 55 = .ok (.iadd, 1) := by decide +kernel
theorem dX5_forget_56 : decode cX5_forget 56 = .ok (.iconst 0, 1) := by decide +kernel
theorem dX5_forget_57 : decode cX5_forget 57 = .ok (.bastore, 1) := by decide +kernel
theorem dX5_forget_58 : decode cX5_forget 58 = .ok (.iinc 2 1, 3) := by decide +kernel
theorem dX5_forget_61 : decode cX5_forget 61 = .ok (.goto (-52), 3) := by decide +kernel
theorem dX5_forget_64 : decode cX5_forget 64 = .ok (.return_, 1) := by decide +kernel
theorem dX5_withdraw_0 : decode cX5_withdraw 0 = .ok (.aload_n 0, 1) := by decide +kernel
theorem dX5_withdraw_1 : decode cX5_withdraw 1 = .ok (.iload_n 1, 1) := by decide +kernel
theorem dX5_withdraw_2 : decode cX5_withdraw 2 = .ok (.invokevirtual 126, 3) := by decide +kernel
theorem dX5_withdraw_5 : decode cX5_withdraw 5 = .ok (.ifCond .eq 6, 3) := by decide +kernel
theorem dX5_withdraw_8 : decode cX5_withdraw 8 = .ok (.bipush (-2), 2) := by decide +kernel
theorem dX5_withdraw_10 : decode cX5_withdraw 10 = .ok (.ireturn, 1) := by decide +kernel
theorem dX5_withdraw_11 : decode cX5_withdraw 11 = .ok (.aload_n 0, 1) := by decide +kernel
theorem dX5_withdraw_12 : decode cX5_withdraw 12 = .ok (.getfield 7, 3) := by decide +kernel
theorem dX5_withdraw_15 : decode cX5_withdraw 15 = .ok (.aload_n 0, 1) := by decide +kernel
theorem dX5_withdraw_16 : decode cX5_withdraw 16 = .ok (.getfield 17, 3) := by decide +kernel
theorem dX5_withdraw_19 : decode cX5_withdraw 19 = .ok (.iload_n 1, 1) := by decide +kernel
theorem dX5_withdraw_20 : decode cX5_withdraw 20 = .ok (.iaload, 1) := by decide +kernel
theorem dX5_withdraw_21 : decode cX5_withdraw 21 = .ok (.baload, 1) := by decide +kernel
theorem dX5_withdraw_22 : decode cX5_withdraw 22 = .ok (.ifCond .eq 6, 3) := by decide +kernel
theorem dX5_withdraw_25 : decode cX5_withdraw 25 = .ok (.bipush (-3), 2) := by decide +kernel
theorem dX5_withdraw_27 : decode cX5_withdraw 27 = .ok (.ireturn, 1) := by decide +kernel
theorem dX5_withdraw_28 : decode cX5_withdraw 28 = .ok (.aload_n 0, 1) := by decide +kernel
theorem dX5_withdraw_29 : decode cX5_withdraw 29 = .ok (.getfield 20, 3) := by decide +kernel
theorem dX5_withdraw_32 : decode cX5_withdraw 32 = .ok (.iload_n 1, 1) := by decide +kernel
theorem dX5_withdraw_33 : decode cX5_withdraw 33 = .ok (.iaload, 1) := by decide +kernel
theorem dX5_withdraw_34 : decode cX5_withdraw 34 = .ok (.iconst 1, 1) := by decide +kernel
theorem dX5_withdraw_35 : decode cX5_withdraw 35 = .ok (.if_icmp .eq 13, 3) := by decide +kernel
theorem dX5_withdraw_38 : decode cX5_withdraw 38 = .ok (.aload_n 0, 1) := by decide +kernel
theorem dX5_withdraw_39 : decode cX5_withdraw 39 = .ok (.getfield 20, 3) := by decide +kernel
theorem dX5_withdraw_42 : decode cX5_withdraw 42 = .ok (.iload_n 1, 1) := by decide +kernel
theorem dX5_withdraw_43 : decode cX5_withdraw 43 = .ok (.iaload, 1) := by decide +kernel
theorem dX5_withdraw_44 : decode cX5_withdraw 44 = .ok (.iconst 2, 1) := by decide +kernel
theorem dX5_withdraw_45 : decode cX5_withdraw 45 = .ok (.if_icmp .ne 12, 3) := by decide +kernel
theorem dX5_withdraw_48 : decode cX5_withdraw 48 = .ok (.aload_n 0, 1) := by decide +kernel
theorem dX5_withdraw_49 : decode cX5_withdraw 49 = .ok (.iload_n 1, 1) := by decide +kernel
theorem dX5_withdraw_50 : decode cX5_withdraw 50 = .ok (.iconst (-1), 1) := by decide +kernel
theorem dX5_withdraw_51 : decode cX5_withdraw 51 = .ok (.invokevirtual 106, 3) := by decide +kernel
theorem dX5_withdraw_54 : decode cX5_withdraw 54 = .ok (.goto 5, 3) := by decide +kernel
theorem dX5_withdraw_57 : decode cX5_withdraw 57 = .ok (.bipush (-4), 2) := by decide +kernel
theorem dX5_withdraw_59 : decode cX5_withdraw 59 = .ok (.ireturn, 1) := by decide +kernel
theorem dX5_pullBack_0 : decode cX5_pullBack 0 = .ok (.iconst 0, 1) := by decide +kernel
theorem dX5_pullBack_1 : decode cX5_pullBack 1 = .ok (.istore_n 3, 1) := by decide +kernel
theorem dX5_pullBack_2 : decode cX5_pullBack 2 = .ok (.aload_n 0, 1) := by decide +kernel
theorem dX5_pullBack_3 : decode cX5_pullBack 3 = .ok (.aload_n 0, 1) := by decide +kernel
theorem dX5_pullBack_4 : decode cX5_pullBack 4 = .ok (.getfield 17, 3) := by decide +kernel
theorem dX5_pullBack_7 : decode cX5_pullBack 7 = .ok (.iload_n 1, 1) := by decide +kernel
theorem dX5_pullBack_8 : decode cX5_pullBack 8 = .ok (.iaload, 1) := by decide +kernel
theorem dX5_pullBack_9 : decode cX5_pullBack 9 = .ok (.iload_n 1, 1) := by decide +kernel
theorem dX5_pullBack_10 : decode cX5_pullBack 10 = .ok (.iconst 5, 1) := by decide +kernel
theorem dX5_pullBack_11 : decode cX5_pullBack 11 = .ok (.iconst 0, 1) := by decide +kernel
theorem dX5_pullBack_12 : decode cX5_pullBack 12 = .ok (.invokevirtual 75, 3) := by decide +kernel
theorem dX5_pullBack_15 : decode cX5_pullBack 15 = .ok (.iconst 0, 1) := by decide +kernel
theorem dX5_pullBack_16 : decode cX5_pullBack 16 = .ok (.istore 4, 2) := by decide +kernel
theorem dX5_pullBack_18 : decode cX5_pullBack 18 = .ok (.iload 4, 2) := by decide +kernel
theorem dX5_pullBack_20 : decode cX5_pullBack 20 = .ok (.iconst 4, 1) := by decide +kernel
theorem dX5_pullBack_21 : decode cX5_pullBack 21 = .ok (.if_icmp .ge 61, 3) := by decide +kernel
theorem dX5_pullBack_24 : decode cX5_pullBack 24 = .ok (.aload_n 0, 1) := by decide +kernel
theorem dX5_pullBack_25 : decode cX5_pullBack 25 = .ok (.getfield 23, 3) := by decide +kernel
theorem dX5_pullBack_28 : decode cX5_pullBack 28 = .ok (.iconst 4, 1) := by decide +kernel
theorem dX5_pullBack_29 : decode cX5_pullBack 29 = .ok (.iload_n 1, 1) := by decide +kernel
theorem dX5_pullBack_30 : decode cX5_pullBack 30 = .ok (.imul, 1) := by decide +kernel
theorem dX5_pullBack_31 : decode cX5_pullBack 31 = .ok (.iload 4, 2) := by decide +kernel
theorem dX5_pullBack_33 : decode cX5_pullBack 33 = .ok (.iadd, 1) := by decide +kernel
theorem dX5_pullBack_34 : decode cX5_pullBack 34 = .ok (.baload, 1) := by decide +kernel
theorem dX5_pullBack_35 : decode cX5_pullBack 35 = .ok (.ifCond .eq 41, 3) := by decide +kernel
theorem dX5_pullBack_38 : decode cX5_pullBack 38 = .ok (.aload_n 0, 1) := by decide +kernel
theorem dX5_pullBack_39 : decode cX5_pullBack 39 = .ok (.getfield 29, 3) := by decide +kernel
theorem dX5_pullBack_42 : decode cX5_pullBack 42 = .ok (.iconst 4, 1) := by decide +kernel
theorem dX5_pullBack_43 : decode cX5_pullBack 43 = .ok (.iload_n 1, 1) := by decide +kernel
theorem dX5_pullBack_44 : decode cX5_pullBack 44 = .ok (.imul, 1) := by decide +kernel
theorem dX5_pullBack_45 : decode cX5_pullBack 45 = .ok (.iload 4, 2) := by decide +kernel
theorem dX5_pullBack_47 : decode cX5_pullBack 47 = .ok (.iadd, 1) := by decide +kernel
theorem dX5_pullBack_48 : decode cX5_pullBack 48 = .ok (.baload, 1) := by decide +kernel
theorem dX5_pullBack_49 : decode cX5_pullBack 49 = .ok (.ifCond .ne 27, 3) := by decide +kernel
theorem dX5_pullBack_52 : decode cX5_pullBack 52 = .ok (.iload 4, 2) := by decide +kernel
theorem dX5_pullBack_54 : decode cX5_pullBack 54 = .ok (.iload_n 2, 1) := by decide +kernel
theorem dX5_pullBack_55 : decode cX5_pullBack 55 = .ok (.if_icmp .eq 21, 3) := by decide +kernel
theorem dX5_pullBack_58 : decode cX5_pullBack 58 = .ok (.aload_n 0, 1) := by decide +kernel
theorem dX5_pullBack_59 : decode cX5_pullBack 59 = .ok (.bipush 6, 2) := by decide +kernel
theorem dX5_pullBack_61 : decode cX5_pullBack 61 = .ok (.aload_n 0, 1) := by decide +kernel
theorem dX5_pullBack_62 : decode cX5_pullBack 62 = .ok (.getfield 17, 3) := by decide +kernel
theorem dX5_pullBack_65 : decode cX5_pullBack 65 = .ok (.iload_n 1, 1) := by decide +kernel
theorem dX5_pullBack_66 : decode cX5_pullBack 66 = .ok (.iaload, 1) := by decide +kernel
theorem dX5_pullBack_67 : decode cX5_pullBack 67 = .ok (.iload 4, 2) := by decide +kernel
theorem dX5_pullBack_69 : decode cX5_pullBack 69 = .ok (.iload_n 1, 1) := by decide +kernel
theorem dX5_pullBack_70 : decode cX5_pullBack 70 = .ok (.invokevirtual 83, 3) := by decide +kernel
theorem dX5_pullBack_73 : decode cX5_pullBack 73 = .ok (.iinc 3 1, 3) := by decide +kernel
theorem dX5_pullBack_76 : decode cX5_pullBack 76 = .ok (.iinc 4 1, 3) := by decide +kernel
theorem dX5_pullBack_79 : decode cX5_pullBack 79 = .ok (.goto (-61), 3) := by decide +kernel
theorem dX5_pullBack_82 : decode cX5_pullBack 82 = .ok (.aload_n 0, 1) := by decide +kernel
theorem dX5_pullBack_83 : decode cX5_pullBack 83 = .ok (.iload_n 1, 1) := by decide +kernel
theorem dX5_pullBack_84 : decode cX5_pullBack 84 = .ok (.invokevirtual 86, 3) := by decide +kernel
theorem dX5_pullBack_87 : decode cX5_pullBack 87 = .ok (.iload_n 3, 1) := by decide +kernel
theorem dX5_pullBack_88 : decode cX5_pullBack 88 = .ok (.ireturn, 1) := by decide +kernel
theorem dX5_write_0 : decode cX5_write 0 = .ok (.bipush 64, 2) := by decide +kernel
theorem dX5_write_2 : decode cX5_write 2 = .ok (.iload_n 1, 1) := by decide +kernel
theorem dX5_write_3 : decode cX5_write 3 = .ok (.imul, 1) := by decide +kernel
theorem dX5_write_4 : decode cX5_write 4 = .ok (.aload_n 0, 1) := by decide +kernel
theorem dX5_write_5 : decode cX5_write 5 = .ok (.getfield 41, 3) := by decide +kernel
theorem dX5_write_8 : decode cX5_write 8 = .ok (.iload_n 1, 1) := by decide +kernel
theorem dX5_write_9 : decode cX5_write 9 = .ok (.iaload, 1) := by decide +kernel
theorem dX5_write_10 : decode cX5_write 10 = .ok (.iadd, 1) := by decide +kernel
theorem dX5_write_11 : decode cX5_write 11 = .ok (.istore 5, 2) := by decide +kernel
theorem dX5_write_13 : decode cX5_write 13 = .ok (.aload_n 0, 1) := by decide +kernel
theorem dX5_write_14 : decode cX5_write 14 = .ok (.getfield 44, 3) := by decide +kernel
theorem dX5_write_17 : decode cX5_write 17 = .ok (.iload 5, 2) := by decide +kernel
theorem dX5_write_19 : decode cX5_write 19 = .ok (.iload_n 2, 1) := by decide +kernel
theorem dX5_write_20 : decode cX5_write 20 = .ok (.iastore, 1) := by decide +kernel
theorem dX5_write_21 : decode cX5_write 21 = .ok (.aload_n 0, 1) := by decide +kernel
theorem dX5_write_22 : decode cX5_write 22 = .ok (.getfield 47, 3) := by decide +kernel
theorem dX5_write_25 : decode cX5_write 25 = .ok (.iload 5, 2) := by decide +kernel
theorem dX5_write_27 : decode cX5_write 27 = .ok (.iload_n 3, 1) := by decide +kernel
theorem dX5_write_28 : decode cX5_write 28 = .ok (.iastore, 1) := by decide +kernel
theorem dX5_write_29 : decode cX5_write 29 = .ok (.aload_n 0, 1) := by decide +kernel
theorem dX5_write_30 : decode cX5_write 30 = .ok (.getfield 50, 3) := by decide +kernel
theorem dX5_write_33 : decode cX5_write 33 = .ok (.iload 5, 2) := by decide +kernel
theorem dX5_write_35 : decode cX5_write 35 = .ok (.iload 4, 2) := by decide +kernel
theorem dX5_write_37 : decode cX5_write 37 = .ok (.iastore, 1) := by decide +kernel
theorem dX5_write_38 : decode cX5_write 38 = .ok (.aload_n 0, 1) := by decide +kernel
theorem dX5_write_39 : decode cX5_write 39 = .ok (.getfield 53, 3) := by decide +kernel
theorem dX5_write_42 : decode cX5_write 42 = .ok (.iload 5, 2) := by decide +kernel
theorem dX5_write_44 : decode cX5_write 44 = .ok (.iconst 0, 1) := by decide +kernel
theorem dX5_write_45 : decode cX5_write 45 = .ok (.bastore, 1) := by decide +kernel
theorem dX5_write_46 : decode cX5_write 46 = .ok (.aload_n 0, 1) := by decide +kernel
theorem dX5_write_47 : decode cX5_write 47 = .ok (.getfield 41, 3) := by decide +kernel
theorem dX5_write_50 : decode cX5_write 50 = .ok (.iload_n 1, 1) := by decide +kernel
theorem dX5_write_51 : decode cX5_write 51 = .ok (.dup2, 1) := by decide +kernel
theorem dX5_write_52 : decode cX5_write 52 = .ok (.iaload, 1) := by decide +kernel
theorem dX5_write_53 : decode cX5_write 53 = .ok (.iconst 1, 1) := by decide +kernel
theorem dX5_write_54 : decode cX5_write 54 = .ok (.iadd, 1) := by decide +kernel
theorem dX5_write_55 : decode cX5_write 55 = .ok (.iastore, 1) := by decide +kernel
theorem dX5_write_56 : decode cX5_write 56 = .ok (.return_, 1) := by decide +kernel
theorem dX5_deliver_0 : decode cX5_deliver 0 = .ok (.iload_n 1, 1) := by decide +kernel
theorem dX5_deliver_1 : decode cX5_deliver 1 = .ok (.ifCond .lt 11, 3) := by decide +kernel
theorem dX5_deliver_4 : decode cX5_deliver 4 = .ok (.iload_n 1, 1) := by decide +kernel
theorem dX5_deliver_5 : decode cX5_deliver 5 = .ok (.aload_n 0, 1) := by decide +kernel
theorem dX5_deliver_6 : decode cX5_deliver 6 = .ok (.getfield 72, 3) := by decide +kernel
theorem dX5_deliver_9 : decode cX5_deliver 9 = .ok (.if_icmp .lt 6, 3) := by decide +kernel
theorem dX5_deliver_12 : decode cX5_deliver 12 = .ok (.bipush (-2), 2) := by decide +kernel
theorem dX5_deliver_14 : decode cX5_deliver 14 = .ok (.ireturn, 1) := by decide +kernel
theorem dX5_deliver_15 : decode cX5_deliver 15 = .ok (.aload_n 0, 1) := by decide +kernel
theorem dX5_deliver_16 : decode cX5_deliver 16 = .ok (.getfield 56, 3) := by decide +kernel
theorem dX5_deliver_19 : decode cX5_deliver 19 = .ok (.iload_n 1, 1) := by decide +kernel
theorem dX5_deliver_20 : decode cX5_deliver 20 = .ok (.iaload, 1) := by decide +kernel
theorem dX5_deliver_21 : decode cX5_deliver 21 = .ok (.istore_n 2, 1) := by decide +kernel
theorem dX5_deliver_22 : decode cX5_deliver 22 = .ok (.aload_n 0, 1) := by decide +kernel
theorem dX5_deliver_23 : decode cX5_deliver 23 = .ok (.getfield 59, 3) := by decide +kernel
theorem dX5_deliver_26 : decode cX5_deliver 26 = .ok (.iload_n 1, 1) := by decide +kernel
theorem dX5_deliver_27 : decode cX5_deliver 27 = .ok (.iaload, 1) := by decide +kernel
theorem dX5_deliver_28 : decode cX5_deliver 28 = .ok (.istore_n 3, 1) := by decide +kernel
theorem dX5_deliver_29 : decode cX5_deliver 29 = .ok (.aload_n 0, 1) := by decide +kernel
theorem dX5_deliver_30 : decode cX5_deliver 30 = .ok (.getfield 62, 3) := by decide +kernel
theorem dX5_deliver_33 : decode cX5_deliver 33 = .ok (.iload_n 1, 1) := by decide +kernel
theorem dX5_deliver_34 : decode cX5_deliver 34 = .ok (.iaload, 1) := by decide +kernel
theorem dX5_deliver_35 : decode cX5_deliver 35 = .ok (.istore 4, 2) := by decide +kernel
theorem dX5_deliver_37 : decode cX5_deliver 37 = .ok (.aload_n 0, 1) := by decide +kernel
theorem dX5_deliver_38 : decode cX5_deliver 38 = .ok (.getfield 65, 3) := by decide +kernel
theorem dX5_deliver_41 : decode cX5_deliver 41 = .ok (.iload_n 1, 1) := by decide +kernel
theorem dX5_deliver_42 : decode cX5_deliver 42 = .ok (.iaload, 1) := by decide +kernel
theorem dX5_deliver_43 : decode cX5_deliver 43 = .ok (.istore 5, 2) := by decide +kernel
theorem dX5_deliver_45 : decode cX5_deliver 45 = .ok (.aload_n 0, 1) := by decide +kernel
theorem dX5_deliver_46 : decode cX5_deliver 46 = .ok (.iload_n 1, 1) := by decide +kernel
theorem dX5_deliver_47 : decode cX5_deliver 47 = .ok (.invokevirtual 129, 3) := by decide +kernel
theorem dX5_deliver_50 : decode cX5_deliver 50 = .ok (.aload_n 0, 1) := by decide +kernel
theorem dX5_deliver_51 : decode cX5_deliver 51 = .ok (.getfield 7, 3) := by decide +kernel
theorem dX5_deliver_54 : decode cX5_deliver 54 = .ok (.iload 4, 2) := by decide +kernel
theorem dX5_deliver_56 : decode cX5_deliver 56 = .ok (.baload, 1) := by decide +kernel
theorem dX5_deliver_57 : decode cX5_deliver 57 = .ok (.ifCond .ne 13, 3) := by decide +kernel
theorem dX5_deliver_60 : decode cX5_deliver 60 = .ok (.aload_n 0, 1) := by decide +kernel
theorem dX5_deliver_61 : decode cX5_deliver 61 = .ok (.iload_n 2, 1) := by decide +kernel
theorem dX5_deliver_62 : decode cX5_deliver 62 = .ok (.iload_n 3, 1) := by decide +kernel
theorem dX5_deliver_63 : decode cX5_deliver 63 = .ok (.iload 4, 2) := by decide +kernel
theorem dX5_deliver_65 : decode cX5_deliver 65 = .ok (.iload 5, 2) := by decide +kernel
theorem dX5_deliver_67 : decode cX5_deliver 67 = .ok (.invokevirtual 132, 3) := by decide +kernel
theorem dX5_deliver_70 : decode cX5_deliver 70 = .ok (.iload_n 2, 1) := by decide +kernel
theorem dX5_deliver_71 : decode cX5_deliver 71 = .ok (.ireturn, 1) := by decide +kernel
theorem dX5_take_0 : decode cX5_take 0 = .ok (.aload_n 0, 1) := by decide +kernel
theorem dX5_take_1 : decode cX5_take 1 = .ok (.dup, 1) := by decide +kernel
theorem dX5_take_2 : decode cX5_take 2 = .ok (.getfield 72, 3) := by decide +kernel
theorem dX5_take_5 : decode cX5_take 5 = .ok (.iconst 1, 1) := by decide +kernel
theorem dX5_take_6 : decode cX5_take 6 = .ok (.isub, 1) := by decide +kernel
theorem dX5_take_7 : decode cX5_take 7 = .ok (.putfield 72, 3) := by decide +kernel
theorem dX5_take_10 : decode cX5_take 10 = .ok (.iload_n 1, 1) := by decide +kernel
theorem dX5_take_11 : decode cX5_take 11 = .ok (.istore_n 2, 1) := by decide +kernel
theorem dX5_take_12 : decode cX5_take 12 = .ok (.iload_n 2, 1) := by decide +kernel
theorem dX5_take_13 : decode cX5_take 13 = .ok (.aload_n 0, 1) := by decide +kernel
theorem dX5_take_14 : decode cX5_take 14 = .ok (.getfield 72, 3) := by decide +kernel
theorem dX5_take_17 : decode cX5_take 17 = .ok (.if_icmp .ge 65, 3) := by decide +kernel
theorem dX5_take_20 : decode cX5_take 20 = .ok (.aload_n 0, 1) := by decide +kernel
theorem dX5_take_21 : decode cX5_take 21 = .ok (.getfield 56, 3) := by decide +kernel
theorem dX5_take_24 : decode cX5_take 24 = .ok (.iload_n 2, 1) := by decide +kernel
theorem dX5_take_25 : decode cX5_take 25 = .ok (.aload_n 0, 1) := by decide +kernel
theorem dX5_take_26 : decode cX5_take 26 = .ok (.getfield 56, 3) := by decide +kernel
theorem dX5_take_29 : decode cX5_take 29 = .ok (.iload_n 2, 1) := by decide +kernel
theorem dX5_take_30 : decode cX5_take 30 = .ok (.iconst 1, 1) := by decide +kernel
theorem dX5_take_31 : decode cX5_take 31 = .ok (.iadd, 1) := by decide +kernel
theorem dX5_take_32 : decode cX5_take 32 = .ok (.iaload, 1) := by decide +kernel
theorem dX5_take_33 : decode cX5_take 33 = .ok (.iastore, 1) := by decide +kernel
theorem dX5_take_34 : decode cX5_take 34 = .ok (.aload_n 0, 1) := by decide +kernel
theorem dX5_take_35 : decode cX5_take 35 = .ok (.getfield 59, 3) := by decide +kernel
theorem dX5_take_38 : decode cX5_take 38 = .ok (.iload_n 2, 1) := by decide +kernel
theorem dX5_take_39 : decode cX5_take 39 = .ok (.aload_n 0, 1) := by decide +kernel
theorem dX5_take_40 : decode cX5_take 40 = .ok (.getfield 59, 3) := by decide +kernel
theorem dX5_take_43 : decode cX5_take 43 = .ok (.iload_n 2, 1) := by decide +kernel
theorem dX5_take_44 : decode cX5_take 44 = .ok (.iconst 1, 1) := by decide +kernel
theorem dX5_take_45 : decode cX5_take 45 = .ok (.iadd, 1) := by decide +kernel
theorem dX5_take_46 : decode cX5_take 46 = .ok (.iaload, 1) := by decide +kernel
theorem dX5_take_47 : decode cX5_take 47 = .ok (.iastore, 1) := by decide +kernel
theorem dX5_take_48 : decode cX5_take 48 = .ok (.aload_n 0, 1) := by decide +kernel
theorem dX5_take_49 : decode cX5_take 49 = .ok (.getfield 62, 3) := by decide +kernel
theorem dX5_take_52 : decode cX5_take 52 = .ok (.iload_n 2, 1) := by decide +kernel
theorem dX5_take_53 : decode cX5_take 53 = .ok (.aload_n 0, 1) := by decide +kernel
theorem dX5_take_54 : decode cX5_take 54 = .ok (.getfield 62, 3) := by decide +kernel
theorem dX5_take_57 : decode cX5_take 57 = .ok (.iload_n 2, 1) := by decide +kernel
theorem dX5_take_58 : decode cX5_take 58 = .ok (.iconst 1, 1) := by decide +kernel
theorem dX5_take_59 : decode cX5_take 59 = .ok (.iadd, 1) := by decide +kernel
theorem dX5_take_60 : decode cX5_take 60 = .ok (.iaload, 1) := by decide +kernel
theorem dX5_take_61 : decode cX5_take 61 = .ok (.iastore, 1) := by decide +kernel
theorem dX5_take_62 : decode cX5_take 62 = .ok (.aload_n 0, 1) := by decide +kernel
theorem dX5_take_63 : decode cX5_take 63 = .ok (.getfield 65, 3) := by decide +kernel
theorem dX5_take_66 : decode cX5_take 66 = .ok (.iload_n 2, 1) := by decide +kernel
theorem dX5_take_67 : decode cX5_take 67 = .ok (.aload_n 0, 1) := by decide +kernel
theorem dX5_take_68 : decode cX5_take 68 = .ok (.getfield 65, 3) := by decide +kernel
theorem dX5_take_71 : decode cX5_take 71 = .ok (.iload_n 2, 1) := by decide +kernel
theorem dX5_take_72 : decode cX5_take 72 = .ok (.iconst 1, 1) := by decide +kernel
theorem dX5_take_73 : decode cX5_take 73 = .ok (.iadd, 1) := by decide +kernel
theorem dX5_take_74 : decode cX5_take 74 = .ok (.iaload, 1) := by decide +kernel
theorem dX5_take_75 : decode cX5_take 75 = .ok (.iastore, 1) := by decide +kernel
theorem dX5_take_76 : decode cX5_take 76 = .ok (.iinc 2 1, 3) := by decide +kernel
theorem dX5_take_79 : decode cX5_take 79 = .ok (.goto (-67), 3) := by decide +kernel
theorem dX5_take_82 : decode cX5_take 82 = .ok (.return_, 1) := by decide +kernel
theorem dX5_hear_0 : decode cX5_hear 0 = .ok (.iload_n 1, 1) := by decide +kernel
theorem dX5_hear_1 : decode cX5_hear 1 = .ok (.tableswitch 143 1 7 #[43, 54, 54, 54, 65, 109, 133], 43) := by decide +kernel
theorem dX5_hear_44 : decode cX5_hear 44 = .ok (.aload_n 0, 1) := by decide +kernel
theorem dX5_hear_45 : decode cX5_hear 45 = .ok (.iload_n 3, 1) := by decide +kernel
theorem dX5_hear_46 : decode cX5_hear 46 = .ok (.iload_n 2, 1) := by decide +kernel
theorem dX5_hear_47 : decode cX5_hear 47 = .ok (.iload 4, 2) := by decide +kernel
theorem dX5_hear_49 : decode cX5_hear 49 = .ok (.invokevirtual 112, 3) := by decide +kernel
theorem dX5_hear_52 : decode cX5_hear 52 = .ok (.goto 138, 3) := by decide +kernel
theorem dX5_hear_55 : decode cX5_hear 55 = .ok (.aload_n 0, 1) := by decide +kernel
theorem dX5_hear_56 : decode cX5_hear 56 = .ok (.iload_n 1, 1) := by decide +kernel
theorem dX5_hear_57 : decode cX5_hear 57 = .ok (.iload_n 2, 1) := by decide +kernel
theorem dX5_hear_58 : decode cX5_hear 58 = .ok (.iload 4, 2) := by decide +kernel
theorem dX5_hear_60 : decode cX5_hear 60 = .ok (.invokevirtual 116, 3) := by decide +kernel
theorem dX5_hear_63 : decode cX5_hear 63 = .ok (.goto 127, 3) := by decide +kernel
theorem dX5_hear_66 : decode cX5_hear 66 = .ok (.aload_n 0, 1) := by decide +kernel
theorem dX5_hear_67 : decode cX5_hear 67 = .ok (.getfield 35, 3) := by decide +kernel
theorem dX5_hear_70 : decode cX5_hear 70 = .ok (.iconst 4, 1) := by decide +kernel
theorem dX5_hear_71 : decode cX5_hear 71 = .ok (.iload 4, 2) := by decide +kernel
theorem dX5_hear_73 : decode cX5_hear 73 = .ok (.imul, 1) := by decide +kernel
theorem dX5_hear_74 : decode cX5_hear 74 = .ok (.iload_n 3, 1) := by decide +kernel
theorem dX5_hear_75 : decode cX5_hear 75 = .ok (.iadd, 1) := by decide +kernel
theorem dX5_hear_76 : decode cX5_hear 76 = .ok (.iaload, 1) := by decide +kernel
theorem dX5_hear_77 : decode cX5_hear 77 = .ok (.iconst 3, 1) := by decide +kernel
theorem dX5_hear_78 : decode cX5_hear 78 = .ok (.if_icmp .ne 19, 3) := by decide +kernel
theorem dX5_hear_81 : decode cX5_hear 81 = .ok (.aload_n 0, 1) := by decide +kernel
theorem dX5_hear_82 : decode cX5_hear 82 = .ok (.iload_n 3, 1) := by decide +kernel
theorem dX5_hear_83 : decode cX5_hear 83 = .ok (.iload 4, 2) := by decide +kernel
theorem dX5_hear_85 : decode cX5_hear 85 = .ok (.iconst 2, 1) := by decide +kernel
theorem dX5_hear_86 : decode cX5_hear 86 = .ok (.iconst 0, 1) := by decide +kernel
theorem dX5_hear_87 : decode cX5_hear 87 = .ok (.invokevirtual 94, 3) := by decide +kernel
theorem dX5_hear_90 : decode cX5_hear 90 = .ok (.aload_n 0, 1) := by decide +kernel
theorem dX5_hear_91 : decode cX5_hear 91 = .ok (.iload_n 3, 1) := by decide +kernel
theorem dX5_hear_92 : decode cX5_hear 92 = .ok (.iload 4, 2) := by decide +kernel
theorem dX5_hear_94 : decode cX5_hear 94 = .ok (.invokevirtual 79, 3) := by decide +kernel
theorem dX5_hear_97 : decode cX5_hear 97 = .ok (.aload_n 0, 1) := by decide +kernel
theorem dX5_hear_98 : decode cX5_hear 98 = .ok (.bipush 7, 2) := by decide +kernel
theorem dX5_hear_100 : decode cX5_hear 100 = .ok (.iload_n 3, 1) := by decide +kernel
theorem dX5_hear_101 : decode cX5_hear 101 = .ok (.iload_n 2, 1) := by decide +kernel
theorem dX5_hear_102 : decode cX5_hear 102 = .ok (.iload 4, 2) := by decide +kernel
theorem dX5_hear_104 : decode cX5_hear 104 = .ok (.invokevirtual 83, 3) := by decide +kernel
theorem dX5_hear_107 : decode cX5_hear 107 = .ok (.goto 83, 3) := by decide +kernel
theorem dX5_hear_110 : decode cX5_hear 110 = .ok (.aload_n 0, 1) := by decide +kernel
theorem dX5_hear_111 : decode cX5_hear 111 = .ok (.getfield 35, 3) := by decide +kernel
theorem dX5_hear_114 : decode cX5_hear 114 = .ok (.iconst 4, 1) := by decide +kernel
theorem dX5_hear_115 : decode cX5_hear 115 = .ok (.iload 4, 2) := by decide +kernel
theorem dX5_hear_117 : decode cX5_hear 117 = .ok (.imul, 1) := by decide +kernel
theorem dX5_hear_118 : decode cX5_hear 118 = .ok (.iload_n 3, 1) := by decide +kernel
theorem dX5_hear_119 : decode cX5_hear 119 = .ok (.iadd, 1) := by decide +kernel
theorem dX5_hear_120 : decode cX5_hear 120 = .ok (.iaload, 1) := by decide +kernel
theorem dX5_hear_121 : decode cX5_hear 121 = .ok (.ifCond .eq 69, 3) := by decide +kernel
theorem dX5_hear_124 : decode cX5_hear 124 = .ok (.aload_n 0, 1) := by decide +kernel
theorem dX5_hear_125 : decode cX5_hear 125 = .ok (.iload_n 3, 1) := by decide +kernel
theorem dX5_hear_126 : decode cX5_hear 126 = .ok (.iload 4, 2) := by decide +kernel
theorem dX5_hear_128 : decode cX5_hear 128 = .ok (.invokevirtual 100, 3) := by decide +kernel
theorem dX5_hear_131 : decode cX5_hear 131 = .ok (.goto 59, 3) := by decide +kernel
theorem dX5_hear_134 : decode cX5_hear 134 = .ok (.aload_n 0, 1) := by decide +kernel
theorem dX5_hear_135 : decode cX5_hear 135 = .ok (.iload_n 2, 1) := by decide +kernel
theorem dX5_hear_136 : decode cX5_hear 136 = .ok (.iload 4, 2) := by decide +kernel
theorem dX5_hear_138 : decode cX5_hear 138 = .ok (.invokevirtual 119, 3) := by decide +kernel
theorem dX5_hear_141 : decode cX5_hear 141 = .ok (.goto 49, 3) := by decide +kernel
theorem dX5_hear_144 : decode cX5_hear 144 = .ok (.aload_n 0, 1) := by decide +kernel
theorem dX5_hear_145 : decode cX5_hear 145 = .ok (.getfield 20, 3) := by decide +kernel
theorem dX5_hear_148 : decode cX5_hear 148 = .ok (.iload 4, 2) := by decide +kernel
theorem dX5_hear_150 : decode cX5_hear 150 = .ok (.iaload, 1) := by decide +kernel
theorem dX5_hear_151 : decode cX5_hear 151 = .ok (.iconst 3, 1) := by decide +kernel
theorem dX5_hear_152 : decode cX5_hear 152 = .ok (.if_icmp .eq 13, 3) := by decide +kernel
theorem dX5_hear_155 : decode cX5_hear 155 = .ok (.aload_n 0, 1) := by decide +kernel
theorem dX5_hear_156 : decode cX5_hear 156 = .ok (.getfield 20, 3) := by decide +kernel
theorem dX5_hear_159 : decode cX5_hear 159 = .ok (.iload 4, 2) := by decide +kernel
theorem dX5_hear_161 : decode cX5_hear 161 = .ok (.iaload, 1) := by decide +kernel
theorem dX5_hear_162 : decode cX5_hear 162 = .ok (.ifCond .ne 28, 3) := by decide +kernel
theorem dX5_hear_165 : decode cX5_hear 165 = .ok (.aload_n 0, 1) := by decide +kernel
theorem dX5_hear_166 : decode cX5_hear 166 = .ok (.aload_n 0, 1) := by decide +kernel
theorem dX5_hear_167 : decode cX5_hear 167 = .ok (.getfield 20, 3) := by decide +kernel
theorem dX5_hear_170 : decode cX5_hear 170 = .ok (.iload 4, 2) := by decide +kernel
theorem dX5_hear_172 : decode cX5_hear 172 = .ok (.iaload, 1) := by decide +kernel
theorem dX5_hear_173 : decode cX5_hear 173 = .ok (.iconst 3, 1) := by decide +kernel
theorem dX5_hear_174 : decode cX5_hear 174 = .ok (.if_icmp .ne 7, 3) := by decide +kernel
theorem dX5_hear_177 : decode cX5_hear 177 = .ok (.iconst 5, 1) := by decide +kernel
theorem dX5_hear_178 : decode cX5_hear 178 = .ok (.goto 5, 3) := by decide +kernel
theorem dX5_hear_181 : decode cX5_hear 181 = .ok (.bipush 6, 2) := by decide +kernel
theorem dX5_hear_183 : decode cX5_hear 183 = .ok (.iload_n 3, 1) := by decide +kernel
theorem dX5_hear_184 : decode cX5_hear 184 = .ok (.iload_n 2, 1) := by decide +kernel
theorem dX5_hear_185 : decode cX5_hear 185 = .ok (.iload 4, 2) := by decide +kernel
theorem dX5_hear_187 : decode cX5_hear 187 = .ok (.invokevirtual 83, 3) := by decide +kernel
theorem dX5_hear_190 : decode cX5_hear 190 = .ok (.return_, 1) := by decide +kernel
theorem dX5_hearPrepare_0 : decode cX5_hearPrepare 0 = .ok (.aload_n 0, 1) := by decide +kernel
theorem dX5_hearPrepare_1 : decode cX5_hearPrepare 1 = .ok (.getfield 35, 3) := by decide +kernel
theorem dX5_hearPrepare_4 : decode cX5_hearPrepare 4 = .ok (.iconst 4, 1) := by decide +kernel
theorem dX5_hearPrepare_5 : decode cX5_hearPrepare 5 = .ok (.iload_n 3, 1) := by decide +kernel
theorem dX5_hearPrepare_6 : decode cX5_hearPrepare 6 = .ok (.imul, 1) := by decide +kernel
theorem dX5_hearPrepare_7 : decode cX5_hearPrepare 7 = .ok (.iload_n 1, 1) := by decide +kernel
theorem dX5_hearPrepare_8 : decode cX5_hearPrepare 8 = .ok (.iadd, 1) := by decide +kernel
theorem dX5_hearPrepare_9 : decode cX5_hearPrepare 9 = .ok (.iaload, 1) := by decide +kernel
theorem dX5_hearPrepare_10 : decode cX5_hearPrepare 10 = .ok (.istore 4, 2) := by decide +kernel
theorem dX5_hearPrepare_12 : decode cX5_hearPrepare 12 = .ok (.iconst 2, 1) := by decide +kernel
theorem dX5_hearPrepare_13 : decode cX5_hearPrepare 13 = .ok (.istore 5, 2) := by decide +kernel
theorem dX5_hearPrepare_15 : decode cX5_hearPrepare 15 = .ok (.iload 4, 2) := by decide +kernel
theorem dX5_hearPrepare_17 : decode cX5_hearPrepare 17 = .ok (.ifCond .ne 9, 3) := by decide +kernel
theorem dX5_hearPrepare_20 : decode cX5_hearPrepare 20 = .ok (.iconst 4, 1) := by decide +kernel
theorem dX5_hearPrepare_21 : decode cX5_hearPrepare 21 = .ok (.istore 5, 2) := by decide +kernel
theorem dX5_hearPrepare_23 : decode cX5_hearPrepare 23 = .ok (.goto 78, 3) := by decide +kernel
theorem dX5_hearPrepare_26 : decode cX5_hearPrepare 26 = .ok (.iload 4, 2) := by decide +kernel
theorem dX5_hearPrepare_28 : decode cX5_hearPrepare 28 = .ok (.iconst 2, 1) := by decide +kernel
theorem dX5_hearPrepare_29 : decode cX5_hearPrepare 29 = .ok (.if_icmp .ne 15, 3) := by decide +kernel
theorem dX5_hearPrepare_32 : decode cX5_hearPrepare 32 = .ok (.aload_n 0, 1) := by decide +kernel
theorem dX5_hearPrepare_33 : decode cX5_hearPrepare 33 = .ok (.iload_n 1, 1) := by decide +kernel
theorem dX5_hearPrepare_34 : decode cX5_hearPrepare 34 = .ok (.iload_n 3, 1) := by decide +kernel
theorem dX5_hearPrepare_35 : decode cX5_hearPrepare 35 = .ok (.invokevirtual 100, 3) := by decide +kernel
theorem dX5_hearPrepare_38 : decode cX5_hearPrepare 38 = .ok (.iconst 4, 1) := by decide +kernel
theorem dX5_hearPrepare_39 : decode cX5_hearPrepare 39 = .ok (.istore 5, 2) := by decide +kernel
theorem dX5_hearPrepare_41 : decode cX5_hearPrepare 41 = .ok (.goto 60, 3) := by decide +kernel
theorem dX5_hearPrepare_44 : decode cX5_hearPrepare 44 = .ok (.iload 4, 2) := by decide +kernel
theorem dX5_hearPrepare_46 : decode cX5_hearPrepare 46 = .ok (.iconst 1, 1) := by decide +kernel
theorem dX5_hearPrepare_47 : decode cX5_hearPrepare 47 = .ok (.if_icmp .ne 24, 3) := by decide +kernel
theorem dX5_hearPrepare_50 : decode cX5_hearPrepare 50 = .ok (.aload_n 0, 1) := by decide +kernel
theorem dX5_hearPrepare_51 : decode cX5_hearPrepare 51 = .ok (.iload_n 1, 1) := by decide +kernel
theorem dX5_hearPrepare_52 : decode cX5_hearPrepare 52 = .ok (.iload_n 3, 1) := by decide +kernel
theorem dX5_hearPrepare_53 : decode cX5_hearPrepare 53 = .ok (.invokevirtual 103, 3) := by decide +kernel
theorem dX5_hearPrepare_56 : decode cX5_hearPrepare 56 = .ok (.ifCond .ne 15, 3) := by decide +kernel
theorem dX5_hearPrepare_59 : decode cX5_hearPrepare 59 = .ok (.aload_n 0, 1) := by decide +kernel
theorem dX5_hearPrepare_60 : decode cX5_hearPrepare 60 = .ok (.iload_n 1, 1) := by decide +kernel
theorem dX5_hearPrepare_61 : decode cX5_hearPrepare 61 = .ok (.iload_n 3, 1) := by decide +kernel
theorem dX5_hearPrepare_62 : decode cX5_hearPrepare 62 = .ok (.invokevirtual 79, 3) := by decide +kernel
theorem dX5_hearPrepare_65 : decode cX5_hearPrepare 65 = .ok (.iconst 3, 1) := by decide +kernel
theorem dX5_hearPrepare_66 : decode cX5_hearPrepare 66 = .ok (.istore 5, 2) := by decide +kernel
theorem dX5_hearPrepare_68 : decode cX5_hearPrepare 68 = .ok (.goto 33, 3) := by decide +kernel
theorem dX5_hearPrepare_71 : decode cX5_hearPrepare 71 = .ok (.iload 4, 2) := by decide +kernel
theorem dX5_hearPrepare_73 : decode cX5_hearPrepare 73 = .ok (.iconst 1, 1) := by decide +kernel
theorem dX5_hearPrepare_74 : decode cX5_hearPrepare 74 = .ok (.if_icmp .ne 27, 3) := by decide +kernel
theorem dX5_hearPrepare_77 : decode cX5_hearPrepare 77 = .ok (.aload_n 0, 1) := by decide +kernel
theorem dX5_hearPrepare_78 : decode cX5_hearPrepare 78 = .ok (.iload_n 1, 1) := by decide +kernel
theorem dX5_hearPrepare_79 : decode cX5_hearPrepare 79 = .ok (.iload_n 3, 1) := by decide +kernel
theorem dX5_hearPrepare_80 : decode cX5_hearPrepare 80 = .ok (.iconst 1, 1) := by decide +kernel
theorem dX5_hearPrepare_81 : decode cX5_hearPrepare 81 = .ok (.aload_n 0, 1) := by decide +kernel
theorem dX5_hearPrepare_82 : decode cX5_hearPrepare 82 = .ok (.iload_n 1, 1) := by decide +kernel
theorem dX5_hearPrepare_83 : decode cX5_hearPrepare 83 = .ok (.iload_n 3, 1) := by decide +kernel
theorem dX5_hearPrepare_84 : decode cX5_hearPrepare 84 = .ok (.invokevirtual 103, 3) := by decide +kernel
theorem dX5_hearPrepare_87 : decode cX5_hearPrepare 87 = .ok (.invokevirtual 94, 3) := by decide +kernel
theorem dX5_hearPrepare_90 : decode cX5_hearPrepare 90 = .ok (.aload_n 0, 1) := by decide +kernel
theorem dX5_hearPrepare_91 : decode cX5_hearPrepare 91 = .ok (.getfield 35, 3) := by decide +kernel
theorem dX5_hearPrepare_94 : decode cX5_hearPrepare 94 = .ok (.iconst 4, 1) := by decide +kernel
theorem dX5_hearPrepare_95 : decode cX5_hearPrepare 95 = .ok (.iload_n 3, 1) := by decide +kernel
theorem dX5_hearPrepare_96 : decode cX5_hearPrepare 96 = .ok (.imul, 1) := by decide +kernel
theorem dX5_hearPrepare_97 : decode cX5_hearPrepare 97 = .ok (.iload_n 1, 1) := by decide +kernel
theorem dX5_hearPrepare_98 : decode cX5_hearPrepare 98 = .ok (.iadd, 1) := by decide +kernel
theorem dX5_hearPrepare_99 : decode cX5_hearPrepare 99 = .ok (.iconst 3, 1) := by decide +kernel
theorem dX5_hearPrepare_100 : decode cX5_hearPrepare 100 = .ok (.iastore, 1) := by decide +kernel
theorem dX5_hearPrepare_101 : decode cX5_hearPrepare 101 = .ok (.aload_n 0, 1) := by decide +kernel
theorem dX5_hearPrepare_102 : decode cX5_hearPrepare 102 = .ok (.iload 5, 2) := by decide +kernel
theorem dX5_hearPrepare_104 : decode cX5_hearPrepare 104 = .ok (.iload_n 1, 1) := by decide +kernel
theorem dX5_hearPrepare_105 : decode cX5_hearPrepare 105 = .ok (.iload_n 2, 1) := by decide +kernel
theorem dX5_hearPrepare_106 : decode cX5_hearPrepare 106 = .ok (.iload_n 3, 1) := by decide +kernel
theorem dX5_hearPrepare_107 : decode cX5_hearPrepare 107 = .ok (.invokevirtual 83, 3) := by decide +kernel
theorem dX5_hearPrepare_110 : decode cX5_hearPrepare 110 = .ok (.return_, 1) := by decide +kernel
theorem dX5_giveUp_0 : decode cX5_giveUp 0 = .ok (.aload_n 0, 1) := by decide +kernel
theorem dX5_giveUp_1 : decode cX5_giveUp 1 = .ok (.iload_n 1, 1) := by decide +kernel
theorem dX5_giveUp_2 : decode cX5_giveUp 2 = .ok (.iload_n 2, 1) := by decide +kernel
theorem dX5_giveUp_3 : decode cX5_giveUp 3 = .ok (.iconst 3, 1) := by decide +kernel
theorem dX5_giveUp_4 : decode cX5_giveUp 4 = .ok (.iconst 0, 1) := by decide +kernel
theorem dX5_giveUp_5 : decode cX5_giveUp 5 = .ok (.invokevirtual 75, 3) := by decide +kernel
theorem dX5_giveUp_8 : decode cX5_giveUp 8 = .ok (.aload_n 0, 1) := by decide +kernel
theorem dX5_giveUp_9 : decode cX5_giveUp 9 = .ok (.iload_n 1, 1) := by decide +kernel
theorem dX5_giveUp_10 : decode cX5_giveUp 10 = .ok (.iload_n 2, 1) := by decide +kernel
theorem dX5_giveUp_11 : decode cX5_giveUp 11 = .ok (.invokevirtual 79, 3) := by decide +kernel
theorem dX5_giveUp_14 : decode cX5_giveUp 14 = .ok (.return_, 1) := by decide +kernel
theorem dX5_letGo_0 : decode cX5_letGo 0 = .ok (.iconst 0, 1) := by decide +kernel
theorem dX5_letGo_1 : decode cX5_letGo 1 = .ok (.istore_n 3, 1) := by decide +kernel
theorem dX5_letGo_2 : decode cX5_letGo 2 = .ok (.iload_n 3, 1) := by decide +kernel
theorem dX5_letGo_3 : decode cX5_letGo 3 = .ok (.bipush 8, 2) := by decide +kernel
theorem dX5_letGo_5 : decode cX5_letGo 5 = .ok (.if_icmp .ge 52, 3) := by decide +kernel
theorem dX5_letGo_8 : decode cX5_letGo 8 = .ok (.aload_n 0, 1) := by decide +kernel
theorem dX5_letGo_9 : decode cX5_letGo 9 = .ok (.getfield 38, 3) := by decide +kernel
theorem dX5_letGo_12 : decode cX5_letGo 12 = .ok (.bipush 8, 2) := by decide +kernel
theorem dX5_letGo_14 : decode cX5_letGo 14 = .ok (.iload_n 1, 1) := by decide +kernel
theorem dX5_letGo_15 : decode cX5_letGo 15 = .ok (.imul, 1) := by decide +kernel
theorem dX5_letGo_16 : decode cX5_letGo 16 = .ok (.iload_n 3, 1) := by decide +kernel
theorem dX5_letGo_17 : decode cX5_letGo 17 = .ok (.iadd, 1) := by decide +kernel
theorem dX5_letGo_18 : decode cX5_letGo 18 = .ok (.aload_n 0, 1) := by decide +kernel
theorem dX5_letGo_19 : decode cX5_letGo 19 = .ok (.getfield 38, 3) := by decide +kernel
theorem dX5_letGo_22 : decode cX5_letGo 22 = .ok (.bipush 8, 2) := by decide +kernel
theorem dX5_letGo_24 : decode cX5_letGo 24 = .ok (.iload_n 1, 1) := by decide +kernel
theorem dX5_letGo_25 : decode cX5_letGo 25 = .ok (.imul, 1) := by decide +kernel
theorem dX5_letGo_26 : decode cX5_letGo 26 = .ok (.iload_n 3, 1) := by decide +kernel
theorem dX5_letGo_27 : decode cX5_letGo 27 = .ok (.iadd, 1) := by decide +kernel
theorem dX5_letGo_28 : decode cX5_letGo 28 = .ok (.iaload, 1) := by decide +kernel
theorem dX5_letGo_29 : decode cX5_letGo 29 = .ok (.iload_n 2, 1) := by decide +kernel
theorem dX5_letGo_30 : decode cX5_letGo 30 = .ok (.iconst 1, 1) := by decide +kernel
theorem dX5_letGo_31 : decode cX5_letGo 31 = .ok (.iadd, 1) := by decide +kernel
theorem dX5_letGo_32 : decode cX5_letGo 32 = .ok (.if_icmp .ne 7, 3) := by decide +kernel
theorem dX5_letGo_35 : decode cX5_letGo 35 = .ok (.iconst 0, 1) := by decide +kernel
theorem dX5_letGo_36 : decode cX5_letGo 36 = .ok (.goto 14, 3) := by decide +kernel
theorem dX5_letGo_39 : decode cX5_letGo 39 = .ok (.aload_n 0, 1) := by decide +kernel
theorem dX5_letGo_40 : decode cX5_letGo 40 = .ok (.getfield 38, 3) := by decide +kernel
theorem dX5_letGo_43 : decode cX5_letGo 43 = .ok (.bipush 8, 2) := by decide +kernel
theorem dX5_letGo_45 : decode cX5_letGo 45 = .ok (.iload_n 1, 1) := by decide +kernel
theorem dX5_letGo_46 : decode cX5_letGo 46 = .ok (.imul, 1) := by decide +kernel
theorem dX5_letGo_47 : decode cX5_letGo 47 = .ok (.iload_n 3, 1) := by decide +kernel
theorem dX5_letGo_48 : decode cX5_letGo 48 = .ok (.iadd, 1) := by decide +kernel
theorem dX5_letGo_49 : decode cX5_letGo 49 = .ok (.iaload, 1) := by decide +kernel
theorem dX5_letGo_50 : decode cX5_letGo 50 = .ok (.iastore, 1) := by decide +kernel
theorem dX5_letGo_51 : decode cX5_letGo 51 = .ok (.iinc 3 1, 3) := by decide +kernel
theorem dX5_letGo_54 : decode cX5_letGo 54 = .ok (.goto (-52), 3) := by decide +kernel
theorem dX5_letGo_57 : decode cX5_letGo 57 = .ok (.aload_n 0, 1) := by decide +kernel
theorem dX5_letGo_58 : decode cX5_letGo 58 = .ok (.getfield 35, 3) := by decide +kernel
theorem dX5_letGo_61 : decode cX5_letGo 61 = .ok (.iconst 4, 1) := by decide +kernel
theorem dX5_letGo_62 : decode cX5_letGo 62 = .ok (.iload_n 2, 1) := by decide +kernel
theorem dX5_letGo_63 : decode cX5_letGo 63 = .ok (.imul, 1) := by decide +kernel
theorem dX5_letGo_64 : decode cX5_letGo 64 = .ok (.iload_n 1, 1) := by decide +kernel
theorem dX5_letGo_65 : decode cX5_letGo 65 = .ok (.iadd, 1) := by decide +kernel
theorem dX5_letGo_66 : decode cX5_letGo 66 = .ok (.iconst 0, 1) := by decide +kernel
theorem dX5_letGo_67 : decode cX5_letGo 67 = .ok (.iastore, 1) := by decide +kernel
theorem dX5_letGo_68 : decode cX5_letGo 68 = .ok (.return_, 1) := by decide +kernel
theorem dX5_holding_0 : decode cX5_holding 0 = .ok (.iconst 0, 1) := by decide +kernel
theorem dX5_holding_1 : decode cX5_holding 1 = .ok (.istore_n 3, 1) := by decide +kernel
theorem dX5_holding_2 : decode cX5_holding 2 = .ok (.iconst 0, 1) := by decide +kernel
theorem dX5_holding_3 : decode cX5_holding 3 = .ok (.istore 4, 2) := by decide +kernel
theorem dX5_holding_5 : decode cX5_holding 5 = .ok (.iload 4, 2) := by decide +kernel
theorem dX5_holding_7 : decode cX5_holding 7 = .ok (.bipush 8, 2) := by decide +kernel
theorem dX5_holding_9 : decode cX5_holding 9 = .ok (.if_icmp .ge 38, 3) := by decide +kernel
theorem dX5_holding_12 : decode cX5_holding 12 = .ok (.aload_n 0, 1) := by decide +kernel
theorem dX5_holding_13 : decode cX5_holding 13 = .ok (.getfield 38, 3) := by decide +kernel
theorem dX5_holding_16 : decode cX5_holding 16 = .ok (.bipush 8, 2) := by decide +kernel
theorem dX5_holding_18 : decode cX5_holding 18 = .ok (.iload_n 1, 1) := by decide +kernel
theorem dX5_holding_19 : decode cX5_holding 19 = .ok (.imul, 1) := by decide +kernel
theorem dX5_holding_20 : decode cX5_holding 20 = .ok (.iload 4, 2) := by decide +kernel
theorem dX5_holding_22 : decode cX5_holding 22 = .ok (.iadd, 1) := by decide +kernel
theorem dX5_holding_23 : decode cX5_holding 23 = .ok (.iaload, 1) := by decide +kernel
theorem dX5_holding_24 : decode cX5_holding 24 = .ok (.iload_n 2, 1) := by decide +kernel
theorem dX5_holding_25 : decode cX5_holding 25 = .ok (.iconst 1, 1) := by decide +kernel
theorem dX5_holding_26 : decode cX5_holding 26 = .ok (.iadd, 1) := by decide +kernel
theorem dX5_holding_27 : decode cX5_holding 27 = .ok (.if_icmp .ne 12, 3) := by decide +kernel
theorem dX5_holding_30 : decode cX5_holding 30 = .ok (.iload_n 3, 1) := by decide +kernel
theorem dX5_holding_31 : decode cX5_holding 31 = .ok (.iconst 1, 1) := by decide +kernel
theorem dX5_holding_32 : decode cX5_holding 32 = .ok (.iload 4, 2) := by decide +kernel
theorem dX5_holding_34 : decode cX5_holding 34 = .ok (.ishl, 1) := by decide +kernel
theorem dX5_holding_35 : decode cX5_holding 35 = .ok (.ior, 1) := by decide +kernel
theorem dX5_holding_36 : decode cX5_holding 36 = .ok (.goto 4, 3) := by decide +kernel
theorem dX5_holding_39 : decode cX5_holding 39 = .ok (.iload_n 3, 1) := by decide +kernel
theorem dX5_holding_40 : decode cX5_holding 40 = .ok (.istore_n 3, 1) := by decide +kernel
theorem dX5_holding_41 : decode cX5_holding 41 = .ok (.iinc 4 1, 3) := by decide +kernel
theorem dX5_holding_44 : decode cX5_holding 44 = .ok (.goto (-39), 3) := by decide +kernel
theorem dX5_holding_47 : decode cX5_holding 47 = .ok (.iload_n 3, 1) := by decide +kernel
theorem dX5_holding_48 : decode cX5_holding 48 = .ok (.ireturn, 1) := by decide +kernel
theorem dX5_force_0 : decode cX5_force 0 = .ok (.aload_n 0, 1) := by decide +kernel
theorem dX5_force_1 : decode cX5_force 1 = .ok (.iload_n 1, 1) := by decide +kernel
theorem dX5_force_2 : decode cX5_force 2 = .ok (.iload_n 2, 1) := by decide +kernel
theorem dX5_force_3 : decode cX5_force 3 = .ok (.iload_n 3, 1) := by decide +kernel
theorem dX5_force_4 : decode cX5_force 4 = .ok (.iload 4, 2) := by decide +kernel
theorem dX5_force_6 : decode cX5_force 6 = .ok (.invokevirtual 75, 3) := by decide +kernel
theorem dX5_force_9 : decode cX5_force 9 = .ok (.iconst 0, 1) := by decide +kernel
theorem dX5_force_10 : decode cX5_force 10 = .ok (.istore 5, 2) := by decide +kernel
theorem dX5_force_12 : decode cX5_force 12 = .ok (.iload 5, 2) := by decide +kernel
theorem dX5_force_14 : decode cX5_force 14 = .ok (.aload_n 0, 1) := by decide +kernel
theorem dX5_force_15 : decode cX5_force 15 = .ok (.getfield 41, 3) := by decide +kernel
theorem dX5_force_18 : decode cX5_force 18 = .ok (.iload_n 1, 1) := by decide +kernel
theorem dX5_force_19 : decode cX5_force 19 = .ok (.iaload, 1) := by decide +kernel
theorem dX5_force_20 : decode cX5_force 20 = .ok (.if_icmp .ge 22, 3) := by decide +kernel
theorem dX5_force_23 : decode cX5_force 23 = .ok (.aload_n 0, 1) := by decide +kernel
theorem dX5_force_24 : decode cX5_force 24 = .ok (.getfield 53, 3) := by decide +kernel
theorem dX5_force_27 : decode cX5_force 27 = .ok (.bipush 64, 2) := by decide +kernel
theorem dX5_force_29 : decode cX5_force 29 = .ok (.iload_n 1, 1) := by decide +kernel
theorem dX5_force_30 : decode cX5_force 30 = .ok (.imul, 1) := by decide +kernel
theorem dX5_force_31 : decode cX5_force 31 = .ok (.iload 5, 2) := by decide +kernel
theorem dX5_force_33 : decode cX5_force 33 = .ok (.iadd, 1) := by decide +kernel
theorem dX5_force_34 : decode cX5_force 34 = .ok (.iconst 1, 1) := by decide +kernel
theorem dX5_force_35 : decode cX5_force 35 = .ok (.bastore, 1) := by decide +kernel
theorem dX5_force_36 : decode cX5_force 36 = .ok (.iinc 5 1, 3) := by decide +kernel
theorem dX5_force_39 : decode cX5_force 39 = .ok (.goto (-27), 3) := by decide +kernel
theorem dX5_force_42 : decode cX5_force 42 = .ok (.aload_n 0, 1) := by decide +kernel
theorem dX5_force_43 : decode cX5_force 43 = .ok (.getfield 13, 3) := by decide +kernel
theorem dX5_force_46 : decode cX5_force 46 = .ok (.iload_n 1, 1) := by decide +kernel
theorem dX5_force_47 : decode cX5_force 47 = .ok (.dup2, 1) := by decide +kernel
theorem dX5_force_48 : decode cX5_force 48 = .ok (.iaload, 1) := by decide +kernel
theorem dX5_force_49 : decode cX5_force 49 = .ok (.iconst 1, 1) := by decide +kernel
theorem dX5_force_50 : decode cX5_force 50 = .ok (.iadd, 1) := by decide +kernel
theorem dX5_force_51 : decode cX5_force 51 = .ok (.iastore, 1) := by decide +kernel
theorem dX5_force_52 : decode cX5_force 52 = .ok (.return_, 1) := by decide +kernel
theorem dX5_hearVote_0 : decode cX5_hearVote 0 = .ok (.iconst 4, 1) := by decide +kernel
theorem dX5_hearVote_1 : decode cX5_hearVote 1 = .ok (.iload_n 3, 1) := by decide +kernel
theorem dX5_hearVote_2 : decode cX5_hearVote 2 = .ok (.imul, 1) := by decide +kernel
theorem dX5_hearVote_3 : decode cX5_hearVote 3 = .ok (.iload_n 2, 1) := by decide +kernel
theorem dX5_hearVote_4 : decode cX5_hearVote 4 = .ok (.iadd, 1) := by decide +kernel
theorem dX5_hearVote_5 : decode cX5_hearVote 5 = .ok (.istore 4, 2) := by decide +kernel
theorem dX5_hearVote_7 : decode cX5_hearVote 7 = .ok (.aload_n 0, 1) := by decide +kernel
theorem dX5_hearVote_8 : decode cX5_hearVote 8 = .ok (.getfield 20, 3) := by decide +kernel
theorem dX5_hearVote_11 : decode cX5_hearVote 11 = .ok (.iload_n 3, 1) := by decide +kernel
theorem dX5_hearVote_12 : decode cX5_hearVote 12 = .ok (.iaload, 1) := by decide +kernel
theorem dX5_hearVote_13 : decode cX5_hearVote 13 = .ok (.iconst 2, 1) := by decide +kernel
theorem dX5_hearVote_14 : decode cX5_hearVote 14 = .ok (.if_icmp .ne 13, 3) := by decide +kernel
theorem dX5_hearVote_17 : decode cX5_hearVote 17 = .ok (.aload_n 0, 1) := by decide +kernel
theorem dX5_hearVote_18 : decode cX5_hearVote 18 = .ok (.getfield 23, 3) := by decide +kernel
theorem dX5_hearVote_21 : decode cX5_hearVote 21 = .ok (.iload 4, 2) := by decide +kernel
theorem dX5_hearVote_23 : decode cX5_hearVote 23 = .ok (.baload, 1) := by decide +kernel
theorem dX5_hearVote_24 : decode cX5_hearVote 24 = .ok (.ifCond .ne 4, 3) := by decide +kernel
theorem dX5_hearVote_27 : decode cX5_hearVote 27 = .ok (.return_, 1) := by decide +kernel
theorem dX5_hearVote_28 : decode cX5_hearVote 28 = .ok (.iload_n 1, 1) := by decide +kernel
theorem dX5_hearVote_29 : decode cX5_hearVote 29 = .ok (.iconst 4, 1) := by decide +kernel
theorem dX5_hearVote_30 : decode cX5_hearVote 30 = .ok (.if_icmp .ne 11, 3) := by decide +kernel
theorem dX5_hearVote_33 : decode cX5_hearVote 33 = .ok (.aload_n 0, 1) := by decide +kernel
theorem dX5_hearVote_34 : decode cX5_hearVote 34 = .ok (.iload_n 3, 1) := by decide +kernel
theorem dX5_hearVote_35 : decode cX5_hearVote 35 = .ok (.iload_n 2, 1) := by decide +kernel
theorem dX5_hearVote_36 : decode cX5_hearVote 36 = .ok (.invokevirtual 106, 3) := by decide +kernel
theorem dX5_hearVote_39 : decode cX5_hearVote 39 = .ok (.pop, 1) := by decide +kernel
theorem dX5_hearVote_40 : decode cX5_hearVote 40 = .ok (.return_, 1) := by decide +kernel
theorem dX5_hearVote_41 : decode cX5_hearVote 41 = .ok (.iload_n 1, 1) := by decide +kernel
theorem dX5_hearVote_42 : decode cX5_hearVote 42 = .ok (.iconst 2, 1) := by decide +kernel
theorem dX5_hearVote_43 : decode cX5_hearVote 43 = .ok (.if_icmp .ne 14, 3) := by decide +kernel
theorem dX5_hearVote_46 : decode cX5_hearVote 46 = .ok (.aload_n 0, 1) := by decide +kernel
theorem dX5_hearVote_47 : decode cX5_hearVote 47 = .ok (.getfield 26, 3) := by decide +kernel
theorem dX5_hearVote_50 : decode cX5_hearVote 50 = .ok (.iload 4, 2) := by decide +kernel
theorem dX5_hearVote_52 : decode cX5_hearVote 52 = .ok (.iconst 1, 1) := by decide +kernel
theorem dX5_hearVote_53 : decode cX5_hearVote 53 = .ok (.bastore, 1) := by decide +kernel
theorem dX5_hearVote_54 : decode cX5_hearVote 54 = .ok (.goto 11, 3) := by decide +kernel
theorem dX5_hearVote_57 : decode cX5_hearVote 57 = .ok (.aload_n 0, 1) := by decide +kernel
theorem dX5_hearVote_58 : decode cX5_hearVote 58 = .ok (.getfield 29, 3) := by decide +kernel
theorem dX5_hearVote_61 : decode cX5_hearVote 61 = .ok (.iload 4, 2) := by decide +kernel
theorem dX5_hearVote_63 : decode cX5_hearVote 63 = .ok (.iconst 1, 1) := by decide +kernel
theorem dX5_hearVote_64 : decode cX5_hearVote 64 = .ok (.bastore, 1) := by decide +kernel
theorem dX5_hearVote_65 : decode cX5_hearVote 65 = .ok (.aload_n 0, 1) := by decide +kernel
theorem dX5_hearVote_66 : decode cX5_hearVote 66 = .ok (.iload_n 3, 1) := by decide +kernel
theorem dX5_hearVote_67 : decode cX5_hearVote 67 = .ok (.invokevirtual 109, 3) := by decide +kernel
theorem dX5_hearVote_70 : decode cX5_hearVote 70 = .ok (.return_, 1) := by decide +kernel
theorem dX5_decide_0 : decode cX5_decide 0 = .ok (.aload_n 0, 1) := by decide +kernel
theorem dX5_decide_1 : decode cX5_decide 1 = .ok (.iload_n 1, 1) := by decide +kernel
theorem dX5_decide_2 : decode cX5_decide 2 = .ok (.iconst 1, 1) := by decide +kernel
theorem dX5_decide_3 : decode cX5_decide 3 = .ok (.invokevirtual 90, 3) := by decide +kernel
theorem dX5_decide_6 : decode cX5_decide 6 = .ok (.istore_n 2, 1) := by decide +kernel
theorem dX5_decide_7 : decode cX5_decide 7 = .ok (.aload_n 0, 1) := by decide +kernel
theorem dX5_decide_8 : decode cX5_decide 8 = .ok (.iload_n 1, 1) := by decide +kernel
theorem dX5_decide_9 : decode cX5_decide 9 = .ok (.iconst 0, 1) := by decide +kernel
theorem dX5_decide_10 : decode cX5_decide 10 = .ok (.invokevirtual 90, 3) := by decide +kernel
theorem dX5_decide_13 : decode cX5_decide 13 = .ok (.iload_n 2, 1) := by decide +kernel
theorem dX5_decide_14 : decode cX5_decide 14 = .ok (.iconst (-1), 1) := by decide +kernel
theorem dX5_decide_15 : decode cX5_decide 15 = .ok (.ixor, 1) := by decide +kernel
theorem dX5_decide_16 : decode cX5_decide 16 = .ok (.iand, 1) := by decide +kernel
theorem dX5_decide_17 : decode cX5_decide 17 = .ok (.aload_n 0, 1) := by decide +kernel
theorem dX5_decide_18 : decode cX5_decide 18 = .ok (.iload_n 1, 1) := by decide +kernel
theorem dX5_decide_19 : decode cX5_decide 19 = .ok (.iconst 2, 1) := by decide +kernel
theorem dX5_decide_20 : decode cX5_decide 20 = .ok (.invokevirtual 90, 3) := by decide +kernel
theorem dX5_decide_23 : decode cX5_decide 23 = .ok (.iconst (-1), 1) := by decide +kernel
theorem dX5_decide_24 : decode cX5_decide 24 = .ok (.ixor, 1) := by decide +kernel
theorem dX5_decide_25 : decode cX5_decide 25 = .ok (.iand, 1) := by decide +kernel
theorem dX5_decide_26 : decode cX5_decide 26 = .ok (.ifCond .eq 4, 3) := by decide +kernel
theorem dX5_decide_29 : decode cX5_decide 29 = .ok (.return_, 1) := by decide +kernel
theorem dX5_decide_30 : decode cX5_decide 30 = .ok (.iload_n 2, 1) := by decide +kernel
theorem dX5_decide_31 : decode cX5_decide 31 = .ok (.ifCond .ne 9, 3) := by decide +kernel
theorem dX5_decide_34 : decode cX5_decide 34 = .ok (.aload_n 0, 1) := by decide +kernel
theorem dX5_decide_35 : decode cX5_decide 35 = .ok (.iload_n 1, 1) := by decide +kernel
theorem dX5_decide_36 : decode cX5_decide 36 = .ok (.invokevirtual 86, 3) := by decide +kernel
theorem dX5_decide_39 : decode cX5_decide 39 = .ok (.return_, 1) := by decide +kernel
theorem dX5_decide_40 : decode cX5_decide 40 = .ok (.iconst 0, 1) := by decide +kernel
theorem dX5_decide_41 : decode cX5_decide 41 = .ok (.istore_n 3, 1) := by decide +kernel
theorem dX5_decide_42 : decode cX5_decide 42 = .ok (.iload_n 3, 1) := by decide +kernel
theorem dX5_decide_43 : decode cX5_decide 43 = .ok (.iconst 4, 1) := by decide +kernel
theorem dX5_decide_44 : decode cX5_decide 44 = .ok (.if_icmp .ge 29, 3) := by decide +kernel
theorem dX5_decide_47 : decode cX5_decide 47 = .ok (.aload_n 0, 1) := by decide +kernel
theorem dX5_decide_48 : decode cX5_decide 48 = .ok (.getfield 32, 3) := by decide +kernel
theorem dX5_decide_51 : decode cX5_decide 51 = .ok (.iconst 4, 1) := by decide +kernel
theorem dX5_decide_52 : decode cX5_decide 52 = .ok (.iload_n 1, 1) := by decide +kernel
theorem dX5_decide_53 : decode cX5_decide 53 = .ok (.imul, 1) := by decide +kernel
theorem dX5_decide_54 : decode cX5_decide 54 = .ok (.iload_n 3, 1) := by decide +kernel
theorem dX5_decide_55 : decode cX5_decide 55 = .ok (.iadd, 1) := by decide +kernel
theorem dX5_decide_56 : decode cX5_decide 56 = .ok (.aload_n 0, 1) := by decide +kernel
theorem dX5_decide_57 : decode cX5_decide 57 = .ok (.getfield 26, 3) := by decide +kernel
theorem dX5_decide_60 : decode cX5_decide 60 = .ok (.iconst 4, 1) := by decide +kernel
theorem dX5_decide_61 : decode cX5_decide 61 = .ok (.iload_n 1, 1) := by decide +kernel
theorem dX5_decide_62 : decode cX5_decide 62 = .ok (.imul, 1) := by decide +kernel
theorem dX5_decide_63 : decode cX5_decide 63 = .ok (.iload_n 3, 1) := by decide +kernel
theorem dX5_decide_64 : decode cX5_decide 64 = .ok (.iadd, 1) := by decide +kernel
theorem dX5_decide_65 : decode cX5_decide 65 = .ok (.baload, 1) := by decide +kernel
theorem dX5_decide_66 : decode cX5_decide 66 = .ok (.bastore, 1) := by decide +kernel
theorem dX5_decide_67 : decode cX5_decide 67 = .ok (.iinc 3 1, 3) := by decide +kernel
theorem dX5_decide_70 : decode cX5_decide 70 = .ok (.goto (-28), 3) := by decide +kernel
theorem dX5_decide_73 : decode cX5_decide 73 = .ok (.aload_n 0, 1) := by decide +kernel
theorem dX5_decide_74 : decode cX5_decide 74 = .ok (.aload_n 0, 1) := by decide +kernel
theorem dX5_decide_75 : decode cX5_decide 75 = .ok (.getfield 17, 3) := by decide +kernel
theorem dX5_decide_78 : decode cX5_decide 78 = .ok (.iload_n 1, 1) := by decide +kernel
theorem dX5_decide_79 : decode cX5_decide 79 = .ok (.iaload, 1) := by decide +kernel
theorem dX5_decide_80 : decode cX5_decide 80 = .ok (.iload_n 1, 1) := by decide +kernel
theorem dX5_decide_81 : decode cX5_decide 81 = .ok (.iconst 4, 1) := by decide +kernel
theorem dX5_decide_82 : decode cX5_decide 82 = .ok (.iload_n 2, 1) := by decide +kernel
theorem dX5_decide_83 : decode cX5_decide 83 = .ok (.invokevirtual 94, 3) := by decide +kernel
theorem dX5_decide_86 : decode cX5_decide 86 = .ok (.aload_n 0, 1) := by decide +kernel
theorem dX5_decide_87 : decode cX5_decide 87 = .ok (.getfield 20, 3) := by decide +kernel
theorem dX5_decide_90 : decode cX5_decide 90 = .ok (.iload_n 1, 1) := by decide +kernel
theorem dX5_decide_91 : decode cX5_decide 91 = .ok (.iconst 3, 1) := by decide +kernel
theorem dX5_decide_92 : decode cX5_decide 92 = .ok (.iastore, 1) := by decide +kernel
theorem dX5_decide_93 : decode cX5_decide 93 = .ok (.aload_n 0, 1) := by decide +kernel
theorem dX5_decide_94 : decode cX5_decide 94 = .ok (.iload_n 1, 1) := by decide +kernel
theorem dX5_decide_95 : decode cX5_decide 95 = .ok (.invokevirtual 97, 3) := by decide +kernel
theorem dX5_decide_98 : decode cX5_decide 98 = .ok (.return_, 1) := by decide +kernel
theorem dX5_bits_0 : decode cX5_bits 0 = .ok (.iconst 0, 1) := by decide +kernel
theorem dX5_bits_1 : decode cX5_bits 1 = .ok (.istore_n 3, 1) := by decide +kernel
theorem dX5_bits_2 : decode cX5_bits 2 = .ok (.iconst 0, 1) := by decide +kernel
theorem dX5_bits_3 : decode cX5_bits 3 = .ok (.istore 4, 2) := by decide +kernel
theorem dX5_bits_5 : decode cX5_bits 5 = .ok (.iload 4, 2) := by decide +kernel
theorem dX5_bits_7 : decode cX5_bits 7 = .ok (.iconst 4, 1) := by decide +kernel
theorem dX5_bits_8 : decode cX5_bits 8 = .ok (.if_icmp .ge 86, 3) := by decide +kernel
theorem dX5_bits_11 : decode cX5_bits 11 = .ok (.iconst 4, 1) := by decide +kernel
theorem dX5_bits_12 : decode cX5_bits 12 = .ok (.iload_n 1, 1) := by decide +kernel
theorem dX5_bits_13 : decode cX5_bits 13 = .ok (.imul, 1) := by decide +kernel
theorem dX5_bits_14 : decode cX5_bits 14 = .ok (.iload 4, 2) := by decide +kernel
theorem dX5_bits_16 : decode cX5_bits 16 = .ok (.iadd, 1) := by decide +kernel
theorem dX5_bits_17 : decode cX5_bits 17 = .ok (.istore 5, 2) := by decide +kernel
theorem dX5_bits_19 : decode cX5_bits 19 = .ok (.iload_n 2, 1) := by decide +kernel
theorem dX5_bits_20 : decode cX5_bits 20 = .ok (.ifCond .ne 13, 3) := by decide +kernel
theorem dX5_bits_23 : decode cX5_bits 23 = .ok (.aload_n 0, 1) := by decide +kernel
theorem dX5_bits_24 : decode cX5_bits 24 = .ok (.getfield 23, 3) := by decide +kernel
theorem dX5_bits_27 : decode cX5_bits 27 = .ok (.iload 5, 2) := by decide +kernel
theorem dX5_bits_29 : decode cX5_bits 29 = .ok (.baload, 1) := by decide +kernel
theorem dX5_bits_30 : decode cX5_bits 30 = .ok (.goto 40, 3) := by decide +kernel
theorem dX5_bits_33 : decode cX5_bits 33 = .ok (.iload_n 2, 1) := by decide +kernel
theorem dX5_bits_34 : decode cX5_bits 34 = .ok (.iconst 1, 1) := by decide +kernel
theorem dX5_bits_35 : decode cX5_bits 35 = .ok (.if_icmp .ne 13, 3) := by decide +kernel
theorem dX5_bits_38 : decode cX5_bits 38 = .ok (.aload_n 0, 1) := by decide +kernel
theorem dX5_bits_39 : decode cX5_bits 39 = .ok (.getfield 26, 3) := by decide +kernel
theorem dX5_bits_42 : decode cX5_bits 42 = .ok (.iload 5, 2) := by decide +kernel
theorem dX5_bits_44 : decode cX5_bits 44 = .ok (.baload, 1) := by decide +kernel
theorem dX5_bits_45 : decode cX5_bits 45 = .ok (.goto 25, 3) := by decide +kernel
theorem dX5_bits_48 : decode cX5_bits 48 = .ok (.iload_n 2, 1) := by decide +kernel
theorem dX5_bits_49 : decode cX5_bits 49 = .ok (.iconst 2, 1) := by decide +kernel
theorem dX5_bits_50 : decode cX5_bits 50 = .ok (.if_icmp .ne 13, 3) := by decide +kernel
theorem dX5_bits_53 : decode cX5_bits 53 = .ok (.aload_n 0, 1) := by decide +kernel
theorem dX5_bits_54 : decode cX5_bits 54 = .ok (.getfield 29, 3) := by decide +kernel
theorem dX5_bits_57 : decode cX5_bits 57 = .ok (.iload 5, 2) := by decide +kernel
theorem dX5_bits_59 : decode cX5_bits 59 = .ok (.baload, 1) := by decide +kernel
theorem dX5_bits_60 : decode cX5_bits 60 = .ok (.goto 10, 3) := by decide +kernel
theorem dX5_bits_63 : decode cX5_bits 63 = .ok (.aload_n 0, 1) := by decide +kernel
theorem dX5_bits_64 : decode cX5_bits 64 = .ok (.getfield 32, 3) := by decide +kernel
theorem dX5_bits_67 : decode cX5_bits 67 = .ok (.iload 5, 2) := by decide +kernel
theorem dX5_bits_69 : decode cX5_bits 69 = .ok (.baload, 1) := by decide +kernel
theorem dX5_bits_70 : decode cX5_bits 70 = .ok (.istore 6, 2) := by decide +kernel
theorem dX5_bits_72 : decode cX5_bits 72 = .ok (.iload 6, 2) := by decide +kernel
theorem dX5_bits_74 : decode cX5_bits 74 = .ok (.ifCond .eq 12, 3) := by decide +kernel
theorem dX5_bits_77 : decode cX5_bits 77 = .ok (.iload_n 3, 1) := by decide +kernel
theorem dX5_bits_78 : decode cX5_bits 78 = .ok (.iconst 1, 1) := by decide +kernel
theorem dX5_bits_79 : decode cX5_bits 79 = .ok (.iload 4, 2) := by decide +kernel
theorem dX5_bits_81 : decode cX5_bits 81 = .ok (.ishl, 1) := by decide +kernel
theorem dX5_bits_82 : decode cX5_bits 82 = .ok (.ior, 1) := by decide +kernel
theorem dX5_bits_83 : decode cX5_bits 83 = .ok (.goto 4, 3) := by decide +kernel
theorem dX5_bits_86 : decode cX5_bits 86 = .ok (.iload_n 3, 1) := by decide +kernel
theorem dX5_bits_87 : decode cX5_bits 87 = .ok (.istore_n 3, 1) := by decide +kernel
theorem dX5_bits_88 : decode cX5_bits 88 = .ok (.iinc 4 1, 3) := by decide +kernel
theorem dX5_bits_91 : decode cX5_bits 91 = .ok (.goto (-86), 3) := by decide +kernel
theorem dX5_bits_94 : decode cX5_bits 94 = .ok (.iload_n 3, 1) := by decide +kernel
theorem dX5_bits_95 : decode cX5_bits 95 = .ok (.ireturn, 1) := by decide +kernel
theorem dX5_sendDue_0 : decode cX5_sendDue 0 = .ok (.iconst 0, 1) := by decide +kernel
theorem dX5_sendDue_1 : decode cX5_sendDue 1 = .ok (.istore_n 2, 1) := by decide +kernel
theorem dX5_sendDue_2 : decode cX5_sendDue 2 = .ok (.iload_n 2, 1) := by decide +kernel
theorem dX5_sendDue_3 : decode cX5_sendDue 3 = .ok (.iconst 4, 1) := by decide +kernel
theorem dX5_sendDue_4 : decode cX5_sendDue 4 = .ok (.if_icmp .ge 35, 3) := by decide +kernel
theorem dX5_sendDue_7 : decode cX5_sendDue 7 = .ok (.aload_n 0, 1) := by decide +kernel
theorem dX5_sendDue_8 : decode cX5_sendDue 8 = .ok (.getfield 32, 3) := by decide +kernel
theorem dX5_sendDue_11 : decode cX5_sendDue 11 = .ok (.iconst 4, 1) := by decide +kernel
theorem dX5_sendDue_12 : decode cX5_sendDue 12 = .ok (.iload_n 1, 1) := by decide +kernel
theorem dX5_sendDue_13 : decode cX5_sendDue 13 = .ok (.imul, 1) := by decide +kernel
theorem dX5_sendDue_14 : decode cX5_sendDue 14 = .ok (.iload_n 2, 1) := by decide +kernel
theorem dX5_sendDue_15 : decode cX5_sendDue 15 = .ok (.iadd, 1) := by decide +kernel
theorem dX5_sendDue_16 : decode cX5_sendDue 16 = .ok (.baload, 1) := by decide +kernel
theorem dX5_sendDue_17 : decode cX5_sendDue 17 = .ok (.ifCond .eq 16, 3) := by decide +kernel
theorem dX5_sendDue_20 : decode cX5_sendDue 20 = .ok (.aload_n 0, 1) := by decide +kernel
theorem dX5_sendDue_21 : decode cX5_sendDue 21 = .ok (.iconst 5, 1) := by decide +kernel
theorem dX5_sendDue_22 : decode cX5_sendDue 22 = .ok (.aload_n 0, 1) := by decide +kernel
theorem dX5_sendDue_23 : decode cX5_sendDue 23 = .ok (.getfield 17, 3) := by decide +kernel
theorem dX5_sendDue_26 : decode cX5_sendDue 26 = .ok (.iload_n 1, 1) := by decide +kernel
theorem dX5_sendDue_27 : decode cX5_sendDue 27 = .ok (.iaload, 1) := by decide +kernel
theorem dX5_sendDue_28 : decode cX5_sendDue 28 = .ok (.iload_n 2, 1) := by decide +kernel
theorem dX5_sendDue_29 : decode cX5_sendDue 29 = .ok (.iload_n 1, 1) := by decide +kernel
theorem dX5_sendDue_30 : decode cX5_sendDue 30 = .ok (.invokevirtual 83, 3) := by decide +kernel
theorem dX5_sendDue_33 : decode cX5_sendDue 33 = .ok (.iinc 2 1, 3) := by decide +kernel
theorem dX5_sendDue_36 : decode cX5_sendDue 36 = .ok (.goto (-34), 3) := by decide +kernel
theorem dX5_sendDue_39 : decode cX5_sendDue 39 = .ok (.return_, 1) := by decide +kernel
theorem dX5_hearAck_0 : decode cX5_hearAck 0 = .ok (.aload_n 0, 1) := by decide +kernel
theorem dX5_hearAck_1 : decode cX5_hearAck 1 = .ok (.getfield 20, 3) := by decide +kernel
theorem dX5_hearAck_4 : decode cX5_hearAck 4 = .ok (.iload_n 2, 1) := by decide +kernel
theorem dX5_hearAck_5 : decode cX5_hearAck 5 = .ok (.iaload, 1) := by decide +kernel
theorem dX5_hearAck_6 : decode cX5_hearAck 6 = .ok (.iconst 3, 1) := by decide +kernel
theorem dX5_hearAck_7 : decode cX5_hearAck 7 = .ok (.if_icmp .ne 42, 3) := by decide +kernel
theorem dX5_hearAck_10 : decode cX5_hearAck 10 = .ok (.aload_n 0, 1) := by decide +kernel
theorem dX5_hearAck_11 : decode cX5_hearAck 11 = .ok (.getfield 32, 3) := by decide +kernel
theorem dX5_hearAck_14 : decode cX5_hearAck 14 = .ok (.iconst 4, 1) := by decide +kernel
theorem dX5_hearAck_15 : decode cX5_hearAck 15 = .ok (.iload_n 2, 1) := by decide +kernel
theorem dX5_hearAck_16 : decode cX5_hearAck 16 = .ok (.imul, 1) := by decide +kernel
theorem dX5_hearAck_17 : decode cX5_hearAck 17 = .ok (.iload_n 1, 1) := by decide +kernel
theorem dX5_hearAck_18 : decode cX5_hearAck 18 = .ok (.iadd, 1) := by decide +kernel
theorem dX5_hearAck_19 : decode cX5_hearAck 19 = .ok (.iconst 0, 1) := by decide +kernel
theorem dX5_hearAck_20 : decode cX5_hearAck 20 = .ok (.bastore, 1) := by decide +kernel
theorem dX5_hearAck_21 : decode cX5_hearAck 21 = .ok (.aload_n 0, 1) := by decide +kernel
theorem dX5_hearAck_22 : decode cX5_hearAck 22 = .ok (.iload_n 2, 1) := by decide +kernel
theorem dX5_hearAck_23 : decode cX5_hearAck 23 = .ok (.iconst 3, 1) := by decide +kernel
theorem dX5_hearAck_24 : decode cX5_hearAck 24 = .ok (.invokevirtual 90, 3) := by decide +kernel
theorem dX5_hearAck_27 : decode cX5_hearAck 27 = .ok (.ifCond .ne 22, 3) := by decide +kernel
theorem dX5_hearAck_30 : decode cX5_hearAck 30 = .ok (.aload_n 0, 1) := by decide +kernel
theorem dX5_hearAck_31 : decode cX5_hearAck 31 = .ok (.aload_n 0, 1) := by decide +kernel
theorem dX5_hearAck_32 : decode cX5_hearAck 32 = .ok (.getfield 17, 3) := by decide +kernel
theorem dX5_hearAck_35 : decode cX5_hearAck 35 = .ok (.iload_n 2, 1) := by decide +kernel
theorem dX5_hearAck_36 : decode cX5_hearAck 36 = .ok (.iaload, 1) := by decide +kernel
theorem dX5_hearAck_37 : decode cX5_hearAck 37 = .ok (.iload_n 2, 1) := by decide +kernel
theorem dX5_hearAck_38 : decode cX5_hearAck 38 = .ok (.bipush 6, 2) := by decide +kernel
theorem dX5_hearAck_40 : decode cX5_hearAck 40 = .ok (.iconst 0, 1) := by decide +kernel
theorem dX5_hearAck_41 : decode cX5_hearAck 41 = .ok (.invokevirtual 75, 3) := by decide +kernel
theorem dX5_hearAck_44 : decode cX5_hearAck 44 = .ok (.aload_n 0, 1) := by decide +kernel
theorem dX5_hearAck_45 : decode cX5_hearAck 45 = .ok (.iload_n 2, 1) := by decide +kernel
theorem dX5_hearAck_46 : decode cX5_hearAck 46 = .ok (.invokevirtual 86, 3) := by decide +kernel
theorem dX5_hearAck_49 : decode cX5_hearAck 49 = .ok (.return_, 1) := by decide +kernel
theorem dX5_lose_0 : decode cX5_lose 0 = .ok (.iload_n 1, 1) := by decide +kernel
theorem dX5_lose_1 : decode cX5_lose 1 = .ok (.ifCond .lt 11, 3) := by decide +kernel
theorem dX5_lose_4 : decode cX5_lose 4 = .ok (.iload_n 1, 1) := by decide +kernel
theorem dX5_lose_5 : decode cX5_lose 5 = .ok (.aload_n 0, 1) := by decide +kernel
theorem dX5_lose_6 : decode cX5_lose 6 = .ok (.getfield 72, 3) := by decide +kernel
theorem dX5_lose_9 : decode cX5_lose 9 = .ok (.if_icmp .lt 6, 3) := by decide +kernel
theorem dX5_lose_12 : decode cX5_lose 12 = .ok (.bipush (-2), 2) := by decide +kernel
theorem dX5_lose_14 : decode cX5_lose 14 = .ok (.ireturn, 1) := by decide +kernel
theorem dX5_lose_15 : decode cX5_lose 15 = .ok (.aload_n 0, 1) := by decide +kernel
theorem dX5_lose_16 : decode cX5_lose 16 = .ok (.getfield 56, 3) := by decide +kernel
theorem dX5_lose_19 : decode cX5_lose 19 = .ok (.iload_n 1, 1) := by decide +kernel
theorem dX5_lose_20 : decode cX5_lose 20 = .ok (.iaload, 1) := by decide +kernel
theorem dX5_lose_21 : decode cX5_lose 21 = .ok (.istore_n 2, 1) := by decide +kernel
theorem dX5_lose_22 : decode cX5_lose 22 = .ok (.aload_n 0, 1) := by decide +kernel
theorem dX5_lose_23 : decode cX5_lose 23 = .ok (.iload_n 1, 1) := by decide +kernel
theorem dX5_lose_24 : decode cX5_lose 24 = .ok (.invokevirtual 129, 3) := by decide +kernel
theorem dX5_lose_27 : decode cX5_lose 27 = .ok (.iload_n 2, 1) := by decide +kernel
theorem dX5_lose_28 : decode cX5_lose 28 = .ok (.ireturn, 1) := by decide +kernel
theorem dX5_expire_0 : decode cX5_expire 0 = .ok (.iload_n 1, 1) := by decide +kernel
theorem dX5_expire_1 : decode cX5_expire 1 = .ok (.invokestatic 122, 3) := by decide +kernel
theorem dX5_expire_4 : decode cX5_expire 4 = .ok (.ifCond .ne 25, 3) := by decide +kernel
theorem dX5_expire_7 : decode cX5_expire 7 = .ok (.aload_n 0, 1) := by decide +kernel
theorem dX5_expire_8 : decode cX5_expire 8 = .ok (.iload_n 2, 1) := by decide +kernel
theorem dX5_expire_9 : decode cX5_expire 9 = .ok (.invokevirtual 126, 3) := by decide +kernel
theorem dX5_expire_12 : decode cX5_expire 12 = .ok (.ifCond .ne 17, 3) := by decide +kernel
theorem dX5_expire_15 : decode cX5_expire 15 = .ok (.iload_n 3, 1) := by decide +kernel
theorem dX5_expire_16 : decode cX5_expire 16 = .ok (.ifCond .ne 16, 3) := by decide +kernel
theorem dX5_expire_19 : decode cX5_expire 19 = .ok (.aload_n 0, 1) := by decide +kernel
theorem dX5_expire_20 : decode cX5_expire 20 = .ok (.getfield 17, 3) := by decide +kernel
theorem dX5_expire_23 : decode cX5_expire 23 = .ok (.iload_n 2, 1) := by decide +kernel
theorem dX5_expire_24 : decode cX5_expire 24 = .ok (.iaload, 1) := by decide +kernel
theorem dX5_expire_25 : decode cX5_expire 25 = .ok (.iload_n 1, 1) := by decide +kernel
theorem dX5_expire_26 : decode cX5_expire 26 = .ok (.if_icmp .eq 6, 3) := by decide +kernel
theorem dX5_expire_29 : decode cX5_expire 29 = .ok (.bipush (-2), 2) := by decide +kernel
theorem dX5_expire_31 : decode cX5_expire 31 = .ok (.ireturn, 1) := by decide +kernel
theorem dX5_expire_32 : decode cX5_expire 32 = .ok (.aload_n 0, 1) := by decide +kernel
theorem dX5_expire_33 : decode cX5_expire 33 = .ok (.getfield 7, 3) := by decide +kernel
theorem dX5_expire_36 : decode cX5_expire 36 = .ok (.iload_n 1, 1) := by decide +kernel
theorem dX5_expire_37 : decode cX5_expire 37 = .ok (.baload, 1) := by decide +kernel
theorem dX5_expire_38 : decode cX5_expire 38 = .ok (.ifCond .eq 6, 3) := by decide +kernel
theorem dX5_expire_41 : decode cX5_expire 41 = .ok (.bipush (-3), 2) := by decide +kernel
theorem dX5_expire_43 : decode cX5_expire 43 = .ok (.ireturn, 1) := by decide +kernel
theorem dX5_expire_44 : decode cX5_expire 44 = .ok (.aload_n 0, 1) := by decide +kernel
theorem dX5_expire_45 : decode cX5_expire 45 = .ok (.getfield 35, 3) := by decide +kernel
theorem dX5_expire_48 : decode cX5_expire 48 = .ok (.iconst 4, 1) := by decide +kernel
theorem dX5_expire_49 : decode cX5_expire 49 = .ok (.iload_n 2, 1) := by decide +kernel
theorem dX5_expire_50 : decode cX5_expire 50 = .ok (.imul, 1) := by decide +kernel
theorem dX5_expire_51 : decode cX5_expire 51 = .ok (.iload_n 1, 1) := by decide +kernel
theorem dX5_expire_52 : decode cX5_expire 52 = .ok (.iadd, 1) := by decide +kernel
theorem dX5_expire_53 : decode cX5_expire 53 = .ok (.iaload, 1) := by decide +kernel
theorem dX5_expire_54 : decode cX5_expire 54 = .ok (.istore 4, 2) := by decide +kernel
theorem dX5_expire_56 : decode cX5_expire 56 = .ok (.iload_n 3, 1) := by decide +kernel
theorem dX5_expire_57 : decode cX5_expire 57 = .ok (.ifCond .eq 56, 3) := by decide +kernel
theorem dX5_expire_60 : decode cX5_expire 60 = .ok (.iload 4, 2) := by decide +kernel
theorem dX5_expire_62 : decode cX5_expire 62 = .ok (.iconst 1, 1) := by decide +kernel
theorem dX5_expire_63 : decode cX5_expire 63 = .ok (.if_icmp .eq 9, 3) := by decide +kernel
theorem dX5_expire_66 : decode cX5_expire 66 = .ok (.iload 4, 2) := by decide +kernel
theorem dX5_expire_68 : decode cX5_expire 68 = .ok (.iconst 2, 1) := by decide +kernel
theorem dX5_expire_69 : decode cX5_expire 69 = .ok (.if_icmp .ne 12, 3) := by decide +kernel
theorem dX5_expire_72 : decode cX5_expire 72 = .ok (.aload_n 0, 1) := by decide +kernel
theorem dX5_expire_73 : decode cX5_expire 73 = .ok (.iload_n 1, 1) := by decide +kernel
theorem dX5_expire_74 : decode cX5_expire 74 = .ok (.iload_n 2, 1) := by decide +kernel
theorem dX5_expire_75 : decode cX5_expire 75 = .ok (.invokevirtual 100, 3) := by decide +kernel
theorem dX5_expire_78 : decode cX5_expire 78 = .ok (.goto 23, 3) := by decide +kernel
theorem dX5_expire_81 : decode cX5_expire 81 = .ok (.iload 4, 2) := by decide +kernel
theorem dX5_expire_83 : decode cX5_expire 83 = .ok (.iconst 3, 1) := by decide +kernel
theorem dX5_expire_84 : decode cX5_expire 84 = .ok (.if_icmp .ne 17, 3) := by decide +kernel
theorem dX5_expire_87 : decode cX5_expire 87 = .ok (.aload_n 0, 1) := by decide +kernel
theorem dX5_expire_88 : decode cX5_expire 88 = .ok (.bipush 8, 2) := by decide +kernel
theorem dX5_expire_90 : decode cX5_expire 90 = .ok (.iload_n 1, 1) := by decide +kernel
theorem dX5_expire_91 : decode cX5_expire 91 = .ok (.aload_n 0, 1) := by decide +kernel
theorem dX5_expire_92 : decode cX5_expire 92 = .ok (.getfield 17, 3) := by decide +kernel
theorem dX5_expire_95 : decode cX5_expire 95 = .ok (.iload_n 2, 1) := by decide +kernel
theorem dX5_expire_96 : decode cX5_expire 96 = .ok (.iaload, 1) := by decide +kernel
theorem dX5_expire_97 : decode cX5_expire 97 = .ok (.iload_n 2, 1) := by decide +kernel
theorem dX5_expire_98 : decode cX5_expire 98 = .ok (.invokevirtual 83, 3) := by decide +kernel
theorem dX5_expire_101 : decode cX5_expire 101 = .ok (.iload 4, 2) := by decide +kernel
theorem dX5_expire_103 : decode cX5_expire 103 = .ok (.ifCond .ne 8, 3) := by decide +kernel
theorem dX5_expire_106 : decode cX5_expire 106 = .ok (.bipush (-4), 2) := by decide +kernel
theorem dX5_expire_108 : decode cX5_expire 108 = .ok (.goto 4, 3) := by decide +kernel
theorem dX5_expire_111 : decode cX5_expire 111 = .ok (.iconst 1, 1) := by decide +kernel
theorem dX5_expire_112 : decode cX5_expire 112 = .ok (.ireturn, 1) := by decide +kernel
theorem dX5_expire_113 : decode cX5_expire 113 = .ok (.aload_n 0, 1) := by decide +kernel
theorem dX5_expire_114 : decode cX5_expire 114 = .ok (.getfield 20, 3) := by decide +kernel
theorem dX5_expire_117 : decode cX5_expire 117 = .ok (.iload_n 2, 1) := by decide +kernel
theorem dX5_expire_118 : decode cX5_expire 118 = .ok (.iaload, 1) := by decide +kernel
theorem dX5_expire_119 : decode cX5_expire 119 = .ok (.istore 5, 2) := by decide +kernel
theorem dX5_expire_121 : decode cX5_expire 121 = .ok (.iload 5, 2) := by decide +kernel
theorem dX5_expire_123 : decode cX5_expire 123 = .ok (.iconst 2, 1) := by decide +kernel
theorem dX5_expire_124 : decode cX5_expire 124 = .ok (.if_icmp .ne 13, 3) := by decide +kernel
theorem dX5_expire_127 : decode cX5_expire 127 = .ok (.aload_n 0, 1) := by decide +kernel
theorem dX5_expire_128 : decode cX5_expire 128 = .ok (.iload_n 2, 1) := by decide +kernel
theorem dX5_expire_129 : decode cX5_expire 129 = .ok (.iconst (-1), 1) := by decide +kernel
theorem dX5_expire_130 : decode cX5_expire 130 = .ok (.invokevirtual 106, 3) := by decide +kernel
theorem dX5_expire_133 : decode cX5_expire 133 = .ok (.pop, 1) := by decide +kernel
theorem dX5_expire_134 : decode cX5_expire 134 = .ok (.goto 14, 3) := by decide +kernel
theorem dX5_expire_137 : decode cX5_expire 137 = .ok (.iload 5, 2) := by decide +kernel
theorem dX5_expire_139 : decode cX5_expire 139 = .ok (.iconst 3, 1) := by decide +kernel
theorem dX5_expire_140 : decode cX5_expire 140 = .ok (.if_icmp .ne 8, 3) := by decide +kernel
theorem dX5_expire_143 : decode cX5_expire 143 = .ok (.aload_n 0, 1) := by decide +kernel
theorem dX5_expire_144 : decode cX5_expire 144 = .ok (.iload_n 2, 1) := by decide +kernel
theorem dX5_expire_145 : decode cX5_expire 145 = .ok (.invokevirtual 97, 3) := by decide +kernel
theorem dX5_expire_148 : decode cX5_expire 148 = .ok (.iload 5, 2) := by decide +kernel
theorem dX5_expire_150 : decode cX5_expire 150 = .ok (.iconst 2, 1) := by decide +kernel
theorem dX5_expire_151 : decode cX5_expire 151 = .ok (.if_icmp .ge 8, 3) := by decide +kernel
theorem dX5_expire_154 : decode cX5_expire 154 = .ok (.bipush (-4), 2) := by decide +kernel
theorem dX5_expire_156 : decode cX5_expire 156 = .ok (.goto 4, 3) := by decide +kernel
theorem dX5_expire_159 : decode cX5_expire 159 = .ok (.iconst 1, 1) := by decide +kernel
theorem dX5_expire_160 : decode cX5_expire 160 = .ok (.ireturn, 1) := by decide +kernel
theorem dX5_crash_0 : decode cX5_crash 0 = .ok (.iload_n 1, 1) := by decide +kernel
theorem dX5_crash_1 : decode cX5_crash 1 = .ok (.invokestatic 122, 3) := by decide +kernel
theorem dX5_crash_4 : decode cX5_crash 4 = .ok (.ifCond .eq 6, 3) := by decide +kernel
theorem dX5_crash_7 : decode cX5_crash 7 = .ok (.bipush (-2), 2) := by decide +kernel
theorem dX5_crash_9 : decode cX5_crash 9 = .ok (.ireturn, 1) := by decide +kernel
theorem dX5_crash_10 : decode cX5_crash 10 = .ok (.aload_n 0, 1) := by decide +kernel
theorem dX5_crash_11 : decode cX5_crash 11 = .ok (.getfield 7, 3) := by decide +kernel
theorem dX5_crash_14 : decode cX5_crash 14 = .ok (.iload_n 1, 1) := by decide +kernel
theorem dX5_crash_15 : decode cX5_crash 15 = .ok (.baload, 1) := by decide +kernel
theorem dX5_crash_16 : decode cX5_crash 16 = .ok (.ifCond .eq 6, 3) := by decide +kernel
theorem dX5_crash_19 : decode cX5_crash 19 = .ok (.bipush (-3), 2) := by decide +kernel
theorem dX5_crash_21 : decode cX5_crash 21 = .ok (.ireturn, 1) := by decide +kernel
theorem dX5_crash_22 : decode cX5_crash 22 = .ok (.aload_n 0, 1) := by decide +kernel
theorem dX5_crash_23 : decode cX5_crash 23 = .ok (.getfield 7, 3) := by decide +kernel
theorem dX5_crash_26 : decode cX5_crash 26 = .ok (.iload_n 1, 1) := by decide +kernel
theorem dX5_crash_27 : decode cX5_crash 27 = .ok (.iconst 1, 1) := by decide +kernel
theorem dX5_crash_28 : decode cX5_crash 28 = .ok (.bastore, 1) := by decide +kernel
theorem dX5_crash_29 : decode cX5_crash 29 = .ok (.iconst 0, 1) := by decide +kernel
theorem dX5_crash_30 : decode cX5_crash 30 = .ok (.istore_n 2, 1) := by decide +kernel
theorem dX5_crash_31 : decode cX5_crash 31 = .ok (.iload_n 2, 1) := by decide +kernel
theorem dX5_crash_32 : decode cX5_crash 32 = .ok (.aload_n 0, 1) := by decide +kernel
theorem dX5_crash_33 : decode cX5_crash 33 = .ok (.getfield 68, 3) := by decide +kernel
theorem dX5_crash_36 : decode cX5_crash 36 = .ok (.if_icmp .ge 30, 3) := by decide +kernel
theorem dX5_crash_39 : decode cX5_crash 39 = .ok (.aload_n 0, 1) := by decide +kernel
theorem dX5_crash_40 : decode cX5_crash 40 = .ok (.iload_n 1, 1) := by decide +kernel
theorem dX5_crash_41 : decode cX5_crash 41 = .ok (.iload_n 2, 1) := by decide +kernel
theorem dX5_crash_42 : decode cX5_crash 42 = .ok (.invokevirtual 79, 3) := by decide +kernel
theorem dX5_crash_45 : decode cX5_crash 45 = .ok (.aload_n 0, 1) := by decide +kernel
theorem dX5_crash_46 : decode cX5_crash 46 = .ok (.getfield 17, 3) := by decide +kernel
theorem dX5_crash_49 : decode cX5_crash 49 = .ok (.iload_n 2, 1) := by decide +kernel
theorem dX5_crash_50 : decode cX5_crash 50 = .ok (.iaload, 1) := by decide +kernel
theorem dX5_crash_51 : decode cX5_crash 51 = .ok (.iload_n 1, 1) := by decide +kernel
theorem dX5_crash_52 : decode cX5_crash 52 = .ok (.if_icmp .ne 8, 3) := by decide +kernel
theorem dX5_crash_55 : decode cX5_crash 55 = .ok (.aload_n 0, 1) := by decide +kernel
theorem dX5_crash_56 : decode cX5_crash 56 = .ok (.iload_n 2, 1) := by decide +kernel
theorem dX5_crash_57 : decode cX5_crash 57 = .ok (.invokevirtual 86, 3) := by decide +kernel
theorem dX5_crash_60 : decode cX5_crash 60 = .ok (.iinc 2 1, 3) := by decide +kernel
theorem dX5_crash_63 : decode cX5_crash 63 = .ok (.goto (-32), 3) := by decide +kernel
theorem dX5_crash_66 : decode cX5_crash 66 = .ok (.iconst 0, 1) := by decide +kernel
theorem dX5_crash_67 : decode cX5_crash 67 = .ok (.istore_n 2, 1) := by decide +kernel
theorem dX5_crash_68 : decode cX5_crash 68 = .ok (.aload_n 0, 1) := by decide +kernel
theorem dX5_crash_69 : decode cX5_crash 69 = .ok (.getfield 41, 3) := by decide +kernel
theorem dX5_crash_72 : decode cX5_crash 72 = .ok (.iload_n 1, 1) := by decide +kernel
theorem dX5_crash_73 : decode cX5_crash 73 = .ok (.iaload, 1) := by decide +kernel
theorem dX5_crash_74 : decode cX5_crash 74 = .ok (.ifCond .le 40, 3) := by decide +kernel
theorem dX5_crash_77 : decode cX5_crash 77 = .ok (.aload_n 0, 1) := by decide +kernel
theorem dX5_crash_78 : decode cX5_crash 78 = .ok (.getfield 53, 3) := by decide +kernel
theorem dX5_crash_81 : decode cX5_crash 81 = .ok (.bipush 64, 2) := by decide +kernel
theorem dX5_crash_83 : decode cX5_crash 83 = .ok (.iload_n 1, 1) := by decide +kernel
theorem dX5_crash_84 : decode cX5_crash 84 = .ok (.imul, 1) := by decide +kernel
theorem dX5_crash_85 : decode cX5_crash 85 = .ok (.aload_n 0, 1) := by decide +kernel
theorem dX5_crash_86 : decode cX5_crash 86 = .ok (.getfield 41, 3) := by decide +kernel
theorem dX5_crash_89 : decode cX5_crash 89 = .ok (.iload_n 1, 1) := by decide +kernel
theorem dX5_crash_90 : decode cX5_crash 90 = .ok (.iaload, 1) := by decide +kernel
theorem dX5_crash_91 : decode cX5_crash 91 = .ok (.iadd, 1) := by decide +kernel
theorem dX5_crash_92 : decode cX5_crash 92 = .ok (.iconst 1, 1) := by decide +kernel
theorem dX5_crash_93 : decode cX5_crash 93 = .ok (.isub, 1) := by decide +kernel
theorem dX5_crash_94 : decode cX5_crash 94 = .ok (.baload, 1) := by decide +kernel
theorem dX5_crash_95 : decode cX5_crash 95 = .ok (.ifCond .ne 19, 3) := by decide +kernel
theorem dX5_crash_98 : decode cX5_crash 98 = .ok (.aload_n 0, 1) := by decide +kernel
theorem dX5_crash_99 : decode cX5_crash 99 = .ok (.getfield 41, 3) := by decide +kernel
theorem dX5_crash_102 : decode cX5_crash 102 = .ok (.iload_n 1, 1) := by decide +kernel
theorem dX5_crash_103 : decode cX5_crash 103 = .ok (.dup2, 1) := by decide +kernel
theorem dX5_crash_104 : decode cX5_crash 104 = .ok (.iaload, 1) := by decide +kernel
theorem dX5_crash_105 : decode cX5_crash 105 = .ok (.iconst 1, 1) := by decide +kernel
theorem dX5_crash_106 : decode cX5_crash 106 = .ok (.isub, 1) := by decide +kernel
theorem dX5_crash_107 : decode cX5_crash 107 = .ok (.iastore, 1) := by decide +kernel
theorem dX5_crash_108 : decode cX5_crash 108 = .ok (.iinc 2 1, 3) := by decide +kernel
theorem dX5_crash_111 : decode cX5_crash 111 = .ok (.goto (-43), 3) := by decide +kernel
theorem dX5_crash_114 : decode cX5_crash 114 = .ok (.iload_n 2, 1) := by decide +kernel
theorem dX5_crash_115 : decode cX5_crash 115 = .ok (.ireturn, 1) := by decide +kernel
theorem dX5_recover_0 : decode cX5_recover 0 = .ok (.iload_n 1, 1) := by decide +kernel
theorem dX5_recover_1 : decode cX5_recover 1 = .ok (.invokestatic 122, 3) := by decide +kernel
theorem dX5_recover_4 : decode cX5_recover 4 = .ok (.ifCond .eq 6, 3) := by decide +kernel
theorem dX5_recover_7 : decode cX5_recover 7 = .ok (.bipush (-2), 2) := by decide +kernel
theorem dX5_recover_9 : decode cX5_recover 9 = .ok (.ireturn, 1) := by decide +kernel
theorem dX5_recover_10 : decode cX5_recover 10 = .ok (.aload_n 0, 1) := by decide +kernel
theorem dX5_recover_11 : decode cX5_recover 11 = .ok (.getfield 7, 3) := by decide +kernel
theorem dX5_recover_14 : decode cX5_recover 14 = .ok (.iload_n 1, 1) := by decide +kernel
theorem dX5_recover_15 : decode cX5_recover 15 = .ok (.baload, 1) := by decide +kernel
theorem dX5_recover_16 : decode cX5_recover 16 = .ok (.ifCond .ne 6, 3) := by decide +kernel
theorem dX5_recover_19 : decode cX5_recover 19 = .ok (.bipush (-4), 2) := by decide +kernel
theorem dX5_recover_21 : decode cX5_recover 21 = .ok (.ireturn, 1) := by decide +kernel
theorem dX5_recover_22 : decode cX5_recover 22 = .ok (.aload_n 0, 1) := by decide +kernel
theorem dX5_recover_23 : decode cX5_recover 23 = .ok (.getfield 7, 3) := by decide +kernel
theorem dX5_recover_26 : decode cX5_recover 26 = .ok (.iload_n 1, 1) := by decide +kernel
theorem dX5_recover_27 : decode cX5_recover 27 = .ok (.iconst 0, 1) := by decide +kernel
theorem dX5_recover_28 : decode cX5_recover 28 = .ok (.bastore, 1) := by decide +kernel
theorem dX5_recover_29 : decode cX5_recover 29 = .ok (.iconst 0, 1) := by decide +kernel
theorem dX5_recover_30 : decode cX5_recover 30 = .ok (.istore_n 2, 1) := by decide +kernel
theorem dX5_recover_31 : decode cX5_recover 31 = .ok (.iconst 0, 1) := by decide +kernel
theorem dX5_recover_32 : decode cX5_recover 32 = .ok (.istore_n 3, 1) := by decide +kernel
theorem dX5_recover_33 : decode cX5_recover 33 = .ok (.iload_n 3, 1) := by decide +kernel
theorem dX5_recover_34 : decode cX5_recover 34 = .ok (.aload_n 0, 1) := by decide +kernel
theorem dX5_recover_35 : decode cX5_recover 35 = .ok (.getfield 68, 3) := by decide +kernel
theorem dX5_recover_38 : decode cX5_recover 38 = .ok (.if_icmp .ge 27, 3) := by decide +kernel
theorem dX5_recover_41 : decode cX5_recover 41 = .ok (.iload_n 2, 1) := by decide +kernel
theorem dX5_recover_42 : decode cX5_recover 42 = .ok (.aload_n 0, 1) := by decide +kernel
theorem dX5_recover_43 : decode cX5_recover 43 = .ok (.iload_n 1, 1) := by decide +kernel
theorem dX5_recover_44 : decode cX5_recover 44 = .ok (.iload_n 3, 1) := by decide +kernel
theorem dX5_recover_45 : decode cX5_recover 45 = .ok (.invokevirtual 139, 3) := by decide +kernel
theorem dX5_recover_48 : decode cX5_recover 48 = .ok (.iadd, 1) := by decide +kernel
theorem dX5_recover_49 : decode cX5_recover 49 = .ok (.istore_n 2, 1) := by decide +kernel
theorem dX5_recover_50 : decode cX5_recover 50 = .ok (.iload_n 2, 1) := by decide +kernel
theorem dX5_recover_51 : decode cX5_recover 51 = .ok (.aload_n 0, 1) := by decide +kernel
theorem dX5_recover_52 : decode cX5_recover 52 = .ok (.iload_n 1, 1) := by decide +kernel
theorem dX5_recover_53 : decode cX5_recover 53 = .ok (.iload_n 3, 1) := by decide +kernel
theorem dX5_recover_54 : decode cX5_recover 54 = .ok (.invokevirtual 142, 3) := by decide +kernel
theorem dX5_recover_57 : decode cX5_recover 57 = .ok (.iadd, 1) := by decide +kernel
theorem dX5_recover_58 : decode cX5_recover 58 = .ok (.istore_n 2, 1) := by decide +kernel
theorem dX5_recover_59 : decode cX5_recover 59 = .ok (.iinc 3 1, 3) := by decide +kernel
theorem dX5_recover_62 : decode cX5_recover 62 = .ok (.goto (-29), 3) := by decide +kernel
theorem dX5_recover_65 : decode cX5_recover 65 = .ok (.iload_n 2, 1) := by decide +kernel
theorem dX5_recover_66 : decode cX5_recover 66 = .ok (.ireturn, 1) := by decide +kernel
theorem dX5_recoverMember_0 : decode cX5_recoverMember 0 = .ok (.aload_n 0, 1) := by decide +kernel
theorem dX5_recoverMember_1 : decode cX5_recoverMember 1 = .ok (.iload_n 1, 1) := by decide +kernel
theorem dX5_recoverMember_2 : decode cX5_recoverMember 2 = .ok (.iload_n 2, 1) := by decide +kernel
theorem dX5_recoverMember_3 : decode cX5_recoverMember 3 = .ok (.iconst 1, 1) := by decide +kernel
theorem dX5_recoverMember_4 : decode cX5_recoverMember 4 = .ok (.invokevirtual 135, 3) := by decide +kernel
theorem dX5_recoverMember_7 : decode cX5_recoverMember 7 = .ok (.istore_n 3, 1) := by decide +kernel
theorem dX5_recoverMember_8 : decode cX5_recoverMember 8 = .ok (.iload_n 3, 1) := by decide +kernel
theorem dX5_recoverMember_9 : decode cX5_recoverMember 9 = .ok (.ifCond .lt 23, 3) := by decide +kernel
theorem dX5_recoverMember_12 : decode cX5_recoverMember 12 = .ok (.aload_n 0, 1) := by decide +kernel
theorem dX5_recoverMember_13 : decode cX5_recoverMember 13 = .ok (.iload_n 1, 1) := by decide +kernel
theorem dX5_recoverMember_14 : decode cX5_recoverMember 14 = .ok (.iload_n 2, 1) := by decide +kernel
theorem dX5_recoverMember_15 : decode cX5_recoverMember 15 = .ok (.iconst 2, 1) := by decide +kernel
theorem dX5_recoverMember_16 : decode cX5_recoverMember 16 = .ok (.invokevirtual 135, 3) := by decide +kernel
theorem dX5_recoverMember_19 : decode cX5_recoverMember 19 = .ok (.ifCond .ge 13, 3) := by decide +kernel
theorem dX5_recoverMember_22 : decode cX5_recoverMember 22 = .ok (.aload_n 0, 1) := by decide +kernel
theorem dX5_recoverMember_23 : decode cX5_recoverMember 23 = .ok (.iload_n 1, 1) := by decide +kernel
theorem dX5_recoverMember_24 : decode cX5_recoverMember 24 = .ok (.iload_n 2, 1) := by decide +kernel
theorem dX5_recoverMember_25 : decode cX5_recoverMember 25 = .ok (.iconst 3, 1) := by decide +kernel
theorem dX5_recoverMember_26 : decode cX5_recoverMember 26 = .ok (.invokevirtual 135, 3) := by decide +kernel
theorem dX5_recoverMember_29 : decode cX5_recoverMember 29 = .ok (.ifCond .lt 5, 3) := by decide +kernel
theorem dX5_recoverMember_32 : decode cX5_recoverMember 32 = .ok (.iconst 0, 1) := by decide +kernel
theorem dX5_recoverMember_33 : decode cX5_recoverMember 33 = .ok (.ireturn, 1) := by decide +kernel
theorem dX5_recoverMember_34 : decode cX5_recoverMember 34 = .ok (.aload_n 0, 1) := by decide +kernel
theorem dX5_recoverMember_35 : decode cX5_recoverMember 35 = .ok (.getfield 35, 3) := by decide +kernel
theorem dX5_recoverMember_38 : decode cX5_recoverMember 38 = .ok (.iconst 4, 1) := by decide +kernel
theorem dX5_recoverMember_39 : decode cX5_recoverMember 39 = .ok (.iload_n 2, 1) := by decide +kernel
theorem dX5_recoverMember_40 : decode cX5_recoverMember 40 = .ok (.imul, 1) := by decide +kernel
theorem dX5_recoverMember_41 : decode cX5_recoverMember 41 = .ok (.iload_n 1, 1) := by decide +kernel
theorem dX5_recoverMember_42 : decode cX5_recoverMember 42 = .ok (.iadd, 1) := by decide +kernel
theorem dX5_recoverMember_43 : decode cX5_recoverMember 43 = .ok (.iconst 3, 1) := by decide +kernel
theorem dX5_recoverMember_44 : decode cX5_recoverMember 44 = .ok (.iastore, 1) := by decide +kernel
theorem dX5_recoverMember_45 : decode cX5_recoverMember 45 = .ok (.iconst 0, 1) := by decide +kernel
theorem dX5_recoverMember_46 : decode cX5_recoverMember 46 = .ok (.istore 4, 2) := by decide +kernel
theorem dX5_recoverMember_48 : decode cX5_recoverMember 48 = .ok (.iload 4, 2) := by decide +kernel
theorem dX5_recoverMember_50 : decode cX5_recoverMember 50 = .ok (.bipush 8, 2) := by decide +kernel
theorem dX5_recoverMember_52 : decode cX5_recoverMember 52 = .ok (.if_icmp .ge 54, 3) := by decide +kernel
theorem dX5_recoverMember_55 : decode cX5_recoverMember 55 = .ok (.aload_n 0, 1) := by decide +kernel
theorem dX5_recoverMember_56 : decode cX5_recoverMember 56 = .ok (.getfield 38, 3) := by decide +kernel
theorem dX5_recoverMember_59 : decode cX5_recoverMember 59 = .ok (.bipush 8, 2) := by decide +kernel
theorem dX5_recoverMember_61 : decode cX5_recoverMember 61 = .ok (.iload_n 1, 1) := by decide +kernel
theorem dX5_recoverMember_62 : decode cX5_recoverMember 62 = .ok (.imul, 1) := by decide +kernel
theorem dX5_recoverMember_63 : decode cX5_recoverMember 63 = .ok (.iload 4, 2) := by decide +kernel
theorem dX5_recoverMember_65 : decode cX5_recoverMember 65 = .ok (.iadd, 1) := by decide +kernel
theorem dX5_recoverMember_66 : decode cX5_recoverMember 66 = .ok (.aload_n 0, 1) := by decide +kernel
theorem dX5_recoverMember_67 : decode cX5_recoverMember 67 = .ok (.getfield 50, 3) := by decide +kernel
theorem dX5_recoverMember_70 : decode cX5_recoverMember 70 = .ok (.iload_n 3, 1) := by decide +kernel
theorem dX5_recoverMember_71 : decode cX5_recoverMember 71 = .ok (.iaload, 1) := by decide +kernel
theorem dX5_recoverMember_72 : decode cX5_recoverMember 72 = .ok (.iload 4, 2) := by decide +kernel
theorem dX5_recoverMember_74 : decode cX5_recoverMember 74 = .ok (.ishr, 1) := by decide +kernel
theorem dX5_recoverMember_75 : decode cX5_recoverMember 75 = .ok (.iconst 1, 1) := by decide +kernel
theorem dX5_recoverMember_76 : decode cX5_recoverMember 76 = .ok (.iand, 1) := by decide +kernel
theorem dX5_recoverMember_77 : decode cX5_recoverMember 77 = .ok (.iconst 1, 1) := by decide +kernel
theorem dX5_recoverMember_78 : decode cX5_recoverMember 78 = .ok (.if_icmp .ne 9, 3) := by decide +kernel
theorem dX5_recoverMember_81 : decode cX5_recoverMember 81 = .ok (.iload_n 2, 1) := by decide +kernel
theorem dX5_recoverMember_82 : decode cX5_recoverMember 82 = .ok (.iconst 1, 1) := by decide +kernel
theorem dX5_recoverMember_83 : decode cX5_recoverMember 83 = .ok (.iadd, 1) := by decide +kernel
theorem dX5_recoverMember_84 : decode cX5_recoverMember 84 = .ok (.goto 15, 3) := by decide +kernel
theorem dX5_recoverMember_87 : decode cX5_recoverMember 87 = .ok (.aload_n 0, 1) := by decide +kernel
theorem dX5_recoverMember_88 : decode cX5_recoverMember 88 = .ok (.getfield 38, 3) := by decide +kernel
theorem dX5_recoverMember_91 : decode cX5_recoverMember 91 = .ok (.bipush 8, 2) := by decide +kernel
theorem dX5_recoverMember_93 : decode cX5_recoverMember 93 = .ok (.iload_n 1, 1) := by decide +kernel
theorem dX5_recoverMember_94 : decode cX5_recoverMember 94 = .ok (.imul, 1) := by decide +kernel
theorem dX5_recoverMember_95 : decode cX5_recoverMember 95 = .ok (.iload 4, 2) := by decide +kernel
theorem dX5_recoverMember_97 : decode cX5_recoverMember 97 = .ok (.iadd, 1) := by decide +kernel
theorem dX5_recoverMember_98 : decode cX5_recoverMember 98 = .ok (.iaload, 1) := by decide +kernel
theorem dX5_recoverMember_99 : decode cX5_recoverMember 99 = .ok (.iastore, 1) := by decide +kernel
theorem dX5_recoverMember_100 : decode cX5_recoverMember 100 = .ok (.iinc 4 1, 3) := by decide +kernel
theorem dX5_recoverMember_103 : decode cX5_recoverMember 103 = .ok (.goto (-55), 3) := by decide +kernel
theorem dX5_recoverMember_106 : decode cX5_recoverMember 106 = .ok (.iconst 1, 1) := by decide +kernel
theorem dX5_recoverMember_107 : decode cX5_recoverMember 107 = .ok (.ireturn, 1) := by decide +kernel
theorem dX5_logged_0 : decode cX5_logged 0 = .ok (.iconst 0, 1) := by decide +kernel
theorem dX5_logged_1 : decode cX5_logged 1 = .ok (.istore 4, 2) := by decide +kernel
theorem dX5_logged_3 : decode cX5_logged 3 = .ok (.iload 4, 2) := by decide +kernel
theorem dX5_logged_5 : decode cX5_logged 5 = .ok (.aload_n 0, 1) := by decide +kernel
theorem dX5_logged_6 : decode cX5_logged 6 = .ok (.getfield 41, 3) := by decide +kernel
theorem dX5_logged_9 : decode cX5_logged 9 = .ok (.iload_n 1, 1) := by decide +kernel
theorem dX5_logged_10 : decode cX5_logged 10 = .ok (.iaload, 1) := by decide +kernel
theorem dX5_logged_11 : decode cX5_logged 11 = .ok (.if_icmp .ge 49, 3) := by decide +kernel
theorem dX5_logged_14 : decode cX5_logged 14 = .ok (.aload_n 0, 1) := by decide +kernel
theorem dX5_logged_15 : decode cX5_logged 15 = .ok (.getfield 44, 3) := by decide +kernel
theorem dX5_logged_18 : decode cX5_logged 18 = .ok (.bipush 64, 2) := by decide +kernel
theorem dX5_logged_20 : decode cX5_logged 20 = .ok (.iload_n 1, 1) := by decide +kernel
theorem dX5_logged_21 : decode cX5_logged 21 = .ok (.imul, 1) := by decide +kernel
theorem dX5_logged_22 : decode cX5_logged 22 = .ok (.iload 4, 2) := by decide +kernel
theorem dX5_logged_24 : decode cX5_logged 24 = .ok (.iadd, 1) := by decide +kernel
theorem dX5_logged_25 : decode cX5_logged 25 = .ok (.iaload, 1) := by decide +kernel
theorem dX5_logged_26 : decode cX5_logged 26 = .ok (.iload_n 2, 1) := by decide +kernel
theorem dX5_logged_27 : decode cX5_logged 27 = .ok (.if_icmp .ne 27, 3) := by decide +kernel
theorem dX5_logged_30 : decode cX5_logged 30 = .ok (.aload_n 0, 1) := by decide +kernel
theorem dX5_logged_31 : decode cX5_logged 31 = .ok (.getfield 47, 3) := by decide +kernel
theorem dX5_logged_34 : decode cX5_logged 34 = .ok (.bipush 64, 2) := by decide +kernel
theorem dX5_logged_36 : decode cX5_logged 36 = .ok (.iload_n 1, 1) := by decide +kernel
theorem dX5_logged_37 : decode cX5_logged 37 = .ok (.imul, 1) := by decide +kernel
theorem dX5_logged_38 : decode cX5_logged 38 = .ok (.iload 4, 2) := by decide +kernel
theorem dX5_logged_40 : decode cX5_logged 40 = .ok (.iadd, 1) := by decide +kernel
theorem dX5_logged_41 : decode cX5_logged 41 = .ok (.iaload, 1) := by decide +kernel
theorem dX5_logged_42 : decode cX5_logged 42 = .ok (.iload_n 3, 1) := by decide +kernel
theorem dX5_logged_43 : decode cX5_logged 43 = .ok (.if_icmp .ne 11, 3) := by decide +kernel
theorem dX5_logged_46 : decode cX5_logged 46 = .ok (.bipush 64, 2) := by decide +kernel
theorem dX5_logged_48 : decode cX5_logged 48 = .ok (.iload_n 1, 1) := by decide +kernel
theorem dX5_logged_49 : decode cX5_logged 49 = .ok (.imul, 1) := by decide +kernel
theorem dX5_logged_50 : decode cX5_logged 50 = .ok (.iload 4, 2) := by decide +kernel
theorem dX5_logged_52 : decode cX5_logged 52 = .ok (.iadd, 1) := by decide +kernel
theorem dX5_logged_53 : decode cX5_logged 53 = .ok (.ireturn, 1) := by decide +kernel
theorem dX5_logged_54 : decode cX5_logged 54 = .ok (.iinc 4 1, 3) := by decide +kernel
theorem dX5_logged_57 : decode cX5_logged 57 = .ok (.goto (-54), 3) := by decide +kernel
theorem dX5_logged_60 : decode cX5_logged 60 = .ok (.iconst (-1), 1) := by decide +kernel
theorem dX5_logged_61 : decode cX5_logged 61 = .ok (.ireturn, 1) := by decide +kernel
theorem dX5_recoverChief_0 : decode cX5_recoverChief 0 = .ok (.aload_n 0, 1) := by decide +kernel
theorem dX5_recoverChief_1 : decode cX5_recoverChief 1 = .ok (.iload_n 1, 1) := by decide +kernel
theorem dX5_recoverChief_2 : decode cX5_recoverChief 2 = .ok (.iload_n 2, 1) := by decide +kernel
theorem dX5_recoverChief_3 : decode cX5_recoverChief 3 = .ok (.iconst 4, 1) := by decide +kernel
theorem dX5_recoverChief_4 : decode cX5_recoverChief 4 = .ok (.invokevirtual 135, 3) := by decide +kernel
theorem dX5_recoverChief_7 : decode cX5_recoverChief 7 = .ok (.istore_n 3, 1) := by decide +kernel
theorem dX5_recoverChief_8 : decode cX5_recoverChief 8 = .ok (.iload_n 3, 1) := by decide +kernel
theorem dX5_recoverChief_9 : decode cX5_recoverChief 9 = .ok (.ifCond .lt 14, 3) := by decide +kernel
theorem dX5_recoverChief_12 : decode cX5_recoverChief 12 = .ok (.aload_n 0, 1) := by decide +kernel
theorem dX5_recoverChief_13 : decode cX5_recoverChief 13 = .ok (.iload_n 1, 1) := by decide +kernel
theorem dX5_recoverChief_14 : decode cX5_recoverChief 14 = .ok (.iload_n 2, 1) := by decide +kernel
theorem dX5_recoverChief_15 : decode cX5_recoverChief 15 = .ok (.bipush 6, 2) := by decide +kernel
theorem dX5_recoverChief_17 : decode cX5_recoverChief 17 = .ok (.invokevirtual 135, 3) := by decide +kernel
theorem dX5_recoverChief_20 : decode cX5_recoverChief 20 = .ok (.ifCond .lt 5, 3) := by decide +kernel
theorem dX5_recoverChief_23 : decode cX5_recoverChief 23 = .ok (.iconst 0, 1) := by decide +kernel
theorem dX5_recoverChief_24 : decode cX5_recoverChief 24 = .ok (.ireturn, 1) := by decide +kernel
theorem dX5_recoverChief_25 : decode cX5_recoverChief 25 = .ok (.aload_n 0, 1) := by decide +kernel
theorem dX5_recoverChief_26 : decode cX5_recoverChief 26 = .ok (.getfield 20, 3) := by decide +kernel
theorem dX5_recoverChief_29 : decode cX5_recoverChief 29 = .ok (.iload_n 2, 1) := by decide +kernel
theorem dX5_recoverChief_30 : decode cX5_recoverChief 30 = .ok (.iconst 3, 1) := by decide +kernel
theorem dX5_recoverChief_31 : decode cX5_recoverChief 31 = .ok (.iastore, 1) := by decide +kernel
theorem dX5_recoverChief_32 : decode cX5_recoverChief 32 = .ok (.iconst 0, 1) := by decide +kernel
theorem dX5_recoverChief_33 : decode cX5_recoverChief 33 = .ok (.istore 4, 2) := by decide +kernel
theorem dX5_recoverChief_35 : decode cX5_recoverChief 35 = .ok (.iload 4, 2) := by decide +kernel
theorem dX5_recoverChief_37 : decode cX5_recoverChief 37 = .ok (.iconst 4, 1) := by decide +kernel
theorem dX5_recoverChief_38 : decode cX5_recoverChief 38 = .ok (.if_icmp .ge 70, 3) := by decide +kernel
theorem dX5_recoverChief_41 : decode cX5_recoverChief 41 = .ok (.aload_n 0, 1) := by decide +kernel
theorem dX5_recoverChief_42 : decode cX5_recoverChief 42 = .ok (.getfield 50, 3) := by decide +kernel
theorem dX5_recoverChief_45 : decode cX5_recoverChief 45 = .ok (.iload_n 3, 1) := by decide +kernel
theorem dX5_recoverChief_46 : decode cX5_recoverChief 46 = .ok (.iaload, 1) := by decide +kernel
theorem dX5_recoverChief_47 : decode cX5_recoverChief 47 = .ok (.iload 4, 2) := by decide +kernel
theorem dX5_recoverChief_49 : decode cX5_recoverChief 49 = .ok (.ishr, 1) := by decide +kernel
theorem dX5_recoverChief_50 : decode cX5_recoverChief 50 = .ok (.iconst 1, 1) := by decide +kernel
theorem dX5_recoverChief_51 : decode cX5_recoverChief 51 = .ok (.iand, 1) := by decide +kernel
theorem dX5_recoverChief_52 : decode cX5_recoverChief 52 = .ok (.iconst 1, 1) := by decide +kernel
theorem dX5_recoverChief_53 : decode cX5_recoverChief 53 = .ok (.if_icmp .ne 7, 3) := by decide +kernel
theorem dX5_recoverChief_56 : decode cX5_recoverChief 56 = .ok (.iconst 1, 1) := by decide +kernel
theorem dX5_recoverChief_57 : decode cX5_recoverChief 57 = .ok (.goto 4, 3) := by decide +kernel
theorem dX5_recoverChief_60 : decode cX5_recoverChief 60 = .ok (.iconst 0, 1) := by decide +kernel
theorem dX5_recoverChief_61 : decode cX5_recoverChief 61 = .ok (.istore 5, 2) := by decide +kernel
theorem dX5_recoverChief_63 : decode cX5_recoverChief 63 = .ok (.aload_n 0, 1) := by decide +kernel
theorem dX5_recoverChief_64 : decode cX5_recoverChief 64 = .ok (.getfield 23, 3) := by decide +kernel
theorem dX5_recoverChief_67 : decode cX5_recoverChief 67 = .ok (.iconst 4, 1) := by decide +kernel
theorem dX5_recoverChief_68 : decode cX5_recoverChief 68 = .ok (.iload_n 2, 1) := by decide +kernel
theorem dX5_recoverChief_69 : decode cX5_recoverChief 69 = .ok (.imul, 1) := by decide +kernel
theorem dX5_recoverChief_70 : decode cX5_recoverChief 70 = .ok (.iload 4, 2) := by decide +kernel
theorem dX5_recoverChief_72 : decode cX5_recoverChief 72 = .ok (.iadd, 1) := by decide +kernel
theorem dX5_recoverChief_73 : decode cX5_recoverChief 73 = .ok (.iload 5, 2) := by decide +kernel
theorem dX5_recoverChief_75 : decode cX5_recoverChief 75 = .ok (.bastore, 1) := by decide +kernel
theorem dX5_recoverChief_76 : decode cX5_recoverChief 76 = .ok (.aload_n 0, 1) := by decide +kernel
theorem dX5_recoverChief_77 : decode cX5_recoverChief 77 = .ok (.getfield 26, 3) := by decide +kernel
theorem dX5_recoverChief_80 : decode cX5_recoverChief 80 = .ok (.iconst 4, 1) := by decide +kernel
theorem dX5_recoverChief_81 : decode cX5_recoverChief 81 = .ok (.iload_n 2, 1) := by decide +kernel
theorem dX5_recoverChief_82 : decode cX5_recoverChief 82 = .ok (.imul, 1) := by decide +kernel
theorem dX5_recoverChief_83 : decode cX5_recoverChief 83 = .ok (.iload 4, 2) := by decide +kernel
theorem dX5_recoverChief_85 : decode cX5_recoverChief 85 = .ok (.iadd, 1) := by decide +kernel
theorem dX5_recoverChief_86 : decode cX5_recoverChief 86 = .ok (.iload 5, 2) := by decide +kernel
theorem dX5_recoverChief_88 : decode cX5_recoverChief 88 = .ok (.bastore, 1) := by decide +kernel
theorem dX5_recoverChief_89 : decode cX5_recoverChief 89 = .ok (.aload_n 0, 1) := by decide +kernel
theorem dX5_recoverChief_90 : decode cX5_recoverChief 90 = .ok (.getfield 32, 3) := by decide +kernel
theorem dX5_recoverChief_93 : decode cX5_recoverChief 93 = .ok (.iconst 4, 1) := by decide +kernel
theorem dX5_recoverChief_94 : decode cX5_recoverChief 94 = .ok (.iload_n 2, 1) := by decide +kernel
theorem dX5_recoverChief_95 : decode cX5_recoverChief 95 = .ok (.imul, 1) := by decide +kernel
theorem dX5_recoverChief_96 : decode cX5_recoverChief 96 = .ok (.iload 4, 2) := by decide +kernel
theorem dX5_recoverChief_98 : decode cX5_recoverChief 98 = .ok (.iadd, 1) := by decide +kernel
theorem dX5_recoverChief_99 : decode cX5_recoverChief 99 = .ok (.iload 5, 2) := by decide +kernel
theorem dX5_recoverChief_101 : decode cX5_recoverChief 101 = .ok (.bastore, 1) := by decide +kernel
theorem dX5_recoverChief_102 : decode cX5_recoverChief 102 = .ok (.iinc 4 1, 3) := by decide +kernel
theorem dX5_recoverChief_105 : decode cX5_recoverChief 105 = .ok (.goto (-70), 3) := by decide +kernel
theorem dX5_recoverChief_108 : decode cX5_recoverChief 108 = .ok (.aload_n 0, 1) := by decide +kernel
theorem dX5_recoverChief_109 : decode cX5_recoverChief 109 = .ok (.iload_n 2, 1) := by decide +kernel
theorem dX5_recoverChief_110 : decode cX5_recoverChief 110 = .ok (.invokevirtual 97, 3) := by decide +kernel
theorem dX5_recoverChief_113 : decode cX5_recoverChief 113 = .ok (.iconst 1, 1) := by decide +kernel
theorem dX5_recoverChief_114 : decode cX5_recoverChief 114 = .ok (.ireturn, 1) := by decide +kernel
theorem dX5_up_0 : decode cX5_up 0 = .ok (.iload_n 1, 1) := by decide +kernel
theorem dX5_up_1 : decode cX5_up 1 = .ok (.invokestatic 122, 3) := by decide +kernel
theorem dX5_up_4 : decode cX5_up 4 = .ok (.ifCond .ne 16, 3) := by decide +kernel
theorem dX5_up_7 : decode cX5_up 7 = .ok (.aload_n 0, 1) := by decide +kernel
theorem dX5_up_8 : decode cX5_up 8 = .ok (.getfield 7, 3) := by decide +kernel
theorem dX5_up_11 : decode cX5_up 11 = .ok (.iload_n 1, 1) := by decide +kernel
theorem dX5_up_12 : decode cX5_up 12 = .ok (.baload, 1) := by decide +kernel
theorem dX5_up_13 : decode cX5_up 13 = .ok (.ifCond .ne 7, 3) := by decide +kernel
theorem dX5_up_16 : decode cX5_up 16 = .ok (.iconst 1, 1) := by decide +kernel
theorem dX5_up_17 : decode cX5_up 17 = .ok (.goto 4, 3) := by decide +kernel
theorem dX5_up_20 : decode cX5_up 20 = .ok (.iconst 0, 1) := by decide +kernel
theorem dX5_up_21 : decode cX5_up 21 = .ok (.ireturn, 1) := by decide +kernel
theorem dX5_stage_0 : decode cX5_stage 0 = .ok (.aload_n 0, 1) := by decide +kernel
theorem dX5_stage_1 : decode cX5_stage 1 = .ok (.iload_n 1, 1) := by decide +kernel
theorem dX5_stage_2 : decode cX5_stage 2 = .ok (.invokevirtual 126, 3) := by decide +kernel
theorem dX5_stage_5 : decode cX5_stage 5 = .ok (.ifCond .eq 8, 3) := by decide +kernel
theorem dX5_stage_8 : decode cX5_stage 8 = .ok (.bipush (-2), 2) := by decide +kernel
theorem dX5_stage_10 : decode cX5_stage 10 = .ok (.goto 9, 3) := by decide +kernel
theorem dX5_stage_13 : decode cX5_stage 13 = .ok (.aload_n 0, 1) := by decide +kernel
theorem dX5_stage_14 : decode cX5_stage 14 = .ok (.getfield 20, 3) := by decide +kernel
theorem dX5_stage_17 : decode cX5_stage 17 = .ok (.iload_n 1, 1) := by decide +kernel
theorem dX5_stage_18 : decode cX5_stage 18 = .ok (.iaload, 1) := by decide +kernel
theorem dX5_stage_19 : decode cX5_stage 19 = .ok (.ireturn, 1) := by decide +kernel
theorem dX5_nodes_0 : decode cX5_nodes 0 = .ok (.aload_n 0, 1) := by decide +kernel
theorem dX5_nodes_1 : decode cX5_nodes 1 = .ok (.iload_n 1, 1) := by decide +kernel
theorem dX5_nodes_2 : decode cX5_nodes 2 = .ok (.invokevirtual 126, 3) := by decide +kernel
theorem dX5_nodes_5 : decode cX5_nodes 5 = .ok (.ifCond .ne 12, 3) := by decide +kernel
theorem dX5_nodes_8 : decode cX5_nodes 8 = .ok (.iload_n 2, 1) := by decide +kernel
theorem dX5_nodes_9 : decode cX5_nodes 9 = .ok (.ifCond .lt 8, 3) := by decide +kernel
theorem dX5_nodes_12 : decode cX5_nodes 12 = .ok (.iload_n 2, 1) := by decide +kernel
theorem dX5_nodes_13 : decode cX5_nodes 13 = .ok (.iconst 3, 1) := by decide +kernel
theorem dX5_nodes_14 : decode cX5_nodes 14 = .ok (.if_icmp .le 8, 3) := by decide +kernel
theorem dX5_nodes_17 : decode cX5_nodes 17 = .ok (.bipush (-2), 2) := by decide +kernel
theorem dX5_nodes_19 : decode cX5_nodes 19 = .ok (.goto 9, 3) := by decide +kernel
theorem dX5_nodes_22 : decode cX5_nodes 22 = .ok (.aload_n 0, 1) := by decide +kernel
theorem dX5_nodes_23 : decode cX5_nodes 23 = .ok (.iload_n 1, 1) := by decide +kernel
theorem dX5_nodes_24 : decode cX5_nodes 24 = .ok (.iload_n 2, 1) := by decide +kernel
theorem dX5_nodes_25 : decode cX5_nodes 25 = .ok (.invokevirtual 90, 3) := by decide +kernel
theorem dX5_nodes_28 : decode cX5_nodes 28 = .ok (.ireturn, 1) := by decide +kernel
theorem dX5_state_0 : decode cX5_state 0 = .ok (.iload_n 1, 1) := by decide +kernel
theorem dX5_state_1 : decode cX5_state 1 = .ok (.invokestatic 122, 3) := by decide +kernel
theorem dX5_state_4 : decode cX5_state 4 = .ok (.ifCond .ne 11, 3) := by decide +kernel
theorem dX5_state_7 : decode cX5_state 7 = .ok (.aload_n 0, 1) := by decide +kernel
theorem dX5_state_8 : decode cX5_state 8 = .ok (.iload_n 2, 1) := by decide +kernel
theorem dX5_state_9 : decode cX5_state 9 = .ok (.invokevirtual 126, 3) := by decide +kernel
theorem dX5_state_12 : decode cX5_state 12 = .ok (.ifCond .eq 8, 3) := by decide +kernel
theorem dX5_state_15 : decode cX5_state 15 = .ok (.bipush (-2), 2) := by decide +kernel
theorem dX5_state_17 : decode cX5_state 17 = .ok (.goto 13, 3) := by decide +kernel
theorem dX5_state_20 : decode cX5_state 20 = .ok (.aload_n 0, 1) := by decide +kernel
theorem dX5_state_21 : decode cX5_state 21 = .ok (.getfield 35, 3) := by decide +kernel
theorem dX5_state_24 : decode cX5_state 24 = .ok (.iconst 4, 1) := by decide +kernel
theorem dX5_state_25 : decode cX5_state 25 = .ok (.iload_n 2, 1) := by decide +kernel
theorem dX5_state_26 : decode cX5_state 26 = .ok (.imul, 1) := by decide +kernel
theorem dX5_state_27 : decode cX5_state 27 = .ok (.iload_n 1, 1) := by decide +kernel
theorem dX5_state_28 : decode cX5_state 28 = .ok (.iadd, 1) := by decide +kernel
theorem dX5_state_29 : decode cX5_state 29 = .ok (.iaload, 1) := by decide +kernel
theorem dX5_state_30 : decode cX5_state 30 = .ok (.ireturn, 1) := by decide +kernel
theorem dX5_holder_0 : decode cX5_holder 0 = .ok (.iload_n 1, 1) := by decide +kernel
theorem dX5_holder_1 : decode cX5_holder 1 = .ok (.invokestatic 122, 3) := by decide +kernel
theorem dX5_holder_4 : decode cX5_holder 4 = .ok (.ifCond .ne 13, 3) := by decide +kernel
theorem dX5_holder_7 : decode cX5_holder 7 = .ok (.iload_n 2, 1) := by decide +kernel
theorem dX5_holder_8 : decode cX5_holder 8 = .ok (.ifCond .lt 9, 3) := by decide +kernel
theorem dX5_holder_11 : decode cX5_holder 11 = .ok (.iload_n 2, 1) := by decide +kernel
theorem dX5_holder_12 : decode cX5_holder 12 = .ok (.bipush 7, 2) := by decide +kernel
theorem dX5_holder_14 : decode cX5_holder 14 = .ok (.if_icmp .le 8, 3) := by decide +kernel
theorem dX5_holder_17 : decode cX5_holder 17 = .ok (.bipush (-2), 2) := by decide +kernel
theorem dX5_holder_19 : decode cX5_holder 19 = .ok (.goto 16, 3) := by decide +kernel
theorem dX5_holder_22 : decode cX5_holder 22 = .ok (.aload_n 0, 1) := by decide +kernel
theorem dX5_holder_23 : decode cX5_holder 23 = .ok (.getfield 38, 3) := by decide +kernel
theorem dX5_holder_26 : decode cX5_holder 26 = .ok (.bipush 8, 2) := by decide +kernel
theorem dX5_holder_28 : decode cX5_holder 28 = .ok (.iload_n 1, 1) := by decide +kernel
theorem dX5_holder_29 : decode cX5_holder 29 = .ok (.imul, 1) := by decide +kernel
theorem dX5_holder_30 : decode cX5_holder 30 = .ok (.iload_n 2, 1) := by decide +kernel
theorem dX5_holder_31 : decode cX5_holder 31 = .ok (.iadd, 1) := by decide +kernel
theorem dX5_holder_32 : decode cX5_holder 32 = .ok (.iaload, 1) := by decide +kernel
theorem dX5_holder_33 : decode cX5_holder 33 = .ok (.iconst 1, 1) := by decide +kernel
theorem dX5_holder_34 : decode cX5_holder 34 = .ok (.isub, 1) := by decide +kernel
theorem dX5_holder_35 : decode cX5_holder 35 = .ok (.ireturn, 1) := by decide +kernel
theorem dX5_records_0 : decode cX5_records 0 = .ok (.iload_n 1, 1) := by decide +kernel
theorem dX5_records_1 : decode cX5_records 1 = .ok (.invokestatic 122, 3) := by decide +kernel
theorem dX5_records_4 : decode cX5_records 4 = .ok (.ifCond .eq 6, 3) := by decide +kernel
theorem dX5_records_7 : decode cX5_records 7 = .ok (.bipush (-2), 2) := by decide +kernel
theorem dX5_records_9 : decode cX5_records 9 = .ok (.ireturn, 1) := by decide +kernel
theorem dX5_records_10 : decode cX5_records 10 = .ok (.iconst 0, 1) := by decide +kernel
theorem dX5_records_11 : decode cX5_records 11 = .ok (.istore_n 3, 1) := by decide +kernel
theorem dX5_records_12 : decode cX5_records 12 = .ok (.iconst 0, 1) := by decide +kernel
theorem dX5_records_13 : decode cX5_records 13 = .ok (.istore 4, 2) := by decide +kernel
theorem dX5_records_15 : decode cX5_records 15 = .ok (.iload 4, 2) := by decide +kernel
theorem dX5_records_17 : decode cX5_records 17 = .ok (.aload_n 0, 1) := by decide +kernel
theorem dX5_records_18 : decode cX5_records 18 = .ok (.getfield 41, 3) := by decide +kernel
theorem dX5_records_21 : decode cX5_records 21 = .ok (.iload_n 1, 1) := by decide +kernel
theorem dX5_records_22 : decode cX5_records 22 = .ok (.iaload, 1) := by decide +kernel
theorem dX5_records_23 : decode cX5_records 23 = .ok (.if_icmp .ge 36, 3) := by decide +kernel
theorem dX5_records_26 : decode cX5_records 26 = .ok (.iload_n 2, 1) := by decide +kernel
theorem dX5_records_27 : decode cX5_records 27 = .ok (.ifCond .eq 18, 3) := by decide +kernel
theorem dX5_records_30 : decode cX5_records 30 = .ok (.aload_n 0, 1) := by decide +kernel
theorem dX5_records_31 : decode cX5_records 31 = .ok (.getfield 53, 3) := by decide +kernel
theorem dX5_records_34 : decode cX5_records 34 = .ok (.bipush 64, 2) := by decide +kernel
theorem dX5_records_36 : decode cX5_records 36 = .ok (.iload_n 1, 1) := by decide +kernel
theorem dX5_records_37 : decode cX5_records 37 = .ok (.imul, 1) := by decide +kernel
theorem dX5_records_38 : decode cX5_records 38 = .ok (.iload 4, 2) := by decide +kernel
theorem dX5_records_40 : decode cX5_records 40 = .ok (.iadd, 1) := by decide +kernel
theorem dX5_records_41 : decode cX5_records 41 = .ok (.baload, 1) := by decide +kernel
theorem dX5_records_42 : decode cX5_records 42 = .ok (.ifCond .eq 9, 3) := by decide +kernel
theorem dX5_records_45 : decode cX5_records 45 = .ok (.iload_n 3, 1) := by decide +kernel
theorem dX5_records_46 : decode cX5_records 46 = .ok (.iconst 1, 1) := by decide +kernel
theorem dX5_records_47 : decode cX5_records 47 = .ok (.iadd, 1) := by decide +kernel
theorem dX5_records_48 : decode cX5_records 48 = .ok (.goto 4, 3) := by decide +kernel
theorem dX5_records_51 : decode cX5_records 51 = .ok (.iload_n 3, 1) := by decide +kernel
theorem dX5_records_52 : decode cX5_records 52 = .ok (.istore_n 3, 1) := by decide +kernel
theorem dX5_records_53 : decode cX5_records 53 = .ok (.iinc 4 1, 3) := by decide +kernel
theorem dX5_records_56 : decode cX5_records 56 = .ok (.goto (-41), 3) := by decide +kernel
theorem dX5_records_59 : decode cX5_records 59 = .ok (.iload_n 3, 1) := by decide +kernel
theorem dX5_records_60 : decode cX5_records 60 = .ok (.ireturn, 1) := by decide +kernel
theorem dX5_entry_0 : decode cX5_entry 0 = .ok (.iload_n 1, 1) := by decide +kernel
theorem dX5_entry_1 : decode cX5_entry 1 = .ok (.invokestatic 122, 3) := by decide +kernel
theorem dX5_entry_4 : decode cX5_entry 4 = .ok (.ifCond .eq 6, 3) := by decide +kernel
theorem dX5_entry_7 : decode cX5_entry 7 = .ok (.bipush (-2), 2) := by decide +kernel
theorem dX5_entry_9 : decode cX5_entry 9 = .ok (.ireturn, 1) := by decide +kernel
theorem dX5_entry_10 : decode cX5_entry 10 = .ok (.aload_n 0, 1) := by decide +kernel
theorem dX5_entry_11 : decode cX5_entry 11 = .ok (.iload_n 1, 1) := by decide +kernel
theorem dX5_entry_12 : decode cX5_entry 12 = .ok (.iload_n 2, 1) := by decide +kernel
theorem dX5_entry_13 : decode cX5_entry 13 = .ok (.invokevirtual 145, 3) := by decide +kernel
theorem dX5_entry_16 : decode cX5_entry 16 = .ok (.ifCond .eq 32, 3) := by decide +kernel
theorem dX5_entry_19 : decode cX5_entry 19 = .ok (.bipush 10, 2) := by decide +kernel
theorem dX5_entry_21 : decode cX5_entry 21 = .ok (.aload_n 0, 1) := by decide +kernel
theorem dX5_entry_22 : decode cX5_entry 22 = .ok (.getfield 44, 3) := by decide +kernel
theorem dX5_entry_25 : decode cX5_entry 25 = .ok (.bipush 64, 2) := by decide +kernel
theorem dX5_entry_27 : decode cX5_entry 27 = .ok (.iload_n 1, 1) := by decide +kernel
theorem dX5_entry_28 : decode cX5_entry 28 = .ok (.imul, 1) := by decide +kernel
theorem dX5_entry_29 : decode cX5_entry 29 = .ok (.iload_n 2, 1) := by decide +kernel
theorem dX5_entry_30 : decode cX5_entry 30 = .ok (.iadd, 1) := by decide +kernel
theorem dX5_entry_31 : decode cX5_entry 31 = .ok (.iaload, 1) := by decide +kernel
theorem dX5_entry_32 : decode cX5_entry 32 = .ok (.imul, 1) := by decide +kernel
theorem dX5_entry_33 : decode cX5_entry 33 = .ok (.aload_n 0, 1) := by decide +kernel
theorem dX5_entry_34 : decode cX5_entry 34 = .ok (.getfield 47, 3) := by decide +kernel
theorem dX5_entry_37 : decode cX5_entry 37 = .ok (.bipush 64, 2) := by decide +kernel
theorem dX5_entry_39 : decode cX5_entry 39 = .ok (.iload_n 1, 1) := by decide +kernel
theorem dX5_entry_40 : decode cX5_entry 40 = .ok (.imul, 1) := by decide +kernel
theorem dX5_entry_41 : decode cX5_entry 41 = .ok (.iload_n 2, 1) := by decide +kernel
theorem dX5_entry_42 : decode cX5_entry 42 = .ok (.iadd, 1) := by decide +kernel
theorem dX5_entry_43 : decode cX5_entry 43 = .ok (.iaload, 1) := by decide +kernel
theorem dX5_entry_44 : decode cX5_entry 44 = .ok (.iadd, 1) := by decide +kernel
theorem dX5_entry_45 : decode cX5_entry 45 = .ok (.goto 4, 3) := by decide +kernel
theorem dX5_entry_48 : decode cX5_entry 48 = .ok (.iconst (-1), 1) := by decide +kernel
theorem dX5_entry_49 : decode cX5_entry 49 = .ok (.ireturn, 1) := by decide +kernel
theorem dX5_isRecord_0 : decode cX5_isRecord 0 = .ok (.iload_n 2, 1) := by decide +kernel
theorem dX5_isRecord_1 : decode cX5_isRecord 1 = .ok (.ifCond .lt 17, 3) := by decide +kernel
theorem dX5_isRecord_4 : decode cX5_isRecord 4 = .ok (.iload_n 2, 1) := by decide +kernel
theorem dX5_isRecord_5 : decode cX5_isRecord 5 = .ok (.aload_n 0, 1) := by decide +kernel
theorem dX5_isRecord_6 : decode cX5_isRecord 6 = .ok (.getfield 41, 3) := by decide +kernel
theorem dX5_isRecord_9 : decode cX5_isRecord 9 = .ok (.iload_n 1, 1) := by decide +kernel
theorem dX5_isRecord_10 : decode cX5_isRecord 10 = .ok (.iaload, 1) := by decide +kernel
theorem dX5_isRecord_11 : decode cX5_isRecord 11 = .ok (.if_icmp .ge 7, 3) := by decide +kernel
theorem dX5_isRecord_14 : decode cX5_isRecord 14 = .ok (.iconst 1, 1) := by decide +kernel
theorem dX5_isRecord_15 : decode cX5_isRecord 15 = .ok (.goto 4, 3) := by decide +kernel
theorem dX5_isRecord_18 : decode cX5_isRecord 18 = .ok (.iconst 0, 1) := by decide +kernel
theorem dX5_isRecord_19 : decode cX5_isRecord 19 = .ok (.ireturn, 1) := by decide +kernel
theorem dX5_content_0 : decode cX5_content 0 = .ok (.iload_n 1, 1) := by decide +kernel
theorem dX5_content_1 : decode cX5_content 1 = .ok (.invokestatic 122, 3) := by decide +kernel
theorem dX5_content_4 : decode cX5_content 4 = .ok (.ifCond .eq 6, 3) := by decide +kernel
theorem dX5_content_7 : decode cX5_content 7 = .ok (.bipush (-2), 2) := by decide +kernel
theorem dX5_content_9 : decode cX5_content 9 = .ok (.ireturn, 1) := by decide +kernel
theorem dX5_content_10 : decode cX5_content 10 = .ok (.aload_n 0, 1) := by decide +kernel
theorem dX5_content_11 : decode cX5_content 11 = .ok (.iload_n 1, 1) := by decide +kernel
theorem dX5_content_12 : decode cX5_content 12 = .ok (.iload_n 2, 1) := by decide +kernel
theorem dX5_content_13 : decode cX5_content 13 = .ok (.invokevirtual 145, 3) := by decide +kernel
theorem dX5_content_16 : decode cX5_content 16 = .ok (.ifCond .eq 17, 3) := by decide +kernel
theorem dX5_content_19 : decode cX5_content 19 = .ok (.aload_n 0, 1) := by decide +kernel
theorem dX5_content_20 : decode cX5_content 20 = .ok (.getfield 50, 3) := by decide +kernel
theorem dX5_content_23 : decode cX5_content 23 = .ok (.bipush 64, 2) := by decide +kernel
theorem dX5_content_25 : decode cX5_content 25 = .ok (.iload_n 1, 1) := by decide +kernel
theorem dX5_content_26 : decode cX5_content 26 = .ok (.imul, 1) := by decide +kernel
theorem dX5_content_27 : decode cX5_content 27 = .ok (.iload_n 2, 1) := by decide +kernel
theorem dX5_content_28 : decode cX5_content 28 = .ok (.iadd, 1) := by decide +kernel
theorem dX5_content_29 : decode cX5_content 29 = .ok (.iaload, 1) := by decide +kernel
theorem dX5_content_30 : decode cX5_content 30 = .ok (.goto 4, 3) := by decide +kernel
theorem dX5_content_33 : decode cX5_content 33 = .ok (.iconst (-1), 1) := by decide +kernel
theorem dX5_content_34 : decode cX5_content 34 = .ok (.ireturn, 1) := by decide +kernel
theorem dX5_messages_0 : decode cX5_messages 0 = .ok (.aload_n 0, 1) := by decide +kernel
theorem dX5_messages_1 : decode cX5_messages 1 = .ok (.getfield 72, 3) := by decide +kernel
theorem dX5_messages_4 : decode cX5_messages 4 = .ok (.ireturn, 1) := by decide +kernel
theorem dX5_message_0 : decode cX5_message 0 = .ok (.iload_n 1, 1) := by decide +kernel
theorem dX5_message_1 : decode cX5_message 1 = .ok (.ifCond .lt 20, 3) := by decide +kernel
theorem dX5_message_4 : decode cX5_message 4 = .ok (.iload_n 1, 1) := by decide +kernel
theorem dX5_message_5 : decode cX5_message 5 = .ok (.aload_n 0, 1) := by decide +kernel
theorem dX5_message_6 : decode cX5_message 6 = .ok (.getfield 72, 3) := by decide +kernel
theorem dX5_message_9 : decode cX5_message 9 = .ok (.if_icmp .ge 12, 3) := by decide +kernel
theorem dX5_message_12 : decode cX5_message 12 = .ok (.iload_n 2, 1) := by decide +kernel
theorem dX5_message_13 : decode cX5_message 13 = .ok (.ifCond .lt 8, 3) := by decide +kernel
theorem dX5_message_16 : decode cX5_message 16 = .ok (.iload_n 2, 1) := by decide +kernel
theorem dX5_message_17 : decode cX5_message 17 = .ok (.iconst 3, 1) := by decide +kernel
theorem dX5_message_18 : decode cX5_message 18 = .ok (.if_icmp .le 6, 3) := by decide +kernel
theorem dX5_message_21 : decode cX5_message 21 = .ok (.bipush (-2), 2) := by decide +kernel
theorem dX5_message_23 : decode cX5_message 23 = .ok (.ireturn, 1) := by decide +kernel
theorem dX5_message_24 : decode cX5_message 24 = .ok (.iload_n 2, 1) := by decide +kernel
theorem dX5_message_25 : decode cX5_message 25 = .ok (.ifCond .ne 12, 3) := by decide +kernel
theorem dX5_message_28 : decode cX5_message 28 = .ok (.aload_n 0, 1) := by decide +kernel
theorem dX5_message_29 : decode cX5_message 29 = .ok (.getfield 56, 3) := by decide +kernel
theorem dX5_message_32 : decode cX5_message 32 = .ok (.iload_n 1, 1) := by decide +kernel
theorem dX5_message_33 : decode cX5_message 33 = .ok (.iaload, 1) := by decide +kernel
theorem dX5_message_34 : decode cX5_message 34 = .ok (.goto 37, 3) := by decide +kernel
theorem dX5_message_37 : decode cX5_message 37 = .ok (.iload_n 2, 1) := by decide +kernel
theorem dX5_message_38 : decode cX5_message 38 = .ok (.iconst 1, 1) := by decide +kernel
theorem dX5_message_39 : decode cX5_message 39 = .ok (.if_icmp .ne 12, 3) := by decide +kernel
theorem dX5_message_42 : decode cX5_message 42 = .ok (.aload_n 0, 1) := by decide +kernel
theorem dX5_message_43 : decode cX5_message 43 = .ok (.getfield 59, 3) := by decide +kernel
theorem dX5_message_46 : decode cX5_message 46 = .ok (.iload_n 1, 1) := by decide +kernel
theorem dX5_message_47 : decode cX5_message 47 = .ok (.iaload, 1) := by decide +kernel
theorem dX5_message_48 : decode cX5_message 48 = .ok (.goto 23, 3) := by decide +kernel
theorem dX5_message_51 : decode cX5_message 51 = .ok (.iload_n 2, 1) := by decide +kernel
theorem dX5_message_52 : decode cX5_message 52 = .ok (.iconst 2, 1) := by decide +kernel
theorem dX5_message_53 : decode cX5_message 53 = .ok (.if_icmp .ne 12, 3) := by decide +kernel
theorem dX5_message_56 : decode cX5_message 56 = .ok (.aload_n 0, 1) := by decide +kernel
theorem dX5_message_57 : decode cX5_message 57 = .ok (.getfield 62, 3) := by decide +kernel
theorem dX5_message_60 : decode cX5_message 60 = .ok (.iload_n 1, 1) := by decide +kernel
theorem dX5_message_61 : decode cX5_message 61 = .ok (.iaload, 1) := by decide +kernel
theorem dX5_message_62 : decode cX5_message 62 = .ok (.goto 9, 3) := by decide +kernel
theorem dX5_message_65 : decode cX5_message 65 = .ok (.aload_n 0, 1) := by decide +kernel
theorem dX5_message_66 : decode cX5_message 66 = .ok (.getfield 65, 3) := by decide +kernel
theorem dX5_message_69 : decode cX5_message 69 = .ok (.iload_n 1, 1) := by decide +kernel
theorem dX5_message_70 : decode cX5_message 70 = .ok (.iaload, 1) := by decide +kernel
theorem dX5_message_71 : decode cX5_message 71 = .ok (.ireturn, 1) := by decide +kernel
theorem dX5_forced_0 : decode cX5_forced 0 = .ok (.iload_n 1, 1) := by decide +kernel
theorem dX5_forced_1 : decode cX5_forced 1 = .ok (.invokestatic 122, 3) := by decide +kernel
theorem dX5_forced_4 : decode cX5_forced 4 = .ok (.ifCond .eq 8, 3) := by decide +kernel
theorem dX5_forced_7 : decode cX5_forced 7 = .ok (.bipush (-2), 2) := by decide +kernel
theorem dX5_forced_9 : decode cX5_forced 9 = .ok (.goto 9, 3) := by decide +kernel
theorem dX5_forced_12 : decode cX5_forced 12 = .ok (.aload_n 0, 1) := by decide +kernel
theorem dX5_forced_13 : decode cX5_forced 13 = .ok (.getfield 13, 3) := by decide +kernel
theorem dX5_forced_16 : decode cX5_forced 16 = .ok (.iload_n 1, 1) := by decide +kernel
theorem dX5_forced_17 : decode cX5_forced 17 = .ok (.iaload, 1) := by decide +kernel
theorem dX5_forced_18 : decode cX5_forced 18 = .ok (.ireturn, 1) := by decide +kernel
theorem dL_law_0 : decode cL_law 0 = .ok (.new 7, 3) := by decide +kernel
theorem dL_law_3 : decode cL_law 3 = .ok (.dup, 1) := by decide +kernel
theorem dL_law_4 : decode cL_law 4 = .ok (.invokespecial 9, 3) := by decide +kernel
theorem dL_law_7 : decode cL_law 7 = .ok (.astore_n 1, 1) := by decide +kernel
theorem dL_law_8 : decode cL_law 8 = .ok (.new 10, 3) := by decide +kernel
theorem dL_law_11 : decode cL_law 11 = .ok (.dup, 1) := by decide +kernel
theorem dL_law_12 : decode cL_law 12 = .ok (.invokespecial 12, 3) := by decide +kernel
theorem dL_law_15 : decode cL_law 15 = .ok (.astore_n 2, 1) := by decide +kernel
theorem dL_law_16 : decode cL_law 16 = .ok (.iconst 0, 1) := by decide +kernel
theorem dL_law_17 : decode cL_law 17 = .ok (.istore_n 3, 1) := by decide +kernel
theorem dL_law_18 : decode cL_law 18 = .ok (.iload_n 3, 1) := by decide +kernel
theorem dL_law_19 : decode cL_law 19 = .ok (.aload_n 0, 1) := by decide +kernel
theorem dL_law_20 : decode cL_law 20 = .ok (.arraylength, 1) := by decide +kernel
theorem dL_law_21 : decode cL_law 21 = .ok (.iconst 4, 1) := by decide +kernel
theorem dL_law_22 : decode cL_law 22 = .ok (.isub, 1) := by decide +kernel
theorem dL_law_23 : decode cL_law 23 = .ok (.if_icmp .gt 703, 3) := by decide +kernel
theorem dL_law_26 : decode cL_law 26 = .ok (.aload_n 0, 1) := by decide +kernel
theorem dL_law_27 : decode cL_law 27 = .ok (.iload_n 3, 1) := by decide +kernel
theorem dL_law_28 : decode cL_law 28 = .ok (.iaload, 1) := by decide +kernel
theorem dL_law_29 : decode cL_law 29 = .ok (.bipush 31, 2) := by decide +kernel
theorem dL_law_31 : decode cL_law 31 = .ok (.iand, 1) := by decide +kernel
theorem dL_law_32 : decode cL_law 32 = .ok (.tableswitch 688 0 19 #[96, 119, 162, 185, 208, 231, 254, 313, 336, 359, 382, 405, 438, 471, 504, 553, 586, 619, 632, 665], 96) := by decide +kernel
theorem dL_law_128 : decode cL_law 128 = .ok (.aload_n 1, 1) := by decide +kernel
theorem dL_law_129 : decode cL_law 129 = .ok (.aload_n 0, 1) := by decide +kernel
theorem dL_law_130 : decode cL_law 130 = .ok (.iload_n 3, 1) := by decide +kernel
theorem dL_law_131 : decode cL_law 131 = .ok (.iconst 1, 1) := by decide +kernel
theorem dL_law_132 : decode cL_law 132 = .ok (.iadd, 1) := by decide +kernel
theorem dL_law_133 : decode cL_law 133 = .ok (.iaload, 1) := by decide +kernel
theorem dL_law_134 : decode cL_law 134 = .ok (.invokevirtual 13, 3) := by decide +kernel
theorem dL_law_137 : decode cL_law 137 = .ok (.aload_n 2, 1) := by decide +kernel
theorem dL_law_138 : decode cL_law 138 = .ok (.aload_n 0, 1) := by decide +kernel
theorem dL_law_139 : decode cL_law 139 = .ok (.iload_n 3, 1) := by decide +kernel
theorem dL_law_140 : decode cL_law 140 = .ok (.iconst 1, 1) := by decide +kernel
theorem dL_law_141 : decode cL_law 141 = .ok (.iadd, 1) := by decide +kernel
theorem dL_law_142 : decode cL_law 142 = .ok (.iaload, 1) := by decide +kernel
theorem dL_law_143 : decode cL_law 143 = .ok (.invokevirtual 17, 3) := by decide +kernel
theorem dL_law_146 : decode cL_law 146 = .ok (.if_icmp .eq 574, 3) := by decide +kernel
theorem dL_law_149 : decode cL_law 149 = .ok (.iconst 0, 1) := by decide +kernel
theorem dL_law_150 : decode cL_law 150 = .ok (.ireturn, 1) := by decide +kernel
theorem dL_law_151 : decode cL_law 151 = .ok (.aload_n 1, 1) := by decide +kernel
theorem dL_law_152 : decode cL_law 152 = .ok (.aload_n 0, 1) := by decide +kernel
theorem dL_law_153 : decode cL_law 153 = .ok (.iload_n 3, 1) := by decide +kernel
theorem dL_law_154 : decode cL_law 154 = .ok (.iconst 1, 1) := by decide +kernel
theorem dL_law_155 : decode cL_law 155 = .ok (.iadd, 1) := by decide +kernel
theorem dL_law_156 : decode cL_law 156 = .ok (.iaload, 1) := by decide +kernel
theorem dL_law_157 : decode cL_law 157 = .ok (.aload_n 0, 1) := by decide +kernel
theorem dL_law_158 : decode cL_law 158 = .ok (.iload_n 3, 1) := by decide +kernel
theorem dL_law_159 : decode cL_law 159 = .ok (.iconst 2, 1) := by decide +kernel
theorem dL_law_160 : decode cL_law 160 = .ok (.iadd, 1) := by decide +kernel
theorem dL_law_161 : decode cL_law 161 = .ok (.iaload, 1) := by decide +kernel
theorem dL_law_162 : decode cL_law 162 = .ok (.aload_n 0, 1) := by decide +kernel
theorem dL_law_163 : decode cL_law 163 = .ok (.iload_n 3, 1) := by decide +kernel
theorem dL_law_164 : decode cL_law 164 = .ok (.iconst 3, 1) := by decide +kernel
theorem dL_law_165 : decode cL_law 165 = .ok (.iadd, 1) := by decide +kernel
theorem dL_law_166 : decode cL_law 166 = .ok (.iaload, 1) := by decide +kernel
theorem dL_law_167 : decode cL_law 167 = .ok (.invokevirtual 18, 3) := by decide +kernel
theorem dL_law_170 : decode cL_law 170 = .ok (.aload_n 2, 1) := by decide +kernel
theorem dL_law_171 : decode cL_law 171 = .ok (.aload_n 0, 1) := by decide +kernel
theorem dL_law_172 : decode cL_law 172 = .ok (.iload_n 3, 1) := by decide +kernel
theorem dL_law_173 : decode cL_law 173 = .ok (.iconst 1, 1) := by decide +kernel
theorem dL_law_174 : decode cL_law 174 = .ok (.iadd, 1) := by decide +kernel
theorem dL_law_175 : decode cL_law 175 = .ok (.iaload, 1) := by decide +kernel
theorem dL_law_176 : decode cL_law 176 = .ok (.aload_n 0, 1) := by decide +kernel
theorem dL_law_177 : decode cL_law 177 = .ok (.iload_n 3, 1) := by decide +kernel
theorem dL_law_178 : decode cL_law 178 = .ok (.iconst 2, 1) := by decide +kernel
theorem dL_law_179 : decode cL_law 179 = .ok (.iadd, 1) := by decide +kernel
theorem dL_law_180 : decode cL_law 180 = .ok (.iaload, 1) := by decide +kernel
theorem dL_law_181 : decode cL_law 181 = .ok (.aload_n 0, 1) := by decide +kernel
theorem dL_law_182 : decode cL_law 182 = .ok (.iload_n 3, 1) := by decide +kernel
theorem dL_law_183 : decode cL_law 183 = .ok (.iconst 3, 1) := by decide +kernel
theorem dL_law_184 : decode cL_law 184 = .ok (.iadd, 1) := by decide +kernel
theorem dL_law_185 : decode cL_law 185 = .ok (.iaload, 1) := by decide +kernel
theorem dL_law_186 : decode cL_law 186 = .ok (.invokevirtual 22, 3) := by decide +kernel
theorem dL_law_189 : decode cL_law 189 = .ok (.if_icmp .eq 531, 3) := by decide +kernel
theorem dL_law_192 : decode cL_law 192 = .ok (.iconst 0, 1) := by decide +kernel
theorem dL_law_193 : decode cL_law 193 = .ok (.ireturn, 1) := by decide +kernel
theorem dL_law_194 : decode cL_law 194 = .ok (.aload_n 1, 1) := by decide +kernel
theorem dL_law_195 : decode cL_law 195 = .ok (.aload_n 0, 1) := by decide +kernel
theorem dL_law_196 : decode cL_law 196 = .ok (.iload_n 3, 1) := by decide +kernel
theorem dL_law_197 : decode cL_law 197 = .ok (.iconst 1, 1) := by decide +kernel
theorem dL_law_198 : decode cL_law 198 = .ok (.iadd, 1) := by decide +kernel
theorem dL_law_199 : decode cL_law 199 = .ok (.iaload, 1) := by decide +kernel
theorem dL_law_200 : decode cL_law 200 = .ok (.invokevirtual 23, 3) := by decide +kernel
theorem dL_law_203 : decode cL_law 203 = .ok (.aload_n 2, 1) := by decide +kernel
theorem dL_law_204 : decode cL_law 204 = .ok (.aload_n 0, 1) := by decide +kernel
theorem dL_law_205 : decode cL_law 205 = .ok (.iload_n 3, 1) := by decide +kernel
theorem dL_law_206 : decode cL_law 206 = .ok (.iconst 1, 1) := by decide +kernel
theorem dL_law_207 : decode cL_law 207 = .ok (.iadd, 1) := by decide +kernel
theorem dL_law_208 : decode cL_law 208 = .ok (.iaload, 1) := by decide +kernel
theorem dL_law_209 : decode cL_law 209 = .ok (.invokevirtual 26, 3) := by decide +kernel
theorem dL_law_212 : decode cL_law 212 = .ok (.if_icmp .eq 508, 3) := by decide +kernel
theorem dL_law_215 : decode cL_law 215 = .ok (.iconst 0, 1) := by decide +kernel
theorem dL_law_216 : decode cL_law 216 = .ok (.ireturn, 1) := by decide +kernel
theorem dL_law_217 : decode cL_law 217 = .ok (.aload_n 1, 1) := by decide +kernel
theorem dL_law_218 : decode cL_law 218 = .ok (.aload_n 0, 1) := by decide +kernel
theorem dL_law_219 : decode cL_law 219 = .ok (.iload_n 3, 1) := by decide +kernel
theorem dL_law_220 : decode cL_law 220 = .ok (.iconst 1, 1) := by decide +kernel
theorem dL_law_221 : decode cL_law 221 = .ok (.iadd, 1) := by decide +kernel
theorem dL_law_222 : decode cL_law 222 = .ok (.iaload, 1) := by decide +kernel
theorem dL_law_223 : decode cL_law 223 = .ok (.invokevirtual 27, 3) := by decide +kernel
theorem dL_law_226 : decode cL_law 226 = .ok (.aload_n 2, 1) := by decide +kernel
theorem dL_law_227 : decode cL_law 227 = .ok (.aload_n 0, 1) := by decide +kernel
theorem dL_law_228 : decode cL_law 228 = .ok (.iload_n 3, 1) := by decide +kernel
theorem dL_law_229 : decode cL_law 229 = .ok (.iconst 1, 1) := by decide +kernel
theorem dL_law_230 : decode cL_law 230 = .ok (.iadd, 1) := by decide +kernel
theorem dL_law_231 : decode cL_law 231 = .ok (.iaload, 1) := by decide +kernel
theorem dL_law_232 : decode cL_law 232 = .ok (.invokevirtual 30, 3) := by decide +kernel
theorem dL_law_235 : decode cL_law 235 = .ok (.if_icmp .eq 485, 3) := by decide +kernel
theorem dL_law_238 : decode cL_law 238 = .ok (.iconst 0, 1) := by decide +kernel
theorem dL_law_239 : decode cL_law 239 = .ok (.ireturn, 1) := by decide +kernel
theorem dL_law_240 : decode cL_law 240 = .ok (.aload_n 1, 1) := by decide +kernel
theorem dL_law_241 : decode cL_law 241 = .ok (.aload_n 0, 1) := by decide +kernel
theorem dL_law_242 : decode cL_law 242 = .ok (.iload_n 3, 1) := by decide +kernel
theorem dL_law_243 : decode cL_law 243 = .ok (.iconst 1, 1) := by decide +kernel
theorem dL_law_244 : decode cL_law 244 = .ok (.iadd, 1) := by decide +kernel
theorem dL_law_245 : decode cL_law 245 = .ok (.iaload, 1) := by decide +kernel
theorem dL_law_246 : decode cL_law 246 = .ok (.invokevirtual 31, 3) := by decide +kernel
theorem dL_law_249 : decode cL_law 249 = .ok (.aload_n 2, 1) := by decide +kernel
theorem dL_law_250 : decode cL_law 250 = .ok (.aload_n 0, 1) := by decide +kernel
theorem dL_law_251 : decode cL_law 251 = .ok (.iload_n 3, 1) := by decide +kernel
theorem dL_law_252 : decode cL_law 252 = .ok (.iconst 1, 1) := by decide +kernel
theorem dL_law_253 : decode cL_law 253 = .ok (.iadd, 1) := by decide +kernel
theorem dL_law_254 : decode cL_law 254 = .ok (.iaload, 1) := by decide +kernel
theorem dL_law_255 : decode cL_law 255 = .ok (.invokevirtual 34, 3) := by decide +kernel
theorem dL_law_258 : decode cL_law 258 = .ok (.if_icmp .eq 462, 3) := by decide +kernel
theorem dL_law_261 : decode cL_law 261 = .ok (.iconst 0, 1) := by decide +kernel
theorem dL_law_262 : decode cL_law 262 = .ok (.ireturn, 1) := by decide +kernel
theorem dL_law_263 : decode cL_law 263 = .ok (.aload_n 1, 1) := by decide +kernel
theorem dL_law_264 : decode cL_law 264 = .ok (.aload_n 0, 1) := by decide +kernel
theorem dL_law_265 : decode cL_law 265 = .ok (.iload_n 3, 1) := by decide +kernel
theorem dL_law_266 : decode cL_law 266 = .ok (.iconst 1, 1) := by decide +kernel
theorem dL_law_267 : decode cL_law 267 = .ok (.iadd, 1) := by decide +kernel
theorem dL_law_268 : decode cL_law 268 = .ok (.iaload, 1) := by decide +kernel
theorem dL_law_269 : decode cL_law 269 = .ok (.invokevirtual 35, 3) := by decide +kernel
theorem dL_law_272 : decode cL_law 272 = .ok (.aload_n 2, 1) := by decide +kernel
theorem dL_law_273 : decode cL_law 273 = .ok (.aload_n 0, 1) := by decide +kernel
theorem dL_law_274 : decode cL_law 274 = .ok (.iload_n 3, 1) := by decide +kernel
theorem dL_law_275 : decode cL_law 275 = .ok (.iconst 1, 1) := by decide +kernel
theorem dL_law_276 : decode cL_law 276 = .ok (.iadd, 1) := by decide +kernel
theorem dL_law_277 : decode cL_law 277 = .ok (.iaload, 1) := by decide +kernel
theorem dL_law_278 : decode cL_law 278 = .ok (.invokevirtual 38, 3) := by decide +kernel
theorem dL_law_281 : decode cL_law 281 = .ok (.if_icmp .eq 439, 3) := by decide +kernel
theorem dL_law_284 : decode cL_law 284 = .ok (.iconst 0, 1) := by decide +kernel
theorem dL_law_285 : decode cL_law 285 = .ok (.ireturn, 1) := by decide +kernel
theorem dL_law_286 : decode cL_law 286 = .ok (.aload_n 1, 1) := by decide +kernel
theorem dL_law_287 : decode cL_law 287 = .ok (.aload_n 0, 1) := by decide +kernel
theorem dL_law_288 : decode cL_law 288 = .ok (.iload_n 3, 1) := by decide +kernel
theorem dL_law_289 : decode cL_law 289 = .ok (.iconst 1, 1) := by decide +kernel
theorem dL_law_290 : decode cL_law 290 = .ok (.iadd, 1) := by decide +kernel
theorem dL_law_291 : decode cL_law 291 = .ok (.iaload, 1) := by decide +kernel
theorem dL_law_292 : decode cL_law 292 = .ok (.aload_n 0, 1) := by decide +kernel
theorem dL_law_293 : decode cL_law 293 = .ok (.iload_n 3, 1) := by decide +kernel
theorem dL_law_294 : decode cL_law 294 = .ok (.iconst 2, 1) := by decide +kernel
theorem dL_law_295 : decode cL_law 295 = .ok (.iadd, 1) := by decide +kernel
theorem dL_law_296 : decode cL_law 296 = .ok (.iaload, 1) := by decide +kernel
theorem dL_law_297 : decode cL_law 297 = .ok (.aload_n 0, 1) := by decide +kernel
theorem dL_law_298 : decode cL_law 298 = .ok (.iload_n 3, 1) := by decide +kernel
theorem dL_law_299 : decode cL_law 299 = .ok (.iconst 3, 1) := by decide +kernel
theorem dL_law_300 : decode cL_law 300 = .ok (.iadd, 1) := by decide +kernel
theorem dL_law_301 : decode cL_law 301 = .ok (.iaload, 1) := by decide +kernel
theorem dL_law_302 : decode cL_law 302 = .ok (.ifCond .eq 7, 3) := by decide +kernel
theorem dL_law_305 : decode cL_law 305 = .ok (.iconst 1, 1) := by decide +kernel
theorem dL_law_306 : decode cL_law 306 = .ok (.goto 4, 3) := by decide +kernel
theorem dL_law_309 : decode cL_law 309 = .ok (.iconst 0, 1) := by decide +kernel
theorem dL_law_310 : decode cL_law 310 = .ok (.invokevirtual 39, 3) := by decide +kernel
theorem dL_law_313 : decode cL_law 313 = .ok (.aload_n 2, 1) := by decide +kernel
theorem dL_law_314 : decode cL_law 314 = .ok (.aload_n 0, 1) := by decide +kernel
theorem dL_law_315 : decode cL_law 315 = .ok (.iload_n 3, 1) := by decide +kernel
theorem dL_law_316 : decode cL_law 316 = .ok (.iconst 1, 1) := by decide +kernel
theorem dL_law_317 : decode cL_law 317 = .ok (.iadd, 1) := by decide +kernel
theorem dL_law_318 : decode cL_law 318 = .ok (.iaload, 1) := by decide +kernel
theorem dL_law_319 : decode cL_law 319 = .ok (.aload_n 0, 1) := by decide +kernel
theorem dL_law_320 : decode cL_law 320 = .ok (.iload_n 3, 1) := by decide +kernel
theorem dL_law_321 : decode cL_law 321 = .ok (.iconst 2, 1) := by decide +kernel
theorem dL_law_322 : decode cL_law 322 = .ok (.iadd, 1) := by decide +kernel
theorem dL_law_323 : decode cL_law 323 = .ok (.iaload, 1) := by decide +kernel
theorem dL_law_324 : decode cL_law 324 = .ok (.aload_n 0, 1) := by decide +kernel
theorem dL_law_325 : decode cL_law 325 = .ok (.iload_n 3, 1) := by decide +kernel
theorem dL_law_326 : decode cL_law 326 = .ok (.iconst 3, 1) := by decide +kernel
theorem dL_law_327 : decode cL_law 327 = .ok (.iadd, 1) := by decide +kernel
theorem dL_law_328 : decode cL_law 328 = .ok (.iaload, 1) := by decide +kernel
theorem dL_law_329 : decode cL_law 329 = .ok (.ifCond .eq 7, 3) := by decide +kernel
theorem dL_law_332 : decode cL_law 332 = .ok (.iconst 1, 1) := by decide +kernel
theorem dL_law_333 : decode cL_law 333 = .ok (.goto 4, 3) := by decide +kernel
theorem dL_law_336 : decode cL_law 336 = .ok (.iconst 0, 1) := by decide +kernel
theorem dL_law_337 : decode cL_law 337 = .ok (.invokevirtual 43, 3) := by decide +kernel
theorem dL_law_340 : decode cL_law 340 = .ok (.if_icmp .eq 380, 3) := by decide +kernel
theorem dL_law_343 : decode cL_law 343 = .ok (.iconst 0, 1) := by decide +kernel
theorem dL_law_344 : decode cL_law 344 = .ok (.ireturn, 1) := by decide +kernel
theorem dL_law_345 : decode cL_law 345 = .ok (.aload_n 1, 1) := by decide +kernel
theorem dL_law_346 : decode cL_law 346 = .ok (.aload_n 0, 1) := by decide +kernel
theorem dL_law_347 : decode cL_law 347 = .ok (.iload_n 3, 1) := by decide +kernel
theorem dL_law_348 : decode cL_law 348 = .ok (.iconst 1, 1) := by decide +kernel
theorem dL_law_349 : decode cL_law 349 = .ok (.iadd, 1) := by decide +kernel
theorem dL_law_350 : decode cL_law 350 = .ok (.iaload, 1) := by decide +kernel
theorem dL_law_351 : decode cL_law 351 = .ok (.invokevirtual 44, 3) := by decide +kernel
theorem dL_law_354 : decode cL_law 354 = .ok (.aload_n 2, 1) := by decide +kernel
theorem dL_law_355 : decode cL_law 355 = .ok (.aload_n 0, 1) := by decide +kernel
theorem dL_law_356 : decode cL_law 356 = .ok (.iload_n 3, 1) := by decide +kernel
theorem dL_law_357 : decode cL_law 357 = .ok (.iconst 1, 1) := by decide +kernel
theorem dL_law_358 : decode cL_law 358 = .ok (.iadd, 1) := by decide +kernel
theorem dL_law_359 : decode cL_law 359 = .ok (.iaload, 1) := by decide +kernel
theorem dL_law_360 : decode cL_law 360 = .ok (.invokevirtual 47, 3) := by decide +kernel
theorem dL_law_363 : decode cL_law 363 = .ok (.if_icmp .eq 357, 3) := by decide +kernel
theorem dL_law_366 : decode cL_law 366 = .ok (.iconst 0, 1) := by decide +kernel
theorem dL_law_367 : decode cL_law 367 = .ok (.ireturn, 1) := by decide +kernel
theorem dL_law_368 : decode cL_law 368 = .ok (.aload_n 1, 1) := by decide +kernel
theorem dL_law_369 : decode cL_law 369 = .ok (.aload_n 0, 1) := by decide +kernel
theorem dL_law_370 : decode cL_law 370 = .ok (.iload_n 3, 1) := by decide +kernel
theorem dL_law_371 : decode cL_law 371 = .ok (.iconst 1, 1) := by decide +kernel
theorem dL_law_372 : decode cL_law 372 = .ok (.iadd, 1) := by decide +kernel
theorem dL_law_373 : decode cL_law 373 = .ok (.iaload, 1) := by decide +kernel
theorem dL_law_374 : decode cL_law 374 = .ok (.invokevirtual 48, 3) := by decide +kernel
theorem dL_law_377 : decode cL_law 377 = .ok (.aload_n 2, 1) := by decide +kernel
theorem dL_law_378 : decode cL_law 378 = .ok (.aload_n 0, 1) := by decide +kernel
theorem dL_law_379 : decode cL_law 379 = .ok (.iload_n 3, 1) := by decide +kernel
theorem dL_law_380 : decode cL_law 380 = .ok (.iconst 1, 1) := by decide +kernel
theorem dL_law_381 : decode cL_law 381 = .ok (.iadd, 1) := by decide +kernel
theorem dL_law_382 : decode cL_law 382 = .ok (.iaload, 1) := by decide +kernel
theorem dL_law_383 : decode cL_law 383 = .ok (.invokevirtual 51, 3) := by decide +kernel
theorem dL_law_386 : decode cL_law 386 = .ok (.if_icmp .eq 334, 3) := by decide +kernel
theorem dL_law_389 : decode cL_law 389 = .ok (.iconst 0, 1) := by decide +kernel
theorem dL_law_390 : decode cL_law 390 = .ok (.ireturn, 1) := by decide +kernel
theorem dL_law_391 : decode cL_law 391 = .ok (.aload_n 1, 1) := by decide +kernel
theorem dL_law_392 : decode cL_law 392 = .ok (.aload_n 0, 1) := by decide +kernel
theorem dL_law_393 : decode cL_law 393 = .ok (.iload_n 3, 1) := by decide +kernel
theorem dL_law_394 : decode cL_law 394 = .ok (.iconst 1, 1) := by decide +kernel
theorem dL_law_395 : decode cL_law 395 = .ok (.iadd, 1) := by decide +kernel
theorem dL_law_396 : decode cL_law 396 = .ok (.iaload, 1) := by decide +kernel
theorem dL_law_397 : decode cL_law 397 = .ok (.invokevirtual 52, 3) := by decide +kernel
theorem dL_law_400 : decode cL_law 400 = .ok (.aload_n 2, 1) := by decide +kernel
theorem dL_law_401 : decode cL_law 401 = .ok (.aload_n 0, 1) := by decide +kernel
theorem dL_law_402 : decode cL_law 402 = .ok (.iload_n 3, 1) := by decide +kernel
theorem dL_law_403 : decode cL_law 403 = .ok (.iconst 1, 1) := by decide +kernel
theorem dL_law_404 : decode cL_law 404 = .ok (.iadd, 1) := by decide +kernel
theorem dL_law_405 : decode cL_law 405 = .ok (.iaload, 1) := by decide +kernel
theorem dL_law_406 : decode cL_law 406 = .ok (.invokevirtual 56, 3) := by decide +kernel
theorem dL_law_409 : decode cL_law 409 = .ok (.if_icmp .eq 311, 3) := by decide +kernel
theorem dL_law_412 : decode cL_law 412 = .ok (.iconst 0, 1) := by decide +kernel
theorem dL_law_413 : decode cL_law 413 = .ok (.ireturn, 1) := by decide +kernel
theorem dL_law_414 : decode cL_law 414 = .ok (.aload_n 1, 1) := by decide +kernel
theorem dL_law_415 : decode cL_law 415 = .ok (.aload_n 0, 1) := by decide +kernel
theorem dL_law_416 : decode cL_law 416 = .ok (.iload_n 3, 1) := by decide +kernel
theorem dL_law_417 : decode cL_law 417 = .ok (.iconst 1, 1) := by decide +kernel
theorem dL_law_418 : decode cL_law 418 = .ok (.iadd, 1) := by decide +kernel
theorem dL_law_419 : decode cL_law 419 = .ok (.iaload, 1) := by decide +kernel
theorem dL_law_420 : decode cL_law 420 = .ok (.invokevirtual 57, 3) := by decide +kernel
theorem dL_law_423 : decode cL_law 423 = .ok (.aload_n 2, 1) := by decide +kernel
theorem dL_law_424 : decode cL_law 424 = .ok (.aload_n 0, 1) := by decide +kernel
theorem dL_law_425 : decode cL_law 425 = .ok (.iload_n 3, 1) := by decide +kernel
theorem dL_law_426 : decode cL_law 426 = .ok (.iconst 1, 1) := by decide +kernel
theorem dL_law_427 : decode cL_law 427 = .ok (.iadd, 1) := by decide +kernel
theorem dL_law_428 : decode cL_law 428 = .ok (.iaload, 1) := by decide +kernel
theorem dL_law_429 : decode cL_law 429 = .ok (.invokevirtual 60, 3) := by decide +kernel
theorem dL_law_432 : decode cL_law 432 = .ok (.if_icmp .eq 288, 3) := by decide +kernel
theorem dL_law_435 : decode cL_law 435 = .ok (.iconst 0, 1) := by decide +kernel
theorem dL_law_436 : decode cL_law 436 = .ok (.ireturn, 1) := by decide +kernel
theorem dL_law_437 : decode cL_law 437 = .ok (.aload_n 1, 1) := by decide +kernel
theorem dL_law_438 : decode cL_law 438 = .ok (.aload_n 0, 1) := by decide +kernel
theorem dL_law_439 : decode cL_law 439 = .ok (.iload_n 3, 1) := by decide +kernel
theorem dL_law_440 : decode cL_law 440 = .ok (.iconst 1, 1) := by decide +kernel
theorem dL_law_441 : decode cL_law 441 = .ok (.iadd, 1) := by decide +kernel
theorem dL_law_442 : decode cL_law 442 = .ok (.iaload, 1) := by decide +kernel
theorem dL_law_443 : decode cL_law 443 = .ok (.aload_n 0, 1) := by decide +kernel
theorem dL_law_444 : decode cL_law 444 = .ok (.iload_n 3, 1) := by decide +kernel
theorem dL_law_445 : decode cL_law 445 = .ok (.iconst 2, 1) := by decide +kernel
theorem dL_law_446 : decode cL_law 446 = .ok (.iadd, 1) := by decide +kernel
theorem dL_law_447 : decode cL_law 447 = .ok (.iaload, 1) := by decide +kernel
theorem dL_law_448 : decode cL_law 448 = .ok (.invokevirtual 61, 3) := by decide +kernel
theorem dL_law_451 : decode cL_law 451 = .ok (.aload_n 2, 1) := by decide +kernel
theorem dL_law_452 : decode cL_law 452 = .ok (.aload_n 0, 1) := by decide +kernel
theorem dL_law_453 : decode cL_law 453 = .ok (.iload_n 3, 1) := by decide +kernel
theorem dL_law_454 : decode cL_law 454 = .ok (.iconst 1, 1) := by decide +kernel
theorem dL_law_455 : decode cL_law 455 = .ok (.iadd, 1) := by decide +kernel
theorem dL_law_456 : decode cL_law 456 = .ok (.iaload, 1) := by decide +kernel
theorem dL_law_457 : decode cL_law 457 = .ok (.aload_n 0, 1) := by decide +kernel
theorem dL_law_458 : decode cL_law 458 = .ok (.iload_n 3, 1) := by decide +kernel
theorem dL_law_459 : decode cL_law 459 = .ok (.iconst 2, 1) := by decide +kernel
theorem dL_law_460 : decode cL_law 460 = .ok (.iadd, 1) := by decide +kernel
theorem dL_law_461 : decode cL_law 461 = .ok (.iaload, 1) := by decide +kernel
theorem dL_law_462 : decode cL_law 462 = .ok (.invokevirtual 65, 3) := by decide +kernel
theorem dL_law_465 : decode cL_law 465 = .ok (.if_icmp .eq 255, 3) := by decide +kernel
theorem dL_law_468 : decode cL_law 468 = .ok (.iconst 0, 1) := by decide +kernel
theorem dL_law_469 : decode cL_law 469 = .ok (.ireturn, 1) := by decide +kernel
theorem dL_law_470 : decode cL_law 470 = .ok (.aload_n 1, 1) := by decide +kernel
theorem dL_law_471 : decode cL_law 471 = .ok (.aload_n 0, 1) := by decide +kernel
theorem dL_law_472 : decode cL_law 472 = .ok (.iload_n 3, 1) := by decide +kernel
theorem dL_law_473 : decode cL_law 473 = .ok (.iconst 1, 1) := by decide +kernel
theorem dL_law_474 : decode cL_law 474 = .ok (.iadd, 1) := by decide +kernel
theorem dL_law_475 : decode cL_law 475 = .ok (.iaload, 1) := by decide +kernel
theorem dL_law_476 : decode cL_law 476 = .ok (.aload_n 0, 1) := by decide +kernel
theorem dL_law_477 : decode cL_law 477 = .ok (.iload_n 3, 1) := by decide +kernel
theorem dL_law_478 : decode cL_law 478 = .ok (.iconst 2, 1) := by decide +kernel
theorem dL_law_479 : decode cL_law 479 = .ok (.iadd, 1) := by decide +kernel
theorem dL_law_480 : decode cL_law 480 = .ok (.iaload, 1) := by decide +kernel
theorem dL_law_481 : decode cL_law 481 = .ok (.invokevirtual 66, 3) := by decide +kernel
theorem dL_law_484 : decode cL_law 484 = .ok (.aload_n 2, 1) := by decide +kernel
theorem dL_law_485 : decode cL_law 485 = .ok (.aload_n 0, 1) := by decide +kernel
theorem dL_law_486 : decode cL_law 486 = .ok (.iload_n 3, 1) := by decide +kernel
theorem dL_law_487 : decode cL_law 487 = .ok (.iconst 1, 1) := by decide +kernel
theorem dL_law_488 : decode cL_law 488 = .ok (.iadd, 1) := by decide +kernel
theorem dL_law_489 : decode cL_law 489 = .ok (.iaload, 1) := by decide +kernel
theorem dL_law_490 : decode cL_law 490 = .ok (.aload_n 0, 1) := by decide +kernel
theorem dL_law_491 : decode cL_law 491 = .ok (.iload_n 3, 1) := by decide +kernel
theorem dL_law_492 : decode cL_law 492 = .ok (.iconst 2, 1) := by decide +kernel
theorem dL_law_493 : decode cL_law 493 = .ok (.iadd, 1) := by decide +kernel
theorem dL_law_494 : decode cL_law 494 = .ok (.iaload, 1) := by decide +kernel
theorem dL_law_495 : decode cL_law 495 = .ok (.invokevirtual 69, 3) := by decide +kernel
theorem dL_law_498 : decode cL_law 498 = .ok (.if_icmp .eq 222, 3) := by decide +kernel
theorem dL_law_501 : decode cL_law 501 = .ok (.iconst 0, 1) := by decide +kernel
theorem dL_law_502 : decode cL_law 502 = .ok (.ireturn, 1) := by decide +kernel
theorem dL_law_503 : decode cL_law 503 = .ok (.aload_n 1, 1) := by decide +kernel
theorem dL_law_504 : decode cL_law 504 = .ok (.aload_n 0, 1) := by decide +kernel
theorem dL_law_505 : decode cL_law 505 = .ok (.iload_n 3, 1) := by decide +kernel
theorem dL_law_506 : decode cL_law 506 = .ok (.iconst 1, 1) := by decide +kernel
theorem dL_law_507 : decode cL_law 507 = .ok (.iadd, 1) := by decide +kernel
theorem dL_law_508 : decode cL_law 508 = .ok (.iaload, 1) := by decide +kernel
theorem dL_law_509 : decode cL_law 509 = .ok (.aload_n 0, 1) := by decide +kernel
theorem dL_law_510 : decode cL_law 510 = .ok (.iload_n 3, 1) := by decide +kernel
theorem dL_law_511 : decode cL_law 511 = .ok (.iconst 2, 1) := by decide +kernel
theorem dL_law_512 : decode cL_law 512 = .ok (.iadd, 1) := by decide +kernel
theorem dL_law_513 : decode cL_law 513 = .ok (.iaload, 1) := by decide +kernel
theorem dL_law_514 : decode cL_law 514 = .ok (.invokevirtual 70, 3) := by decide +kernel
theorem dL_law_517 : decode cL_law 517 = .ok (.aload_n 2, 1) := by decide +kernel
theorem dL_law_518 : decode cL_law 518 = .ok (.aload_n 0, 1) := by decide +kernel
theorem dL_law_519 : decode cL_law 519 = .ok (.iload_n 3, 1) := by decide +kernel
theorem dL_law_520 : decode cL_law 520 = .ok (.iconst 1, 1) := by decide +kernel
theorem dL_law_521 : decode cL_law 521 = .ok (.iadd, 1) := by decide +kernel
theorem dL_law_522 : decode cL_law 522 = .ok (.iaload, 1) := by decide +kernel
theorem dL_law_523 : decode cL_law 523 = .ok (.aload_n 0, 1) := by decide +kernel
theorem dL_law_524 : decode cL_law 524 = .ok (.iload_n 3, 1) := by decide +kernel
theorem dL_law_525 : decode cL_law 525 = .ok (.iconst 2, 1) := by decide +kernel
theorem dL_law_526 : decode cL_law 526 = .ok (.iadd, 1) := by decide +kernel
theorem dL_law_527 : decode cL_law 527 = .ok (.iaload, 1) := by decide +kernel
theorem dL_law_528 : decode cL_law 528 = .ok (.invokevirtual 73, 3) := by decide +kernel
theorem dL_law_531 : decode cL_law 531 = .ok (.if_icmp .eq 189, 3) := by decide +kernel
theorem dL_law_534 : decode cL_law 534 = .ok (.iconst 0, 1) := by decide +kernel
theorem dL_law_535 : decode cL_law 535 = .ok (.ireturn, 1) := by decide +kernel
theorem dL_law_536 : decode cL_law 536 = .ok (.aload_n 1, 1) := by decide +kernel
theorem dL_law_537 : decode cL_law 537 = .ok (.aload_n 0, 1) := by decide +kernel
theorem dL_law_538 : decode cL_law 538 = .ok (.iload_n 3, 1) := by decide +kernel
theorem dL_law_539 : decode cL_law 539 = .ok (.iconst 1, 1) := by decide +kernel
theorem dL_law_540 : decode cL_law 540 = .ok (.iadd, 1) := by decide +kernel
theorem dL_law_541 : decode cL_law 541 = .ok (.iaload, 1) := by decide +kernel
theorem dL_law_542 : decode cL_law 542 = .ok (.aload_n 0, 1) := by decide +kernel
theorem dL_law_543 : decode cL_law 543 = .ok (.iload_n 3, 1) := by decide +kernel
theorem dL_law_544 : decode cL_law 544 = .ok (.iconst 2, 1) := by decide +kernel
theorem dL_law_545 : decode cL_law 545 = .ok (.iadd, 1) := by decide +kernel
theorem dL_law_546 : decode cL_law 546 = .ok (.iaload, 1) := by decide +kernel
theorem dL_law_547 : decode cL_law 547 = .ok (.ifCond .eq 7, 3) := by decide +kernel
theorem dL_law_550 : decode cL_law 550 = .ok (.iconst 1, 1) := by decide +kernel
theorem dL_law_551 : decode cL_law 551 = .ok (.goto 4, 3) := by decide +kernel
theorem dL_law_554 : decode cL_law 554 = .ok (.iconst 0, 1) := by decide +kernel
theorem dL_law_555 : decode cL_law 555 = .ok (.invokevirtual 74, 3) := by decide +kernel
theorem dL_law_558 : decode cL_law 558 = .ok (.aload_n 2, 1) := by decide +kernel
theorem dL_law_559 : decode cL_law 559 = .ok (.aload_n 0, 1) := by decide +kernel
theorem dL_law_560 : decode cL_law 560 = .ok (.iload_n 3, 1) := by decide +kernel
theorem dL_law_561 : decode cL_law 561 = .ok (.iconst 1, 1) := by decide +kernel
theorem dL_law_562 : decode cL_law 562 = .ok (.iadd, 1) := by decide +kernel
theorem dL_law_563 : decode cL_law 563 = .ok (.iaload, 1) := by decide +kernel
theorem dL_law_564 : decode cL_law 564 = .ok (.aload_n 0, 1) := by decide +kernel
theorem dL_law_565 : decode cL_law 565 = .ok (.iload_n 3, 1) := by decide +kernel
theorem dL_law_566 : decode cL_law 566 = .ok (.iconst 2, 1) := by decide +kernel
theorem dL_law_567 : decode cL_law 567 = .ok (.iadd, 1) := by decide +kernel
theorem dL_law_568 : decode cL_law 568 = .ok (.iaload, 1) := by decide +kernel
theorem dL_law_569 : decode cL_law 569 = .ok (.ifCond .eq 7, 3) := by decide +kernel
theorem dL_law_572 : decode cL_law 572 = .ok (.iconst 1, 1) := by decide +kernel
theorem dL_law_573 : decode cL_law 573 = .ok (.goto 4, 3) := by decide +kernel
theorem dL_law_576 : decode cL_law 576 = .ok (.iconst 0, 1) := by decide +kernel
theorem dL_law_577 : decode cL_law 577 = .ok (.invokevirtual 78, 3) := by decide +kernel
theorem dL_law_580 : decode cL_law 580 = .ok (.if_icmp .eq 140, 3) := by decide +kernel
theorem dL_law_583 : decode cL_law 583 = .ok (.iconst 0, 1) := by decide +kernel
theorem dL_law_584 : decode cL_law 584 = .ok (.ireturn, 1) := by decide +kernel
theorem dL_law_585 : decode cL_law 585 = .ok (.aload_n 1, 1) := by decide +kernel
theorem dL_law_586 : decode cL_law 586 = .ok (.aload_n 0, 1) := by decide +kernel
theorem dL_law_587 : decode cL_law 587 = .ok (.iload_n 3, 1) := by decide +kernel
theorem dL_law_588 : decode cL_law 588 = .ok (.iconst 1, 1) := by decide +kernel
theorem dL_law_589 : decode cL_law 589 = .ok (.iadd, 1) := by decide +kernel
theorem dL_law_590 : decode cL_law 590 = .ok (.iaload, 1) := by decide +kernel
theorem dL_law_591 : decode cL_law 591 = .ok (.aload_n 0, 1) := by decide +kernel
theorem dL_law_592 : decode cL_law 592 = .ok (.iload_n 3, 1) := by decide +kernel
theorem dL_law_593 : decode cL_law 593 = .ok (.iconst 2, 1) := by decide +kernel
theorem dL_law_594 : decode cL_law 594 = .ok (.iadd, 1) := by decide +kernel
theorem dL_law_595 : decode cL_law 595 = .ok (.iaload, 1) := by decide +kernel
theorem dL_law_596 : decode cL_law 596 = .ok (.invokevirtual 79, 3) := by decide +kernel
theorem dL_law_599 : decode cL_law 599 = .ok (.aload_n 2, 1) := by decide +kernel
theorem dL_law_600 : decode cL_law 600 = .ok (.aload_n 0, 1) := by decide +kernel
theorem dL_law_601 : decode cL_law 601 = .ok (.iload_n 3, 1) := by decide +kernel
theorem dL_law_602 : decode cL_law 602 = .ok (.iconst 1, 1) := by decide +kernel
theorem dL_law_603 : decode cL_law 603 = .ok (.iadd, 1) := by decide +kernel
theorem dL_law_604 : decode cL_law 604 = .ok (.iaload, 1) := by decide +kernel
theorem dL_law_605 : decode cL_law 605 = .ok (.aload_n 0, 1) := by decide +kernel
theorem dL_law_606 : decode cL_law 606 = .ok (.iload_n 3, 1) := by decide +kernel
theorem dL_law_607 : decode cL_law 607 = .ok (.iconst 2, 1) := by decide +kernel
theorem dL_law_608 : decode cL_law 608 = .ok (.iadd, 1) := by decide +kernel
theorem dL_law_609 : decode cL_law 609 = .ok (.iaload, 1) := by decide +kernel
theorem dL_law_610 : decode cL_law 610 = .ok (.invokevirtual 82, 3) := by decide +kernel
theorem dL_law_613 : decode cL_law 613 = .ok (.if_icmp .eq 107, 3) := by decide +kernel
theorem dL_law_616 : decode cL_law 616 = .ok (.iconst 0, 1) := by decide +kernel
theorem dL_law_617 : decode cL_law 617 = .ok (.ireturn, 1) := by decide +kernel
theorem dL_law_618 : decode cL_law 618 = .ok (.aload_n 1, 1) := by decide +kernel
theorem dL_law_619 : decode cL_law 619 = .ok (.aload_n 0, 1) := by decide +kernel
theorem dL_law_620 : decode cL_law 620 = .ok (.iload_n 3, 1) := by decide +kernel
theorem dL_law_621 : decode cL_law 621 = .ok (.iconst 1, 1) := by decide +kernel
theorem dL_law_622 : decode cL_law 622 = .ok (.iadd, 1) := by decide +kernel
theorem dL_law_623 : decode cL_law 623 = .ok (.iaload, 1) := by decide +kernel
theorem dL_law_624 : decode cL_law 624 = .ok (.aload_n 0, 1) := by decide +kernel
theorem dL_law_625 : decode cL_law 625 = .ok (.iload_n 3, 1) := by decide +kernel
theorem dL_law_626 : decode cL_law 626 = .ok (.iconst 2, 1) := by decide +kernel
theorem dL_law_627 : decode cL_law 627 = .ok (.iadd, 1) := by decide +kernel
theorem dL_law_628 : decode cL_law 628 = .ok (.iaload, 1) := by decide +kernel
theorem dL_law_629 : decode cL_law 629 = .ok (.invokevirtual 83, 3) := by decide +kernel
theorem dL_law_632 : decode cL_law 632 = .ok (.aload_n 2, 1) := by decide +kernel
theorem dL_law_633 : decode cL_law 633 = .ok (.aload_n 0, 1) := by decide +kernel
theorem dL_law_634 : decode cL_law 634 = .ok (.iload_n 3, 1) := by decide +kernel
theorem dL_law_635 : decode cL_law 635 = .ok (.iconst 1, 1) := by decide +kernel
theorem dL_law_636 : decode cL_law 636 = .ok (.iadd, 1) := by decide +kernel
theorem dL_law_637 : decode cL_law 637 = .ok (.iaload, 1) := by decide +kernel
theorem dL_law_638 : decode cL_law 638 = .ok (.aload_n 0, 1) := by decide +kernel
theorem dL_law_639 : decode cL_law 639 = .ok (.iload_n 3, 1) := by decide +kernel
theorem dL_law_640 : decode cL_law 640 = .ok (.iconst 2, 1) := by decide +kernel
theorem dL_law_641 : decode cL_law 641 = .ok (.iadd, 1) := by decide +kernel
theorem dL_law_642 : decode cL_law 642 = .ok (.iaload, 1) := by decide +kernel
theorem dL_law_643 : decode cL_law 643 = .ok (.invokevirtual 86, 3) := by decide +kernel
theorem dL_law_646 : decode cL_law 646 = .ok (.if_icmp .eq 74, 3) := by decide +kernel
theorem dL_law_649 : decode cL_law 649 = .ok (.iconst 0, 1) := by decide +kernel
theorem dL_law_650 : decode cL_law 650 = .ok (.ireturn, 1) := by decide +kernel
theorem dL_law_651 : decode cL_law 651 = .ok (.aload_n 1, 1) := by decide +kernel
theorem dL_law_652 : decode cL_law 652 = .ok (.invokevirtual 87, 3) := by decide +kernel
theorem dL_law_655 : decode cL_law 655 = .ok (.aload_n 2, 1) := by decide +kernel
theorem dL_law_656 : decode cL_law 656 = .ok (.invokevirtual 91, 3) := by decide +kernel
theorem dL_law_659 : decode cL_law 659 = .ok (.if_icmp .eq 61, 3) := by decide +kernel
theorem dL_law_662 : decode cL_law 662 = .ok (.iconst 0, 1) := by decide +kernel
theorem dL_law_663 : decode cL_law 663 = .ok (.ireturn, 1) := by decide +kernel
theorem dL_law_664 : decode cL_law 664 = .ok (.aload_n 1, 1) := by decide +kernel
theorem dL_law_665 : decode cL_law 665 = .ok (.aload_n 0, 1) := by decide +kernel
theorem dL_law_666 : decode cL_law 666 = .ok (.iload_n 3, 1) := by decide +kernel
theorem dL_law_667 : decode cL_law 667 = .ok (.iconst 1, 1) := by decide +kernel
theorem dL_law_668 : decode cL_law 668 = .ok (.iadd, 1) := by decide +kernel
theorem dL_law_669 : decode cL_law 669 = .ok (.iaload, 1) := by decide +kernel
theorem dL_law_670 : decode cL_law 670 = .ok (.aload_n 0, 1) := by decide +kernel
theorem dL_law_671 : decode cL_law 671 = .ok (.iload_n 3, 1) := by decide +kernel
theorem dL_law_672 : decode cL_law 672 = .ok (.iconst 2, 1) := by decide +kernel
theorem dL_law_673 : decode cL_law 673 = .ok (.iadd, 1) := by decide +kernel
theorem dL_law_674 : decode cL_law 674 = .ok (.iaload, 1) := by decide +kernel
theorem dL_law_675 : decode cL_law 675 = .ok (.invokevirtual 92, 3) := by decide +kernel
theorem dL_law_678 : decode cL_law 678 = .ok (.aload_n 2, 1) := by decide +kernel
theorem dL_law_679 : decode cL_law 679 = .ok (.aload_n 0, 1) := by decide +kernel
theorem dL_law_680 : decode cL_law 680 = .ok (.iload_n 3, 1) := by decide +kernel
theorem dL_law_681 : decode cL_law 681 = .ok (.iconst 1, 1) := by decide +kernel
theorem dL_law_682 : decode cL_law 682 = .ok (.iadd, 1) := by decide +kernel
theorem dL_law_683 : decode cL_law 683 = .ok (.iaload, 1) := by decide +kernel
theorem dL_law_684 : decode cL_law 684 = .ok (.aload_n 0, 1) := by decide +kernel
theorem dL_law_685 : decode cL_law 685 = .ok (.iload_n 3, 1) := by decide +kernel
theorem dL_law_686 : decode cL_law 686 = .ok (.iconst 2, 1) := by decide +kernel
theorem dL_law_687 : decode cL_law 687 = .ok (.iadd, 1) := by decide +kernel
theorem dL_law_688 : decode cL_law 688 = .ok (.iaload, 1) := by decide +kernel
theorem dL_law_689 : decode cL_law 689 = .ok (.invokevirtual 95, 3) := by decide +kernel
theorem dL_law_692 : decode cL_law 692 = .ok (.if_icmp .eq 28, 3) := by decide +kernel
theorem dL_law_695 : decode cL_law 695 = .ok (.iconst 0, 1) := by decide +kernel
theorem dL_law_696 : decode cL_law 696 = .ok (.ireturn, 1) := by decide +kernel
theorem dL_law_697 : decode cL_law 697 = .ok (.aload_n 1, 1) := by decide +kernel
theorem dL_law_698 : decode cL_law 698 = .ok (.aload_n 0, 1) := by decide +kernel
theorem dL_law_699 : decode cL_law 699 = .ok (.iload_n 3, 1) := by decide +kernel
theorem dL_law_700 : decode cL_law 700 = .ok (.iconst 1, 1) := by decide +kernel
theorem dL_law_701 : decode cL_law 701 = .ok (.iadd, 1) := by decide +kernel
theorem dL_law_702 : decode cL_law 702 = .ok (.iaload, 1) := by decide +kernel
theorem dL_law_703 : decode cL_law 703 = .ok (.invokevirtual 96, 3) := by decide +kernel
theorem dL_law_706 : decode cL_law 706 = .ok (.aload_n 2, 1) := by decide +kernel
theorem dL_law_707 : decode cL_law 707 = .ok (.aload_n 0, 1) := by decide +kernel
theorem dL_law_708 : decode cL_law 708 = .ok (.iload_n 3, 1) := by decide +kernel
theorem dL_law_709 : decode cL_law 709 = .ok (.iconst 1, 1) := by decide +kernel
theorem dL_law_710 : decode cL_law 710 = .ok (.iadd, 1) := by decide +kernel
theorem dL_law_711 : decode cL_law 711 = .ok (.iaload, 1) := by decide +kernel
theorem dL_law_712 : decode cL_law 712 = .ok (.invokevirtual 99, 3) := by decide +kernel
theorem dL_law_715 : decode cL_law 715 = .ok (.if_icmp .eq 5, 3) := by decide +kernel
theorem dL_law_718 : decode cL_law 718 = .ok (.iconst 0, 1) := by decide +kernel
theorem dL_law_719 : decode cL_law 719 = .ok (.ireturn, 1) := by decide +kernel
theorem dL_law_720 : decode cL_law 720 = .ok (.iinc 3 4, 3) := by decide +kernel
theorem dL_law_723 : decode cL_law 723 = .ok (.goto (-705), 3) := by decide +kernel
theorem dL_law_726 : decode cL_law 726 = .ok (.iconst 1, 1) := by decide +kernel
theorem dL_law_727 : decode cL_law 727 = .ok (.ireturn, 1) := by decide +kernel
end
section
/-! the memory: kind, number, place; a world of cells, read off the memory; rows over it -/
abbrev am_N : Type := Nat → Nat → Nat → Nat
abbrev am_M : Type := am_N × am_N
def am_u (x : am_N) (a b k v : Nat) : am_N := fun a' b' k' => if a' = a ∧ b' = b ∧ k' = k then v else x a' b' k'
abbrev am_c1 (M : am_M) (a b k v : Nat) : am_M := (am_u M.1 a b k v, M.2)
abbrev am_c2 (M : am_M) (a b k v : Nat) : am_M := (M.1, am_u M.2 a b k v)
abbrev am_Sh : Type := (ClassId × Nat) ⊕ (ClassId × Nat × (Nat → Nat)) ⊕ (Nat × List (Option Nat))
def am_fv (ad : Nat → Nat) (x : Nat) (o : Option Nat) : Value := match o with
  | none => .int (nI x)
  | some j => .ref (ad j)
def am_fl (ad : Nat → Nat) (r : Nat → Nat) : Nat → List (Option Nat) → List Value
  | _, [] => []
  | k, o :: l => am_fv ad (r k) o :: am_fl ad r (k + 1) l
theorem am_fl_get (ad : Nat → Nat) (r : Nat → Nat) : ∀ (fs : List (Option Nat)) (k j : Nat), (am_fl ad r k fs)[j]? = (fs[j]?).map (fun o => am_fv ad (r (k + j)) o)
  | [], k, j => by simp [am_fl]
  | o :: l, k, 0 => by simp [am_fl]
  | o :: l, k, j + 1 => by
    show (am_fl ad r (k + 1) l)[j]? = (l[j]?).map _
    rw [am_fl_get ad r l (k + 1) j, show k + 1 + j = k + (j + 1) by omega]
theorem am_fl_len (ad : Nat → Nat) (r : Nat → Nat) : ∀ (fs : List (Option Nat)) (k : Nat), (am_fl ad r k fs).length = fs.length
  | [], _ => rfl
  | _ :: l, k => by
    show (am_fl ad r (k + 1) l).length + 1 = l.length + 1
    rw [am_fl_len ad r l (k + 1)]
theorem am_fvi {ad : Nat → Nat} {r : Nat → Nat} {fs : List (Option Nat)} {k : Nat} (h : fs[k]? = some none) : (am_fl ad r 0 fs)[k]? = some (.int (nI (r k))) := by
  rw [am_fl_get, h, Nat.zero_add]; rfl
theorem am_fvr {ad : Nat → Nat} {r : Nat → Nat} {fs : List (Option Nat)} {k j : Nat} (h : fs[k]? = some (some j)) : (am_fl ad r 0 fs)[k]? = some (.ref (ad j)) := by
  rw [am_fl_get, h]; rfl
theorem am_us {x : am_N} {a b k v : Nat} : am_u x a b k v a b = fun j => if j = k then v else x a b j := by
  funext j; simp [am_u]
theorem am_un {x : am_N} {a b k v a' b' : Nat} (h : ¬ (a' = a ∧ b' = b)) : am_u x a b k v a' b' = x a' b' := by
  funext j
  exact if_neg (fun q => h ⟨q.1, q.2.1⟩)
theorem am_fl_set {ad : Nat → Nat} {r : Nat → Nat} {fs : List (Option Nat)} {j v : Nat} (h : fs[j]? = some none) : (am_fl ad r 0 fs).set j (.int (nI v)) = am_fl ad (fun q => if q = j then v else r q) 0 fs := by
  apply List.ext_getElem?
  intro q
  rw [am_fl_get, List.getElem?_set]
  by_cases hq : j = q
  · subst hq
    rw [if_pos rfl, am_fl_len, if_pos (List.getElem?_eq_some_iff.mp h).1, h]
    simp [am_fv]
  · rw [if_neg hq, am_fl_get, if_neg (show ¬ 0 + q = j by omega)]
def am_c (ad : Nat → Nat) (r : Nat → Nat) (sh : am_Sh) : va_E := match sh with
  | .inl a => .inl (a.1, a.2, .inl (fun k => nI (r k)))
  | .inr (.inl a) => .inl (a.1, a.2.1, .inr (.inr (.inr (.inr (fun k => some (ad (a.2.2 k)))))))
  | .inr (.inr o) => .inr (o.1, am_fl ad r 0 o.2)
/-- which row of the memory a cell holds -/
def am_kb (i : Nat) : Nat × Nat :=
  if i = 0 then (0, 0) else if i = 1 then (10, 0) else if i = 2 then (11, 0) else if i = 3 then (1, 0) else if i = 4 then (12, 0)
  else if i < 9 then (2, i - 5)
  else if i < 33 then (3 + (i - 9) % 6, (i - 9) / 6)
  else if i < 43 then (9, i - 33)
  else if i = 43 then (20, 0)
  else (i - 23, 0)
theorem am_kb_inj : ∀ i, i < 63 → ∀ j, j < 63 → am_kb i = am_kb j → i = j := by decide +kernel
def am_rw (M : am_M) (i : Nat) : Nat → Nat := if i < 43 then M.1 (am_kb i).1 (am_kb i).2 else M.2 (am_kb i).1 (am_kb i).2
def am_pu (M : am_M) (i k v : Nat) : am_M := if i < 43 then am_c1 M (am_kb i).1 (am_kb i).2 k v else am_c2 M (am_kb i).1 (am_kb i).2 k v
theorem am_pus {M : am_M} {i k v : Nat} : am_rw (am_pu M i k v) i = fun j => if j = k then v else am_rw M i j := by
  unfold am_rw am_pu
  by_cases h : i < 43
  · simp only [if_pos h]
    exact am_us
  · simp only [if_neg h]
    exact am_us
theorem am_pun {M : am_M} {i j k v : Nat} (hi : i < 63) (hj : j < 63) (h : i ≠ j) : am_rw (am_pu M i k v) j = am_rw M j := by
  have hne : ¬ ((am_kb j).1 = (am_kb i).1 ∧ (am_kb j).2 = (am_kb i).2) := fun q => h (am_kb_inj i hi j hj (Prod.ext q.1.symm q.2.symm))
  unfold am_rw am_pu
  by_cases h1 : i < 43 <;> by_cases h2 : j < 43
  · simp only [if_pos h1, if_pos h2]
    exact am_un hne
  · simp only [if_pos h1, if_neg h2]
  · simp only [if_neg h1, if_pos h2]
  · simp only [if_neg h1, if_neg h2]
    exact am_un hne
def am_w (ad : Nat → Nat) (sh : Nat → am_Sh) (N : Nat) (M : am_M) : va_W := (List.range N).map (fun i => (ad i, am_c ad (am_rw M i) (sh i)))
theorem am_wg {ad : Nat → Nat} {sh : Nat → am_Sh} {N : Nat} {M : am_M} {i : Nat} (hi : i < N) : (am_w ad sh N M)[i]? = some (ad i, am_c ad (am_rw M i) (sh i)) := by
  rw [am_w, List.getElem?_map, List.getElem?_range hi]; rfl
theorem am_wl {ad : Nat → Nat} {sh : Nat → am_Sh} {N : Nat} {M : am_M} : (am_w ad sh N M).length = N := by simp [am_w]
theorem am_wset {ad : Nat → Nat} {sh : Nat → am_Sh} {M : am_M} {i k v : Nat} {e : va_E} (hi : i < 63) (he : e = am_c ad (fun j => if j = k then v else am_rw M i j) (sh i)) : (am_w ad sh 63 M).set i (ad i, e) = am_w ad sh 63 (am_pu M i k v) := by
  apply List.ext_getElem?
  intro q
  rw [List.getElem?_set]
  by_cases hq : i = q
  · subst hq
    rw [if_pos rfl, am_wl, if_pos hi, am_wg hi, he, am_pus]
  · rw [if_neg hq]
    by_cases hN : q < 63
    · rw [am_wg hN, am_wg hN, am_pun hi hN hq]
    · rw [List.getElem?_eq_none (by rw [am_wl]; omega), List.getElem?_eq_none (by rw [am_wl]; omega)]
def am_A (ad : Nat → Nat) (N : Nat) : Nat → Prop := fun q => ∃ i, i < N ∧ q = ad i
abbrev am_inj (ad : Nat → Nat) : Prop := ∀ i j, i < 63 → j < 63 → ad i = ad j → i = j
theorem am_wi {ad : Nat → Nat} {sh : Nat → am_Sh} {N : Nat} {M : am_M} {k : Nat} {q : Nat × va_E} (h : (am_w ad sh N M)[k]? = some q) : k < N ∧ q.1 = ad k := by
  have hk : k < N := by
    have h1 := (List.getElem?_eq_some_iff.mp h).1
    rw [am_wl] at h1
    exact h1
  rw [am_wg hk] at h
  exact ⟨hk, by rw [← Option.some.inj h]⟩
theorem am_D {ad : Nat → Nat} {sh : Nat → am_Sh} {M : am_M} (hI : am_inj ad) : va_D (am_A ad 63) (am_w ad sh 63 M) := by
  refine ⟨fun i j p q hi hj h => ?_, fun k q hk => ?_⟩
  · obtain ⟨h1, h2⟩ := am_wi hi
    obtain ⟨h3, h4⟩ := am_wi hj
    exact hI i j h1 h3 (by rw [← h2, ← h4]; exact h)
  · obtain ⟨h1, h2⟩ := am_wi hk
    exact ⟨k, h1, h2⟩
/-- what is known of a cell: its shape, its row of the memory, and the memory when it is written -/
abbrev am_is (ca : Nat → ClassId) (sh : (Nat → ClassId) → Nat → am_Sh) (i : Nat) (z : am_Sh) (r : am_M → Nat → Nat) (w : am_M → Nat → Nat → am_M) : Prop := sh ca i = z ∧ (∀ M, am_rw M i = r M) ∧ ∀ M k v, am_pu M i k v = w M k v
theorem am_wo {ad : Nat → Nat} {ca : Nat → ClassId} {sh : (Nat → ClassId) → Nat → am_Sh} {N : Nat} {M : am_M} {i ci : Nat} {r : am_M → Nat → Nat} {w : am_M → Nat → Nat → am_M} {fs : List (Option Nat)} (hi : i < N) (hs : am_is ca sh i (.inr (.inr (ci, fs))) r w) : (am_w ad (sh ca) N M)[i]? = some (ad i, .inr (ci, am_fl ad (r M) 0 fs)) := by
  rw [am_wg hi, hs.1, hs.2.1]; rfl
theorem am_wa {ad : Nat → Nat} {ca : Nat → ClassId} {sh : (Nat → ClassId) → Nat → am_Sh} {N : Nat} {M : am_M} {i n : Nat} {r : am_M → Nat → Nat} {w : am_M → Nat → Nat → am_M} {cA : ClassId} (hi : i < N) (hs : am_is ca sh i (.inl (cA, n)) r w) : (am_w ad (sh ca) N M)[i]? = some (ad i, .inl (cA, n, .inl (fun k => nI (r M k)))) := by
  rw [am_wg hi, hs.1, hs.2.1]; rfl
theorem am_wr {ad : Nat → Nat} {sh : Nat → am_Sh} {N : Nat} {M : am_M} {i n : Nat} {f : Nat → Nat} {cA : ClassId} (hi : i < N) (hs : sh i = .inr (.inl (cA, n, f))) : (am_w ad sh N M)[i]? = some (ad i, .inl (cA, n, .inr (.inr (.inr (.inr (fun k => some (ad (f k)))))))) := by
  rw [am_wg hi, hs]; rfl
abbrev am_let (x : Int32) (P : Int32 → Prop) : Prop := P x
abbrev am_ix (x : Int32) (n : Nat) (P : Nat → Prop) : Prop := ∃ k, k < n ∧ x = nI k ∧ P k
abbrev am_sa (w : Nat → Nat → am_M) (n : Nat) (x y : Int32) (P : am_M → Prop) : Prop := ∃ k v, k < n ∧ x = nI k ∧ y = nI v ∧ P (w k v)
abbrev am_sz (w : Nat → Nat → am_M) (n : Nat) (x y : Int32) (P : am_M → Prop) : Prop := ∃ k v, k < n ∧ x = nI k ∧ y = nI v ∧ v < 2 ∧ P (w k v)
abbrev am_sf (w : Nat → am_M) (y : Int32) (P : am_M → Prop) : Prop := ∃ v, y = nI v ∧ P (w v)
abbrev am_sfz (w : Nat → am_M) (y : Int32) (P : am_M → Prop) : Prop := ∃ v, y = nI v ∧ v < 2 ∧ P (w v)
end
section
/-! rows over the world: one an instruction -/
abbrev am_ty (ca : Nat → ClassId) : List (ClassId × FieldType) := [(ca 0, .int), (ca 1, .boolean), (ca 2, .object RX3), (ca 3, .object RX4), (ca 4, .array .int)]
def am_sh (ca : Nat → ClassId) (i : Nat) : am_Sh :=
  if i = 0 then .inr (.inr (0, [some 1, some 2, some 3, none]))
  else if i = 1 then .inr (.inl (ca 2, 4, fun k => 9 + 6 * k))
  else if i = 2 then .inr (.inl (ca 3, 10, fun k => 33 + k))
  else if i = 3 then .inr (.inr (2, [some 4, none]))
  else if i = 4 then .inr (.inl (ca 4, 4, fun k => 5 + k))
  else if i < 9 then .inl (ca 0, 40)
  else if i < 33 then
    (if (i - 9) % 6 = 0 then .inr (.inr (3, [none, some (i + 1), some (i + 2), some (i + 3)]))
    else if (i - 9) % 6 = 1 then .inl (ca 0, 10)
    else if (i - 9) % 6 = 2 then .inl (ca 0, 10)
    else if (i - 9) % 6 = 3 then .inr (.inr (1, [some (i + 1), some (i + 2), none, none, none]))
    else .inl (ca 0, 60))
  else if i < 43 then .inr (.inr (4, [none, none, none, none, none, none]))
  else if i = 43 then .inr (.inr (5, [some 44, some 45, none, some 46, some 47, some 48, some 49, some 50, some 51, some 52, some 53, some 54, some 55, some 56, some 57, some 58, none, some 59, some 60, some 61, some 62]))
  else if i = 44 then .inl (ca 1, 4)
  else if i = 45 then .inl (ca 0, 4)
  else if i < 48 then .inl (ca 0, 10)
  else if i < 52 then .inl (ca 1, 40)
  else if i = 52 then .inl (ca 0, 40)
  else if i = 53 then .inl (ca 0, 32)
  else if i = 54 then .inl (ca 0, 4)
  else if i < 58 then .inl (ca 0, 256)
  else if i = 58 then .inl (ca 1, 256)
  else .inl (ca 0, 40)
theorem am_4 {P : Nat → Prop} {n : Nat} (hn : n < 4) (h0 : P 0) (h1 : P 1) (h2 : P 2) (h3 : P 3) : P n := by
  have h : n = 0 ∨ n = 1 ∨ n = 2 ∨ n = 3 := by omega
  rcases h with rfl | rfl | rfl | rfl
  · exact h0
  · exact h1
  · exact h2
  · exact h3
theorem am_10 {P : Nat → Prop} {n : Nat} (hn : n < 10) (h0 : P 0) (h1 : P 1) (h2 : P 2) (h3 : P 3) (h4 : P 4) (h5 : P 5) (h6 : P 6) (h7 : P 7) (h8 : P 8) (h9 : P 9) : P n := by
  have h : n = 0 ∨ n = 1 ∨ n = 2 ∨ n = 3 ∨ n = 4 ∨ n = 5 ∨ n = 6 ∨ n = 7 ∨ n = 8 ∨ n = 9 := by omega
  rcases h with rfl | rfl | rfl | rfl | rfl | rfl | rfl | rfl | rfl | rfl <;> assumption
theorem am_s_outer (ca : Nat → ClassId) : am_is ca am_sh 0 (.inr (.inr (0, [some 1, some 2, some 3, none]))) (fun M => M.1 0 0) (fun M => am_c1 M 0 0) := ⟨rfl, fun _ => rfl, fun _ _ _ => rfl⟩
theorem am_s_nodes (ca : Nat → ClassId) : am_sh ca 1 = .inr (.inl (ca 2, 4, fun k => 9 + 6 * k)) := rfl
theorem am_s_trans (ca : Nat → ClassId) : am_sh ca 2 = .inr (.inl (ca 3, 10, fun k => 33 + k)) := rfl
theorem am_s_row (ca : Nat → ClassId) : am_is ca am_sh 3 (.inr (.inr (2, [some 4, none]))) (fun M => M.1 1 0) (fun M => am_c1 M 1 0) := ⟨rfl, fun _ => rfl, fun _ _ _ => rfl⟩
theorem am_s_parts (ca : Nat → ClassId) : am_sh ca 4 = .inr (.inl (ca 4, 4, fun k => 5 + k)) := rfl
theorem am_s_part (ca : Nat → ClassId) {n : Nat} (hn : n < 4) : am_is ca am_sh (5 + n) (.inl (ca 0, 40)) (fun M => M.1 2 n) (fun M => am_c1 M 2 n) := am_4 (P := fun n => am_is ca am_sh (5 + n) (.inl (ca 0, 40)) (fun M => M.1 2 n) (fun M => am_c1 M 2 n)) hn ⟨rfl, fun _ => rfl, fun _ _ _ => rfl⟩ ⟨rfl, fun _ => rfl, fun _ _ _ => rfl⟩ ⟨rfl, fun _ => rfl, fun _ _ _ => rfl⟩ ⟨rfl, fun _ => rfl, fun _ _ _ => rfl⟩
theorem am_s_node (ca : Nat → ClassId) {n : Nat} (hn : n < 4) : am_is ca am_sh (9 + 6 * n) (.inr (.inr (3, [none, some (10 + 6 * n), some (11 + 6 * n), some (12 + 6 * n)]))) (fun M => M.1 3 n) (fun M => am_c1 M 3 n) := am_4 (P := fun n => am_is ca am_sh (9 + 6 * n) (.inr (.inr (3, [none, some (10 + 6 * n), some (11 + 6 * n), some (12 + 6 * n)]))) (fun M => M.1 3 n) (fun M => am_c1 M 3 n)) hn ⟨rfl, fun _ => rfl, fun _ _ _ => rfl⟩ ⟨rfl, fun _ => rfl, fun _ _ _ => rfl⟩ ⟨rfl, fun _ => rfl, fun _ _ _ => rfl⟩ ⟨rfl, fun _ => rfl, fun _ _ _ => rfl⟩
theorem am_s_states (ca : Nat → ClassId) {n : Nat} (hn : n < 4) : am_is ca am_sh (10 + 6 * n) (.inl (ca 0, 10)) (fun M => M.1 4 n) (fun M => am_c1 M 4 n) := am_4 (P := fun n => am_is ca am_sh (10 + 6 * n) (.inl (ca 0, 10)) (fun M => M.1 4 n) (fun M => am_c1 M 4 n)) hn ⟨rfl, fun _ => rfl, fun _ _ _ => rfl⟩ ⟨rfl, fun _ => rfl, fun _ _ _ => rfl⟩ ⟨rfl, fun _ => rfl, fun _ _ _ => rfl⟩ ⟨rfl, fun _ => rfl, fun _ _ _ => rfl⟩
theorem am_s_held (ca : Nat → ClassId) {n : Nat} (hn : n < 4) : am_is ca am_sh (11 + 6 * n) (.inl (ca 0, 10)) (fun M => M.1 5 n) (fun M => am_c1 M 5 n) := am_4 (P := fun n => am_is ca am_sh (11 + 6 * n) (.inl (ca 0, 10)) (fun M => M.1 5 n) (fun M => am_c1 M 5 n)) hn ⟨rfl, fun _ => rfl, fun _ _ _ => rfl⟩ ⟨rfl, fun _ => rfl, fun _ _ _ => rfl⟩ ⟨rfl, fun _ => rfl, fun _ _ _ => rfl⟩ ⟨rfl, fun _ => rfl, fun _ _ _ => rfl⟩
theorem am_s_log (ca : Nat → ClassId) {n : Nat} (hn : n < 4) : am_is ca am_sh (12 + 6 * n) (.inr (.inr (1, [some (13 + 6 * n), some (14 + 6 * n), none, none, none]))) (fun M => M.1 6 n) (fun M => am_c1 M 6 n) := am_4 (P := fun n => am_is ca am_sh (12 + 6 * n) (.inr (.inr (1, [some (13 + 6 * n), some (14 + 6 * n), none, none, none]))) (fun M => M.1 6 n) (fun M => am_c1 M 6 n)) hn ⟨rfl, fun _ => rfl, fun _ _ _ => rfl⟩ ⟨rfl, fun _ => rfl, fun _ _ _ => rfl⟩ ⟨rfl, fun _ => rfl, fun _ _ _ => rfl⟩ ⟨rfl, fun _ => rfl, fun _ _ _ => rfl⟩
theorem am_s_labels (ca : Nat → ClassId) {n : Nat} (hn : n < 4) : am_is ca am_sh (13 + 6 * n) (.inl (ca 0, 60)) (fun M => M.1 7 n) (fun M => am_c1 M 7 n) := am_4 (P := fun n => am_is ca am_sh (13 + 6 * n) (.inl (ca 0, 60)) (fun M => M.1 7 n) (fun M => am_c1 M 7 n)) hn ⟨rfl, fun _ => rfl, fun _ _ _ => rfl⟩ ⟨rfl, fun _ => rfl, fun _ _ _ => rfl⟩ ⟨rfl, fun _ => rfl, fun _ _ _ => rfl⟩ ⟨rfl, fun _ => rfl, fun _ _ _ => rfl⟩
theorem am_s_contents (ca : Nat → ClassId) {n : Nat} (hn : n < 4) : am_is ca am_sh (14 + 6 * n) (.inl (ca 0, 60)) (fun M => M.1 8 n) (fun M => am_c1 M 8 n) := am_4 (P := fun n => am_is ca am_sh (14 + 6 * n) (.inl (ca 0, 60)) (fun M => M.1 8 n) (fun M => am_c1 M 8 n)) hn ⟨rfl, fun _ => rfl, fun _ _ _ => rfl⟩ ⟨rfl, fun _ => rfl, fun _ _ _ => rfl⟩ ⟨rfl, fun _ => rfl, fun _ _ _ => rfl⟩ ⟨rfl, fun _ => rfl, fun _ _ _ => rfl⟩
theorem am_s_tx (ca : Nat → ClassId) {n : Nat} (hn : n < 10) : am_is ca am_sh (33 + n) (.inr (.inr (4, [none, none, none, none, none, none]))) (fun M => M.1 9 n) (fun M => am_c1 M 9 n) := am_10 (P := fun n => am_is ca am_sh (33 + n) (.inr (.inr (4, [none, none, none, none, none, none]))) (fun M => M.1 9 n) (fun M => am_c1 M 9 n)) hn ⟨rfl, fun _ => rfl, fun _ _ _ => rfl⟩ ⟨rfl, fun _ => rfl, fun _ _ _ => rfl⟩ ⟨rfl, fun _ => rfl, fun _ _ _ => rfl⟩ ⟨rfl, fun _ => rfl, fun _ _ _ => rfl⟩ ⟨rfl, fun _ => rfl, fun _ _ _ => rfl⟩ ⟨rfl, fun _ => rfl, fun _ _ _ => rfl⟩ ⟨rfl, fun _ => rfl, fun _ _ _ => rfl⟩ ⟨rfl, fun _ => rfl, fun _ _ _ => rfl⟩ ⟨rfl, fun _ => rfl, fun _ _ _ => rfl⟩ ⟨rfl, fun _ => rfl, fun _ _ _ => rfl⟩
theorem am_s_model (ca : Nat → ClassId) : am_is ca am_sh 43 (.inr (.inr (5, [some 44, some 45, none, some 46, some 47, some 48, some 49, some 50, some 51, some 52, some 53, some 54, some 55, some 56, some 57, some 58, none, some 59, some 60, some 61, some 62]))) (fun M => M.2 20 0) (fun M => am_c2 M 20 0) := ⟨rfl, fun _ => rfl, fun _ _ _ => rfl⟩
theorem am_s_m_down (ca : Nat → ClassId) : am_is ca am_sh 44 (.inl (ca 1, 4)) (fun M => M.2 21 0) (fun M => am_c2 M 21 0) := ⟨rfl, fun _ => rfl, fun _ _ _ => rfl⟩
theorem am_s_m_forces (ca : Nat → ClassId) : am_is ca am_sh 45 (.inl (ca 0, 4)) (fun M => M.2 22 0) (fun M => am_c2 M 22 0) := ⟨rfl, fun _ => rfl, fun _ _ _ => rfl⟩
theorem am_s_m_chief (ca : Nat → ClassId) : am_is ca am_sh 46 (.inl (ca 0, 10)) (fun M => M.2 23 0) (fun M => am_c2 M 23 0) := ⟨rfl, fun _ => rfl, fun _ _ _ => rfl⟩
theorem am_s_m_stages (ca : Nat → ClassId) : am_is ca am_sh 47 (.inl (ca 0, 10)) (fun M => M.2 24 0) (fun M => am_c2 M 24 0) := ⟨rfl, fun _ => rfl, fun _ _ _ => rfl⟩
theorem am_s_m_member (ca : Nat → ClassId) : am_is ca am_sh 48 (.inl (ca 1, 40)) (fun M => M.2 25 0) (fun M => am_c2 M 25 0) := ⟨rfl, fun _ => rfl, fun _ _ _ => rfl⟩
theorem am_s_m_yes (ca : Nat → ClassId) : am_is ca am_sh 49 (.inl (ca 1, 40)) (fun M => M.2 26 0) (fun M => am_c2 M 26 0) := ⟨rfl, fun _ => rfl, fun _ _ _ => rfl⟩
theorem am_s_m_read (ca : Nat → ClassId) : am_is ca am_sh 50 (.inl (ca 1, 40)) (fun M => M.2 27 0) (fun M => am_c2 M 27 0) := ⟨rfl, fun _ => rfl, fun _ _ _ => rfl⟩
theorem am_s_m_due (ca : Nat → ClassId) : am_is ca am_sh 51 (.inl (ca 1, 40)) (fun M => M.2 28 0) (fun M => am_c2 M 28 0) := ⟨rfl, fun _ => rfl, fun _ _ _ => rfl⟩
theorem am_s_m_states (ca : Nat → ClassId) : am_is ca am_sh 52 (.inl (ca 0, 40)) (fun M => M.2 29 0) (fun M => am_c2 M 29 0) := ⟨rfl, fun _ => rfl, fun _ _ _ => rfl⟩
theorem am_s_m_held (ca : Nat → ClassId) : am_is ca am_sh 53 (.inl (ca 0, 32)) (fun M => M.2 30 0) (fun M => am_c2 M 30 0) := ⟨rfl, fun _ => rfl, fun _ _ _ => rfl⟩
theorem am_s_m_length (ca : Nat → ClassId) : am_is ca am_sh 54 (.inl (ca 0, 4)) (fun M => M.2 31 0) (fun M => am_c2 M 31 0) := ⟨rfl, fun _ => rfl, fun _ _ _ => rfl⟩
theorem am_s_m_logOf (ca : Nat → ClassId) : am_is ca am_sh 55 (.inl (ca 0, 256)) (fun M => M.2 32 0) (fun M => am_c2 M 32 0) := ⟨rfl, fun _ => rfl, fun _ _ _ => rfl⟩
theorem am_s_m_logKind (ca : Nat → ClassId) : am_is ca am_sh 56 (.inl (ca 0, 256)) (fun M => M.2 33 0) (fun M => am_c2 M 33 0) := ⟨rfl, fun _ => rfl, fun _ _ _ => rfl⟩
theorem am_s_m_logWhat (ca : Nat → ClassId) : am_is ca am_sh 57 (.inl (ca 0, 256)) (fun M => M.2 34 0) (fun M => am_c2 M 34 0) := ⟨rfl, fun _ => rfl, fun _ _ _ => rfl⟩
theorem am_s_m_logSafe (ca : Nat → ClassId) : am_is ca am_sh 58 (.inl (ca 1, 256)) (fun M => M.2 35 0) (fun M => am_c2 M 35 0) := ⟨rfl, fun _ => rfl, fun _ _ _ => rfl⟩
theorem am_s_m_kinds (ca : Nat → ClassId) : am_is ca am_sh 59 (.inl (ca 0, 40)) (fun M => M.2 36 0) (fun M => am_c2 M 36 0) := ⟨rfl, fun _ => rfl, fun _ _ _ => rfl⟩
theorem am_s_m_from (ca : Nat → ClassId) : am_is ca am_sh 60 (.inl (ca 0, 40)) (fun M => M.2 37 0) (fun M => am_c2 M 37 0) := ⟨rfl, fun _ => rfl, fun _ _ _ => rfl⟩
theorem am_s_m_to (ca : Nat → ClassId) : am_is ca am_sh 61 (.inl (ca 0, 40)) (fun M => M.2 38 0) (fun M => am_c2 M 38 0) := ⟨rfl, fun _ => rfl, fun _ _ _ => rfl⟩
theorem am_s_m_about (ca : Nat → ClassId) : am_is ca am_sh 62 (.inl (ca 0, 40)) (fun M => M.2 39 0) (fun M => am_c2 M 39 0) := ⟨rfl, fun _ => rfl, fun _ _ _ => rfl⟩
def am_Nw (t : State) : Prop := va_Nw (.methodLinkNest RX3 29 yX0_isIn RX0) t ∧ va_Nw (.methodLinkNest RX3 37 yX0_only RX0) t ∧ va_Nw (.methodLinkNest RX2 20 yX0_isIn RX0) t
theorem am_Nw.warm {s t : State} (hW : s.WarmedH t.vm) (h : am_Nw s) : am_Nw t := ⟨va_Nw.warmM hW h.1, va_Nw.warmM hW h.2.1, va_Nw.warmM hW h.2.2⟩
theorem am_Nw.same {s t : State} (hv : s.vm = t.vm) (h : am_Nw s) : am_Nw t := ⟨va_Nw.same rfl hv h.1, va_Nw.same rfl hv h.2.1, va_Nw.same rfl hv h.2.2⟩
abbrev am_B (dC : Nat → ClassId) (dI : Nat → Nat → Nat) (ca : Nat → ClassId) (ad : Nat → Nat) (M : am_M) (t : State) : Prop := va_P (dC, dI) vwCl (am_w ad (am_sh ca) 63 M) t.heap ∧ va_K (dC, dI) vwCl (am_ty ca) t ∧ am_Nw t
abbrev am_Qi (dC : Nat → ClassId) (dI : Nat → Nat → Nat) (ca : Nat → ClassId) (ad : Nat → Nat) (Q : Int32 → am_M → Prop) : Array Value → State → Outcome → State → Prop := va_Qi Q (am_B dC dI ca ad) (am_A ad 63)
abbrev am_Qv (dC : Nat → ClassId) (dI : Nat → Nat → Nat) (ca : Nat → ClassId) (ad : Nat → Nat) (Q : am_M → Prop) : Array Value → State → Outcome → State → Prop := va_Qv Q (am_B dC dI ca ad) (am_A ad 63)
abbrev am_Wi (p : Program) (l : Launch) (e : Env) (ws : List Cond) (rm : Room) (s : State) (m : MethodId) (args : Array Value) (below : List Frame) (meth : Method) (c : Code) (H : Heap) (locs : List Loc) (dC : Nat → ClassId) (dI : Nat → Nat → Nat) (ca : Nat → ClassId) (ad : Nat → Nat) (Q : Int32 → am_M → Prop) (g : JFrame) : Prop := W p l e (headSpec ws rm).room s m args below meth c H locs 0 0 (MQ below (am_Qi dC dI ca ad Q) args s 0 0 (am_A ad 63)) g
abbrev am_Wv (p : Program) (l : Launch) (e : Env) (ws : List Cond) (rm : Room) (s : State) (m : MethodId) (args : Array Value) (below : List Frame) (meth : Method) (c : Code) (H : Heap) (locs : List Loc) (dC : Nat → ClassId) (dI : Nat → Nat → Nat) (ca : Nat → ClassId) (ad : Nat → Nat) (Q : am_M → Prop) (g : JFrame) : Prop := W p l e (headSpec ws rm).room s m args below meth c H locs 0 0 (MQ below (am_Qv dC dI ca ad Q) args s 0 0 (am_A ad 63)) g
section AMR
variable {p : Program} {l : Launch} {e : Env} {R : Room} {s : State} {m : MethodId} {args : Array Value} {below : List Frame} {meth : Method} {c : Code} {H : Heap} {locs : List Loc} {cells slots : Nat} {Q : State → Prop}
variable {cc : ByteArray} {pc : Nat} {ls : Array Slot} {rest : List Value} {dC : Nat → ClassId} {dI : Nat → Nat → Nat} {ca : Nat → ClassId} {ad : Nat → Nat} {M : am_M}
theorem am_enter {A : Nat → Prop} {D : va_G} {cl : List vw_C} {ws : va_W} {g : JFrame} (hP : va_P D cl ws s.heap) (kk : ∀ (H : Heap) (locs : List Loc), va_P D cl ws H → va_S A s.heap H locs → W p l e R s m args below meth c H locs cells slots Q g) : W p l e R s m args below meth c s.heap [] cells slots Q g := kk _ _ hP va_S.rf
theorem am_topi {x : Int32} {P : Int32 → Prop} (h : am_let x P) (k : ∀ y : Int32, P y → W p l e R s m args below meth c H locs cells slots Q (F0 m pc ls (.int y :: rest))) : W p l e R s m args below meth c H locs cells slots Q (F0 m pc ls (.int x :: rest)) := k x h
theorem am_iinc {i nL k : Nat} {n : Int} {d x : Int32} {lv : List (Nat × Value)} {P : Int32 → Prop} (hx : p.tables.exec = Jvm.exec) (hb : c.code = cc) (hdg : decode cc pc = .ok (.iinc i n, 3)) (hl : lv_has ls nL lv) (hk : lv[k]? = some (i, .int x)) (hd : Int32.ofInt n = d) (hn : i < nL) (h : am_let (x + d) P)
    (kk : ∀ (y : Int32) (ls' : Array Slot), P y → lv_has ls' nL ((i, Value.int y) :: lv.filter (fun q => !(q.1 == i) && !(q.1 + 1 == i && q.2.category == 2))) → W p l e R s m args below meth c H locs cells slots Q (F0 m (pc + 3) ls' rest)) : W p l e R s m args below meth c H locs cells slots Q (F0 m pc ls rest) :=
  lv_iinc hx hb hdg hl hk (v := x + d) (by rw [hd]) hn rfl (fun ls' hl' => kk _ ls' h hl')
theorem am_iald (hx : p.tables.exec = Jvm.exec) (hb : c.code = cc) (hK : va_K (dC, dI) vwCl (am_ty ca) s) (hP : va_P (dC, dI) vwCl (am_w ad (am_sh ca) 63 M) H) {i n : Nat} {r : am_M → Nat → Nat} {w : am_M → Nat → Nat → am_M} (hi : i < 63) (hs : am_is ca am_sh i (.inl (ca 0, n)) r w) {x : Int32} {P : Nat → Prop} (h : am_ix x n P) (hdg : decode cc pc = .ok (.iaload, 1))
    (kk : ∀ k, k < n → P k → W p l e R s m args below meth c H locs cells slots Q (F0 m (pc + 1) ls (.int (nI (r M k)) :: rest))) (hn : n < 1000 := by decide) : W p l e R s m args below meth c H locs cells slots Q (F0 m pc ls (.int x :: .ref (ad i) :: rest)) := by
  obtain ⟨k, hk, rfl, h⟩ := h
  refine va_iald hx hb hK hP i 0 (am_wa hi hs) rfl (vp_in_nI hk (by omega)) hdg ?_
  rw [nI_clamp (by omega)]
  exact kk k hk h
theorem am_zald (hx : p.tables.exec = Jvm.exec) (hb : c.code = cc) (hK : va_K (dC, dI) vwCl (am_ty ca) s) (hP : va_P (dC, dI) vwCl (am_w ad (am_sh ca) 63 M) H) {i n : Nat} {r : am_M → Nat → Nat} {w : am_M → Nat → Nat → am_M} (hi : i < 63) (hs : am_is ca am_sh i (.inl (ca 1, n)) r w) {x : Int32} {P : Nat → Prop} (h : am_ix x n P) (hdg : decode cc pc = .ok (.baload, 1))
    (kk : ∀ k, k < n → P k → W p l e R s m args below meth c H locs cells slots Q (F0 m (pc + 1) ls (.int (nI (r M k)) :: rest))) (hn : n < 1000 := by decide) : W p l e R s m args below meth c H locs cells slots Q (F0 m pc ls (.int x :: .ref (ad i) :: rest)) := by
  obtain ⟨k, hk, rfl, h⟩ := h
  refine va_zald hx hb hK hP i 1 (am_wa hi hs) rfl (vp_in_nI hk (by omega)) hdg ?_
  rw [nI_clamp (by omega)]
  exact kk k hk h
theorem am_upd {r : Nat → Nat} {k v : Nat} : upd (fun j => nI (r j)) k (nI v) = fun j => nI (if j = k then v else r j) := by
  funext j
  by_cases hj : j = k
  · subst hj; simp [upd]
  · simp [upd, hj]
theorem am_aald (hx : p.tables.exec = Jvm.exec) (hb : c.code = cc) (hK : va_K (dC, dI) vwCl (am_ty ca) s) (hP : va_P (dC, dI) vwCl (am_w ad (am_sh ca) 63 M) H) {i n t0 : Nat} {f : Nat → Nat} {ty : FieldType} {cA : ClassId} (hi : i < 63) (hs : am_sh ca i = .inr (.inl (cA, n, f))) (ht : (am_ty ca)[t0]? = some (cA, ty)) {x : Int32} {P : Nat → Prop} (h : am_ix x n P) (hdg : decode cc pc = .ok (.aaload, 1))
    (kk : ∀ k, k < n → P k → W p l e R s m args below meth c H locs cells slots Q (F0 m (pc + 1) ls (.ref (ad (f k)) :: rest))) (hn : n < 1000 := by decide) (hty : ty.isReference = true := by rfl) : W p l e R s m args below meth c H locs cells slots Q (F0 m pc ls (.int x :: .ref (ad i) :: rest)) := by
  obtain ⟨k, hk, rfl, h⟩ := h
  have hin : vp_in (nI k) n := vp_in_nI hk (by omega)
  have hlt : (nI k).toNatClampNeg < n := by rw [nI_clamp (by omega)]; exact hk
  refine W.aald (v := .ref (ad (f k))) (ty := ty) hx hb (hP i _ (am_wr hi hs)) ((hK.2 t0 _ ht).1 n (fun j => va_rf (some (ad (f j))))) hty (fun q => by cases q) (by show ¬ (nI k < 0 ∨ (arrV _ _ _).slots.size ≤ _); rw [arrV_size]; exact hin) (by show (arrV _ _ _).slots[_]? = _; rw [arrV_read _ _ hlt, nI_clamp (by omega)]; rfl) rfl rfl hdg ?_
  exact kk k hk h
theorem am_iast (hx : p.tables.exec = Jvm.exec) (hb : c.code = cc) (hK : va_K (dC, dI) vwCl (am_ty ca) s) (hP : va_P (dC, dI) vwCl (am_w ad (am_sh ca) 63 M) H) (hI : am_inj ad) {H0 : Heap} (hS : va_S (am_A ad 63) H0 H locs) {i n : Nat} {r : am_M → Nat → Nat} {w : am_M → Nat → Nat → am_M} (hi : i < 63) (hs : am_is ca am_sh i (.inl (ca 0, n)) r w) {x y : Int32} {P : am_M → Prop} (h : am_sa (w M) n x y P) (hdg : decode cc pc = .ok (.iastore, 1))
    (kk : ∀ (M1 : am_M) (H1 : Heap) (locs1 : List Loc), va_P (dC, dI) vwCl (am_w ad (am_sh ca) 63 M1) H1 → va_S (am_A ad 63) H0 H1 locs1 → P M1 → W p l e R s m args below meth c H1 locs1 cells slots Q (F0 m (pc + 1) ls rest)) (hn : n < 1000 := by decide) : W p l e R s m args below meth c H locs cells slots Q (F0 m pc ls (.int y :: .int x :: .ref (ad i) :: rest)) := by
  obtain ⟨k, v, hk, rfl, rfl, h⟩ := h
  refine va_iast hx hb hK hP (am_D hI) hS i 0 (am_wa hi hs) rfl (vp_in_nI hk (by omega)) hdg (fun H1 locs1 hP1 _ hS1 => ?_)
  rw [nI_clamp (by omega), am_upd, am_wset (k := k) (v := v) hi (by rw [hs.1, hs.2.1]; rfl), hs.2.2] at hP1
  exact kk _ H1 locs1 hP1 hS1 h
theorem am_zast (hx : p.tables.exec = Jvm.exec) (hb : c.code = cc) (hK : va_K (dC, dI) vwCl (am_ty ca) s) (hP : va_P (dC, dI) vwCl (am_w ad (am_sh ca) 63 M) H) (hI : am_inj ad) {H0 : Heap} (hS : va_S (am_A ad 63) H0 H locs) {i n : Nat} {r : am_M → Nat → Nat} {w : am_M → Nat → Nat → am_M} (hi : i < 63) (hs : am_is ca am_sh i (.inl (ca 1, n)) r w) {x y : Int32} {P : am_M → Prop} (h : am_sz (w M) n x y P) (hdg : decode cc pc = .ok (.bastore, 1))
    (kk : ∀ (M1 : am_M) (H1 : Heap) (locs1 : List Loc), va_P (dC, dI) vwCl (am_w ad (am_sh ca) 63 M1) H1 → va_S (am_A ad 63) H0 H1 locs1 → P M1 → W p l e R s m args below meth c H1 locs1 cells slots Q (F0 m (pc + 1) ls rest)) (hn : n < 1000 := by decide) : W p l e R s m args below meth c H locs cells slots Q (F0 m pc ls (.int y :: .int x :: .ref (ad i) :: rest)) := by
  obtain ⟨k, v, hk, rfl, rfl, hv, h⟩ := h
  refine va_zast hx hb hK hP (am_D hI) hS i 1 (am_wa hi hs) rfl (vp_in_nI hk (by omega)) hdg (fun H1 locs1 hP1 _ hS1 => ?_)
  have hz : vp_nar .boolean (nI v) = nI v := by
    have h2 : v = 0 ∨ v = 1 := by omega
    rcases h2 with rfl | rfl <;> rfl
  rw [hz, nI_clamp (by omega), am_upd, am_wset (k := k) (v := v) hi (by rw [hs.1, hs.2.1]; rfl), hs.2.2] at hP1
  exact kk _ H1 locs1 hP1 hS1 h
theorem am_iret {ws : List Cond} {rm : Room} {Q : Int32 → am_M → Prop} {r : Int32} (hx : p.tables.exec = Jvm.exec) (hb : c.code = cc) (hr : meth.sig.returnType = some .int) (hK : va_K (dC, dI) vwCl (am_ty ca) s) (hN : am_Nw s) (hP : va_P (dC, dI) vwCl (am_w ad (am_sh ca) 63 M) H) (hS : va_S (am_A ad 63) s.heap H locs) (h : Q r M) (hlocks : meth.locks = false) (hdg : decode cc pc = .ok (.ireturn, 1)) : am_Wi p l e ws rm s m args below meth c H locs dC dI ca ad Q (F0 m pc ls [.int r]) :=
  W.iret (v := r) hx hb hr (fun t ht hW => ⟨⟨r, M, rfl, h, by rw [ht]; exact hP, va_K.moved hW.alike hK, hN.warm hW⟩, hS.F ht⟩) hS.2.2 hdg hlocks
theorem am_zret {ws : List Cond} {rm : Room} {Q : Int32 → am_M → Prop} {r : Int32} (hx : p.tables.exec = Jvm.exec) (hb : c.code = cc) (hr : meth.sig.returnType = some .boolean) (hz : narrow .boolean (.int r) = .int r) (hK : va_K (dC, dI) vwCl (am_ty ca) s) (hN : am_Nw s) (hP : va_P (dC, dI) vwCl (am_w ad (am_sh ca) 63 M) H) (hS : va_S (am_A ad 63) s.heap H locs) (h : Q r M) (hlocks : meth.locks = false) (hdg : decode cc pc = .ok (.ireturn, 1)) : am_Wi p l e ws rm s m args below meth c H locs dC dI ca ad Q (F0 m pc ls [.int r]) :=
  W.zret (v := r) hx hb hr hz (fun t ht hW => ⟨⟨r, M, rfl, h, by rw [ht]; exact hP, va_K.moved hW.alike hK, hN.warm hW⟩, hS.F ht⟩) hS.2.2 hdg hlocks
theorem am_vret {ws : List Cond} {rm : Room} {Q : am_M → Prop} (hx : p.tables.exec = Jvm.exec) (hb : c.code = cc) (hr : meth.sig.returnType = none) (hK : va_K (dC, dI) vwCl (am_ty ca) s) (hN : am_Nw s) (hP : va_P (dC, dI) vwCl (am_w ad (am_sh ca) 63 M) H) (hS : va_S (am_A ad 63) s.heap H locs) (h : Q M) (hlocks : meth.locks = false) (hdg : decode cc pc = .ok (.return_, 1)) : am_Wv p l e ws rm s m args below meth c H locs dC dI ca ad Q (F0 m pc ls []) :=
  W.vret hx hb hr (fun t ht hW => ⟨⟨M, rfl, h, by rw [ht]; exact hP, va_K.moved hW.alike hK, hN.warm hW⟩, hS.F ht⟩) hS.2.2 hdg hlocks
theorem am_calli {P : Int32 → am_M → Prop} {a : Array Value} {st0 : List Value} {H0 : Heap} (hr : va_Run p l e R s m args below meth c H locs cells slots 0 0 (F0 m pc ls st0) rest (am_Qi dC dI ca ad P a) (am_A ad 63)) (hS : va_S (am_A ad 63) H0 H locs)
    (kk : ∀ (r : Int32) (M1 : am_M) (H1 : Heap) (locs1 : List Loc), va_P (dC, dI) vwCl (am_w ad (am_sh ca) 63 M1) H1 → va_S (am_A ad 63) H0 H1 locs1 → P r M1 → W p l e R s m args below meth c H1 locs1 cells slots Q (F0 m (pc + 3) ls (.int r :: rest))) : W p l e R s m args below meth c H locs cells slots Q (F0 m pc ls st0) := by
  refine va_calli hr hS (fun q _ h => h) (fun q h => h) (fun r u t H1 locs1 ht _ hp hB _ _ hS1 => ?_)
  have hP1 := hB.1
  rw [ht] at hP1
  exact kk r u H1 locs1 hP1 hS1 hp
theorem am_callv {P : am_M → Prop} {a : Array Value} {st0 : List Value} {H0 : Heap} (hr : va_Run p l e R s m args below meth c H locs cells slots 0 0 (F0 m pc ls st0) rest (am_Qv dC dI ca ad P a) (am_A ad 63)) (hS : va_S (am_A ad 63) H0 H locs)
    (kk : ∀ (M1 : am_M) (H1 : Heap) (locs1 : List Loc), va_P (dC, dI) vwCl (am_w ad (am_sh ca) 63 M1) H1 → va_S (am_A ad 63) H0 H1 locs1 → P M1 → W p l e R s m args below meth c H1 locs1 cells slots Q (F0 m (pc + 3) ls rest)) : W p l e R s m args below meth c H locs cells slots Q (F0 m pc ls st0) := by
  refine va_callv hr hS (fun q _ h => h) (fun q h => h) (fun u t H1 locs1 ht _ hp hB _ _ hS1 => ?_)
  have hP1 := hB.1
  rw [ht] at hP1
  exact kk u H1 locs1 hP1 hS1 hp
theorem am_bl {av : List Value} {M : am_M} : FrameBlind (va_Pc av (am_B dC dI ca ad M)) := fun a U g mk q => by
  obtain ⟨q0, qP, qK, qN⟩ := q
  exact ⟨q0, qP, va_K.moved (u := U) (U := U.calling g mk a) (Vm.Alike.refl U.vm) qK, qN.same rfl⟩
theorem am_preS {As : List Value} (hK : va_K (dC, dI) vwCl (am_ty ca) s) (hN : am_Nw s) (hP : va_P (dC, dI) vwCl (am_w ad (am_sh ca) 63 M) H) : PreS s H (va_Pc As (am_B dC dI ca ad M)) As :=
  ⟨am_bl, fun U hU hW => ⟨rfl, by rw [hU]; exact hP, va_K.moved hW.alike hK, hN.warm hW⟩⟩
theorem am_preV {As : List Value} {i ci : Nat} {r : am_M → Nat → Nat} {w : am_M → Nat → Nat → am_M} {q : vw_C} {fs : List (Option Nat)} (hK : va_K (dC, dI) vwCl (am_ty ca) s) (hN : am_Nw s) (hP : va_P (dC, dI) vwCl (am_w ad (am_sh ca) 63 M) H) (hc : vwCl[ci]? = some q) (hi : i < 63) (hs : am_is ca am_sh i (.inr (.inr (ci, fs))) r w) : PreV s H q.1 (ad i) (va_Pc (.ref (ad i) :: As) (am_B dC dI ca ad M)) As :=
  ⟨am_bl, va_recv hK hP hc (am_wo hi hs), fun U hU hW => ⟨rfl, by rw [hU]; exact hP, va_K.moved hW.alike hK, hN.warm hW⟩⟩
end AMR
section AMF
variable {p : Program} {l : Launch} {e : Env} {R : Room} {s : State} {m : MethodId} {args : Array Value} {below : List Frame} {meth : Method} {c : Code} {H : Heap} {locs : List Loc} {cells slots : Nat} {Q : State → Prop}
variable {cc : ByteArray} {pc : Nat} {ls : Array Slot} {rest : List Value} {dC : Nat → ClassId} {dI : Nat → Nat → Nat} {ca : Nat → ClassId} {ad : Nat → Nat} {M : am_M}

theorem gf_X0_11 {tys : List (ClassId × FieldType)} {ws : va_W} {q0 a : Nat} {fs : List Value} {v : Value} (hx : p.tables.exec = Jvm.exec) (hb : c.code = cc) (hta : ∀ w ∈ am_all, w.before args s = true) (hown : s.vm.findClass RX0 = some m.cls) (hK : va_K (dC, dI) vwCl tys s) (hP : va_P (dC, dI) vwCl ws H) (he : ws[q0]? = some (a, .inr (0, fs))) (hv : fs[0]? = some v) (hdg : decode cc pc = .ok (.getfield 11, 3)) (kk : W p l e R s m args below meth c H locs cells slots Q (F0 m (pc + 3) ls (v :: rest))) : W p l e R s m args below meth c H locs cells slots Q (F0 m pc ls (.ref a :: rest)) :=
  va_get (D := (dC, dI)) (ci := 0) (v := v) (C := RX0) (T := TX0) (N := 4) hx hb hta mu_X0 hown hK hP q0 he rfl 0 (by decide) (hta _ mf_X0_11) (fun _ h9 => h9) hv hdg kk
theorem gf_X0_18 {tys : List (ClassId × FieldType)} {ws : va_W} {q0 a : Nat} {fs : List Value} {v : Value} (hx : p.tables.exec = Jvm.exec) (hb : c.code = cc) (hta : ∀ w ∈ am_all, w.before args s = true) (hown : s.vm.findClass RX0 = some m.cls) (hK : va_K (dC, dI) vwCl tys s) (hP : va_P (dC, dI) vwCl ws H) (he : ws[q0]? = some (a, .inr (0, fs))) (hv : fs[1]? = some v) (hdg : decode cc pc = .ok (.getfield 18, 3)) (kk : W p l e R s m args below meth c H locs cells slots Q (F0 m (pc + 3) ls (v :: rest))) : W p l e R s m args below meth c H locs cells slots Q (F0 m pc ls (.ref a :: rest)) :=
  va_get (D := (dC, dI)) (ci := 0) (v := v) (C := RX0) (T := TX0) (N := 4) hx hb hta mu_X0 hown hK hP q0 he rfl 1 (by decide) (hta _ mf_X0_18) (fun _ h9 => h9) hv hdg kk
theorem gf_X0_26 {tys : List (ClassId × FieldType)} {ws : va_W} {q0 a : Nat} {fs : List Value} {v : Value} (hx : p.tables.exec = Jvm.exec) (hb : c.code = cc) (hta : ∀ w ∈ am_all, w.before args s = true) (hown : s.vm.findClass RX0 = some m.cls) (hK : va_K (dC, dI) vwCl tys s) (hP : va_P (dC, dI) vwCl ws H) (he : ws[q0]? = some (a, .inr (0, fs))) (hv : fs[2]? = some v) (hdg : decode cc pc = .ok (.getfield 26, 3)) (kk : W p l e R s m args below meth c H locs cells slots Q (F0 m (pc + 3) ls (v :: rest))) : W p l e R s m args below meth c H locs cells slots Q (F0 m pc ls (.ref a :: rest)) :=
  va_get (D := (dC, dI)) (ci := 0) (v := v) (C := RX0) (T := TX0) (N := 4) hx hb hta mu_X0 hown hK hP q0 he rfl 2 (by decide) (hta _ mf_X0_26) (fun _ h9 => h9) hv hdg kk
theorem gf_X0_30 {tys : List (ClassId × FieldType)} {ws : va_W} {q0 a : Nat} {fs : List Value} {v : Value} (hx : p.tables.exec = Jvm.exec) (hb : c.code = cc) (hta : ∀ w ∈ am_all, w.before args s = true) (hown : s.vm.findClass RX0 = some m.cls) (hK : va_K (dC, dI) vwCl tys s) (hP : va_P (dC, dI) vwCl ws H) (he : ws[q0]? = some (a, .inr (0, fs))) (hv : fs[3]? = some v) (hdg : decode cc pc = .ok (.getfield 30, 3)) (kk : W p l e R s m args below meth c H locs cells slots Q (F0 m (pc + 3) ls (v :: rest))) : W p l e R s m args below meth c H locs cells slots Q (F0 m pc ls (.ref a :: rest)) :=
  va_get (D := (dC, dI)) (ci := 0) (v := v) (C := RX0) (T := TX0) (N := 4) hx hb hta mu_X0 hown hK hP q0 he rfl 3 (by decide) (hta _ mf_X0_30) (fun _ h9 => h9) hv hdg kk
theorem pf_X0_30 {H0 : Heap} (hx : p.tables.exec = Jvm.exec) (hb : c.code = cc) (hta : ∀ w ∈ am_all, w.before args s = true) (hown : s.vm.findClass RX0 = some m.cls) (hK : va_K (dC, dI) vwCl (am_ty ca) s) (hP : va_P (dC, dI) vwCl (am_w ad (am_sh ca) 63 M) H) (hI : am_inj ad) (hS : va_S (am_A ad 63) H0 H locs) {i : Nat} {fs : List (Option Nat)} {r : am_M → Nat → Nat} {w : am_M → Nat → Nat → am_M} (hi : i < 63) (hs : am_is ca am_sh i (.inr (.inr (0, fs))) r w) {x : Int32} {P : am_M → Prop} (h : am_sf (w M 3) x P) (hdg : decode cc pc = .ok (.putfield 30, 3)) (kk : ∀ (M1 : am_M) (H1 : Heap) (locs1 : List Loc), va_P (dC, dI) vwCl (am_w ad (am_sh ca) 63 M1) H1 → va_S (am_A ad 63) H0 H1 locs1 → P M1 → W p l e R s m args below meth c H1 locs1 cells slots Q (F0 m (pc + 3) ls rest)) (hf : fs[3]? = some none := by rfl) : W p l e R s m args below meth c H locs cells slots Q (F0 m pc ls (.int x :: .ref (ad i) :: rest)) := by
  obtain ⟨v, rfl, h⟩ := h
  refine va_put (D := (dC, dI)) (ci := 0) (v := .int (nI v)) (ty := .int) (C := RX0) (T := TX0) (N := 4) hx hb hta mu_X0 tyX0 tyX0_ok nmX0 hown hK hP (am_D hI) hS i (am_wo hi hs) rfl 3 (by decide) (hta _ mf_X0_30) (fun _ h9 => h9) rfl (by decide +kernel) rfl rfl (by rw [am_fl_len]; exact (List.getElem?_eq_some_iff.mp hf).1) hdg (fun H1 locs1 hP1 _ hS1 => ?_)
  rw [am_fl_set hf, am_wset (k := 3) (v := v) hi (by rw [hs.1, hs.2.1]; rfl), hs.2.2] at hP1
  exact kk _ H1 locs1 hP1 hS1 h
theorem gf_X0_38 {tys : List (ClassId × FieldType)} {ws : va_W} {q0 a : Nat} {fs : List Value} {v : Value} (hx : p.tables.exec = Jvm.exec) (hb : c.code = cc) (hta : ∀ w ∈ am_all, w.before args s = true) (hown : s.vm.findClass RX0 = some m.cls) (hK : va_K (dC, dI) vwCl tys s) (hP : va_P (dC, dI) vwCl ws H) (he : ws[q0]? = some (a, .inr (3, fs))) (hv : fs[0]? = some v) (hdg : decode cc pc = .ok (.getfield 38, 3)) (kk : W p l e R s m args below meth c H locs cells slots Q (F0 m (pc + 3) ls (v :: rest))) : W p l e R s m args below meth c H locs cells slots Q (F0 m pc ls (.ref a :: rest)) :=
  va_get (D := (dC, dI)) (ci := 3) (v := v) (C := RX3) (T := TX3) (N := 4) hx hb hta mu_X3 hown hK hP q0 he rfl 0 (by decide) (hta _ mf_X0_38) (fun _ h9 => h9) hv hdg kk
theorem pf_X0_38 {H0 : Heap} (hx : p.tables.exec = Jvm.exec) (hb : c.code = cc) (hta : ∀ w ∈ am_all, w.before args s = true) (hown : s.vm.findClass RX0 = some m.cls) (hK : va_K (dC, dI) vwCl (am_ty ca) s) (hP : va_P (dC, dI) vwCl (am_w ad (am_sh ca) 63 M) H) (hI : am_inj ad) (hS : va_S (am_A ad 63) H0 H locs) {i : Nat} {fs : List (Option Nat)} {r : am_M → Nat → Nat} {w : am_M → Nat → Nat → am_M} (hi : i < 63) (hs : am_is ca am_sh i (.inr (.inr (3, fs))) r w) {x : Int32} {P : am_M → Prop} (h : am_sfz (w M 0) x P) (hdg : decode cc pc = .ok (.putfield 38, 3)) (kk : ∀ (M1 : am_M) (H1 : Heap) (locs1 : List Loc), va_P (dC, dI) vwCl (am_w ad (am_sh ca) 63 M1) H1 → va_S (am_A ad 63) H0 H1 locs1 → P M1 → W p l e R s m args below meth c H1 locs1 cells slots Q (F0 m (pc + 3) ls rest)) (hf : fs[0]? = some none := by rfl) : W p l e R s m args below meth c H locs cells slots Q (F0 m pc ls (.int x :: .ref (ad i) :: rest)) := by
  obtain ⟨v, rfl, hv, h⟩ := h
  have hz : narrow .boolean (.int (nI v)) = .int (nI v) ∧ fits .boolean (.int (nI v)) = true := by
    have h2 : v = 0 ∨ v = 1 := by omega
    rcases h2 with rfl | rfl <;> exact ⟨rfl, rfl⟩
  refine va_put (D := (dC, dI)) (ci := 3) (v := .int (nI v)) (ty := .boolean) (C := RX3) (T := TX3) (N := 4) hx hb hta mu_X3 tyX3 tyX3_ok nmX3 hown hK hP (am_D hI) hS i (am_wo hi hs) rfl 0 (by decide) (hta _ mf_X0_38) (fun _ h9 => h9) rfl (by decide +kernel) hz.1 hz.2 (by rw [am_fl_len]; exact (List.getElem?_eq_some_iff.mp hf).1) hdg (fun H1 locs1 hP1 _ hS1 => ?_)
  rw [am_fl_set hf, am_wset (k := 0) (v := v) hi (by rw [hs.1, hs.2.1]; rfl), hs.2.2] at hP1
  exact kk _ H1 locs1 hP1 hS1 h
theorem gf_X0_42 {tys : List (ClassId × FieldType)} {ws : va_W} {q0 a : Nat} {fs : List Value} {v : Value} (hx : p.tables.exec = Jvm.exec) (hb : c.code = cc) (hta : ∀ w ∈ am_all, w.before args s = true) (hown : s.vm.findClass RX0 = some m.cls) (hK : va_K (dC, dI) vwCl tys s) (hP : va_P (dC, dI) vwCl ws H) (he : ws[q0]? = some (a, .inr (4, fs))) (hv : fs[0]? = some v) (hdg : decode cc pc = .ok (.getfield 42, 3)) (kk : W p l e R s m args below meth c H locs cells slots Q (F0 m (pc + 3) ls (v :: rest))) : W p l e R s m args below meth c H locs cells slots Q (F0 m pc ls (.ref a :: rest)) :=
  va_get (D := (dC, dI)) (ci := 4) (v := v) (C := RX4) (T := TX4) (N := 6) hx hb hta mu_X4 hown hK hP q0 he rfl 0 (by decide) (hta _ mf_X0_42) (fun _ h9 => h9) hv hdg kk
theorem pf_X0_42 {H0 : Heap} (hx : p.tables.exec = Jvm.exec) (hb : c.code = cc) (hta : ∀ w ∈ am_all, w.before args s = true) (hown : s.vm.findClass RX0 = some m.cls) (hK : va_K (dC, dI) vwCl (am_ty ca) s) (hP : va_P (dC, dI) vwCl (am_w ad (am_sh ca) 63 M) H) (hI : am_inj ad) (hS : va_S (am_A ad 63) H0 H locs) {i : Nat} {fs : List (Option Nat)} {r : am_M → Nat → Nat} {w : am_M → Nat → Nat → am_M} (hi : i < 63) (hs : am_is ca am_sh i (.inr (.inr (4, fs))) r w) {x : Int32} {P : am_M → Prop} (h : am_sf (w M 0) x P) (hdg : decode cc pc = .ok (.putfield 42, 3)) (kk : ∀ (M1 : am_M) (H1 : Heap) (locs1 : List Loc), va_P (dC, dI) vwCl (am_w ad (am_sh ca) 63 M1) H1 → va_S (am_A ad 63) H0 H1 locs1 → P M1 → W p l e R s m args below meth c H1 locs1 cells slots Q (F0 m (pc + 3) ls rest)) (hf : fs[0]? = some none := by rfl) : W p l e R s m args below meth c H locs cells slots Q (F0 m pc ls (.int x :: .ref (ad i) :: rest)) := by
  obtain ⟨v, rfl, h⟩ := h
  refine va_put (D := (dC, dI)) (ci := 4) (v := .int (nI v)) (ty := .int) (C := RX4) (T := TX4) (N := 6) hx hb hta mu_X4 tyX4 tyX4_ok nmX4 hown hK hP (am_D hI) hS i (am_wo hi hs) rfl 0 (by decide) (hta _ mf_X0_42) (fun _ h9 => h9) rfl (by decide +kernel) rfl rfl (by rw [am_fl_len]; exact (List.getElem?_eq_some_iff.mp hf).1) hdg (fun H1 locs1 hP1 _ hS1 => ?_)
  rw [am_fl_set hf, am_wset (k := 0) (v := v) hi (by rw [hs.1, hs.2.1]; rfl), hs.2.2] at hP1
  exact kk _ H1 locs1 hP1 hS1 h
theorem gf_X0_45 {tys : List (ClassId × FieldType)} {ws : va_W} {q0 a : Nat} {fs : List Value} {v : Value} (hx : p.tables.exec = Jvm.exec) (hb : c.code = cc) (hta : ∀ w ∈ am_all, w.before args s = true) (hown : s.vm.findClass RX0 = some m.cls) (hK : va_K (dC, dI) vwCl tys s) (hP : va_P (dC, dI) vwCl ws H) (he : ws[q0]? = some (a, .inr (4, fs))) (hv : fs[1]? = some v) (hdg : decode cc pc = .ok (.getfield 45, 3)) (kk : W p l e R s m args below meth c H locs cells slots Q (F0 m (pc + 3) ls (v :: rest))) : W p l e R s m args below meth c H locs cells slots Q (F0 m pc ls (.ref a :: rest)) :=
  va_get (D := (dC, dI)) (ci := 4) (v := v) (C := RX4) (T := TX4) (N := 6) hx hb hta mu_X4 hown hK hP q0 he rfl 1 (by decide) (hta _ mf_X0_45) (fun _ h9 => h9) hv hdg kk
theorem pf_X0_45 {H0 : Heap} (hx : p.tables.exec = Jvm.exec) (hb : c.code = cc) (hta : ∀ w ∈ am_all, w.before args s = true) (hown : s.vm.findClass RX0 = some m.cls) (hK : va_K (dC, dI) vwCl (am_ty ca) s) (hP : va_P (dC, dI) vwCl (am_w ad (am_sh ca) 63 M) H) (hI : am_inj ad) (hS : va_S (am_A ad 63) H0 H locs) {i : Nat} {fs : List (Option Nat)} {r : am_M → Nat → Nat} {w : am_M → Nat → Nat → am_M} (hi : i < 63) (hs : am_is ca am_sh i (.inr (.inr (4, fs))) r w) {x : Int32} {P : am_M → Prop} (h : am_sf (w M 1) x P) (hdg : decode cc pc = .ok (.putfield 45, 3)) (kk : ∀ (M1 : am_M) (H1 : Heap) (locs1 : List Loc), va_P (dC, dI) vwCl (am_w ad (am_sh ca) 63 M1) H1 → va_S (am_A ad 63) H0 H1 locs1 → P M1 → W p l e R s m args below meth c H1 locs1 cells slots Q (F0 m (pc + 3) ls rest)) (hf : fs[1]? = some none := by rfl) : W p l e R s m args below meth c H locs cells slots Q (F0 m pc ls (.int x :: .ref (ad i) :: rest)) := by
  obtain ⟨v, rfl, h⟩ := h
  refine va_put (D := (dC, dI)) (ci := 4) (v := .int (nI v)) (ty := .int) (C := RX4) (T := TX4) (N := 6) hx hb hta mu_X4 tyX4 tyX4_ok nmX4 hown hK hP (am_D hI) hS i (am_wo hi hs) rfl 1 (by decide) (hta _ mf_X0_45) (fun _ h9 => h9) rfl (by decide +kernel) rfl rfl (by rw [am_fl_len]; exact (List.getElem?_eq_some_iff.mp hf).1) hdg (fun H1 locs1 hP1 _ hS1 => ?_)
  rw [am_fl_set hf, am_wset (k := 1) (v := v) hi (by rw [hs.1, hs.2.1]; rfl), hs.2.2] at hP1
  exact kk _ H1 locs1 hP1 hS1 h
theorem gf_X0_54 {tys : List (ClassId × FieldType)} {ws : va_W} {q0 a : Nat} {fs : List Value} {v : Value} (hx : p.tables.exec = Jvm.exec) (hb : c.code = cc) (hta : ∀ w ∈ am_all, w.before args s = true) (hown : s.vm.findClass RX0 = some m.cls) (hK : va_K (dC, dI) vwCl tys s) (hP : va_P (dC, dI) vwCl ws H) (he : ws[q0]? = some (a, .inr (4, fs))) (hv : fs[2]? = some v) (hdg : decode cc pc = .ok (.getfield 54, 3)) (kk : W p l e R s m args below meth c H locs cells slots Q (F0 m (pc + 3) ls (v :: rest))) : W p l e R s m args below meth c H locs cells slots Q (F0 m pc ls (.ref a :: rest)) :=
  va_get (D := (dC, dI)) (ci := 4) (v := v) (C := RX4) (T := TX4) (N := 6) hx hb hta mu_X4 hown hK hP q0 he rfl 2 (by decide) (hta _ mf_X0_54) (fun _ h9 => h9) hv hdg kk
theorem pf_X0_54 {H0 : Heap} (hx : p.tables.exec = Jvm.exec) (hb : c.code = cc) (hta : ∀ w ∈ am_all, w.before args s = true) (hown : s.vm.findClass RX0 = some m.cls) (hK : va_K (dC, dI) vwCl (am_ty ca) s) (hP : va_P (dC, dI) vwCl (am_w ad (am_sh ca) 63 M) H) (hI : am_inj ad) (hS : va_S (am_A ad 63) H0 H locs) {i : Nat} {fs : List (Option Nat)} {r : am_M → Nat → Nat} {w : am_M → Nat → Nat → am_M} (hi : i < 63) (hs : am_is ca am_sh i (.inr (.inr (4, fs))) r w) {x : Int32} {P : am_M → Prop} (h : am_sf (w M 2) x P) (hdg : decode cc pc = .ok (.putfield 54, 3)) (kk : ∀ (M1 : am_M) (H1 : Heap) (locs1 : List Loc), va_P (dC, dI) vwCl (am_w ad (am_sh ca) 63 M1) H1 → va_S (am_A ad 63) H0 H1 locs1 → P M1 → W p l e R s m args below meth c H1 locs1 cells slots Q (F0 m (pc + 3) ls rest)) (hf : fs[2]? = some none := by rfl) : W p l e R s m args below meth c H locs cells slots Q (F0 m pc ls (.int x :: .ref (ad i) :: rest)) := by
  obtain ⟨v, rfl, h⟩ := h
  refine va_put (D := (dC, dI)) (ci := 4) (v := .int (nI v)) (ty := .int) (C := RX4) (T := TX4) (N := 6) hx hb hta mu_X4 tyX4 tyX4_ok nmX4 hown hK hP (am_D hI) hS i (am_wo hi hs) rfl 2 (by decide) (hta _ mf_X0_54) (fun _ h9 => h9) rfl (by decide +kernel) rfl rfl (by rw [am_fl_len]; exact (List.getElem?_eq_some_iff.mp hf).1) hdg (fun H1 locs1 hP1 _ hS1 => ?_)
  rw [am_fl_set hf, am_wset (k := 2) (v := v) hi (by rw [hs.1, hs.2.1]; rfl), hs.2.2] at hP1
  exact kk _ H1 locs1 hP1 hS1 h
theorem gf_X0_61 {tys : List (ClassId × FieldType)} {ws : va_W} {q0 a : Nat} {fs : List Value} {v : Value} (hx : p.tables.exec = Jvm.exec) (hb : c.code = cc) (hta : ∀ w ∈ am_all, w.before args s = true) (hown : s.vm.findClass RX0 = some m.cls) (hK : va_K (dC, dI) vwCl tys s) (hP : va_P (dC, dI) vwCl ws H) (he : ws[q0]? = some (a, .inr (3, fs))) (hv : fs[1]? = some v) (hdg : decode cc pc = .ok (.getfield 61, 3)) (kk : W p l e R s m args below meth c H locs cells slots Q (F0 m (pc + 3) ls (v :: rest))) : W p l e R s m args below meth c H locs cells slots Q (F0 m pc ls (.ref a :: rest)) :=
  va_get (D := (dC, dI)) (ci := 3) (v := v) (C := RX3) (T := TX3) (N := 4) hx hb hta mu_X3 hown hK hP q0 he rfl 1 (by decide) (hta _ mf_X0_61) (fun _ h9 => h9) hv hdg kk
theorem gf_X0_91 {tys : List (ClassId × FieldType)} {ws : va_W} {q0 a : Nat} {fs : List Value} {v : Value} (hx : p.tables.exec = Jvm.exec) (hb : c.code = cc) (hta : ∀ w ∈ am_all, w.before args s = true) (hown : s.vm.findClass RX0 = some m.cls) (hK : va_K (dC, dI) vwCl tys s) (hP : va_P (dC, dI) vwCl ws H) (he : ws[q0]? = some (a, .inr (2, fs))) (hv : fs[0]? = some v) (hdg : decode cc pc = .ok (.getfield 91, 3)) (kk : W p l e R s m args below meth c H locs cells slots Q (F0 m (pc + 3) ls (v :: rest))) : W p l e R s m args below meth c H locs cells slots Q (F0 m pc ls (.ref a :: rest)) :=
  va_get (D := (dC, dI)) (ci := 2) (v := v) (C := RX2) (T := TX2) (N := 2) hx hb hta mu_X2 hown hK hP q0 he rfl 0 (by decide) (hta _ mf_X0_91) (fun _ h9 => h9) hv hdg kk
theorem gf_X0_111 {tys : List (ClassId × FieldType)} {ws : va_W} {q0 a : Nat} {fs : List Value} {v : Value} (hx : p.tables.exec = Jvm.exec) (hb : c.code = cc) (hta : ∀ w ∈ am_all, w.before args s = true) (hown : s.vm.findClass RX0 = some m.cls) (hK : va_K (dC, dI) vwCl tys s) (hP : va_P (dC, dI) vwCl ws H) (he : ws[q0]? = some (a, .inr (3, fs))) (hv : fs[3]? = some v) (hdg : decode cc pc = .ok (.getfield 111, 3)) (kk : W p l e R s m args below meth c H locs cells slots Q (F0 m (pc + 3) ls (v :: rest))) : W p l e R s m args below meth c H locs cells slots Q (F0 m pc ls (.ref a :: rest)) :=
  va_get (D := (dC, dI)) (ci := 3) (v := v) (C := RX3) (T := TX3) (N := 4) hx hb hta mu_X3 hown hK hP q0 he rfl 3 (by decide) (hta _ mf_X0_111) (fun _ h9 => h9) hv hdg kk
theorem gf_X0_127 {tys : List (ClassId × FieldType)} {ws : va_W} {q0 a : Nat} {fs : List Value} {v : Value} (hx : p.tables.exec = Jvm.exec) (hb : c.code = cc) (hta : ∀ w ∈ am_all, w.before args s = true) (hown : s.vm.findClass RX0 = some m.cls) (hK : va_K (dC, dI) vwCl tys s) (hP : va_P (dC, dI) vwCl ws H) (he : ws[q0]? = some (a, .inr (4, fs))) (hv : fs[3]? = some v) (hdg : decode cc pc = .ok (.getfield 127, 3)) (kk : W p l e R s m args below meth c H locs cells slots Q (F0 m (pc + 3) ls (v :: rest))) : W p l e R s m args below meth c H locs cells slots Q (F0 m pc ls (.ref a :: rest)) :=
  va_get (D := (dC, dI)) (ci := 4) (v := v) (C := RX4) (T := TX4) (N := 6) hx hb hta mu_X4 hown hK hP q0 he rfl 3 (by decide) (hta _ mf_X0_127) (fun _ h9 => h9) hv hdg kk
theorem pf_X0_127 {H0 : Heap} (hx : p.tables.exec = Jvm.exec) (hb : c.code = cc) (hta : ∀ w ∈ am_all, w.before args s = true) (hown : s.vm.findClass RX0 = some m.cls) (hK : va_K (dC, dI) vwCl (am_ty ca) s) (hP : va_P (dC, dI) vwCl (am_w ad (am_sh ca) 63 M) H) (hI : am_inj ad) (hS : va_S (am_A ad 63) H0 H locs) {i : Nat} {fs : List (Option Nat)} {r : am_M → Nat → Nat} {w : am_M → Nat → Nat → am_M} (hi : i < 63) (hs : am_is ca am_sh i (.inr (.inr (4, fs))) r w) {x : Int32} {P : am_M → Prop} (h : am_sf (w M 3) x P) (hdg : decode cc pc = .ok (.putfield 127, 3)) (kk : ∀ (M1 : am_M) (H1 : Heap) (locs1 : List Loc), va_P (dC, dI) vwCl (am_w ad (am_sh ca) 63 M1) H1 → va_S (am_A ad 63) H0 H1 locs1 → P M1 → W p l e R s m args below meth c H1 locs1 cells slots Q (F0 m (pc + 3) ls rest)) (hf : fs[3]? = some none := by rfl) : W p l e R s m args below meth c H locs cells slots Q (F0 m pc ls (.int x :: .ref (ad i) :: rest)) := by
  obtain ⟨v, rfl, h⟩ := h
  refine va_put (D := (dC, dI)) (ci := 4) (v := .int (nI v)) (ty := .int) (C := RX4) (T := TX4) (N := 6) hx hb hta mu_X4 tyX4 tyX4_ok nmX4 hown hK hP (am_D hI) hS i (am_wo hi hs) rfl 3 (by decide) (hta _ mf_X0_127) (fun _ h9 => h9) rfl (by decide +kernel) rfl rfl (by rw [am_fl_len]; exact (List.getElem?_eq_some_iff.mp hf).1) hdg (fun H1 locs1 hP1 _ hS1 => ?_)
  rw [am_fl_set hf, am_wset (k := 3) (v := v) hi (by rw [hs.1, hs.2.1]; rfl), hs.2.2] at hP1
  exact kk _ H1 locs1 hP1 hS1 h
theorem gf_X0_130 {tys : List (ClassId × FieldType)} {ws : va_W} {q0 a : Nat} {fs : List Value} {v : Value} (hx : p.tables.exec = Jvm.exec) (hb : c.code = cc) (hta : ∀ w ∈ am_all, w.before args s = true) (hown : s.vm.findClass RX0 = some m.cls) (hK : va_K (dC, dI) vwCl tys s) (hP : va_P (dC, dI) vwCl ws H) (he : ws[q0]? = some (a, .inr (4, fs))) (hv : fs[4]? = some v) (hdg : decode cc pc = .ok (.getfield 130, 3)) (kk : W p l e R s m args below meth c H locs cells slots Q (F0 m (pc + 3) ls (v :: rest))) : W p l e R s m args below meth c H locs cells slots Q (F0 m pc ls (.ref a :: rest)) :=
  va_get (D := (dC, dI)) (ci := 4) (v := v) (C := RX4) (T := TX4) (N := 6) hx hb hta mu_X4 hown hK hP q0 he rfl 4 (by decide) (hta _ mf_X0_130) (fun _ h9 => h9) hv hdg kk
theorem pf_X0_130 {H0 : Heap} (hx : p.tables.exec = Jvm.exec) (hb : c.code = cc) (hta : ∀ w ∈ am_all, w.before args s = true) (hown : s.vm.findClass RX0 = some m.cls) (hK : va_K (dC, dI) vwCl (am_ty ca) s) (hP : va_P (dC, dI) vwCl (am_w ad (am_sh ca) 63 M) H) (hI : am_inj ad) (hS : va_S (am_A ad 63) H0 H locs) {i : Nat} {fs : List (Option Nat)} {r : am_M → Nat → Nat} {w : am_M → Nat → Nat → am_M} (hi : i < 63) (hs : am_is ca am_sh i (.inr (.inr (4, fs))) r w) {x : Int32} {P : am_M → Prop} (h : am_sf (w M 4) x P) (hdg : decode cc pc = .ok (.putfield 130, 3)) (kk : ∀ (M1 : am_M) (H1 : Heap) (locs1 : List Loc), va_P (dC, dI) vwCl (am_w ad (am_sh ca) 63 M1) H1 → va_S (am_A ad 63) H0 H1 locs1 → P M1 → W p l e R s m args below meth c H1 locs1 cells slots Q (F0 m (pc + 3) ls rest)) (hf : fs[4]? = some none := by rfl) : W p l e R s m args below meth c H locs cells slots Q (F0 m pc ls (.int x :: .ref (ad i) :: rest)) := by
  obtain ⟨v, rfl, h⟩ := h
  refine va_put (D := (dC, dI)) (ci := 4) (v := .int (nI v)) (ty := .int) (C := RX4) (T := TX4) (N := 6) hx hb hta mu_X4 tyX4 tyX4_ok nmX4 hown hK hP (am_D hI) hS i (am_wo hi hs) rfl 4 (by decide) (hta _ mf_X0_130) (fun _ h9 => h9) rfl (by decide +kernel) rfl rfl (by rw [am_fl_len]; exact (List.getElem?_eq_some_iff.mp hf).1) hdg (fun H1 locs1 hP1 _ hS1 => ?_)
  rw [am_fl_set hf, am_wset (k := 4) (v := v) hi (by rw [hs.1, hs.2.1]; rfl), hs.2.2] at hP1
  exact kk _ H1 locs1 hP1 hS1 h
theorem gf_X0_133 {tys : List (ClassId × FieldType)} {ws : va_W} {q0 a : Nat} {fs : List Value} {v : Value} (hx : p.tables.exec = Jvm.exec) (hb : c.code = cc) (hta : ∀ w ∈ am_all, w.before args s = true) (hown : s.vm.findClass RX0 = some m.cls) (hK : va_K (dC, dI) vwCl tys s) (hP : va_P (dC, dI) vwCl ws H) (he : ws[q0]? = some (a, .inr (4, fs))) (hv : fs[5]? = some v) (hdg : decode cc pc = .ok (.getfield 133, 3)) (kk : W p l e R s m args below meth c H locs cells slots Q (F0 m (pc + 3) ls (v :: rest))) : W p l e R s m args below meth c H locs cells slots Q (F0 m pc ls (.ref a :: rest)) :=
  va_get (D := (dC, dI)) (ci := 4) (v := v) (C := RX4) (T := TX4) (N := 6) hx hb hta mu_X4 hown hK hP q0 he rfl 5 (by decide) (hta _ mf_X0_133) (fun _ h9 => h9) hv hdg kk
theorem pf_X0_133 {H0 : Heap} (hx : p.tables.exec = Jvm.exec) (hb : c.code = cc) (hta : ∀ w ∈ am_all, w.before args s = true) (hown : s.vm.findClass RX0 = some m.cls) (hK : va_K (dC, dI) vwCl (am_ty ca) s) (hP : va_P (dC, dI) vwCl (am_w ad (am_sh ca) 63 M) H) (hI : am_inj ad) (hS : va_S (am_A ad 63) H0 H locs) {i : Nat} {fs : List (Option Nat)} {r : am_M → Nat → Nat} {w : am_M → Nat → Nat → am_M} (hi : i < 63) (hs : am_is ca am_sh i (.inr (.inr (4, fs))) r w) {x : Int32} {P : am_M → Prop} (h : am_sf (w M 5) x P) (hdg : decode cc pc = .ok (.putfield 133, 3)) (kk : ∀ (M1 : am_M) (H1 : Heap) (locs1 : List Loc), va_P (dC, dI) vwCl (am_w ad (am_sh ca) 63 M1) H1 → va_S (am_A ad 63) H0 H1 locs1 → P M1 → W p l e R s m args below meth c H1 locs1 cells slots Q (F0 m (pc + 3) ls rest)) (hf : fs[5]? = some none := by rfl) : W p l e R s m args below meth c H locs cells slots Q (F0 m pc ls (.int x :: .ref (ad i) :: rest)) := by
  obtain ⟨v, rfl, h⟩ := h
  refine va_put (D := (dC, dI)) (ci := 4) (v := .int (nI v)) (ty := .int) (C := RX4) (T := TX4) (N := 6) hx hb hta mu_X4 tyX4 tyX4_ok nmX4 hown hK hP (am_D hI) hS i (am_wo hi hs) rfl 5 (by decide) (hta _ mf_X0_133) (fun _ h9 => h9) rfl (by decide +kernel) rfl rfl (by rw [am_fl_len]; exact (List.getElem?_eq_some_iff.mp hf).1) hdg (fun H1 locs1 hP1 _ hS1 => ?_)
  rw [am_fl_set hf, am_wset (k := 5) (v := v) hi (by rw [hs.1, hs.2.1]; rfl), hs.2.2] at hP1
  exact kk _ H1 locs1 hP1 hS1 h
theorem gf_X0_139 {tys : List (ClassId × FieldType)} {ws : va_W} {q0 a : Nat} {fs : List Value} {v : Value} (hx : p.tables.exec = Jvm.exec) (hb : c.code = cc) (hta : ∀ w ∈ am_all, w.before args s = true) (hown : s.vm.findClass RX0 = some m.cls) (hK : va_K (dC, dI) vwCl tys s) (hP : va_P (dC, dI) vwCl ws H) (he : ws[q0]? = some (a, .inr (1, fs))) (hv : fs[3]? = some v) (hdg : decode cc pc = .ok (.getfield 139, 3)) (kk : W p l e R s m args below meth c H locs cells slots Q (F0 m (pc + 3) ls (v :: rest))) : W p l e R s m args below meth c H locs cells slots Q (F0 m pc ls (.ref a :: rest)) :=
  va_get (D := (dC, dI)) (ci := 1) (v := v) (C := RX1) (T := TX1) (N := 5) hx hb hta mu_X1 hown hK hP q0 he rfl 3 (by decide) (hta _ mf_X0_139) (fun _ h9 => h9) hv hdg kk
theorem gf_X0_142 {tys : List (ClassId × FieldType)} {ws : va_W} {q0 a : Nat} {fs : List Value} {v : Value} (hx : p.tables.exec = Jvm.exec) (hb : c.code = cc) (hta : ∀ w ∈ am_all, w.before args s = true) (hown : s.vm.findClass RX0 = some m.cls) (hK : va_K (dC, dI) vwCl tys s) (hP : va_P (dC, dI) vwCl ws H) (he : ws[q0]? = some (a, .inr (1, fs))) (hv : fs[2]? = some v) (hdg : decode cc pc = .ok (.getfield 142, 3)) (kk : W p l e R s m args below meth c H locs cells slots Q (F0 m (pc + 3) ls (v :: rest))) : W p l e R s m args below meth c H locs cells slots Q (F0 m pc ls (.ref a :: rest)) :=
  va_get (D := (dC, dI)) (ci := 1) (v := v) (C := RX1) (T := TX1) (N := 5) hx hb hta mu_X1 hown hK hP q0 he rfl 2 (by decide) (hta _ mf_X0_142) (fun _ h9 => h9) hv hdg kk
theorem gf_X0_146 {tys : List (ClassId × FieldType)} {ws : va_W} {q0 a : Nat} {fs : List Value} {v : Value} (hx : p.tables.exec = Jvm.exec) (hb : c.code = cc) (hta : ∀ w ∈ am_all, w.before args s = true) (hown : s.vm.findClass RX0 = some m.cls) (hK : va_K (dC, dI) vwCl tys s) (hP : va_P (dC, dI) vwCl ws H) (he : ws[q0]? = some (a, .inr (1, fs))) (hv : fs[0]? = some v) (hdg : decode cc pc = .ok (.getfield 146, 3)) (kk : W p l e R s m args below meth c H locs cells slots Q (F0 m (pc + 3) ls (v :: rest))) : W p l e R s m args below meth c H locs cells slots Q (F0 m pc ls (.ref a :: rest)) :=
  va_get (D := (dC, dI)) (ci := 1) (v := v) (C := RX1) (T := TX1) (N := 5) hx hb hta mu_X1 hown hK hP q0 he rfl 0 (by decide) (hta _ mf_X0_146) (fun _ h9 => h9) hv hdg kk
theorem gf_X0_149 {tys : List (ClassId × FieldType)} {ws : va_W} {q0 a : Nat} {fs : List Value} {v : Value} (hx : p.tables.exec = Jvm.exec) (hb : c.code = cc) (hta : ∀ w ∈ am_all, w.before args s = true) (hown : s.vm.findClass RX0 = some m.cls) (hK : va_K (dC, dI) vwCl tys s) (hP : va_P (dC, dI) vwCl ws H) (he : ws[q0]? = some (a, .inr (1, fs))) (hv : fs[1]? = some v) (hdg : decode cc pc = .ok (.getfield 149, 3)) (kk : W p l e R s m args below meth c H locs cells slots Q (F0 m (pc + 3) ls (v :: rest))) : W p l e R s m args below meth c H locs cells slots Q (F0 m pc ls (.ref a :: rest)) :=
  va_get (D := (dC, dI)) (ci := 1) (v := v) (C := RX1) (T := TX1) (N := 5) hx hb hta mu_X1 hown hK hP q0 he rfl 1 (by decide) (hta _ mf_X0_149) (fun _ h9 => h9) hv hdg kk
theorem gf_X0_152 {tys : List (ClassId × FieldType)} {ws : va_W} {q0 a : Nat} {fs : List Value} {v : Value} (hx : p.tables.exec = Jvm.exec) (hb : c.code = cc) (hta : ∀ w ∈ am_all, w.before args s = true) (hown : s.vm.findClass RX0 = some m.cls) (hK : va_K (dC, dI) vwCl tys s) (hP : va_P (dC, dI) vwCl ws H) (he : ws[q0]? = some (a, .inr (2, fs))) (hv : fs[1]? = some v) (hdg : decode cc pc = .ok (.getfield 152, 3)) (kk : W p l e R s m args below meth c H locs cells slots Q (F0 m (pc + 3) ls (v :: rest))) : W p l e R s m args below meth c H locs cells slots Q (F0 m pc ls (.ref a :: rest)) :=
  va_get (D := (dC, dI)) (ci := 2) (v := v) (C := RX2) (T := TX2) (N := 2) hx hb hta mu_X2 hown hK hP q0 he rfl 1 (by decide) (hta _ mf_X0_152) (fun _ h9 => h9) hv hdg kk
theorem gf_X0_153 {tys : List (ClassId × FieldType)} {ws : va_W} {q0 a : Nat} {fs : List Value} {v : Value} (hx : p.tables.exec = Jvm.exec) (hb : c.code = cc) (hta : ∀ w ∈ am_all, w.before args s = true) (hown : s.vm.findClass RX0 = some m.cls) (hK : va_K (dC, dI) vwCl tys s) (hP : va_P (dC, dI) vwCl ws H) (he : ws[q0]? = some (a, .inr (1, fs))) (hv : fs[4]? = some v) (hdg : decode cc pc = .ok (.getfield 153, 3)) (kk : W p l e R s m args below meth c H locs cells slots Q (F0 m (pc + 3) ls (v :: rest))) : W p l e R s m args below meth c H locs cells slots Q (F0 m pc ls (.ref a :: rest)) :=
  va_get (D := (dC, dI)) (ci := 1) (v := v) (C := RX1) (T := TX1) (N := 5) hx hb hta mu_X1 hown hK hP q0 he rfl 4 (by decide) (hta _ mf_X0_153) (fun _ h9 => h9) hv hdg kk
theorem gf_X1_9 {tys : List (ClassId × FieldType)} {ws : va_W} {q0 a : Nat} {fs : List Value} {v : Value} (hx : p.tables.exec = Jvm.exec) (hb : c.code = cc) (hta : ∀ w ∈ am_all, w.before args s = true) (hown : s.vm.findClass RX1 = some m.cls) (hK : va_K (dC, dI) vwCl tys s) (hP : va_P (dC, dI) vwCl ws H) (he : ws[q0]? = some (a, .inr (1, fs))) (hv : fs[0]? = some v) (hdg : decode cc pc = .ok (.getfield 9, 3)) (kk : W p l e R s m args below meth c H locs cells slots Q (F0 m (pc + 3) ls (v :: rest))) : W p l e R s m args below meth c H locs cells slots Q (F0 m pc ls (.ref a :: rest)) :=
  va_get (D := (dC, dI)) (ci := 1) (v := v) (C := RX1) (T := TX1) (N := 5) hx hb hta mu_X1 hown hK hP q0 he rfl 0 (by decide) (hta _ mf_X1_9) (fun _ h9 => h9) hv hdg kk
theorem gf_X1_15 {tys : List (ClassId × FieldType)} {ws : va_W} {q0 a : Nat} {fs : List Value} {v : Value} (hx : p.tables.exec = Jvm.exec) (hb : c.code = cc) (hta : ∀ w ∈ am_all, w.before args s = true) (hown : s.vm.findClass RX1 = some m.cls) (hK : va_K (dC, dI) vwCl tys s) (hP : va_P (dC, dI) vwCl ws H) (he : ws[q0]? = some (a, .inr (1, fs))) (hv : fs[1]? = some v) (hdg : decode cc pc = .ok (.getfield 15, 3)) (kk : W p l e R s m args below meth c H locs cells slots Q (F0 m (pc + 3) ls (v :: rest))) : W p l e R s m args below meth c H locs cells slots Q (F0 m pc ls (.ref a :: rest)) :=
  va_get (D := (dC, dI)) (ci := 1) (v := v) (C := RX1) (T := TX1) (N := 5) hx hb hta mu_X1 hown hK hP q0 he rfl 1 (by decide) (hta _ mf_X1_15) (fun _ h9 => h9) hv hdg kk
theorem gf_X1_18 {tys : List (ClassId × FieldType)} {ws : va_W} {q0 a : Nat} {fs : List Value} {v : Value} (hx : p.tables.exec = Jvm.exec) (hb : c.code = cc) (hta : ∀ w ∈ am_all, w.before args s = true) (hown : s.vm.findClass RX1 = some m.cls) (hK : va_K (dC, dI) vwCl tys s) (hP : va_P (dC, dI) vwCl ws H) (he : ws[q0]? = some (a, .inr (1, fs))) (hv : fs[2]? = some v) (hdg : decode cc pc = .ok (.getfield 18, 3)) (kk : W p l e R s m args below meth c H locs cells slots Q (F0 m (pc + 3) ls (v :: rest))) : W p l e R s m args below meth c H locs cells slots Q (F0 m pc ls (.ref a :: rest)) :=
  va_get (D := (dC, dI)) (ci := 1) (v := v) (C := RX1) (T := TX1) (N := 5) hx hb hta mu_X1 hown hK hP q0 he rfl 2 (by decide) (hta _ mf_X1_18) (fun _ h9 => h9) hv hdg kk
theorem pf_X1_18 {H0 : Heap} (hx : p.tables.exec = Jvm.exec) (hb : c.code = cc) (hta : ∀ w ∈ am_all, w.before args s = true) (hown : s.vm.findClass RX1 = some m.cls) (hK : va_K (dC, dI) vwCl (am_ty ca) s) (hP : va_P (dC, dI) vwCl (am_w ad (am_sh ca) 63 M) H) (hI : am_inj ad) (hS : va_S (am_A ad 63) H0 H locs) {i : Nat} {fs : List (Option Nat)} {r : am_M → Nat → Nat} {w : am_M → Nat → Nat → am_M} (hi : i < 63) (hs : am_is ca am_sh i (.inr (.inr (1, fs))) r w) {x : Int32} {P : am_M → Prop} (h : am_sf (w M 2) x P) (hdg : decode cc pc = .ok (.putfield 18, 3)) (kk : ∀ (M1 : am_M) (H1 : Heap) (locs1 : List Loc), va_P (dC, dI) vwCl (am_w ad (am_sh ca) 63 M1) H1 → va_S (am_A ad 63) H0 H1 locs1 → P M1 → W p l e R s m args below meth c H1 locs1 cells slots Q (F0 m (pc + 3) ls rest)) (hf : fs[2]? = some none := by rfl) : W p l e R s m args below meth c H locs cells slots Q (F0 m pc ls (.int x :: .ref (ad i) :: rest)) := by
  obtain ⟨v, rfl, h⟩ := h
  refine va_put (D := (dC, dI)) (ci := 1) (v := .int (nI v)) (ty := .int) (C := RX1) (T := TX1) (N := 5) hx hb hta mu_X1 tyX1 tyX1_ok nmX1 hown hK hP (am_D hI) hS i (am_wo hi hs) rfl 2 (by decide) (hta _ mf_X1_18) (fun _ h9 => h9) rfl (by decide +kernel) rfl rfl (by rw [am_fl_len]; exact (List.getElem?_eq_some_iff.mp hf).1) hdg (fun H1 locs1 hP1 _ hS1 => ?_)
  rw [am_fl_set hf, am_wset (k := 2) (v := v) hi (by rw [hs.1, hs.2.1]; rfl), hs.2.2] at hP1
  exact kk _ H1 locs1 hP1 hS1 h
theorem gf_X1_30 {tys : List (ClassId × FieldType)} {ws : va_W} {q0 a : Nat} {fs : List Value} {v : Value} (hx : p.tables.exec = Jvm.exec) (hb : c.code = cc) (hta : ∀ w ∈ am_all, w.before args s = true) (hown : s.vm.findClass RX1 = some m.cls) (hK : va_K (dC, dI) vwCl tys s) (hP : va_P (dC, dI) vwCl ws H) (he : ws[q0]? = some (a, .inr (1, fs))) (hv : fs[3]? = some v) (hdg : decode cc pc = .ok (.getfield 30, 3)) (kk : W p l e R s m args below meth c H locs cells slots Q (F0 m (pc + 3) ls (v :: rest))) : W p l e R s m args below meth c H locs cells slots Q (F0 m pc ls (.ref a :: rest)) :=
  va_get (D := (dC, dI)) (ci := 1) (v := v) (C := RX1) (T := TX1) (N := 5) hx hb hta mu_X1 hown hK hP q0 he rfl 3 (by decide) (hta _ mf_X1_30) (fun _ h9 => h9) hv hdg kk
theorem pf_X1_30 {H0 : Heap} (hx : p.tables.exec = Jvm.exec) (hb : c.code = cc) (hta : ∀ w ∈ am_all, w.before args s = true) (hown : s.vm.findClass RX1 = some m.cls) (hK : va_K (dC, dI) vwCl (am_ty ca) s) (hP : va_P (dC, dI) vwCl (am_w ad (am_sh ca) 63 M) H) (hI : am_inj ad) (hS : va_S (am_A ad 63) H0 H locs) {i : Nat} {fs : List (Option Nat)} {r : am_M → Nat → Nat} {w : am_M → Nat → Nat → am_M} (hi : i < 63) (hs : am_is ca am_sh i (.inr (.inr (1, fs))) r w) {x : Int32} {P : am_M → Prop} (h : am_sf (w M 3) x P) (hdg : decode cc pc = .ok (.putfield 30, 3)) (kk : ∀ (M1 : am_M) (H1 : Heap) (locs1 : List Loc), va_P (dC, dI) vwCl (am_w ad (am_sh ca) 63 M1) H1 → va_S (am_A ad 63) H0 H1 locs1 → P M1 → W p l e R s m args below meth c H1 locs1 cells slots Q (F0 m (pc + 3) ls rest)) (hf : fs[3]? = some none := by rfl) : W p l e R s m args below meth c H locs cells slots Q (F0 m pc ls (.int x :: .ref (ad i) :: rest)) := by
  obtain ⟨v, rfl, h⟩ := h
  refine va_put (D := (dC, dI)) (ci := 1) (v := .int (nI v)) (ty := .int) (C := RX1) (T := TX1) (N := 5) hx hb hta mu_X1 tyX1 tyX1_ok nmX1 hown hK hP (am_D hI) hS i (am_wo hi hs) rfl 3 (by decide) (hta _ mf_X1_30) (fun _ h9 => h9) rfl (by decide +kernel) rfl rfl (by rw [am_fl_len]; exact (List.getElem?_eq_some_iff.mp hf).1) hdg (fun H1 locs1 hP1 _ hS1 => ?_)
  rw [am_fl_set hf, am_wset (k := 3) (v := v) hi (by rw [hs.1, hs.2.1]; rfl), hs.2.2] at hP1
  exact kk _ H1 locs1 hP1 hS1 h
theorem gf_X1_33 {tys : List (ClassId × FieldType)} {ws : va_W} {q0 a : Nat} {fs : List Value} {v : Value} (hx : p.tables.exec = Jvm.exec) (hb : c.code = cc) (hta : ∀ w ∈ am_all, w.before args s = true) (hown : s.vm.findClass RX1 = some m.cls) (hK : va_K (dC, dI) vwCl tys s) (hP : va_P (dC, dI) vwCl ws H) (he : ws[q0]? = some (a, .inr (1, fs))) (hv : fs[4]? = some v) (hdg : decode cc pc = .ok (.getfield 33, 3)) (kk : W p l e R s m args below meth c H locs cells slots Q (F0 m (pc + 3) ls (v :: rest))) : W p l e R s m args below meth c H locs cells slots Q (F0 m pc ls (.ref a :: rest)) :=
  va_get (D := (dC, dI)) (ci := 1) (v := v) (C := RX1) (T := TX1) (N := 5) hx hb hta mu_X1 hown hK hP q0 he rfl 4 (by decide) (hta _ mf_X1_33) (fun _ h9 => h9) hv hdg kk
theorem pf_X1_33 {H0 : Heap} (hx : p.tables.exec = Jvm.exec) (hb : c.code = cc) (hta : ∀ w ∈ am_all, w.before args s = true) (hown : s.vm.findClass RX1 = some m.cls) (hK : va_K (dC, dI) vwCl (am_ty ca) s) (hP : va_P (dC, dI) vwCl (am_w ad (am_sh ca) 63 M) H) (hI : am_inj ad) (hS : va_S (am_A ad 63) H0 H locs) {i : Nat} {fs : List (Option Nat)} {r : am_M → Nat → Nat} {w : am_M → Nat → Nat → am_M} (hi : i < 63) (hs : am_is ca am_sh i (.inr (.inr (1, fs))) r w) {x : Int32} {P : am_M → Prop} (h : am_sf (w M 4) x P) (hdg : decode cc pc = .ok (.putfield 33, 3)) (kk : ∀ (M1 : am_M) (H1 : Heap) (locs1 : List Loc), va_P (dC, dI) vwCl (am_w ad (am_sh ca) 63 M1) H1 → va_S (am_A ad 63) H0 H1 locs1 → P M1 → W p l e R s m args below meth c H1 locs1 cells slots Q (F0 m (pc + 3) ls rest)) (hf : fs[4]? = some none := by rfl) : W p l e R s m args below meth c H locs cells slots Q (F0 m pc ls (.int x :: .ref (ad i) :: rest)) := by
  obtain ⟨v, rfl, h⟩ := h
  refine va_put (D := (dC, dI)) (ci := 1) (v := .int (nI v)) (ty := .int) (C := RX1) (T := TX1) (N := 5) hx hb hta mu_X1 tyX1 tyX1_ok nmX1 hown hK hP (am_D hI) hS i (am_wo hi hs) rfl 4 (by decide) (hta _ mf_X1_33) (fun _ h9 => h9) rfl (by decide +kernel) rfl rfl (by rw [am_fl_len]; exact (List.getElem?_eq_some_iff.mp hf).1) hdg (fun H1 locs1 hP1 _ hS1 => ?_)
  rw [am_fl_set hf, am_wset (k := 4) (v := v) hi (by rw [hs.1, hs.2.1]; rfl), hs.2.2] at hP1
  exact kk _ H1 locs1 hP1 hS1 h
theorem gf_X2_11 {tys : List (ClassId × FieldType)} {ws : va_W} {q0 a : Nat} {fs : List Value} {v : Value} (hx : p.tables.exec = Jvm.exec) (hb : c.code = cc) (hta : ∀ w ∈ am_all, w.before args s = true) (hown : s.vm.findClass RX2 = some m.cls) (hK : va_K (dC, dI) vwCl tys s) (hP : va_P (dC, dI) vwCl ws H) (he : ws[q0]? = some (a, .inr (2, fs))) (hv : fs[0]? = some v) (hdg : decode cc pc = .ok (.getfield 11, 3)) (kk : W p l e R s m args below meth c H locs cells slots Q (F0 m (pc + 3) ls (v :: rest))) : W p l e R s m args below meth c H locs cells slots Q (F0 m pc ls (.ref a :: rest)) :=
  va_get (D := (dC, dI)) (ci := 2) (v := v) (C := RX2) (T := TX2) (N := 2) hx hb hta mu_X2 hown hK hP q0 he rfl 0 (by decide) (hta _ mf_X2_11) (fun _ h9 => h9) hv hdg kk
theorem gf_X2_16 {tys : List (ClassId × FieldType)} {ws : va_W} {q0 a : Nat} {fs : List Value} {v : Value} (hx : p.tables.exec = Jvm.exec) (hb : c.code = cc) (hta : ∀ w ∈ am_all, w.before args s = true) (hown : s.vm.findClass RX2 = some m.cls) (hK : va_K (dC, dI) vwCl tys s) (hP : va_P (dC, dI) vwCl ws H) (he : ws[q0]? = some (a, .inr (2, fs))) (hv : fs[1]? = some v) (hdg : decode cc pc = .ok (.getfield 16, 3)) (kk : W p l e R s m args below meth c H locs cells slots Q (F0 m (pc + 3) ls (v :: rest))) : W p l e R s m args below meth c H locs cells slots Q (F0 m pc ls (.ref a :: rest)) :=
  va_get (D := (dC, dI)) (ci := 2) (v := v) (C := RX2) (T := TX2) (N := 2) hx hb hta mu_X2 hown hK hP q0 he rfl 1 (by decide) (hta _ mf_X2_16) (fun _ h9 => h9) hv hdg kk
theorem pf_X2_16 {H0 : Heap} (hx : p.tables.exec = Jvm.exec) (hb : c.code = cc) (hta : ∀ w ∈ am_all, w.before args s = true) (hown : s.vm.findClass RX2 = some m.cls) (hK : va_K (dC, dI) vwCl (am_ty ca) s) (hP : va_P (dC, dI) vwCl (am_w ad (am_sh ca) 63 M) H) (hI : am_inj ad) (hS : va_S (am_A ad 63) H0 H locs) {i : Nat} {fs : List (Option Nat)} {r : am_M → Nat → Nat} {w : am_M → Nat → Nat → am_M} (hi : i < 63) (hs : am_is ca am_sh i (.inr (.inr (2, fs))) r w) {x : Int32} {P : am_M → Prop} (h : am_sf (w M 1) x P) (hdg : decode cc pc = .ok (.putfield 16, 3)) (kk : ∀ (M1 : am_M) (H1 : Heap) (locs1 : List Loc), va_P (dC, dI) vwCl (am_w ad (am_sh ca) 63 M1) H1 → va_S (am_A ad 63) H0 H1 locs1 → P M1 → W p l e R s m args below meth c H1 locs1 cells slots Q (F0 m (pc + 3) ls rest)) (hf : fs[1]? = some none := by rfl) : W p l e R s m args below meth c H locs cells slots Q (F0 m pc ls (.int x :: .ref (ad i) :: rest)) := by
  obtain ⟨v, rfl, h⟩ := h
  refine va_put (D := (dC, dI)) (ci := 2) (v := .int (nI v)) (ty := .int) (C := RX2) (T := TX2) (N := 2) hx hb hta mu_X2 tyX2 tyX2_ok nmX2 hown hK hP (am_D hI) hS i (am_wo hi hs) rfl 1 (by decide) (hta _ mf_X2_16) (fun _ h9 => h9) rfl (by decide +kernel) rfl rfl (by rw [am_fl_len]; exact (List.getElem?_eq_some_iff.mp hf).1) hdg (fun H1 locs1 hP1 _ hS1 => ?_)
  rw [am_fl_set hf, am_wset (k := 1) (v := v) hi (by rw [hs.1, hs.2.1]; rfl), hs.2.2] at hP1
  exact kk _ H1 locs1 hP1 hS1 h
theorem gf_X3_15 {tys : List (ClassId × FieldType)} {ws : va_W} {q0 a : Nat} {fs : List Value} {v : Value} (hx : p.tables.exec = Jvm.exec) (hb : c.code = cc) (hta : ∀ w ∈ am_all, w.before args s = true) (hown : s.vm.findClass RX3 = some m.cls) (hK : va_K (dC, dI) vwCl tys s) (hP : va_P (dC, dI) vwCl ws H) (he : ws[q0]? = some (a, .inr (3, fs))) (hv : fs[1]? = some v) (hdg : decode cc pc = .ok (.getfield 15, 3)) (kk : W p l e R s m args below meth c H locs cells slots Q (F0 m (pc + 3) ls (v :: rest))) : W p l e R s m args below meth c H locs cells slots Q (F0 m pc ls (.ref a :: rest)) :=
  va_get (D := (dC, dI)) (ci := 3) (v := v) (C := RX3) (T := TX3) (N := 4) hx hb hta mu_X3 hown hK hP q0 he rfl 1 (by decide) (hta _ mf_X3_15) (fun _ h9 => h9) hv hdg kk
theorem gf_X3_19 {tys : List (ClassId × FieldType)} {ws : va_W} {q0 a : Nat} {fs : List Value} {v : Value} (hx : p.tables.exec = Jvm.exec) (hb : c.code = cc) (hta : ∀ w ∈ am_all, w.before args s = true) (hown : s.vm.findClass RX3 = some m.cls) (hK : va_K (dC, dI) vwCl tys s) (hP : va_P (dC, dI) vwCl ws H) (he : ws[q0]? = some (a, .inr (3, fs))) (hv : fs[2]? = some v) (hdg : decode cc pc = .ok (.getfield 19, 3)) (kk : W p l e R s m args below meth c H locs cells slots Q (F0 m (pc + 3) ls (v :: rest))) : W p l e R s m args below meth c H locs cells slots Q (F0 m pc ls (.ref a :: rest)) :=
  va_get (D := (dC, dI)) (ci := 3) (v := v) (C := RX3) (T := TX3) (N := 4) hx hb hta mu_X3 hown hK hP q0 he rfl 2 (by decide) (hta _ mf_X3_19) (fun _ h9 => h9) hv hdg kk
theorem gf_X3_25 {tys : List (ClassId × FieldType)} {ws : va_W} {q0 a : Nat} {fs : List Value} {v : Value} (hx : p.tables.exec = Jvm.exec) (hb : c.code = cc) (hta : ∀ w ∈ am_all, w.before args s = true) (hown : s.vm.findClass RX3 = some m.cls) (hK : va_K (dC, dI) vwCl tys s) (hP : va_P (dC, dI) vwCl ws H) (he : ws[q0]? = some (a, .inr (3, fs))) (hv : fs[3]? = some v) (hdg : decode cc pc = .ok (.getfield 25, 3)) (kk : W p l e R s m args below meth c H locs cells slots Q (F0 m (pc + 3) ls (v :: rest))) : W p l e R s m args below meth c H locs cells slots Q (F0 m pc ls (.ref a :: rest)) :=
  va_get (D := (dC, dI)) (ci := 3) (v := v) (C := RX3) (T := TX3) (N := 4) hx hb hta mu_X3 hown hK hP q0 he rfl 3 (by decide) (hta _ mf_X3_25) (fun _ h9 => h9) hv hdg kk
theorem gf_X3_61 {tys : List (ClassId × FieldType)} {ws : va_W} {q0 a : Nat} {fs : List Value} {v : Value} (hx : p.tables.exec = Jvm.exec) (hb : c.code = cc) (hta : ∀ w ∈ am_all, w.before args s = true) (hown : s.vm.findClass RX3 = some m.cls) (hK : va_K (dC, dI) vwCl tys s) (hP : va_P (dC, dI) vwCl ws H) (he : ws[q0]? = some (a, .inr (1, fs))) (hv : fs[1]? = some v) (hdg : decode cc pc = .ok (.getfield 61, 3)) (kk : W p l e R s m args below meth c H locs cells slots Q (F0 m (pc + 3) ls (v :: rest))) : W p l e R s m args below meth c H locs cells slots Q (F0 m pc ls (.ref a :: rest)) :=
  va_get (D := (dC, dI)) (ci := 1) (v := v) (C := RX1) (T := TX1) (N := 5) hx hb hta mu_X1 hown hK hP q0 he rfl 1 (by decide) (hta _ mf_X3_61) (fun _ h9 => h9) hv hdg kk
theorem gf_X4_9 {tys : List (ClassId × FieldType)} {ws : va_W} {q0 a : Nat} {fs : List Value} {v : Value} (hx : p.tables.exec = Jvm.exec) (hb : c.code = cc) (hta : ∀ w ∈ am_all, w.before args s = true) (hown : s.vm.findClass RX4 = some m.cls) (hK : va_K (dC, dI) vwCl tys s) (hP : va_P (dC, dI) vwCl ws H) (he : ws[q0]? = some (a, .inr (4, fs))) (hv : fs[2]? = some v) (hdg : decode cc pc = .ok (.getfield 9, 3)) (kk : W p l e R s m args below meth c H locs cells slots Q (F0 m (pc + 3) ls (v :: rest))) : W p l e R s m args below meth c H locs cells slots Q (F0 m pc ls (.ref a :: rest)) :=
  va_get (D := (dC, dI)) (ci := 4) (v := v) (C := RX4) (T := TX4) (N := 6) hx hb hta mu_X4 hown hK hP q0 he rfl 2 (by decide) (hta _ mf_X4_9) (fun _ h9 => h9) hv hdg kk
theorem pf_X4_9 {H0 : Heap} (hx : p.tables.exec = Jvm.exec) (hb : c.code = cc) (hta : ∀ w ∈ am_all, w.before args s = true) (hown : s.vm.findClass RX4 = some m.cls) (hK : va_K (dC, dI) vwCl (am_ty ca) s) (hP : va_P (dC, dI) vwCl (am_w ad (am_sh ca) 63 M) H) (hI : am_inj ad) (hS : va_S (am_A ad 63) H0 H locs) {i : Nat} {fs : List (Option Nat)} {r : am_M → Nat → Nat} {w : am_M → Nat → Nat → am_M} (hi : i < 63) (hs : am_is ca am_sh i (.inr (.inr (4, fs))) r w) {x : Int32} {P : am_M → Prop} (h : am_sf (w M 2) x P) (hdg : decode cc pc = .ok (.putfield 9, 3)) (kk : ∀ (M1 : am_M) (H1 : Heap) (locs1 : List Loc), va_P (dC, dI) vwCl (am_w ad (am_sh ca) 63 M1) H1 → va_S (am_A ad 63) H0 H1 locs1 → P M1 → W p l e R s m args below meth c H1 locs1 cells slots Q (F0 m (pc + 3) ls rest)) (hf : fs[2]? = some none := by rfl) : W p l e R s m args below meth c H locs cells slots Q (F0 m pc ls (.int x :: .ref (ad i) :: rest)) := by
  obtain ⟨v, rfl, h⟩ := h
  refine va_put (D := (dC, dI)) (ci := 4) (v := .int (nI v)) (ty := .int) (C := RX4) (T := TX4) (N := 6) hx hb hta mu_X4 tyX4 tyX4_ok nmX4 hown hK hP (am_D hI) hS i (am_wo hi hs) rfl 2 (by decide) (hta _ mf_X4_9) (fun _ h9 => h9) rfl (by decide +kernel) rfl rfl (by rw [am_fl_len]; exact (List.getElem?_eq_some_iff.mp hf).1) hdg (fun H1 locs1 hP1 _ hS1 => ?_)
  rw [am_fl_set hf, am_wset (k := 2) (v := v) hi (by rw [hs.1, hs.2.1]; rfl), hs.2.2] at hP1
  exact kk _ H1 locs1 hP1 hS1 h
theorem gf_X4_15 {tys : List (ClassId × FieldType)} {ws : va_W} {q0 a : Nat} {fs : List Value} {v : Value} (hx : p.tables.exec = Jvm.exec) (hb : c.code = cc) (hta : ∀ w ∈ am_all, w.before args s = true) (hown : s.vm.findClass RX4 = some m.cls) (hK : va_K (dC, dI) vwCl tys s) (hP : va_P (dC, dI) vwCl ws H) (he : ws[q0]? = some (a, .inr (4, fs))) (hv : fs[3]? = some v) (hdg : decode cc pc = .ok (.getfield 15, 3)) (kk : W p l e R s m args below meth c H locs cells slots Q (F0 m (pc + 3) ls (v :: rest))) : W p l e R s m args below meth c H locs cells slots Q (F0 m pc ls (.ref a :: rest)) :=
  va_get (D := (dC, dI)) (ci := 4) (v := v) (C := RX4) (T := TX4) (N := 6) hx hb hta mu_X4 hown hK hP q0 he rfl 3 (by decide) (hta _ mf_X4_15) (fun _ h9 => h9) hv hdg kk
theorem pf_X4_15 {H0 : Heap} (hx : p.tables.exec = Jvm.exec) (hb : c.code = cc) (hta : ∀ w ∈ am_all, w.before args s = true) (hown : s.vm.findClass RX4 = some m.cls) (hK : va_K (dC, dI) vwCl (am_ty ca) s) (hP : va_P (dC, dI) vwCl (am_w ad (am_sh ca) 63 M) H) (hI : am_inj ad) (hS : va_S (am_A ad 63) H0 H locs) {i : Nat} {fs : List (Option Nat)} {r : am_M → Nat → Nat} {w : am_M → Nat → Nat → am_M} (hi : i < 63) (hs : am_is ca am_sh i (.inr (.inr (4, fs))) r w) {x : Int32} {P : am_M → Prop} (h : am_sf (w M 3) x P) (hdg : decode cc pc = .ok (.putfield 15, 3)) (kk : ∀ (M1 : am_M) (H1 : Heap) (locs1 : List Loc), va_P (dC, dI) vwCl (am_w ad (am_sh ca) 63 M1) H1 → va_S (am_A ad 63) H0 H1 locs1 → P M1 → W p l e R s m args below meth c H1 locs1 cells slots Q (F0 m (pc + 3) ls rest)) (hf : fs[3]? = some none := by rfl) : W p l e R s m args below meth c H locs cells slots Q (F0 m pc ls (.int x :: .ref (ad i) :: rest)) := by
  obtain ⟨v, rfl, h⟩ := h
  refine va_put (D := (dC, dI)) (ci := 4) (v := .int (nI v)) (ty := .int) (C := RX4) (T := TX4) (N := 6) hx hb hta mu_X4 tyX4 tyX4_ok nmX4 hown hK hP (am_D hI) hS i (am_wo hi hs) rfl 3 (by decide) (hta _ mf_X4_15) (fun _ h9 => h9) rfl (by decide +kernel) rfl rfl (by rw [am_fl_len]; exact (List.getElem?_eq_some_iff.mp hf).1) hdg (fun H1 locs1 hP1 _ hS1 => ?_)
  rw [am_fl_set hf, am_wset (k := 3) (v := v) hi (by rw [hs.1, hs.2.1]; rfl), hs.2.2] at hP1
  exact kk _ H1 locs1 hP1 hS1 h
theorem gf_X4_18 {tys : List (ClassId × FieldType)} {ws : va_W} {q0 a : Nat} {fs : List Value} {v : Value} (hx : p.tables.exec = Jvm.exec) (hb : c.code = cc) (hta : ∀ w ∈ am_all, w.before args s = true) (hown : s.vm.findClass RX4 = some m.cls) (hK : va_K (dC, dI) vwCl tys s) (hP : va_P (dC, dI) vwCl ws H) (he : ws[q0]? = some (a, .inr (4, fs))) (hv : fs[4]? = some v) (hdg : decode cc pc = .ok (.getfield 18, 3)) (kk : W p l e R s m args below meth c H locs cells slots Q (F0 m (pc + 3) ls (v :: rest))) : W p l e R s m args below meth c H locs cells slots Q (F0 m pc ls (.ref a :: rest)) :=
  va_get (D := (dC, dI)) (ci := 4) (v := v) (C := RX4) (T := TX4) (N := 6) hx hb hta mu_X4 hown hK hP q0 he rfl 4 (by decide) (hta _ mf_X4_18) (fun _ h9 => h9) hv hdg kk
theorem pf_X4_18 {H0 : Heap} (hx : p.tables.exec = Jvm.exec) (hb : c.code = cc) (hta : ∀ w ∈ am_all, w.before args s = true) (hown : s.vm.findClass RX4 = some m.cls) (hK : va_K (dC, dI) vwCl (am_ty ca) s) (hP : va_P (dC, dI) vwCl (am_w ad (am_sh ca) 63 M) H) (hI : am_inj ad) (hS : va_S (am_A ad 63) H0 H locs) {i : Nat} {fs : List (Option Nat)} {r : am_M → Nat → Nat} {w : am_M → Nat → Nat → am_M} (hi : i < 63) (hs : am_is ca am_sh i (.inr (.inr (4, fs))) r w) {x : Int32} {P : am_M → Prop} (h : am_sf (w M 4) x P) (hdg : decode cc pc = .ok (.putfield 18, 3)) (kk : ∀ (M1 : am_M) (H1 : Heap) (locs1 : List Loc), va_P (dC, dI) vwCl (am_w ad (am_sh ca) 63 M1) H1 → va_S (am_A ad 63) H0 H1 locs1 → P M1 → W p l e R s m args below meth c H1 locs1 cells slots Q (F0 m (pc + 3) ls rest)) (hf : fs[4]? = some none := by rfl) : W p l e R s m args below meth c H locs cells slots Q (F0 m pc ls (.int x :: .ref (ad i) :: rest)) := by
  obtain ⟨v, rfl, h⟩ := h
  refine va_put (D := (dC, dI)) (ci := 4) (v := .int (nI v)) (ty := .int) (C := RX4) (T := TX4) (N := 6) hx hb hta mu_X4 tyX4 tyX4_ok nmX4 hown hK hP (am_D hI) hS i (am_wo hi hs) rfl 4 (by decide) (hta _ mf_X4_18) (fun _ h9 => h9) rfl (by decide +kernel) rfl rfl (by rw [am_fl_len]; exact (List.getElem?_eq_some_iff.mp hf).1) hdg (fun H1 locs1 hP1 _ hS1 => ?_)
  rw [am_fl_set hf, am_wset (k := 4) (v := v) hi (by rw [hs.1, hs.2.1]; rfl), hs.2.2] at hP1
  exact kk _ H1 locs1 hP1 hS1 h
theorem pf_X4_21 {H0 : Heap} (hx : p.tables.exec = Jvm.exec) (hb : c.code = cc) (hta : ∀ w ∈ am_all, w.before args s = true) (hown : s.vm.findClass RX4 = some m.cls) (hK : va_K (dC, dI) vwCl (am_ty ca) s) (hP : va_P (dC, dI) vwCl (am_w ad (am_sh ca) 63 M) H) (hI : am_inj ad) (hS : va_S (am_A ad 63) H0 H locs) {i : Nat} {fs : List (Option Nat)} {r : am_M → Nat → Nat} {w : am_M → Nat → Nat → am_M} (hi : i < 63) (hs : am_is ca am_sh i (.inr (.inr (4, fs))) r w) {x : Int32} {P : am_M → Prop} (h : am_sf (w M 1) x P) (hdg : decode cc pc = .ok (.putfield 21, 3)) (kk : ∀ (M1 : am_M) (H1 : Heap) (locs1 : List Loc), va_P (dC, dI) vwCl (am_w ad (am_sh ca) 63 M1) H1 → va_S (am_A ad 63) H0 H1 locs1 → P M1 → W p l e R s m args below meth c H1 locs1 cells slots Q (F0 m (pc + 3) ls rest)) (hf : fs[1]? = some none := by rfl) : W p l e R s m args below meth c H locs cells slots Q (F0 m pc ls (.int x :: .ref (ad i) :: rest)) := by
  obtain ⟨v, rfl, h⟩ := h
  refine va_put (D := (dC, dI)) (ci := 4) (v := .int (nI v)) (ty := .int) (C := RX4) (T := TX4) (N := 6) hx hb hta mu_X4 tyX4 tyX4_ok nmX4 hown hK hP (am_D hI) hS i (am_wo hi hs) rfl 1 (by decide) (hta _ mf_X4_21) (fun _ h9 => h9) rfl (by decide +kernel) rfl rfl (by rw [am_fl_len]; exact (List.getElem?_eq_some_iff.mp hf).1) hdg (fun H1 locs1 hP1 _ hS1 => ?_)
  rw [am_fl_set hf, am_wset (k := 1) (v := v) hi (by rw [hs.1, hs.2.1]; rfl), hs.2.2] at hP1
  exact kk _ H1 locs1 hP1 hS1 h
theorem pf_X4_24 {H0 : Heap} (hx : p.tables.exec = Jvm.exec) (hb : c.code = cc) (hta : ∀ w ∈ am_all, w.before args s = true) (hown : s.vm.findClass RX4 = some m.cls) (hK : va_K (dC, dI) vwCl (am_ty ca) s) (hP : va_P (dC, dI) vwCl (am_w ad (am_sh ca) 63 M) H) (hI : am_inj ad) (hS : va_S (am_A ad 63) H0 H locs) {i : Nat} {fs : List (Option Nat)} {r : am_M → Nat → Nat} {w : am_M → Nat → Nat → am_M} (hi : i < 63) (hs : am_is ca am_sh i (.inr (.inr (4, fs))) r w) {x : Int32} {P : am_M → Prop} (h : am_sf (w M 5) x P) (hdg : decode cc pc = .ok (.putfield 24, 3)) (kk : ∀ (M1 : am_M) (H1 : Heap) (locs1 : List Loc), va_P (dC, dI) vwCl (am_w ad (am_sh ca) 63 M1) H1 → va_S (am_A ad 63) H0 H1 locs1 → P M1 → W p l e R s m args below meth c H1 locs1 cells slots Q (F0 m (pc + 3) ls rest)) (hf : fs[5]? = some none := by rfl) : W p l e R s m args below meth c H locs cells slots Q (F0 m pc ls (.int x :: .ref (ad i) :: rest)) := by
  obtain ⟨v, rfl, h⟩ := h
  refine va_put (D := (dC, dI)) (ci := 4) (v := .int (nI v)) (ty := .int) (C := RX4) (T := TX4) (N := 6) hx hb hta mu_X4 tyX4 tyX4_ok nmX4 hown hK hP (am_D hI) hS i (am_wo hi hs) rfl 5 (by decide) (hta _ mf_X4_24) (fun _ h9 => h9) rfl (by decide +kernel) rfl rfl (by rw [am_fl_len]; exact (List.getElem?_eq_some_iff.mp hf).1) hdg (fun H1 locs1 hP1 _ hS1 => ?_)
  rw [am_fl_set hf, am_wset (k := 5) (v := v) hi (by rw [hs.1, hs.2.1]; rfl), hs.2.2] at hP1
  exact kk _ H1 locs1 hP1 hS1 h
theorem gf_X5_7 {tys : List (ClassId × FieldType)} {ws : va_W} {q0 a : Nat} {fs : List Value} {v : Value} (hx : p.tables.exec = Jvm.exec) (hb : c.code = cc) (hta : ∀ w ∈ am_all, w.before args s = true) (hown : s.vm.findClass RX5 = some m.cls) (hK : va_K (dC, dI) vwCl tys s) (hP : va_P (dC, dI) vwCl ws H) (he : ws[q0]? = some (a, .inr (5, fs))) (hv : fs[0]? = some v) (hdg : decode cc pc = .ok (.getfield 7, 3)) (kk : W p l e R s m args below meth c H locs cells slots Q (F0 m (pc + 3) ls (v :: rest))) : W p l e R s m args below meth c H locs cells slots Q (F0 m pc ls (.ref a :: rest)) :=
  va_get (D := (dC, dI)) (ci := 5) (v := v) (C := RX5) (T := TX5) (N := 21) hx hb hta mu_X5 hown hK hP q0 he rfl 0 (by decide) (hta _ mf_X5_7) (fun _ h9 => h9) hv hdg kk
theorem gf_X5_13 {tys : List (ClassId × FieldType)} {ws : va_W} {q0 a : Nat} {fs : List Value} {v : Value} (hx : p.tables.exec = Jvm.exec) (hb : c.code = cc) (hta : ∀ w ∈ am_all, w.before args s = true) (hown : s.vm.findClass RX5 = some m.cls) (hK : va_K (dC, dI) vwCl tys s) (hP : va_P (dC, dI) vwCl ws H) (he : ws[q0]? = some (a, .inr (5, fs))) (hv : fs[1]? = some v) (hdg : decode cc pc = .ok (.getfield 13, 3)) (kk : W p l e R s m args below meth c H locs cells slots Q (F0 m (pc + 3) ls (v :: rest))) : W p l e R s m args below meth c H locs cells slots Q (F0 m pc ls (.ref a :: rest)) :=
  va_get (D := (dC, dI)) (ci := 5) (v := v) (C := RX5) (T := TX5) (N := 21) hx hb hta mu_X5 hown hK hP q0 he rfl 1 (by decide) (hta _ mf_X5_13) (fun _ h9 => h9) hv hdg kk
theorem gf_X5_17 {tys : List (ClassId × FieldType)} {ws : va_W} {q0 a : Nat} {fs : List Value} {v : Value} (hx : p.tables.exec = Jvm.exec) (hb : c.code = cc) (hta : ∀ w ∈ am_all, w.before args s = true) (hown : s.vm.findClass RX5 = some m.cls) (hK : va_K (dC, dI) vwCl tys s) (hP : va_P (dC, dI) vwCl ws H) (he : ws[q0]? = some (a, .inr (5, fs))) (hv : fs[3]? = some v) (hdg : decode cc pc = .ok (.getfield 17, 3)) (kk : W p l e R s m args below meth c H locs cells slots Q (F0 m (pc + 3) ls (v :: rest))) : W p l e R s m args below meth c H locs cells slots Q (F0 m pc ls (.ref a :: rest)) :=
  va_get (D := (dC, dI)) (ci := 5) (v := v) (C := RX5) (T := TX5) (N := 21) hx hb hta mu_X5 hown hK hP q0 he rfl 3 (by decide) (hta _ mf_X5_17) (fun _ h9 => h9) hv hdg kk
theorem gf_X5_20 {tys : List (ClassId × FieldType)} {ws : va_W} {q0 a : Nat} {fs : List Value} {v : Value} (hx : p.tables.exec = Jvm.exec) (hb : c.code = cc) (hta : ∀ w ∈ am_all, w.before args s = true) (hown : s.vm.findClass RX5 = some m.cls) (hK : va_K (dC, dI) vwCl tys s) (hP : va_P (dC, dI) vwCl ws H) (he : ws[q0]? = some (a, .inr (5, fs))) (hv : fs[4]? = some v) (hdg : decode cc pc = .ok (.getfield 20, 3)) (kk : W p l e R s m args below meth c H locs cells slots Q (F0 m (pc + 3) ls (v :: rest))) : W p l e R s m args below meth c H locs cells slots Q (F0 m pc ls (.ref a :: rest)) :=
  va_get (D := (dC, dI)) (ci := 5) (v := v) (C := RX5) (T := TX5) (N := 21) hx hb hta mu_X5 hown hK hP q0 he rfl 4 (by decide) (hta _ mf_X5_20) (fun _ h9 => h9) hv hdg kk
theorem gf_X5_23 {tys : List (ClassId × FieldType)} {ws : va_W} {q0 a : Nat} {fs : List Value} {v : Value} (hx : p.tables.exec = Jvm.exec) (hb : c.code = cc) (hta : ∀ w ∈ am_all, w.before args s = true) (hown : s.vm.findClass RX5 = some m.cls) (hK : va_K (dC, dI) vwCl tys s) (hP : va_P (dC, dI) vwCl ws H) (he : ws[q0]? = some (a, .inr (5, fs))) (hv : fs[5]? = some v) (hdg : decode cc pc = .ok (.getfield 23, 3)) (kk : W p l e R s m args below meth c H locs cells slots Q (F0 m (pc + 3) ls (v :: rest))) : W p l e R s m args below meth c H locs cells slots Q (F0 m pc ls (.ref a :: rest)) :=
  va_get (D := (dC, dI)) (ci := 5) (v := v) (C := RX5) (T := TX5) (N := 21) hx hb hta mu_X5 hown hK hP q0 he rfl 5 (by decide) (hta _ mf_X5_23) (fun _ h9 => h9) hv hdg kk
theorem gf_X5_26 {tys : List (ClassId × FieldType)} {ws : va_W} {q0 a : Nat} {fs : List Value} {v : Value} (hx : p.tables.exec = Jvm.exec) (hb : c.code = cc) (hta : ∀ w ∈ am_all, w.before args s = true) (hown : s.vm.findClass RX5 = some m.cls) (hK : va_K (dC, dI) vwCl tys s) (hP : va_P (dC, dI) vwCl ws H) (he : ws[q0]? = some (a, .inr (5, fs))) (hv : fs[6]? = some v) (hdg : decode cc pc = .ok (.getfield 26, 3)) (kk : W p l e R s m args below meth c H locs cells slots Q (F0 m (pc + 3) ls (v :: rest))) : W p l e R s m args below meth c H locs cells slots Q (F0 m pc ls (.ref a :: rest)) :=
  va_get (D := (dC, dI)) (ci := 5) (v := v) (C := RX5) (T := TX5) (N := 21) hx hb hta mu_X5 hown hK hP q0 he rfl 6 (by decide) (hta _ mf_X5_26) (fun _ h9 => h9) hv hdg kk
theorem gf_X5_29 {tys : List (ClassId × FieldType)} {ws : va_W} {q0 a : Nat} {fs : List Value} {v : Value} (hx : p.tables.exec = Jvm.exec) (hb : c.code = cc) (hta : ∀ w ∈ am_all, w.before args s = true) (hown : s.vm.findClass RX5 = some m.cls) (hK : va_K (dC, dI) vwCl tys s) (hP : va_P (dC, dI) vwCl ws H) (he : ws[q0]? = some (a, .inr (5, fs))) (hv : fs[7]? = some v) (hdg : decode cc pc = .ok (.getfield 29, 3)) (kk : W p l e R s m args below meth c H locs cells slots Q (F0 m (pc + 3) ls (v :: rest))) : W p l e R s m args below meth c H locs cells slots Q (F0 m pc ls (.ref a :: rest)) :=
  va_get (D := (dC, dI)) (ci := 5) (v := v) (C := RX5) (T := TX5) (N := 21) hx hb hta mu_X5 hown hK hP q0 he rfl 7 (by decide) (hta _ mf_X5_29) (fun _ h9 => h9) hv hdg kk
theorem gf_X5_32 {tys : List (ClassId × FieldType)} {ws : va_W} {q0 a : Nat} {fs : List Value} {v : Value} (hx : p.tables.exec = Jvm.exec) (hb : c.code = cc) (hta : ∀ w ∈ am_all, w.before args s = true) (hown : s.vm.findClass RX5 = some m.cls) (hK : va_K (dC, dI) vwCl tys s) (hP : va_P (dC, dI) vwCl ws H) (he : ws[q0]? = some (a, .inr (5, fs))) (hv : fs[8]? = some v) (hdg : decode cc pc = .ok (.getfield 32, 3)) (kk : W p l e R s m args below meth c H locs cells slots Q (F0 m (pc + 3) ls (v :: rest))) : W p l e R s m args below meth c H locs cells slots Q (F0 m pc ls (.ref a :: rest)) :=
  va_get (D := (dC, dI)) (ci := 5) (v := v) (C := RX5) (T := TX5) (N := 21) hx hb hta mu_X5 hown hK hP q0 he rfl 8 (by decide) (hta _ mf_X5_32) (fun _ h9 => h9) hv hdg kk
theorem gf_X5_35 {tys : List (ClassId × FieldType)} {ws : va_W} {q0 a : Nat} {fs : List Value} {v : Value} (hx : p.tables.exec = Jvm.exec) (hb : c.code = cc) (hta : ∀ w ∈ am_all, w.before args s = true) (hown : s.vm.findClass RX5 = some m.cls) (hK : va_K (dC, dI) vwCl tys s) (hP : va_P (dC, dI) vwCl ws H) (he : ws[q0]? = some (a, .inr (5, fs))) (hv : fs[9]? = some v) (hdg : decode cc pc = .ok (.getfield 35, 3)) (kk : W p l e R s m args below meth c H locs cells slots Q (F0 m (pc + 3) ls (v :: rest))) : W p l e R s m args below meth c H locs cells slots Q (F0 m pc ls (.ref a :: rest)) :=
  va_get (D := (dC, dI)) (ci := 5) (v := v) (C := RX5) (T := TX5) (N := 21) hx hb hta mu_X5 hown hK hP q0 he rfl 9 (by decide) (hta _ mf_X5_35) (fun _ h9 => h9) hv hdg kk
theorem gf_X5_38 {tys : List (ClassId × FieldType)} {ws : va_W} {q0 a : Nat} {fs : List Value} {v : Value} (hx : p.tables.exec = Jvm.exec) (hb : c.code = cc) (hta : ∀ w ∈ am_all, w.before args s = true) (hown : s.vm.findClass RX5 = some m.cls) (hK : va_K (dC, dI) vwCl tys s) (hP : va_P (dC, dI) vwCl ws H) (he : ws[q0]? = some (a, .inr (5, fs))) (hv : fs[10]? = some v) (hdg : decode cc pc = .ok (.getfield 38, 3)) (kk : W p l e R s m args below meth c H locs cells slots Q (F0 m (pc + 3) ls (v :: rest))) : W p l e R s m args below meth c H locs cells slots Q (F0 m pc ls (.ref a :: rest)) :=
  va_get (D := (dC, dI)) (ci := 5) (v := v) (C := RX5) (T := TX5) (N := 21) hx hb hta mu_X5 hown hK hP q0 he rfl 10 (by decide) (hta _ mf_X5_38) (fun _ h9 => h9) hv hdg kk
theorem gf_X5_41 {tys : List (ClassId × FieldType)} {ws : va_W} {q0 a : Nat} {fs : List Value} {v : Value} (hx : p.tables.exec = Jvm.exec) (hb : c.code = cc) (hta : ∀ w ∈ am_all, w.before args s = true) (hown : s.vm.findClass RX5 = some m.cls) (hK : va_K (dC, dI) vwCl tys s) (hP : va_P (dC, dI) vwCl ws H) (he : ws[q0]? = some (a, .inr (5, fs))) (hv : fs[11]? = some v) (hdg : decode cc pc = .ok (.getfield 41, 3)) (kk : W p l e R s m args below meth c H locs cells slots Q (F0 m (pc + 3) ls (v :: rest))) : W p l e R s m args below meth c H locs cells slots Q (F0 m pc ls (.ref a :: rest)) :=
  va_get (D := (dC, dI)) (ci := 5) (v := v) (C := RX5) (T := TX5) (N := 21) hx hb hta mu_X5 hown hK hP q0 he rfl 11 (by decide) (hta _ mf_X5_41) (fun _ h9 => h9) hv hdg kk
theorem gf_X5_44 {tys : List (ClassId × FieldType)} {ws : va_W} {q0 a : Nat} {fs : List Value} {v : Value} (hx : p.tables.exec = Jvm.exec) (hb : c.code = cc) (hta : ∀ w ∈ am_all, w.before args s = true) (hown : s.vm.findClass RX5 = some m.cls) (hK : va_K (dC, dI) vwCl tys s) (hP : va_P (dC, dI) vwCl ws H) (he : ws[q0]? = some (a, .inr (5, fs))) (hv : fs[12]? = some v) (hdg : decode cc pc = .ok (.getfield 44, 3)) (kk : W p l e R s m args below meth c H locs cells slots Q (F0 m (pc + 3) ls (v :: rest))) : W p l e R s m args below meth c H locs cells slots Q (F0 m pc ls (.ref a :: rest)) :=
  va_get (D := (dC, dI)) (ci := 5) (v := v) (C := RX5) (T := TX5) (N := 21) hx hb hta mu_X5 hown hK hP q0 he rfl 12 (by decide) (hta _ mf_X5_44) (fun _ h9 => h9) hv hdg kk
theorem gf_X5_47 {tys : List (ClassId × FieldType)} {ws : va_W} {q0 a : Nat} {fs : List Value} {v : Value} (hx : p.tables.exec = Jvm.exec) (hb : c.code = cc) (hta : ∀ w ∈ am_all, w.before args s = true) (hown : s.vm.findClass RX5 = some m.cls) (hK : va_K (dC, dI) vwCl tys s) (hP : va_P (dC, dI) vwCl ws H) (he : ws[q0]? = some (a, .inr (5, fs))) (hv : fs[13]? = some v) (hdg : decode cc pc = .ok (.getfield 47, 3)) (kk : W p l e R s m args below meth c H locs cells slots Q (F0 m (pc + 3) ls (v :: rest))) : W p l e R s m args below meth c H locs cells slots Q (F0 m pc ls (.ref a :: rest)) :=
  va_get (D := (dC, dI)) (ci := 5) (v := v) (C := RX5) (T := TX5) (N := 21) hx hb hta mu_X5 hown hK hP q0 he rfl 13 (by decide) (hta _ mf_X5_47) (fun _ h9 => h9) hv hdg kk
theorem gf_X5_50 {tys : List (ClassId × FieldType)} {ws : va_W} {q0 a : Nat} {fs : List Value} {v : Value} (hx : p.tables.exec = Jvm.exec) (hb : c.code = cc) (hta : ∀ w ∈ am_all, w.before args s = true) (hown : s.vm.findClass RX5 = some m.cls) (hK : va_K (dC, dI) vwCl tys s) (hP : va_P (dC, dI) vwCl ws H) (he : ws[q0]? = some (a, .inr (5, fs))) (hv : fs[14]? = some v) (hdg : decode cc pc = .ok (.getfield 50, 3)) (kk : W p l e R s m args below meth c H locs cells slots Q (F0 m (pc + 3) ls (v :: rest))) : W p l e R s m args below meth c H locs cells slots Q (F0 m pc ls (.ref a :: rest)) :=
  va_get (D := (dC, dI)) (ci := 5) (v := v) (C := RX5) (T := TX5) (N := 21) hx hb hta mu_X5 hown hK hP q0 he rfl 14 (by decide) (hta _ mf_X5_50) (fun _ h9 => h9) hv hdg kk
theorem gf_X5_53 {tys : List (ClassId × FieldType)} {ws : va_W} {q0 a : Nat} {fs : List Value} {v : Value} (hx : p.tables.exec = Jvm.exec) (hb : c.code = cc) (hta : ∀ w ∈ am_all, w.before args s = true) (hown : s.vm.findClass RX5 = some m.cls) (hK : va_K (dC, dI) vwCl tys s) (hP : va_P (dC, dI) vwCl ws H) (he : ws[q0]? = some (a, .inr (5, fs))) (hv : fs[15]? = some v) (hdg : decode cc pc = .ok (.getfield 53, 3)) (kk : W p l e R s m args below meth c H locs cells slots Q (F0 m (pc + 3) ls (v :: rest))) : W p l e R s m args below meth c H locs cells slots Q (F0 m pc ls (.ref a :: rest)) :=
  va_get (D := (dC, dI)) (ci := 5) (v := v) (C := RX5) (T := TX5) (N := 21) hx hb hta mu_X5 hown hK hP q0 he rfl 15 (by decide) (hta _ mf_X5_53) (fun _ h9 => h9) hv hdg kk
theorem gf_X5_56 {tys : List (ClassId × FieldType)} {ws : va_W} {q0 a : Nat} {fs : List Value} {v : Value} (hx : p.tables.exec = Jvm.exec) (hb : c.code = cc) (hta : ∀ w ∈ am_all, w.before args s = true) (hown : s.vm.findClass RX5 = some m.cls) (hK : va_K (dC, dI) vwCl tys s) (hP : va_P (dC, dI) vwCl ws H) (he : ws[q0]? = some (a, .inr (5, fs))) (hv : fs[17]? = some v) (hdg : decode cc pc = .ok (.getfield 56, 3)) (kk : W p l e R s m args below meth c H locs cells slots Q (F0 m (pc + 3) ls (v :: rest))) : W p l e R s m args below meth c H locs cells slots Q (F0 m pc ls (.ref a :: rest)) :=
  va_get (D := (dC, dI)) (ci := 5) (v := v) (C := RX5) (T := TX5) (N := 21) hx hb hta mu_X5 hown hK hP q0 he rfl 17 (by decide) (hta _ mf_X5_56) (fun _ h9 => h9) hv hdg kk
theorem gf_X5_59 {tys : List (ClassId × FieldType)} {ws : va_W} {q0 a : Nat} {fs : List Value} {v : Value} (hx : p.tables.exec = Jvm.exec) (hb : c.code = cc) (hta : ∀ w ∈ am_all, w.before args s = true) (hown : s.vm.findClass RX5 = some m.cls) (hK : va_K (dC, dI) vwCl tys s) (hP : va_P (dC, dI) vwCl ws H) (he : ws[q0]? = some (a, .inr (5, fs))) (hv : fs[18]? = some v) (hdg : decode cc pc = .ok (.getfield 59, 3)) (kk : W p l e R s m args below meth c H locs cells slots Q (F0 m (pc + 3) ls (v :: rest))) : W p l e R s m args below meth c H locs cells slots Q (F0 m pc ls (.ref a :: rest)) :=
  va_get (D := (dC, dI)) (ci := 5) (v := v) (C := RX5) (T := TX5) (N := 21) hx hb hta mu_X5 hown hK hP q0 he rfl 18 (by decide) (hta _ mf_X5_59) (fun _ h9 => h9) hv hdg kk
theorem gf_X5_62 {tys : List (ClassId × FieldType)} {ws : va_W} {q0 a : Nat} {fs : List Value} {v : Value} (hx : p.tables.exec = Jvm.exec) (hb : c.code = cc) (hta : ∀ w ∈ am_all, w.before args s = true) (hown : s.vm.findClass RX5 = some m.cls) (hK : va_K (dC, dI) vwCl tys s) (hP : va_P (dC, dI) vwCl ws H) (he : ws[q0]? = some (a, .inr (5, fs))) (hv : fs[19]? = some v) (hdg : decode cc pc = .ok (.getfield 62, 3)) (kk : W p l e R s m args below meth c H locs cells slots Q (F0 m (pc + 3) ls (v :: rest))) : W p l e R s m args below meth c H locs cells slots Q (F0 m pc ls (.ref a :: rest)) :=
  va_get (D := (dC, dI)) (ci := 5) (v := v) (C := RX5) (T := TX5) (N := 21) hx hb hta mu_X5 hown hK hP q0 he rfl 19 (by decide) (hta _ mf_X5_62) (fun _ h9 => h9) hv hdg kk
theorem gf_X5_65 {tys : List (ClassId × FieldType)} {ws : va_W} {q0 a : Nat} {fs : List Value} {v : Value} (hx : p.tables.exec = Jvm.exec) (hb : c.code = cc) (hta : ∀ w ∈ am_all, w.before args s = true) (hown : s.vm.findClass RX5 = some m.cls) (hK : va_K (dC, dI) vwCl tys s) (hP : va_P (dC, dI) vwCl ws H) (he : ws[q0]? = some (a, .inr (5, fs))) (hv : fs[20]? = some v) (hdg : decode cc pc = .ok (.getfield 65, 3)) (kk : W p l e R s m args below meth c H locs cells slots Q (F0 m (pc + 3) ls (v :: rest))) : W p l e R s m args below meth c H locs cells slots Q (F0 m pc ls (.ref a :: rest)) :=
  va_get (D := (dC, dI)) (ci := 5) (v := v) (C := RX5) (T := TX5) (N := 21) hx hb hta mu_X5 hown hK hP q0 he rfl 20 (by decide) (hta _ mf_X5_65) (fun _ h9 => h9) hv hdg kk
theorem gf_X5_68 {tys : List (ClassId × FieldType)} {ws : va_W} {q0 a : Nat} {fs : List Value} {v : Value} (hx : p.tables.exec = Jvm.exec) (hb : c.code = cc) (hta : ∀ w ∈ am_all, w.before args s = true) (hown : s.vm.findClass RX5 = some m.cls) (hK : va_K (dC, dI) vwCl tys s) (hP : va_P (dC, dI) vwCl ws H) (he : ws[q0]? = some (a, .inr (5, fs))) (hv : fs[2]? = some v) (hdg : decode cc pc = .ok (.getfield 68, 3)) (kk : W p l e R s m args below meth c H locs cells slots Q (F0 m (pc + 3) ls (v :: rest))) : W p l e R s m args below meth c H locs cells slots Q (F0 m pc ls (.ref a :: rest)) :=
  va_get (D := (dC, dI)) (ci := 5) (v := v) (C := RX5) (T := TX5) (N := 21) hx hb hta mu_X5 hown hK hP q0 he rfl 2 (by decide) (hta _ mf_X5_68) (fun _ h9 => h9) hv hdg kk
theorem pf_X5_68 {H0 : Heap} (hx : p.tables.exec = Jvm.exec) (hb : c.code = cc) (hta : ∀ w ∈ am_all, w.before args s = true) (hown : s.vm.findClass RX5 = some m.cls) (hK : va_K (dC, dI) vwCl (am_ty ca) s) (hP : va_P (dC, dI) vwCl (am_w ad (am_sh ca) 63 M) H) (hI : am_inj ad) (hS : va_S (am_A ad 63) H0 H locs) {i : Nat} {fs : List (Option Nat)} {r : am_M → Nat → Nat} {w : am_M → Nat → Nat → am_M} (hi : i < 63) (hs : am_is ca am_sh i (.inr (.inr (5, fs))) r w) {x : Int32} {P : am_M → Prop} (h : am_sf (w M 2) x P) (hdg : decode cc pc = .ok (.putfield 68, 3)) (kk : ∀ (M1 : am_M) (H1 : Heap) (locs1 : List Loc), va_P (dC, dI) vwCl (am_w ad (am_sh ca) 63 M1) H1 → va_S (am_A ad 63) H0 H1 locs1 → P M1 → W p l e R s m args below meth c H1 locs1 cells slots Q (F0 m (pc + 3) ls rest)) (hf : fs[2]? = some none := by rfl) : W p l e R s m args below meth c H locs cells slots Q (F0 m pc ls (.int x :: .ref (ad i) :: rest)) := by
  obtain ⟨v, rfl, h⟩ := h
  refine va_put (D := (dC, dI)) (ci := 5) (v := .int (nI v)) (ty := .int) (C := RX5) (T := TX5) (N := 21) hx hb hta mu_X5 tyX5 tyX5_ok nmX5 hown hK hP (am_D hI) hS i (am_wo hi hs) rfl 2 (by decide) (hta _ mf_X5_68) (fun _ h9 => h9) rfl (by decide +kernel) rfl rfl (by rw [am_fl_len]; exact (List.getElem?_eq_some_iff.mp hf).1) hdg (fun H1 locs1 hP1 _ hS1 => ?_)
  rw [am_fl_set hf, am_wset (k := 2) (v := v) hi (by rw [hs.1, hs.2.1]; rfl), hs.2.2] at hP1
  exact kk _ H1 locs1 hP1 hS1 h
theorem gf_X5_72 {tys : List (ClassId × FieldType)} {ws : va_W} {q0 a : Nat} {fs : List Value} {v : Value} (hx : p.tables.exec = Jvm.exec) (hb : c.code = cc) (hta : ∀ w ∈ am_all, w.before args s = true) (hown : s.vm.findClass RX5 = some m.cls) (hK : va_K (dC, dI) vwCl tys s) (hP : va_P (dC, dI) vwCl ws H) (he : ws[q0]? = some (a, .inr (5, fs))) (hv : fs[16]? = some v) (hdg : decode cc pc = .ok (.getfield 72, 3)) (kk : W p l e R s m args below meth c H locs cells slots Q (F0 m (pc + 3) ls (v :: rest))) : W p l e R s m args below meth c H locs cells slots Q (F0 m pc ls (.ref a :: rest)) :=
  va_get (D := (dC, dI)) (ci := 5) (v := v) (C := RX5) (T := TX5) (N := 21) hx hb hta mu_X5 hown hK hP q0 he rfl 16 (by decide) (hta _ mf_X5_72) (fun _ h9 => h9) hv hdg kk
theorem pf_X5_72 {H0 : Heap} (hx : p.tables.exec = Jvm.exec) (hb : c.code = cc) (hta : ∀ w ∈ am_all, w.before args s = true) (hown : s.vm.findClass RX5 = some m.cls) (hK : va_K (dC, dI) vwCl (am_ty ca) s) (hP : va_P (dC, dI) vwCl (am_w ad (am_sh ca) 63 M) H) (hI : am_inj ad) (hS : va_S (am_A ad 63) H0 H locs) {i : Nat} {fs : List (Option Nat)} {r : am_M → Nat → Nat} {w : am_M → Nat → Nat → am_M} (hi : i < 63) (hs : am_is ca am_sh i (.inr (.inr (5, fs))) r w) {x : Int32} {P : am_M → Prop} (h : am_sf (w M 16) x P) (hdg : decode cc pc = .ok (.putfield 72, 3)) (kk : ∀ (M1 : am_M) (H1 : Heap) (locs1 : List Loc), va_P (dC, dI) vwCl (am_w ad (am_sh ca) 63 M1) H1 → va_S (am_A ad 63) H0 H1 locs1 → P M1 → W p l e R s m args below meth c H1 locs1 cells slots Q (F0 m (pc + 3) ls rest)) (hf : fs[16]? = some none := by rfl) : W p l e R s m args below meth c H locs cells slots Q (F0 m pc ls (.int x :: .ref (ad i) :: rest)) := by
  obtain ⟨v, rfl, h⟩ := h
  refine va_put (D := (dC, dI)) (ci := 5) (v := .int (nI v)) (ty := .int) (C := RX5) (T := TX5) (N := 21) hx hb hta mu_X5 tyX5 tyX5_ok nmX5 hown hK hP (am_D hI) hS i (am_wo hi hs) rfl 16 (by decide) (hta _ mf_X5_72) (fun _ h9 => h9) rfl (by decide +kernel) rfl rfl (by rw [am_fl_len]; exact (List.getElem?_eq_some_iff.mp hf).1) hdg (fun H1 locs1 hP1 _ hS1 => ?_)
  rw [am_fl_set hf, am_wset (k := 16) (v := v) hi (by rw [hs.1, hs.2.1]; rfl), hs.2.2] at hP1
  exact kk _ H1 locs1 hP1 hS1 h
end AMF
end
section
/-! for each method: what must hold for it to come to Q -/
def w_X0_isNode (M : am_M) (x1 : Int32) (Q : Int32 → am_M → Prop) : Prop := ((x1 < 0 → Q (nI 0) M) ∧ (¬ x1 < 0 → (((nI 4) ≤ x1 → Q (nI 0) M) ∧ (¬ (nI 4) ≤ x1 → Q (nI 1) M))))
theorem w_X0_isNode_s {M : am_M} {x1 : Int32} {Q : Int32 → am_M → Prop} (h : w_X0_isNode M x1 Q) : ((x1 < 0 → Q (nI 0) M) ∧ (¬ x1 < 0 → (((nI 4) ≤ x1 → Q (nI 0) M) ∧ (¬ (nI 4) ≤ x1 → Q (nI 1) M)))) := h
theorem w_X0_isNode_i {M : am_M} {x1 : Int32} {Q : Int32 → am_M → Prop} (h : ((x1 < 0 → Q (nI 0) M) ∧ (¬ x1 < 0 → (((nI 4) ≤ x1 → Q (nI 0) M) ∧ (¬ (nI 4) ≤ x1 → Q (nI 1) M))))) : w_X0_isNode M x1 Q := h
def w_X0_begin (M : am_M) (x1 : Int32) (Q : Int32 → am_M → Prop) : Prop := w_X0_isNode M x1 (fun y2 M1 => ((¬ y2 = 0 → am_ix x1 4 (fun k3 => ((¬ (nI (M1.1 3 k3 0)) = 0 → (((nI (M1.1 0 0 3)) < (nI 10) → am_let (nI (M1.1 0 0 3)) (fun y4 => am_sf (am_c1 M1 0 0 3) ((nI (M1.1 0 0 3)) + (nI 1)) (fun M5 => am_ix y4 10 (fun k6 => am_sf (am_c1 M5 9 k6 0) x1 (fun M7 => am_ix y4 10 (fun k8 => am_sf (am_c1 M7 9 k8 1) (nI 1) (fun M9 => Q y4 M9))))))) ∧ (¬ (nI (M1.1 0 0 3)) < (nI 10) → Q (-5) M1))) ∧ ((nI (M1.1 3 k3 0)) = 0 → Q (-3) M1)))) ∧ (y2 = 0 → Q (-2) M1)))
theorem w_X0_begin_s {M : am_M} {x1 : Int32} {Q : Int32 → am_M → Prop} (h : w_X0_begin M x1 Q) : w_X0_isNode M x1 (fun y2 M1 => ((¬ y2 = 0 → am_ix x1 4 (fun k3 => ((¬ (nI (M1.1 3 k3 0)) = 0 → (((nI (M1.1 0 0 3)) < (nI 10) → am_let (nI (M1.1 0 0 3)) (fun y4 => am_sf (am_c1 M1 0 0 3) ((nI (M1.1 0 0 3)) + (nI 1)) (fun M5 => am_ix y4 10 (fun k6 => am_sf (am_c1 M5 9 k6 0) x1 (fun M7 => am_ix y4 10 (fun k8 => am_sf (am_c1 M7 9 k8 1) (nI 1) (fun M9 => Q y4 M9))))))) ∧ (¬ (nI (M1.1 0 0 3)) < (nI 10) → Q (-5) M1))) ∧ ((nI (M1.1 3 k3 0)) = 0 → Q (-3) M1)))) ∧ (y2 = 0 → Q (-2) M1))) := h
theorem w_X0_begin_i {M : am_M} {x1 : Int32} {Q : Int32 → am_M → Prop} (h : w_X0_isNode M x1 (fun y2 M1 => ((¬ y2 = 0 → am_ix x1 4 (fun k3 => ((¬ (nI (M1.1 3 k3 0)) = 0 → (((nI (M1.1 0 0 3)) < (nI 10) → am_let (nI (M1.1 0 0 3)) (fun y4 => am_sf (am_c1 M1 0 0 3) ((nI (M1.1 0 0 3)) + (nI 1)) (fun M5 => am_ix y4 10 (fun k6 => am_sf (am_c1 M5 9 k6 0) x1 (fun M7 => am_ix y4 10 (fun k8 => am_sf (am_c1 M7 9 k8 1) (nI 1) (fun M9 => Q y4 M9))))))) ∧ (¬ (nI (M1.1 0 0 3)) < (nI 10) → Q (-5) M1))) ∧ ((nI (M1.1 3 k3 0)) = 0 → Q (-3) M1)))) ∧ (y2 = 0 → Q (-2) M1)))) : w_X0_begin M x1 Q := h
def w_X0_isTransaction (M : am_M) (x1 : Int32) (Q : Int32 → am_M → Prop) : Prop := ((x1 < 0 → Q (nI 0) M) ∧ (¬ x1 < 0 → (((nI (M.1 0 0 3)) ≤ x1 → Q (nI 0) M) ∧ (¬ (nI (M.1 0 0 3)) ≤ x1 → Q (nI 1) M))))
theorem w_X0_isTransaction_s {M : am_M} {x1 : Int32} {Q : Int32 → am_M → Prop} (h : w_X0_isTransaction M x1 Q) : ((x1 < 0 → Q (nI 0) M) ∧ (¬ x1 < 0 → (((nI (M.1 0 0 3)) ≤ x1 → Q (nI 0) M) ∧ (¬ (nI (M.1 0 0 3)) ≤ x1 → Q (nI 1) M)))) := h
theorem w_X0_isTransaction_i {M : am_M} {x1 : Int32} {Q : Int32 → am_M → Prop} (h : ((x1 < 0 → Q (nI 0) M) ∧ (¬ x1 < 0 → (((nI (M.1 0 0 3)) ≤ x1 → Q (nI 0) M) ∧ (¬ (nI (M.1 0 0 3)) ≤ x1 → Q (nI 1) M))))) : w_X0_isTransaction M x1 Q := h
def w_X0_isResource (M : am_M) (x1 : Int32) (Q : Int32 → am_M → Prop) : Prop := ((x1 < 0 → Q (nI 0) M) ∧ (¬ x1 < 0 → (((nI 8) ≤ x1 → Q (nI 0) M) ∧ (¬ (nI 8) ≤ x1 → Q (nI 1) M))))
theorem w_X0_isResource_s {M : am_M} {x1 : Int32} {Q : Int32 → am_M → Prop} (h : w_X0_isResource M x1 Q) : ((x1 < 0 → Q (nI 0) M) ∧ (¬ x1 < 0 → (((nI 8) ≤ x1 → Q (nI 0) M) ∧ (¬ (nI 8) ≤ x1 → Q (nI 1) M)))) := h
theorem w_X0_isResource_i {M : am_M} {x1 : Int32} {Q : Int32 → am_M → Prop} (h : ((x1 < 0 → Q (nI 0) M) ∧ (¬ x1 < 0 → (((nI 8) ≤ x1 → Q (nI 0) M) ∧ (¬ (nI 8) ≤ x1 → Q (nI 1) M))))) : w_X0_isResource M x1 Q := h
def w_X0_only (M : am_M) (x1 : Int32) (Q : Int32 → am_M → Prop) : Prop := Q ((nI 1) <<< (x1 &&& 31)) M
theorem w_X0_only_s {M : am_M} {x1 : Int32} {Q : Int32 → am_M → Prop} (h : w_X0_only M x1 Q) : Q ((nI 1) <<< (x1 &&& 31)) M := h
theorem w_X0_only_i {M : am_M} {x1 : Int32} {Q : Int32 → am_M → Prop} (h : Q ((nI 1) <<< (x1 &&& 31)) M) : w_X0_only M x1 Q := h
def w_X0_isIn (M : am_M) (x1 : Int32) (x2 : Int32) (Q : Int32 → am_M → Prop) : Prop := w_X0_only M x2 (fun y2 M1 => (((x1 &&& y2) = 0 → Q (nI 0) M1) ∧ (¬ (x1 &&& y2) = 0 → Q (nI 1) M1)))
theorem w_X0_isIn_s {M : am_M} {x1 : Int32} {x2 : Int32} {Q : Int32 → am_M → Prop} (h : w_X0_isIn M x1 x2 Q) : w_X0_only M x2 (fun y2 M1 => (((x1 &&& y2) = 0 → Q (nI 0) M1) ∧ (¬ (x1 &&& y2) = 0 → Q (nI 1) M1))) := h
theorem w_X0_isIn_i {M : am_M} {x1 : Int32} {x2 : Int32} {Q : Int32 → am_M → Prop} (h : w_X0_only M x2 (fun y2 M1 => (((x1 &&& y2) = 0 → Q (nI 0) M1) ∧ (¬ (x1 &&& y2) = 0 → Q (nI 1) M1)))) : w_X0_isIn M x1 x2 Q := h
def w_X3_findOwner_L2 (n : Nat) (x1 : Int32) (Q : Int32 → am_M → Prop) (K : am_M → Int32 → Prop) : Nat → am_M → Int32 → Prop
  | 0, _, _ => False
  | f2 + 1, M3, z2 => (((nI 10) ≤ z2 → K M3 z2) ∧ (¬ (nI 10) ≤ z2 → am_ix z2 10 (fun k4 => w_X0_isIn M3 (nI (M3.1 5 n k4)) x1 (fun y6 M5 => ((y6 = 0 → am_let (z2 + nI 1) (fun y7 => w_X3_findOwner_L2 n x1 Q K f2 M5 y7)) ∧ (¬ y6 = 0 → Q z2 M5))))))
theorem w_X3_findOwner_L2_s {n : Nat} {x1 : Int32} {Q : Int32 → am_M → Prop} {K : am_M → Int32 → Prop} {f2 : Nat} {M3 : am_M} {z2 : Int32} (h : w_X3_findOwner_L2 n x1 Q K (f2 + 1) M3 z2) : (((nI 10) ≤ z2 → K M3 z2) ∧ (¬ (nI 10) ≤ z2 → am_ix z2 10 (fun k4 => w_X0_isIn M3 (nI (M3.1 5 n k4)) x1 (fun y6 M5 => ((y6 = 0 → am_let (z2 + nI 1) (fun y7 => w_X3_findOwner_L2 n x1 Q K f2 M5 y7)) ∧ (¬ y6 = 0 → Q z2 M5)))))) := h
theorem w_X3_findOwner_L2_i {n : Nat} {x1 : Int32} {Q : Int32 → am_M → Prop} {K : am_M → Int32 → Prop} {f2 : Nat} {M3 : am_M} {z2 : Int32} (h : (((nI 10) ≤ z2 → K M3 z2) ∧ (¬ (nI 10) ≤ z2 → am_ix z2 10 (fun k4 => w_X0_isIn M3 (nI (M3.1 5 n k4)) x1 (fun y6 M5 => ((y6 = 0 → am_let (z2 + nI 1) (fun y7 => w_X3_findOwner_L2 n x1 Q K f2 M5 y7)) ∧ (¬ y6 = 0 → Q z2 M5))))))) : w_X3_findOwner_L2 n x1 Q K (f2 + 1) M3 z2 := h
def w_X3_findOwner (M : am_M) (n : Nat) (x1 : Int32) (Q : Int32 → am_M → Prop) : Prop := am_let (nI 0) (fun y1 => (∃ f2 : Nat, w_X3_findOwner_L2 n x1 Q (fun M8 z9 => Q (-1) M8) f2 M y1))
theorem w_X3_findOwner_s {M : am_M} {n : Nat} {x1 : Int32} {Q : Int32 → am_M → Prop} (h : w_X3_findOwner M n x1 Q) : am_let (nI 0) (fun y1 => (∃ f2 : Nat, w_X3_findOwner_L2 n x1 Q (fun M8 z9 => Q (-1) M8) f2 M y1)) := h
theorem w_X3_findOwner_i {M : am_M} {n : Nat} {x1 : Int32} {Q : Int32 → am_M → Prop} (h : am_let (nI 0) (fun y1 => (∃ f2 : Nat, w_X3_findOwner_L2 n x1 Q (fun M8 z9 => Q (-1) M8) f2 M y1))) : w_X3_findOwner M n x1 Q := h
def w_X3_grant (M : am_M) (n : Nat) (x1 : Int32) (x2 : Int32) (Q : Int32 → am_M → Prop) : Prop := am_ix x1 10 (fun k1 => ((¬ (nI (M.1 4 n k1)) = (nI 2) → ((¬ x2 = (-1) → w_X3_findOwner M n x2 (fun y3 M2 => am_let y3 (fun y4 => ((y4 = (-1) → am_ix x1 10 (fun k5 => w_X0_only M2 x2 (fun y7 M6 => am_sa (am_c1 M6 5 n) 10 x1 ((nI (M2.1 5 n k5)) ||| y7) (fun M8 => Q (nI 1) M8)))) ∧ (¬ y4 = (-1) → ((y4 = x1 → am_ix x1 10 (fun k9 => w_X0_only M2 x2 (fun y11 M10 => am_sa (am_c1 M10 5 n) 10 x1 ((nI (M2.1 5 n k9)) ||| y11) (fun M12 => Q (nI 1) M12)))) ∧ (¬ y4 = x1 → am_sa (am_c1 M2 4 n) 10 x1 (nI 2) (fun M13 => Q (nI 0) M13)))))))) ∧ (x2 = (-1) → Q (nI 1) M))) ∧ ((nI (M.1 4 n k1)) = (nI 2) → Q (nI 0) M)))
theorem w_X3_grant_s {M : am_M} {n : Nat} {x1 : Int32} {x2 : Int32} {Q : Int32 → am_M → Prop} (h : w_X3_grant M n x1 x2 Q) : am_ix x1 10 (fun k1 => ((¬ (nI (M.1 4 n k1)) = (nI 2) → ((¬ x2 = (-1) → w_X3_findOwner M n x2 (fun y3 M2 => am_let y3 (fun y4 => ((y4 = (-1) → am_ix x1 10 (fun k5 => w_X0_only M2 x2 (fun y7 M6 => am_sa (am_c1 M6 5 n) 10 x1 ((nI (M2.1 5 n k5)) ||| y7) (fun M8 => Q (nI 1) M8)))) ∧ (¬ y4 = (-1) → ((y4 = x1 → am_ix x1 10 (fun k9 => w_X0_only M2 x2 (fun y11 M10 => am_sa (am_c1 M10 5 n) 10 x1 ((nI (M2.1 5 n k9)) ||| y11) (fun M12 => Q (nI 1) M12)))) ∧ (¬ y4 = x1 → am_sa (am_c1 M2 4 n) 10 x1 (nI 2) (fun M13 => Q (nI 0) M13)))))))) ∧ (x2 = (-1) → Q (nI 1) M))) ∧ ((nI (M.1 4 n k1)) = (nI 2) → Q (nI 0) M))) := h
theorem w_X3_grant_i {M : am_M} {n : Nat} {x1 : Int32} {x2 : Int32} {Q : Int32 → am_M → Prop} (h : am_ix x1 10 (fun k1 => ((¬ (nI (M.1 4 n k1)) = (nI 2) → ((¬ x2 = (-1) → w_X3_findOwner M n x2 (fun y3 M2 => am_let y3 (fun y4 => ((y4 = (-1) → am_ix x1 10 (fun k5 => w_X0_only M2 x2 (fun y7 M6 => am_sa (am_c1 M6 5 n) 10 x1 ((nI (M2.1 5 n k5)) ||| y7) (fun M8 => Q (nI 1) M8)))) ∧ (¬ y4 = (-1) → ((y4 = x1 → am_ix x1 10 (fun k9 => w_X0_only M2 x2 (fun y11 M10 => am_sa (am_c1 M10 5 n) 10 x1 ((nI (M2.1 5 n k9)) ||| y11) (fun M12 => Q (nI 1) M12)))) ∧ (¬ y4 = x1 → am_sa (am_c1 M2 4 n) 10 x1 (nI 2) (fun M13 => Q (nI 0) M13)))))))) ∧ (x2 = (-1) → Q (nI 1) M))) ∧ ((nI (M.1 4 n k1)) = (nI 2) → Q (nI 0) M)))) : w_X3_grant M n x1 x2 Q := h
def w_X0_work_J138 (k25 : Nat) (k26 : Nat) (M28 : am_M) (y22 : Int32) (y23 : Int32) (y24 : Int32) (y27 : Int32) (Q : Int32 → am_M → Prop) : Prop := w_X3_grant M28 k25 y22 y24 (fun y30 M29 => ((y30 = 0 → Q (nI 0) M29) ∧ (¬ y30 = 0 → Q (nI 1) M29)))
theorem w_X0_work_J138_s {k25 : Nat} {k26 : Nat} {M28 : am_M} {y22 : Int32} {y23 : Int32} {y24 : Int32} {y27 : Int32} {Q : Int32 → am_M → Prop} (h : w_X0_work_J138 k25 k26 M28 y22 y23 y24 y27 Q) : w_X3_grant M28 k25 y22 y24 (fun y30 M29 => ((y30 = 0 → Q (nI 0) M29) ∧ (¬ y30 = 0 → Q (nI 1) M29))) := h
theorem w_X0_work_J138_i {k25 : Nat} {k26 : Nat} {M28 : am_M} {y22 : Int32} {y23 : Int32} {y24 : Int32} {y27 : Int32} {Q : Int32 → am_M → Prop} (h : w_X3_grant M28 k25 y22 y24 (fun y30 M29 => ((y30 = 0 → Q (nI 0) M29) ∧ (¬ y30 = 0 → Q (nI 1) M29)))) : w_X0_work_J138 k25 k26 M28 y22 y23 y24 y27 Q := h
def w_X0_work_J111 (k18 : Nat) (k19 : Nat) (M21 : am_M) (y15 : Int32) (y16 : Int32) (y17 : Int32) (y20 : Int32) (Q : Int32 → am_M → Prop) : Prop := ((¬ y20 = 0 → w_X0_work_J138 k18 k19 M21 y15 y16 y17 y20 Q) ∧ (y20 = 0 → w_X0_only M21 y16 (fun y32 M31 => am_sf (am_c1 M31 9 k19 2) ((nI (M21.1 9 k19 2)) ||| y32) (fun M33 => am_sa (am_c1 M33 4 k18) 10 y15 (nI 1) (fun M34 => w_X0_work_J138 k18 k19 M34 y15 y16 y17 y20 Q)))))
theorem w_X0_work_J111_s {k18 : Nat} {k19 : Nat} {M21 : am_M} {y15 : Int32} {y16 : Int32} {y17 : Int32} {y20 : Int32} {Q : Int32 → am_M → Prop} (h : w_X0_work_J111 k18 k19 M21 y15 y16 y17 y20 Q) : ((¬ y20 = 0 → w_X0_work_J138 k18 k19 M21 y15 y16 y17 y20 Q) ∧ (y20 = 0 → w_X0_only M21 y16 (fun y32 M31 => am_sf (am_c1 M31 9 k19 2) ((nI (M21.1 9 k19 2)) ||| y32) (fun M33 => am_sa (am_c1 M33 4 k18) 10 y15 (nI 1) (fun M34 => w_X0_work_J138 k18 k19 M34 y15 y16 y17 y20 Q))))) := h
theorem w_X0_work_J111_i {k18 : Nat} {k19 : Nat} {M21 : am_M} {y15 : Int32} {y16 : Int32} {y17 : Int32} {y20 : Int32} {Q : Int32 → am_M → Prop} (h : ((¬ y20 = 0 → w_X0_work_J138 k18 k19 M21 y15 y16 y17 y20 Q) ∧ (y20 = 0 → w_X0_only M21 y16 (fun y32 M31 => am_sf (am_c1 M31 9 k19 2) ((nI (M21.1 9 k19 2)) ||| y32) (fun M33 => am_sa (am_c1 M33 4 k18) 10 y15 (nI 1) (fun M34 => w_X0_work_J138 k18 k19 M34 y15 y16 y17 y20 Q)))))) : w_X0_work_J111 k18 k19 M21 y15 y16 y17 y20 Q := h
def w_X0_work_J30 (M8 : am_M) (y5 : Int32) (y6 : Int32) (y7 : Int32) (Q : Int32 → am_M → Prop) : Prop := am_ix y6 4 (fun k9 => am_ix y5 10 (fun k10 => (((nI (M8.1 3 k9 0)) = 0 → Q (-3) M8) ∧ (¬ (nI (M8.1 3 k9 0)) = 0 → am_ix (nI (M8.1 9 k10 0)) 4 (fun k11 => ((¬ (nI (M8.1 3 k11 0)) = 0 → w_X0_isIn M8 (nI (M8.1 9 k10 2)) y6 (fun y13 M12 => am_let y13 (fun y14 => ((¬ (nI (M12.1 9 k10 1)) = (nI 1) → Q (-4) M12) ∧ ((nI (M12.1 9 k10 1)) = (nI 1) → ((y14 = 0 → w_X0_work_J111 k9 k10 M12 y5 y6 y7 y14 Q) ∧ (¬ y14 = 0 → am_ix y5 10 (fun k35 => ((¬ (nI (M12.1 4 k9 k35)) = 0 → w_X0_work_J111 k9 k10 M12 y5 y6 y7 y14 Q) ∧ ((nI (M12.1 4 k9 k35)) = 0 → Q (-4) M12)))))))))) ∧ ((nI (M8.1 3 k11 0)) = 0 → Q (-3) M8)))))))
theorem w_X0_work_J30_s {M8 : am_M} {y5 : Int32} {y6 : Int32} {y7 : Int32} {Q : Int32 → am_M → Prop} (h : w_X0_work_J30 M8 y5 y6 y7 Q) : am_ix y6 4 (fun k9 => am_ix y5 10 (fun k10 => (((nI (M8.1 3 k9 0)) = 0 → Q (-3) M8) ∧ (¬ (nI (M8.1 3 k9 0)) = 0 → am_ix (nI (M8.1 9 k10 0)) 4 (fun k11 => ((¬ (nI (M8.1 3 k11 0)) = 0 → w_X0_isIn M8 (nI (M8.1 9 k10 2)) y6 (fun y13 M12 => am_let y13 (fun y14 => ((¬ (nI (M12.1 9 k10 1)) = (nI 1) → Q (-4) M12) ∧ ((nI (M12.1 9 k10 1)) = (nI 1) → ((y14 = 0 → w_X0_work_J111 k9 k10 M12 y5 y6 y7 y14 Q) ∧ (¬ y14 = 0 → am_ix y5 10 (fun k35 => ((¬ (nI (M12.1 4 k9 k35)) = 0 → w_X0_work_J111 k9 k10 M12 y5 y6 y7 y14 Q) ∧ ((nI (M12.1 4 k9 k35)) = 0 → Q (-4) M12)))))))))) ∧ ((nI (M8.1 3 k11 0)) = 0 → Q (-3) M8))))))) := h
theorem w_X0_work_J30_i {M8 : am_M} {y5 : Int32} {y6 : Int32} {y7 : Int32} {Q : Int32 → am_M → Prop} (h : am_ix y6 4 (fun k9 => am_ix y5 10 (fun k10 => (((nI (M8.1 3 k9 0)) = 0 → Q (-3) M8) ∧ (¬ (nI (M8.1 3 k9 0)) = 0 → am_ix (nI (M8.1 9 k10 0)) 4 (fun k11 => ((¬ (nI (M8.1 3 k11 0)) = 0 → w_X0_isIn M8 (nI (M8.1 9 k10 2)) y6 (fun y13 M12 => am_let y13 (fun y14 => ((¬ (nI (M12.1 9 k10 1)) = (nI 1) → Q (-4) M12) ∧ ((nI (M12.1 9 k10 1)) = (nI 1) → ((y14 = 0 → w_X0_work_J111 k9 k10 M12 y5 y6 y7 y14 Q) ∧ (¬ y14 = 0 → am_ix y5 10 (fun k35 => ((¬ (nI (M12.1 4 k9 k35)) = 0 → w_X0_work_J111 k9 k10 M12 y5 y6 y7 y14 Q) ∧ ((nI (M12.1 4 k9 k35)) = 0 → Q (-4) M12)))))))))) ∧ ((nI (M8.1 3 k11 0)) = 0 → Q (-3) M8)))))))) : w_X0_work_J30 M8 y5 y6 y7 Q := h
def w_X0_work (M : am_M) (x1 : Int32) (x2 : Int32) (x3 : Int32) (Q : Int32 → am_M → Prop) : Prop := w_X0_isTransaction M x1 (fun y2 M1 => ((y2 = 0 → Q (-2) M1) ∧ (¬ y2 = 0 → w_X0_isNode M1 x2 (fun y4 M3 => ((y4 = 0 → Q (-2) M3) ∧ (¬ y4 = 0 → ((x3 = (-1) → w_X0_work_J30 M3 x1 x2 x3 Q) ∧ (¬ x3 = (-1) → w_X0_isResource M3 x3 (fun y37 M36 => ((¬ y37 = 0 → w_X0_work_J30 M36 x1 x2 x3 Q) ∧ (y37 = 0 → Q (-2) M36)))))))))))
theorem w_X0_work_s {M : am_M} {x1 : Int32} {x2 : Int32} {x3 : Int32} {Q : Int32 → am_M → Prop} (h : w_X0_work M x1 x2 x3 Q) : w_X0_isTransaction M x1 (fun y2 M1 => ((y2 = 0 → Q (-2) M1) ∧ (¬ y2 = 0 → w_X0_isNode M1 x2 (fun y4 M3 => ((y4 = 0 → Q (-2) M3) ∧ (¬ y4 = 0 → ((x3 = (-1) → w_X0_work_J30 M3 x1 x2 x3 Q) ∧ (¬ x3 = (-1) → w_X0_isResource M3 x3 (fun y37 M36 => ((¬ y37 = 0 → w_X0_work_J30 M36 x1 x2 x3 Q) ∧ (y37 = 0 → Q (-2) M36))))))))))) := h
theorem w_X0_work_i {M : am_M} {x1 : Int32} {x2 : Int32} {x3 : Int32} {Q : Int32 → am_M → Prop} (h : w_X0_isTransaction M x1 (fun y2 M1 => ((y2 = 0 → Q (-2) M1) ∧ (¬ y2 = 0 → w_X0_isNode M1 x2 (fun y4 M3 => ((y4 = 0 → Q (-2) M3) ∧ (¬ y4 = 0 → ((x3 = (-1) → w_X0_work_J30 M3 x1 x2 x3 Q) ∧ (¬ x3 = (-1) → w_X0_isResource M3 x3 (fun y37 M36 => ((¬ y37 = 0 → w_X0_work_J30 M36 x1 x2 x3 Q) ∧ (y37 = 0 → Q (-2) M36)))))))))))) : w_X0_work M x1 x2 x3 Q := h
def w_X4_forget (M : am_M) (n : Nat) (Q : am_M → Prop) : Prop := am_sf (am_c1 M 9 n 1) (nI 0) (fun M1 => am_sf (am_c1 M1 9 n 2) (nI 0) (fun M2 => am_sf (am_c1 M2 9 n 3) (nI 0) (fun M3 => am_sf (am_c1 M3 9 n 4) (nI 0) (fun M4 => am_sf (am_c1 M4 9 n 5) (nI 0) (fun M5 => Q M5)))))
theorem w_X4_forget_s {M : am_M} {n : Nat} {Q : am_M → Prop} (h : w_X4_forget M n Q) : am_sf (am_c1 M 9 n 1) (nI 0) (fun M1 => am_sf (am_c1 M1 9 n 2) (nI 0) (fun M2 => am_sf (am_c1 M2 9 n 3) (nI 0) (fun M3 => am_sf (am_c1 M3 9 n 4) (nI 0) (fun M4 => am_sf (am_c1 M4 9 n 5) (nI 0) (fun M5 => Q M5))))) := h
theorem w_X4_forget_i {M : am_M} {n : Nat} {Q : am_M → Prop} (h : am_sf (am_c1 M 9 n 1) (nI 0) (fun M1 => am_sf (am_c1 M1 9 n 2) (nI 0) (fun M2 => am_sf (am_c1 M2 9 n 3) (nI 0) (fun M3 => am_sf (am_c1 M3 9 n 4) (nI 0) (fun M4 => am_sf (am_c1 M4 9 n 5) (nI 0) (fun M5 => Q M5)))))) : w_X4_forget M n Q := h
def w_X2_send (M : am_M) (x1 : Int32) (x2 : Int32) (x3 : Int32) (x4 : Int32) (Q : am_M → Prop) : Prop := (((nI (M.1 1 0 1)) < (nI 40) → am_ix (nI 0) 4 (fun k1 => am_sa (am_c1 M 2 k1) 40 (nI (M.1 1 0 1)) x1 (fun M2 => am_ix (nI 1) 4 (fun k3 => am_sa (am_c1 M2 2 k3) 40 (nI (M2.1 1 0 1)) x2 (fun M4 => am_ix (nI 2) 4 (fun k5 => am_sa (am_c1 M4 2 k5) 40 (nI (M4.1 1 0 1)) x3 (fun M6 => am_ix (nI 3) 4 (fun k7 => am_sa (am_c1 M6 2 k7) 40 (nI (M6.1 1 0 1)) x4 (fun M8 => am_sf (am_c1 M8 1 0 1) ((nI (M8.1 1 0 1)) + (nI 1)) (fun M9 => Q M9)))))))))) ∧ (¬ (nI (M.1 1 0 1)) < (nI 40) → Q M))
theorem w_X2_send_s {M : am_M} {x1 : Int32} {x2 : Int32} {x3 : Int32} {x4 : Int32} {Q : am_M → Prop} (h : w_X2_send M x1 x2 x3 x4 Q) : (((nI (M.1 1 0 1)) < (nI 40) → am_ix (nI 0) 4 (fun k1 => am_sa (am_c1 M 2 k1) 40 (nI (M.1 1 0 1)) x1 (fun M2 => am_ix (nI 1) 4 (fun k3 => am_sa (am_c1 M2 2 k3) 40 (nI (M2.1 1 0 1)) x2 (fun M4 => am_ix (nI 2) 4 (fun k5 => am_sa (am_c1 M4 2 k5) 40 (nI (M4.1 1 0 1)) x3 (fun M6 => am_ix (nI 3) 4 (fun k7 => am_sa (am_c1 M6 2 k7) 40 (nI (M6.1 1 0 1)) x4 (fun M8 => am_sf (am_c1 M8 1 0 1) ((nI (M8.1 1 0 1)) + (nI 1)) (fun M9 => Q M9)))))))))) ∧ (¬ (nI (M.1 1 0 1)) < (nI 40) → Q M)) := h
theorem w_X2_send_i {M : am_M} {x1 : Int32} {x2 : Int32} {x3 : Int32} {x4 : Int32} {Q : am_M → Prop} (h : (((nI (M.1 1 0 1)) < (nI 40) → am_ix (nI 0) 4 (fun k1 => am_sa (am_c1 M 2 k1) 40 (nI (M.1 1 0 1)) x1 (fun M2 => am_ix (nI 1) 4 (fun k3 => am_sa (am_c1 M2 2 k3) 40 (nI (M2.1 1 0 1)) x2 (fun M4 => am_ix (nI 2) 4 (fun k5 => am_sa (am_c1 M4 2 k5) 40 (nI (M4.1 1 0 1)) x3 (fun M6 => am_ix (nI 3) 4 (fun k7 => am_sa (am_c1 M6 2 k7) 40 (nI (M6.1 1 0 1)) x4 (fun M8 => am_sf (am_c1 M8 1 0 1) ((nI (M8.1 1 0 1)) + (nI 1)) (fun M9 => Q M9)))))))))) ∧ (¬ (nI (M.1 1 0 1)) < (nI 40) → Q M))) : w_X2_send M x1 x2 x3 x4 Q := h
def w_X2_sendToEach_L3 (x1 : Int32) (x2 : Int32) (x3 : Int32) (x4 : Int32) (Q : am_M → Prop) (K : am_M → Int32 → Prop) : Nat → am_M → Int32 → Prop
  | 0, _, _ => False
  | f3 + 1, M3, z2 => (((nI 4) ≤ z2 → K M3 z2) ∧ (¬ (nI 4) ≤ z2 → w_X0_isIn M3 x3 z2 (fun y5 M4 => ((y5 = 0 → am_let (z2 + nI 1) (fun y6 => w_X2_sendToEach_L3 x1 x2 x3 x4 Q K f3 M4 y6)) ∧ (¬ y5 = 0 → w_X2_send M4 x1 x2 z2 x4 (fun M7 => am_let (z2 + nI 1) (fun y8 => w_X2_sendToEach_L3 x1 x2 x3 x4 Q K f3 M7 y8)))))))
theorem w_X2_sendToEach_L3_s {x1 : Int32} {x2 : Int32} {x3 : Int32} {x4 : Int32} {Q : am_M → Prop} {K : am_M → Int32 → Prop} {f3 : Nat} {M3 : am_M} {z2 : Int32} (h : w_X2_sendToEach_L3 x1 x2 x3 x4 Q K (f3 + 1) M3 z2) : (((nI 4) ≤ z2 → K M3 z2) ∧ (¬ (nI 4) ≤ z2 → w_X0_isIn M3 x3 z2 (fun y5 M4 => ((y5 = 0 → am_let (z2 + nI 1) (fun y6 => w_X2_sendToEach_L3 x1 x2 x3 x4 Q K f3 M4 y6)) ∧ (¬ y5 = 0 → w_X2_send M4 x1 x2 z2 x4 (fun M7 => am_let (z2 + nI 1) (fun y8 => w_X2_sendToEach_L3 x1 x2 x3 x4 Q K f3 M7 y8))))))) := h
theorem w_X2_sendToEach_L3_i {x1 : Int32} {x2 : Int32} {x3 : Int32} {x4 : Int32} {Q : am_M → Prop} {K : am_M → Int32 → Prop} {f3 : Nat} {M3 : am_M} {z2 : Int32} (h : (((nI 4) ≤ z2 → K M3 z2) ∧ (¬ (nI 4) ≤ z2 → w_X0_isIn M3 x3 z2 (fun y5 M4 => ((y5 = 0 → am_let (z2 + nI 1) (fun y6 => w_X2_sendToEach_L3 x1 x2 x3 x4 Q K f3 M4 y6)) ∧ (¬ y5 = 0 → w_X2_send M4 x1 x2 z2 x4 (fun M7 => am_let (z2 + nI 1) (fun y8 => w_X2_sendToEach_L3 x1 x2 x3 x4 Q K f3 M7 y8)))))))) : w_X2_sendToEach_L3 x1 x2 x3 x4 Q K (f3 + 1) M3 z2 := h
def w_X2_sendToEach (M : am_M) (x1 : Int32) (x2 : Int32) (x3 : Int32) (x4 : Int32) (Q : am_M → Prop) : Prop := am_let (nI 0) (fun y1 => (∃ f3 : Nat, w_X2_sendToEach_L3 x1 x2 x3 x4 Q (fun M9 z10 => Q M9) f3 M y1))
theorem w_X2_sendToEach_s {M : am_M} {x1 : Int32} {x2 : Int32} {x3 : Int32} {x4 : Int32} {Q : am_M → Prop} (h : w_X2_sendToEach M x1 x2 x3 x4 Q) : am_let (nI 0) (fun y1 => (∃ f3 : Nat, w_X2_sendToEach_L3 x1 x2 x3 x4 Q (fun M9 z10 => Q M9) f3 M y1)) := h
theorem w_X2_sendToEach_i {M : am_M} {x1 : Int32} {x2 : Int32} {x3 : Int32} {x4 : Int32} {Q : am_M → Prop} (h : am_let (nI 0) (fun y1 => (∃ f3 : Nat, w_X2_sendToEach_L3 x1 x2 x3 x4 Q (fun M9 z10 => Q M9) f3 M y1))) : w_X2_sendToEach M x1 x2 x3 x4 Q := h
def w_J6_bitCount (M : am_M) (x1 : Int32) (Q : Int32 → am_M → Prop) : Prop := am_let (x1 - (((x1).toUInt32 >>> (((nI 1)).toUInt32 &&& Int32.toUInt32 31)).toInt32 &&& (1431655765 : Int32))) (fun y1 => am_let ((y1 &&& (858993459 : Int32)) + (((y1).toUInt32 >>> (((nI 2)).toUInt32 &&& Int32.toUInt32 31)).toInt32 &&& (858993459 : Int32))) (fun y2 => am_let ((y2 + ((y2).toUInt32 >>> (((nI 4)).toUInt32 &&& Int32.toUInt32 31)).toInt32) &&& (252645135 : Int32)) (fun y3 => am_let (y3 + ((y3).toUInt32 >>> (((nI 8)).toUInt32 &&& Int32.toUInt32 31)).toInt32) (fun y4 => am_let (y4 + ((y4).toUInt32 >>> (((nI 16)).toUInt32 &&& Int32.toUInt32 31)).toInt32) (fun y5 => Q (y5 &&& (nI 63)) M)))))
theorem w_J6_bitCount_s {M : am_M} {x1 : Int32} {Q : Int32 → am_M → Prop} (h : w_J6_bitCount M x1 Q) : am_let (x1 - (((x1).toUInt32 >>> (((nI 1)).toUInt32 &&& Int32.toUInt32 31)).toInt32 &&& (1431655765 : Int32))) (fun y1 => am_let ((y1 &&& (858993459 : Int32)) + (((y1).toUInt32 >>> (((nI 2)).toUInt32 &&& Int32.toUInt32 31)).toInt32 &&& (858993459 : Int32))) (fun y2 => am_let ((y2 + ((y2).toUInt32 >>> (((nI 4)).toUInt32 &&& Int32.toUInt32 31)).toInt32) &&& (252645135 : Int32)) (fun y3 => am_let (y3 + ((y3).toUInt32 >>> (((nI 8)).toUInt32 &&& Int32.toUInt32 31)).toInt32) (fun y4 => am_let (y4 + ((y4).toUInt32 >>> (((nI 16)).toUInt32 &&& Int32.toUInt32 31)).toInt32) (fun y5 => Q (y5 &&& (nI 63)) M))))) := h
theorem w_J6_bitCount_i {M : am_M} {x1 : Int32} {Q : Int32 → am_M → Prop} (h : am_let (x1 - (((x1).toUInt32 >>> (((nI 1)).toUInt32 &&& Int32.toUInt32 31)).toInt32 &&& (1431655765 : Int32))) (fun y1 => am_let ((y1 &&& (858993459 : Int32)) + (((y1).toUInt32 >>> (((nI 2)).toUInt32 &&& Int32.toUInt32 31)).toInt32 &&& (858993459 : Int32))) (fun y2 => am_let ((y2 + ((y2).toUInt32 >>> (((nI 4)).toUInt32 &&& Int32.toUInt32 31)).toInt32) &&& (252645135 : Int32)) (fun y3 => am_let (y3 + ((y3).toUInt32 >>> (((nI 8)).toUInt32 &&& Int32.toUInt32 31)).toInt32) (fun y4 => am_let (y4 + ((y4).toUInt32 >>> (((nI 16)).toUInt32 &&& Int32.toUInt32 31)).toInt32) (fun y5 => Q (y5 &&& (nI 63)) M)))))) : w_J6_bitCount M x1 Q := h
def w_X0_commit (M : am_M) (x1 : Int32) (Q : Int32 → am_M → Prop) : Prop := w_X0_isTransaction M x1 (fun y2 M1 => ((¬ y2 = 0 → am_ix x1 10 (fun k3 => am_ix (nI (M1.1 9 k3 0)) 4 (fun k4 => ((¬ (nI (M1.1 3 k4 0)) = 0 → (((nI (M1.1 9 k3 1)) = (nI 1) → ((¬ (nI (M1.1 9 k3 2)) = 0 → am_sf (am_c1 M1 9 k3 1) (nI 2) (fun M5 => w_X2_sendToEach M5 (nI 1) (nI (M5.1 9 k3 0)) (nI (M5.1 9 k3 2)) x1 (fun M6 => w_J6_bitCount M6 (nI (M6.1 9 k3 2)) (fun y8 M7 => Q y8 M7)))) ∧ ((nI (M1.1 9 k3 2)) = 0 → w_X4_forget M1 k3 (fun M9 => Q (nI 0) M9)))) ∧ (¬ (nI (M1.1 9 k3 1)) = (nI 1) → Q (-4) M1))) ∧ ((nI (M1.1 3 k4 0)) = 0 → Q (-3) M1))))) ∧ (y2 = 0 → Q (-2) M1)))
theorem w_X0_commit_s {M : am_M} {x1 : Int32} {Q : Int32 → am_M → Prop} (h : w_X0_commit M x1 Q) : w_X0_isTransaction M x1 (fun y2 M1 => ((¬ y2 = 0 → am_ix x1 10 (fun k3 => am_ix (nI (M1.1 9 k3 0)) 4 (fun k4 => ((¬ (nI (M1.1 3 k4 0)) = 0 → (((nI (M1.1 9 k3 1)) = (nI 1) → ((¬ (nI (M1.1 9 k3 2)) = 0 → am_sf (am_c1 M1 9 k3 1) (nI 2) (fun M5 => w_X2_sendToEach M5 (nI 1) (nI (M5.1 9 k3 0)) (nI (M5.1 9 k3 2)) x1 (fun M6 => w_J6_bitCount M6 (nI (M6.1 9 k3 2)) (fun y8 M7 => Q y8 M7)))) ∧ ((nI (M1.1 9 k3 2)) = 0 → w_X4_forget M1 k3 (fun M9 => Q (nI 0) M9)))) ∧ (¬ (nI (M1.1 9 k3 1)) = (nI 1) → Q (-4) M1))) ∧ ((nI (M1.1 3 k4 0)) = 0 → Q (-3) M1))))) ∧ (y2 = 0 → Q (-2) M1))) := h
theorem w_X0_commit_i {M : am_M} {x1 : Int32} {Q : Int32 → am_M → Prop} (h : w_X0_isTransaction M x1 (fun y2 M1 => ((¬ y2 = 0 → am_ix x1 10 (fun k3 => am_ix (nI (M1.1 9 k3 0)) 4 (fun k4 => ((¬ (nI (M1.1 3 k4 0)) = 0 → (((nI (M1.1 9 k3 1)) = (nI 1) → ((¬ (nI (M1.1 9 k3 2)) = 0 → am_sf (am_c1 M1 9 k3 1) (nI 2) (fun M5 => w_X2_sendToEach M5 (nI 1) (nI (M5.1 9 k3 0)) (nI (M5.1 9 k3 2)) x1 (fun M6 => w_J6_bitCount M6 (nI (M6.1 9 k3 2)) (fun y8 M7 => Q y8 M7)))) ∧ ((nI (M1.1 9 k3 2)) = 0 → w_X4_forget M1 k3 (fun M9 => Q (nI 0) M9)))) ∧ (¬ (nI (M1.1 9 k3 1)) = (nI 1) → Q (-4) M1))) ∧ ((nI (M1.1 3 k4 0)) = 0 → Q (-3) M1))))) ∧ (y2 = 0 → Q (-2) M1)))) : w_X0_commit M x1 Q := h
def w_X1_labelOf (M : am_M) (x1 : Int32) (x2 : Int32) (Q : Int32 → am_M → Prop) : Prop := Q (((nI 10) * x1) + x2) M
theorem w_X1_labelOf_s {M : am_M} {x1 : Int32} {x2 : Int32} {Q : Int32 → am_M → Prop} (h : w_X1_labelOf M x1 x2 Q) : Q (((nI 10) * x1) + x2) M := h
theorem w_X1_labelOf_i {M : am_M} {x1 : Int32} {x2 : Int32} {Q : Int32 → am_M → Prop} (h : Q (((nI 10) * x1) + x2) M) : w_X1_labelOf M x1 x2 Q := h
def w_X1_write (M : am_M) (n : Nat) (x1 : Int32) (x2 : Int32) (x3 : Int32) (Q : am_M → Prop) : Prop := (((nI (M.1 6 n 2)) < (nI 60) → w_X1_labelOf M x1 x2 (fun y2 M1 => am_sa (am_c1 M1 7 n) 60 (nI (M.1 6 n 2)) y2 (fun M3 => am_sa (am_c1 M3 8 n) 60 (nI (M3.1 6 n 2)) x3 (fun M4 => am_sf (am_c1 M4 6 n 2) ((nI (M4.1 6 n 2)) + (nI 1)) (fun M5 => Q M5))))) ∧ (¬ (nI (M.1 6 n 2)) < (nI 60) → Q M))
theorem w_X1_write_s {M : am_M} {n : Nat} {x1 : Int32} {x2 : Int32} {x3 : Int32} {Q : am_M → Prop} (h : w_X1_write M n x1 x2 x3 Q) : (((nI (M.1 6 n 2)) < (nI 60) → w_X1_labelOf M x1 x2 (fun y2 M1 => am_sa (am_c1 M1 7 n) 60 (nI (M.1 6 n 2)) y2 (fun M3 => am_sa (am_c1 M3 8 n) 60 (nI (M3.1 6 n 2)) x3 (fun M4 => am_sf (am_c1 M4 6 n 2) ((nI (M4.1 6 n 2)) + (nI 1)) (fun M5 => Q M5))))) ∧ (¬ (nI (M.1 6 n 2)) < (nI 60) → Q M)) := h
theorem w_X1_write_i {M : am_M} {n : Nat} {x1 : Int32} {x2 : Int32} {x3 : Int32} {Q : am_M → Prop} (h : (((nI (M.1 6 n 2)) < (nI 60) → w_X1_labelOf M x1 x2 (fun y2 M1 => am_sa (am_c1 M1 7 n) 60 (nI (M.1 6 n 2)) y2 (fun M3 => am_sa (am_c1 M3 8 n) 60 (nI (M3.1 6 n 2)) x3 (fun M4 => am_sf (am_c1 M4 6 n 2) ((nI (M4.1 6 n 2)) + (nI 1)) (fun M5 => Q M5))))) ∧ (¬ (nI (M.1 6 n 2)) < (nI 60) → Q M))) : w_X1_write M n x1 x2 x3 Q := h
def w_X0_giveUp (M : am_M) (x1 : Int32) (x2 : Int32) (Q : Int32 → am_M → Prop) : Prop := am_ix x1 10 (fun k1 => am_let (((nI (M.1 9 k1 2)) &&& ((nI (M.1 9 k1 4)) ^^^ (-1))) &&& (x2 ^^^ (-1))) (fun y2 => am_ix (nI (M.1 9 k1 0)) 4 (fun k3 => w_X1_write M k3 x1 (nI 5) (nI 0) (fun M4 => w_X2_sendToEach M4 (nI 6) (nI (M4.1 9 k1 0)) y2 x1 (fun M5 => w_X4_forget M5 k1 (fun M6 => w_J6_bitCount M6 y2 (fun y8 M7 => Q y8 M7)))))))
theorem w_X0_giveUp_s {M : am_M} {x1 : Int32} {x2 : Int32} {Q : Int32 → am_M → Prop} (h : w_X0_giveUp M x1 x2 Q) : am_ix x1 10 (fun k1 => am_let (((nI (M.1 9 k1 2)) &&& ((nI (M.1 9 k1 4)) ^^^ (-1))) &&& (x2 ^^^ (-1))) (fun y2 => am_ix (nI (M.1 9 k1 0)) 4 (fun k3 => w_X1_write M k3 x1 (nI 5) (nI 0) (fun M4 => w_X2_sendToEach M4 (nI 6) (nI (M4.1 9 k1 0)) y2 x1 (fun M5 => w_X4_forget M5 k1 (fun M6 => w_J6_bitCount M6 y2 (fun y8 M7 => Q y8 M7))))))) := h
theorem w_X0_giveUp_i {M : am_M} {x1 : Int32} {x2 : Int32} {Q : Int32 → am_M → Prop} (h : am_ix x1 10 (fun k1 => am_let (((nI (M.1 9 k1 2)) &&& ((nI (M.1 9 k1 4)) ^^^ (-1))) &&& (x2 ^^^ (-1))) (fun y2 => am_ix (nI (M.1 9 k1 0)) 4 (fun k3 => w_X1_write M k3 x1 (nI 5) (nI 0) (fun M4 => w_X2_sendToEach M4 (nI 6) (nI (M4.1 9 k1 0)) y2 x1 (fun M5 => w_X4_forget M5 k1 (fun M6 => w_J6_bitCount M6 y2 (fun y8 M7 => Q y8 M7)))))))) : w_X0_giveUp M x1 x2 Q := h
def w_X0_withdraw (M : am_M) (x1 : Int32) (Q : Int32 → am_M → Prop) : Prop := w_X0_isTransaction M x1 (fun y2 M1 => ((¬ y2 = 0 → am_ix x1 10 (fun k3 => am_ix (nI (M1.1 9 k3 0)) 4 (fun k4 => ((¬ (nI (M1.1 3 k4 0)) = 0 → (((nI (M1.1 9 k3 1)) = (nI 1) → w_X0_giveUp M1 x1 (nI 0) (fun y6 M5 => Q y6 M5)) ∧ (¬ (nI (M1.1 9 k3 1)) = (nI 1) → (((nI (M1.1 9 k3 1)) = (nI 2) → w_X0_giveUp M1 x1 (nI 0) (fun y8 M7 => Q y8 M7)) ∧ (¬ (nI (M1.1 9 k3 1)) = (nI 2) → Q (-4) M1))))) ∧ ((nI (M1.1 3 k4 0)) = 0 → Q (-3) M1))))) ∧ (y2 = 0 → Q (-2) M1)))
theorem w_X0_withdraw_s {M : am_M} {x1 : Int32} {Q : Int32 → am_M → Prop} (h : w_X0_withdraw M x1 Q) : w_X0_isTransaction M x1 (fun y2 M1 => ((¬ y2 = 0 → am_ix x1 10 (fun k3 => am_ix (nI (M1.1 9 k3 0)) 4 (fun k4 => ((¬ (nI (M1.1 3 k4 0)) = 0 → (((nI (M1.1 9 k3 1)) = (nI 1) → w_X0_giveUp M1 x1 (nI 0) (fun y6 M5 => Q y6 M5)) ∧ (¬ (nI (M1.1 9 k3 1)) = (nI 1) → (((nI (M1.1 9 k3 1)) = (nI 2) → w_X0_giveUp M1 x1 (nI 0) (fun y8 M7 => Q y8 M7)) ∧ (¬ (nI (M1.1 9 k3 1)) = (nI 2) → Q (-4) M1))))) ∧ ((nI (M1.1 3 k4 0)) = 0 → Q (-3) M1))))) ∧ (y2 = 0 → Q (-2) M1))) := h
theorem w_X0_withdraw_i {M : am_M} {x1 : Int32} {Q : Int32 → am_M → Prop} (h : w_X0_isTransaction M x1 (fun y2 M1 => ((¬ y2 = 0 → am_ix x1 10 (fun k3 => am_ix (nI (M1.1 9 k3 0)) 4 (fun k4 => ((¬ (nI (M1.1 3 k4 0)) = 0 → (((nI (M1.1 9 k3 1)) = (nI 1) → w_X0_giveUp M1 x1 (nI 0) (fun y6 M5 => Q y6 M5)) ∧ (¬ (nI (M1.1 9 k3 1)) = (nI 1) → (((nI (M1.1 9 k3 1)) = (nI 2) → w_X0_giveUp M1 x1 (nI 0) (fun y8 M7 => Q y8 M7)) ∧ (¬ (nI (M1.1 9 k3 1)) = (nI 2) → Q (-4) M1))))) ∧ ((nI (M1.1 3 k4 0)) = 0 → Q (-3) M1))))) ∧ (y2 = 0 → Q (-2) M1)))) : w_X0_withdraw M x1 Q := h
def w_X2_has (M : am_M) (x1 : Int32) (Q : Int32 → am_M → Prop) : Prop := ((x1 < 0 → Q (nI 0) M) ∧ (¬ x1 < 0 → (((nI (M.1 1 0 1)) ≤ x1 → Q (nI 0) M) ∧ (¬ (nI (M.1 1 0 1)) ≤ x1 → Q (nI 1) M))))
theorem w_X2_has_s {M : am_M} {x1 : Int32} {Q : Int32 → am_M → Prop} (h : w_X2_has M x1 Q) : ((x1 < 0 → Q (nI 0) M) ∧ (¬ x1 < 0 → (((nI (M.1 1 0 1)) ≤ x1 → Q (nI 0) M) ∧ (¬ (nI (M.1 1 0 1)) ≤ x1 → Q (nI 1) M)))) := h
theorem w_X2_has_i {M : am_M} {x1 : Int32} {Q : Int32 → am_M → Prop} (h : ((x1 < 0 → Q (nI 0) M) ∧ (¬ x1 < 0 → (((nI (M.1 1 0 1)) ≤ x1 → Q (nI 0) M) ∧ (¬ (nI (M.1 1 0 1)) ≤ x1 → Q (nI 1) M))))) : w_X2_has M x1 Q := h
def w_X2_takeOut_L19 (z3 : Int32) (x1 : Int32) (Q : am_M → Prop) (K : am_M → Int32 → Prop) : Nat → am_M → Int32 → Prop
  | 0, _, _ => False
  | f19 + 1, M7, z6 => (((nI (M7.1 1 0 1)) ≤ z6 → K M7 z6) ∧ (¬ (nI (M7.1 1 0 1)) ≤ z6 → am_ix z3 4 (fun k8 => am_ix z3 4 (fun k9 => am_ix (z6 + (nI 1)) 40 (fun k10 => am_sa (am_c1 M7 2 k8) 40 z6 (nI (M7.1 2 k9 k10)) (fun M11 => am_let (z6 + nI 1) (fun y12 => w_X2_takeOut_L19 z3 x1 Q K f19 M11 y12)))))))
theorem w_X2_takeOut_L19_s {z3 : Int32} {x1 : Int32} {Q : am_M → Prop} {K : am_M → Int32 → Prop} {f19 : Nat} {M7 : am_M} {z6 : Int32} (h : w_X2_takeOut_L19 z3 x1 Q K (f19 + 1) M7 z6) : (((nI (M7.1 1 0 1)) ≤ z6 → K M7 z6) ∧ (¬ (nI (M7.1 1 0 1)) ≤ z6 → am_ix z3 4 (fun k8 => am_ix z3 4 (fun k9 => am_ix (z6 + (nI 1)) 40 (fun k10 => am_sa (am_c1 M7 2 k8) 40 z6 (nI (M7.1 2 k9 k10)) (fun M11 => am_let (z6 + nI 1) (fun y12 => w_X2_takeOut_L19 z3 x1 Q K f19 M11 y12))))))) := h
theorem w_X2_takeOut_L19_i {z3 : Int32} {x1 : Int32} {Q : am_M → Prop} {K : am_M → Int32 → Prop} {f19 : Nat} {M7 : am_M} {z6 : Int32} (h : (((nI (M7.1 1 0 1)) ≤ z6 → K M7 z6) ∧ (¬ (nI (M7.1 1 0 1)) ≤ z6 → am_ix z3 4 (fun k8 => am_ix z3 4 (fun k9 => am_ix (z6 + (nI 1)) 40 (fun k10 => am_sa (am_c1 M7 2 k8) 40 z6 (nI (M7.1 2 k9 k10)) (fun M11 => am_let (z6 + nI 1) (fun y12 => w_X2_takeOut_L19 z3 x1 Q K f19 M11 y12)))))))) : w_X2_takeOut_L19 z3 x1 Q K (f19 + 1) M7 z6 := h
def w_X2_takeOut_L12 (x1 : Int32) (Q : am_M → Prop) (K : am_M → Int32 → Prop) : Nat → am_M → Int32 → Prop
  | 0, _, _ => False
  | f12 + 1, M4, z3 => (((nI 4) ≤ z3 → K M4 z3) ∧ (¬ (nI 4) ≤ z3 → am_let x1 (fun y5 => (∃ f19 : Nat, w_X2_takeOut_L19 z3 x1 Q (fun M13 z14 => am_let (z3 + nI 1) (fun y15 => w_X2_takeOut_L12 x1 Q K f12 M13 y15)) f19 M4 y5))))
theorem w_X2_takeOut_L12_s {x1 : Int32} {Q : am_M → Prop} {K : am_M → Int32 → Prop} {f12 : Nat} {M4 : am_M} {z3 : Int32} (h : w_X2_takeOut_L12 x1 Q K (f12 + 1) M4 z3) : (((nI 4) ≤ z3 → K M4 z3) ∧ (¬ (nI 4) ≤ z3 → am_let x1 (fun y5 => (∃ f19 : Nat, w_X2_takeOut_L19 z3 x1 Q (fun M13 z14 => am_let (z3 + nI 1) (fun y15 => w_X2_takeOut_L12 x1 Q K f12 M13 y15)) f19 M4 y5)))) := h
theorem w_X2_takeOut_L12_i {x1 : Int32} {Q : am_M → Prop} {K : am_M → Int32 → Prop} {f12 : Nat} {M4 : am_M} {z3 : Int32} (h : (((nI 4) ≤ z3 → K M4 z3) ∧ (¬ (nI 4) ≤ z3 → am_let x1 (fun y5 => (∃ f19 : Nat, w_X2_takeOut_L19 z3 x1 Q (fun M13 z14 => am_let (z3 + nI 1) (fun y15 => w_X2_takeOut_L12 x1 Q K f12 M13 y15)) f19 M4 y5))))) : w_X2_takeOut_L12 x1 Q K (f12 + 1) M4 z3 := h
def w_X2_takeOut (M : am_M) (x1 : Int32) (Q : am_M → Prop) : Prop := am_sf (am_c1 M 1 0 1) ((nI (M.1 1 0 1)) - (nI 1)) (fun M1 => am_let (nI 0) (fun y2 => (∃ f12 : Nat, w_X2_takeOut_L12 x1 Q (fun M16 z17 => Q M16) f12 M1 y2)))
theorem w_X2_takeOut_s {M : am_M} {x1 : Int32} {Q : am_M → Prop} (h : w_X2_takeOut M x1 Q) : am_sf (am_c1 M 1 0 1) ((nI (M.1 1 0 1)) - (nI 1)) (fun M1 => am_let (nI 0) (fun y2 => (∃ f12 : Nat, w_X2_takeOut_L12 x1 Q (fun M16 z17 => Q M16) f12 M1 y2))) := h
theorem w_X2_takeOut_i {M : am_M} {x1 : Int32} {Q : am_M → Prop} (h : am_sf (am_c1 M 1 0 1) ((nI (M.1 1 0 1)) - (nI 1)) (fun M1 => am_let (nI 0) (fun y2 => (∃ f12 : Nat, w_X2_takeOut_L12 x1 Q (fun M16 z17 => Q M16) f12 M1 y2)))) : w_X2_takeOut M x1 Q := h
def w_X3_letGo (M : am_M) (n : Nat) (x1 : Int32) (Q : am_M → Prop) : Prop := am_sa (am_c1 M 5 n) 10 x1 (nI 0) (fun M1 => am_sa (am_c1 M1 4 n) 10 x1 (nI 0) (fun M2 => Q M2))
theorem w_X3_letGo_s {M : am_M} {n : Nat} {x1 : Int32} {Q : am_M → Prop} (h : w_X3_letGo M n x1 Q) : am_sa (am_c1 M 5 n) 10 x1 (nI 0) (fun M1 => am_sa (am_c1 M1 4 n) 10 x1 (nI 0) (fun M2 => Q M2)) := h
theorem w_X3_letGo_i {M : am_M} {n : Nat} {x1 : Int32} {Q : am_M → Prop} (h : am_sa (am_c1 M 5 n) 10 x1 (nI 0) (fun M1 => am_sa (am_c1 M1 4 n) 10 x1 (nI 0) (fun M2 => Q M2))) : w_X3_letGo M n x1 Q := h
def w_X1_force (M : am_M) (n : Nat) (x1 : Int32) (x2 : Int32) (x3 : Int32) (Q : am_M → Prop) : Prop := w_X1_write M n x1 x2 x3 (fun M1 => am_sf (am_c1 M1 6 n 3) (nI (M1.1 6 n 2)) (fun M2 => am_sf (am_c1 M2 6 n 4) ((nI (M2.1 6 n 4)) + (nI 1)) (fun M3 => Q M3)))
theorem w_X1_force_s {M : am_M} {n : Nat} {x1 : Int32} {x2 : Int32} {x3 : Int32} {Q : am_M → Prop} (h : w_X1_force M n x1 x2 x3 Q) : w_X1_write M n x1 x2 x3 (fun M1 => am_sf (am_c1 M1 6 n 3) (nI (M1.1 6 n 2)) (fun M2 => am_sf (am_c1 M2 6 n 4) ((nI (M2.1 6 n 4)) + (nI 1)) (fun M3 => Q M3))) := h
theorem w_X1_force_i {M : am_M} {n : Nat} {x1 : Int32} {x2 : Int32} {x3 : Int32} {Q : am_M → Prop} (h : w_X1_write M n x1 x2 x3 (fun M1 => am_sf (am_c1 M1 6 n 3) (nI (M1.1 6 n 2)) (fun M2 => am_sf (am_c1 M2 6 n 4) ((nI (M2.1 6 n 4)) + (nI 1)) (fun M3 => Q M3)))) : w_X1_force M n x1 x2 x3 Q := h
def w_X3_voteWhenWorking (M : am_M) (n : Nat) (x1 : Int32) (Q : Int32 → am_M → Prop) : Prop := am_ix x1 10 (fun k1 => ((¬ (nI (M.1 5 n k1)) = 0 → am_ix x1 10 (fun k2 => w_X1_force M n x1 (nI 1) (nI (M.1 5 n k2)) (fun M3 => am_sa (am_c1 M3 4 n) 10 x1 (nI 3) (fun M4 => Q (nI 2) M4)))) ∧ ((nI (M.1 5 n k1)) = 0 → w_X3_letGo M n x1 (fun M5 => Q (nI 3) M5))))
theorem w_X3_voteWhenWorking_s {M : am_M} {n : Nat} {x1 : Int32} {Q : Int32 → am_M → Prop} (h : w_X3_voteWhenWorking M n x1 Q) : am_ix x1 10 (fun k1 => ((¬ (nI (M.1 5 n k1)) = 0 → am_ix x1 10 (fun k2 => w_X1_force M n x1 (nI 1) (nI (M.1 5 n k2)) (fun M3 => am_sa (am_c1 M3 4 n) 10 x1 (nI 3) (fun M4 => Q (nI 2) M4)))) ∧ ((nI (M.1 5 n k1)) = 0 → w_X3_letGo M n x1 (fun M5 => Q (nI 3) M5)))) := h
theorem w_X3_voteWhenWorking_i {M : am_M} {n : Nat} {x1 : Int32} {Q : Int32 → am_M → Prop} (h : am_ix x1 10 (fun k1 => ((¬ (nI (M.1 5 n k1)) = 0 → am_ix x1 10 (fun k2 => w_X1_force M n x1 (nI 1) (nI (M.1 5 n k2)) (fun M3 => am_sa (am_c1 M3 4 n) 10 x1 (nI 3) (fun M4 => Q (nI 2) M4)))) ∧ ((nI (M.1 5 n k1)) = 0 → w_X3_letGo M n x1 (fun M5 => Q (nI 3) M5))))) : w_X3_voteWhenWorking M n x1 Q := h
def w_X3_abort (M : am_M) (n : Nat) (x1 : Int32) (Q : am_M → Prop) : Prop := am_ix x1 10 (fun k1 => (((nI (M.1 4 n k1)) = 0 → Q M) ∧ (¬ (nI (M.1 4 n k1)) = 0 → w_X1_write M n x1 (nI 3) (nI 0) (fun M2 => w_X3_letGo M2 n x1 (fun M3 => Q M3)))))
theorem w_X3_abort_s {M : am_M} {n : Nat} {x1 : Int32} {Q : am_M → Prop} (h : w_X3_abort M n x1 Q) : am_ix x1 10 (fun k1 => (((nI (M.1 4 n k1)) = 0 → Q M) ∧ (¬ (nI (M.1 4 n k1)) = 0 → w_X1_write M n x1 (nI 3) (nI 0) (fun M2 => w_X3_letGo M2 n x1 (fun M3 => Q M3))))) := h
theorem w_X3_abort_i {M : am_M} {n : Nat} {x1 : Int32} {Q : am_M → Prop} (h : am_ix x1 10 (fun k1 => (((nI (M.1 4 n k1)) = 0 → Q M) ∧ (¬ (nI (M.1 4 n k1)) = 0 → w_X1_write M n x1 (nI 3) (nI 0) (fun M2 => w_X3_letGo M2 n x1 (fun M3 => Q M3)))))) : w_X3_abort M n x1 Q := h
def w_X3_voteOn (M : am_M) (n : Nat) (x1 : Int32) (Q : Int32 → am_M → Prop) : Prop := am_ix x1 10 (fun k1 => (((nI (M.1 4 n k1)) = (nI 1) → w_X3_voteWhenWorking M n x1 (fun y3 M2 => Q y3 M2)) ∧ (¬ (nI (M.1 4 n k1)) = (nI 1) → (((nI (M.1 4 n k1)) = (nI 3) → Q (nI 2) M) ∧ (¬ (nI (M.1 4 n k1)) = (nI 3) → w_X3_abort M n x1 (fun M4 => Q (nI 4) M4))))))
theorem w_X3_voteOn_s {M : am_M} {n : Nat} {x1 : Int32} {Q : Int32 → am_M → Prop} (h : w_X3_voteOn M n x1 Q) : am_ix x1 10 (fun k1 => (((nI (M.1 4 n k1)) = (nI 1) → w_X3_voteWhenWorking M n x1 (fun y3 M2 => Q y3 M2)) ∧ (¬ (nI (M.1 4 n k1)) = (nI 1) → (((nI (M.1 4 n k1)) = (nI 3) → Q (nI 2) M) ∧ (¬ (nI (M.1 4 n k1)) = (nI 3) → w_X3_abort M n x1 (fun M4 => Q (nI 4) M4)))))) := h
theorem w_X3_voteOn_i {M : am_M} {n : Nat} {x1 : Int32} {Q : Int32 → am_M → Prop} (h : am_ix x1 10 (fun k1 => (((nI (M.1 4 n k1)) = (nI 1) → w_X3_voteWhenWorking M n x1 (fun y3 M2 => Q y3 M2)) ∧ (¬ (nI (M.1 4 n k1)) = (nI 1) → (((nI (M.1 4 n k1)) = (nI 3) → Q (nI 2) M) ∧ (¬ (nI (M.1 4 n k1)) = (nI 3) → w_X3_abort M n x1 (fun M4 => Q (nI 4) M4))))))) : w_X3_voteOn M n x1 Q := h
def w_X4_hasAllVotes (M : am_M) (n : Nat) (Q : Int32 → am_M → Prop) : Prop := ((¬ ((nI (M.1 9 n 2)) &&& (((nI (M.1 9 n 3)) ||| (nI (M.1 9 n 4))) ^^^ (-1))) = 0 → Q (nI 0) M) ∧ (((nI (M.1 9 n 2)) &&& (((nI (M.1 9 n 3)) ||| (nI (M.1 9 n 4))) ^^^ (-1))) = 0 → Q (nI 1) M))
theorem w_X4_hasAllVotes_s {M : am_M} {n : Nat} {Q : Int32 → am_M → Prop} (h : w_X4_hasAllVotes M n Q) : ((¬ ((nI (M.1 9 n 2)) &&& (((nI (M.1 9 n 3)) ||| (nI (M.1 9 n 4))) ^^^ (-1))) = 0 → Q (nI 0) M) ∧ (((nI (M.1 9 n 2)) &&& (((nI (M.1 9 n 3)) ||| (nI (M.1 9 n 4))) ^^^ (-1))) = 0 → Q (nI 1) M)) := h
theorem w_X4_hasAllVotes_i {M : am_M} {n : Nat} {Q : Int32 → am_M → Prop} (h : ((¬ ((nI (M.1 9 n 2)) &&& (((nI (M.1 9 n 3)) ||| (nI (M.1 9 n 4))) ^^^ (-1))) = 0 → Q (nI 0) M) ∧ (((nI (M.1 9 n 2)) &&& (((nI (M.1 9 n 3)) ||| (nI (M.1 9 n 4))) ^^^ (-1))) = 0 → Q (nI 1) M))) : w_X4_hasAllVotes M n Q := h
def w_X0_decide (M : am_M) (x1 : Int32) (Q : am_M → Prop) : Prop := am_ix x1 10 (fun k1 => ((¬ (nI (M.1 9 k1 3)) = 0 → am_sf (am_c1 M 9 k1 5) (nI (M.1 9 k1 3)) (fun M2 => am_ix (nI (M2.1 9 k1 0)) 4 (fun k3 => w_X1_force M2 k3 x1 (nI 4) (nI (M2.1 9 k1 5)) (fun M4 => am_sf (am_c1 M4 9 k1 1) (nI 3) (fun M5 => w_X2_sendToEach M5 (nI 5) (nI (M5.1 9 k1 0)) (nI (M5.1 9 k1 5)) x1 (fun M6 => Q M6)))))) ∧ ((nI (M.1 9 k1 3)) = 0 → w_X4_forget M k1 (fun M7 => Q M7))))
theorem w_X0_decide_s {M : am_M} {x1 : Int32} {Q : am_M → Prop} (h : w_X0_decide M x1 Q) : am_ix x1 10 (fun k1 => ((¬ (nI (M.1 9 k1 3)) = 0 → am_sf (am_c1 M 9 k1 5) (nI (M.1 9 k1 3)) (fun M2 => am_ix (nI (M2.1 9 k1 0)) 4 (fun k3 => w_X1_force M2 k3 x1 (nI 4) (nI (M2.1 9 k1 5)) (fun M4 => am_sf (am_c1 M4 9 k1 1) (nI 3) (fun M5 => w_X2_sendToEach M5 (nI 5) (nI (M5.1 9 k1 0)) (nI (M5.1 9 k1 5)) x1 (fun M6 => Q M6)))))) ∧ ((nI (M.1 9 k1 3)) = 0 → w_X4_forget M k1 (fun M7 => Q M7)))) := h
theorem w_X0_decide_i {M : am_M} {x1 : Int32} {Q : am_M → Prop} (h : am_ix x1 10 (fun k1 => ((¬ (nI (M.1 9 k1 3)) = 0 → am_sf (am_c1 M 9 k1 5) (nI (M.1 9 k1 3)) (fun M2 => am_ix (nI (M2.1 9 k1 0)) 4 (fun k3 => w_X1_force M2 k3 x1 (nI 4) (nI (M2.1 9 k1 5)) (fun M4 => am_sf (am_c1 M4 9 k1 1) (nI 3) (fun M5 => w_X2_sendToEach M5 (nI 5) (nI (M5.1 9 k1 0)) (nI (M5.1 9 k1 5)) x1 (fun M6 => Q M6)))))) ∧ ((nI (M.1 9 k1 3)) = 0 → w_X4_forget M k1 (fun M7 => Q M7))))) : w_X0_decide M x1 Q := h
def w_X0_hearVote_J82 (k10 : Nat) (M11 : am_M) (y7 : Int32) (y8 : Int32) (y9 : Int32) (Q : am_M → Prop) : Prop := w_X4_hasAllVotes M11 k10 (fun y13 M12 => ((y13 = 0 → Q M12) ∧ (¬ y13 = 0 → w_X0_decide M12 y9 (fun M14 => Q M14))))
theorem w_X0_hearVote_J82_s {k10 : Nat} {M11 : am_M} {y7 : Int32} {y8 : Int32} {y9 : Int32} {Q : am_M → Prop} (h : w_X0_hearVote_J82 k10 M11 y7 y8 y9 Q) : w_X4_hasAllVotes M11 k10 (fun y13 M12 => ((y13 = 0 → Q M12) ∧ (¬ y13 = 0 → w_X0_decide M12 y9 (fun M14 => Q M14)))) := h
theorem w_X0_hearVote_J82_i {k10 : Nat} {M11 : am_M} {y7 : Int32} {y8 : Int32} {y9 : Int32} {Q : am_M → Prop} (h : w_X4_hasAllVotes M11 k10 (fun y13 M12 => ((y13 = 0 → Q M12) ∧ (¬ y13 = 0 → w_X0_decide M12 y9 (fun M14 => Q M14))))) : w_X0_hearVote_J82 k10 M11 y7 y8 y9 Q := h
def w_X0_hearVote (M : am_M) (x1 : Int32) (x2 : Int32) (x3 : Int32) (Q : am_M → Prop) : Prop := am_ix x3 10 (fun k1 => ((¬ (nI (M.1 9 k1 1)) = (nI 2) → Q M) ∧ ((nI (M.1 9 k1 1)) = (nI 2) → w_X0_isIn M (nI (M.1 9 k1 2)) x2 (fun y3 M2 => ((¬ y3 = 0 → ((¬ x1 = (nI 4) → ((¬ x1 = (nI 2) → w_X0_only M2 x2 (fun y5 M4 => am_sf (am_c1 M4 9 k1 4) ((nI (M2.1 9 k1 4)) ||| y5) (fun M6 => w_X0_hearVote_J82 k1 M6 x1 x2 x3 Q))) ∧ (x1 = (nI 2) → w_X0_only M2 x2 (fun y16 M15 => am_sf (am_c1 M15 9 k1 3) ((nI (M2.1 9 k1 3)) ||| y16) (fun M17 => w_X0_hearVote_J82 k1 M17 x1 x2 x3 Q))))) ∧ (x1 = (nI 4) → w_X0_only M2 x2 (fun y19 M18 => w_X0_giveUp M18 x3 y19 (fun y21 M20 => Q M20))))) ∧ (y3 = 0 → Q M2))))))
theorem w_X0_hearVote_s {M : am_M} {x1 : Int32} {x2 : Int32} {x3 : Int32} {Q : am_M → Prop} (h : w_X0_hearVote M x1 x2 x3 Q) : am_ix x3 10 (fun k1 => ((¬ (nI (M.1 9 k1 1)) = (nI 2) → Q M) ∧ ((nI (M.1 9 k1 1)) = (nI 2) → w_X0_isIn M (nI (M.1 9 k1 2)) x2 (fun y3 M2 => ((¬ y3 = 0 → ((¬ x1 = (nI 4) → ((¬ x1 = (nI 2) → w_X0_only M2 x2 (fun y5 M4 => am_sf (am_c1 M4 9 k1 4) ((nI (M2.1 9 k1 4)) ||| y5) (fun M6 => w_X0_hearVote_J82 k1 M6 x1 x2 x3 Q))) ∧ (x1 = (nI 2) → w_X0_only M2 x2 (fun y16 M15 => am_sf (am_c1 M15 9 k1 3) ((nI (M2.1 9 k1 3)) ||| y16) (fun M17 => w_X0_hearVote_J82 k1 M17 x1 x2 x3 Q))))) ∧ (x1 = (nI 4) → w_X0_only M2 x2 (fun y19 M18 => w_X0_giveUp M18 x3 y19 (fun y21 M20 => Q M20))))) ∧ (y3 = 0 → Q M2)))))) := h
theorem w_X0_hearVote_i {M : am_M} {x1 : Int32} {x2 : Int32} {x3 : Int32} {Q : am_M → Prop} (h : am_ix x3 10 (fun k1 => ((¬ (nI (M.1 9 k1 1)) = (nI 2) → Q M) ∧ ((nI (M.1 9 k1 1)) = (nI 2) → w_X0_isIn M (nI (M.1 9 k1 2)) x2 (fun y3 M2 => ((¬ y3 = 0 → ((¬ x1 = (nI 4) → ((¬ x1 = (nI 2) → w_X0_only M2 x2 (fun y5 M4 => am_sf (am_c1 M4 9 k1 4) ((nI (M2.1 9 k1 4)) ||| y5) (fun M6 => w_X0_hearVote_J82 k1 M6 x1 x2 x3 Q))) ∧ (x1 = (nI 2) → w_X0_only M2 x2 (fun y16 M15 => am_sf (am_c1 M15 9 k1 3) ((nI (M2.1 9 k1 3)) ||| y16) (fun M17 => w_X0_hearVote_J82 k1 M17 x1 x2 x3 Q))))) ∧ (x1 = (nI 4) → w_X0_only M2 x2 (fun y19 M18 => w_X0_giveUp M18 x3 y19 (fun y21 M20 => Q M20))))) ∧ (y3 = 0 → Q M2))))))) : w_X0_hearVote M x1 x2 x3 Q := h
def w_X3_finishCommit (M : am_M) (n : Nat) (x1 : Int32) (Q : am_M → Prop) : Prop := am_ix x1 10 (fun k1 => ((¬ (nI (M.1 4 n k1)) = (nI 3) → Q M) ∧ ((nI (M.1 4 n k1)) = (nI 3) → w_X1_force M n x1 (nI 2) (nI 0) (fun M2 => w_X3_letGo M2 n x1 (fun M3 => Q M3)))))
theorem w_X3_finishCommit_s {M : am_M} {n : Nat} {x1 : Int32} {Q : am_M → Prop} (h : w_X3_finishCommit M n x1 Q) : am_ix x1 10 (fun k1 => ((¬ (nI (M.1 4 n k1)) = (nI 3) → Q M) ∧ ((nI (M.1 4 n k1)) = (nI 3) → w_X1_force M n x1 (nI 2) (nI 0) (fun M2 => w_X3_letGo M2 n x1 (fun M3 => Q M3))))) := h
theorem w_X3_finishCommit_i {M : am_M} {n : Nat} {x1 : Int32} {Q : am_M → Prop} (h : am_ix x1 10 (fun k1 => ((¬ (nI (M.1 4 n k1)) = (nI 3) → Q M) ∧ ((nI (M.1 4 n k1)) = (nI 3) → w_X1_force M n x1 (nI 2) (nI 0) (fun M2 => w_X3_letGo M2 n x1 (fun M3 => Q M3)))))) : w_X3_finishCommit M n x1 Q := h
def w_X0_hearAck (M : am_M) (x1 : Int32) (x2 : Int32) (Q : am_M → Prop) : Prop := am_ix x2 10 (fun k1 => (((nI (M.1 9 k1 1)) = (nI 3) → w_X0_only M x1 (fun y3 M2 => am_sf (am_c1 M2 9 k1 5) ((nI (M.1 9 k1 5)) &&& (y3 ^^^ (-1))) (fun M4 => ((¬ (nI (M4.1 9 k1 5)) = 0 → Q M4) ∧ ((nI (M4.1 9 k1 5)) = 0 → am_ix (nI (M4.1 9 k1 0)) 4 (fun k5 => w_X1_write M4 k5 x2 (nI 6) (nI 0) (fun M6 => w_X4_forget M6 k1 (fun M7 => Q M7)))))))) ∧ (¬ (nI (M.1 9 k1 1)) = (nI 3) → Q M)))
theorem w_X0_hearAck_s {M : am_M} {x1 : Int32} {x2 : Int32} {Q : am_M → Prop} (h : w_X0_hearAck M x1 x2 Q) : am_ix x2 10 (fun k1 => (((nI (M.1 9 k1 1)) = (nI 3) → w_X0_only M x1 (fun y3 M2 => am_sf (am_c1 M2 9 k1 5) ((nI (M.1 9 k1 5)) &&& (y3 ^^^ (-1))) (fun M4 => ((¬ (nI (M4.1 9 k1 5)) = 0 → Q M4) ∧ ((nI (M4.1 9 k1 5)) = 0 → am_ix (nI (M4.1 9 k1 0)) 4 (fun k5 => w_X1_write M4 k5 x2 (nI 6) (nI 0) (fun M6 => w_X4_forget M6 k1 (fun M7 => Q M7)))))))) ∧ (¬ (nI (M.1 9 k1 1)) = (nI 3) → Q M))) := h
theorem w_X0_hearAck_i {M : am_M} {x1 : Int32} {x2 : Int32} {Q : am_M → Prop} (h : am_ix x2 10 (fun k1 => (((nI (M.1 9 k1 1)) = (nI 3) → w_X0_only M x1 (fun y3 M2 => am_sf (am_c1 M2 9 k1 5) ((nI (M.1 9 k1 5)) &&& (y3 ^^^ (-1))) (fun M4 => ((¬ (nI (M4.1 9 k1 5)) = 0 → Q M4) ∧ ((nI (M4.1 9 k1 5)) = 0 → am_ix (nI (M4.1 9 k1 0)) 4 (fun k5 => w_X1_write M4 k5 x2 (nI 6) (nI 0) (fun M6 => w_X4_forget M6 k1 (fun M7 => Q M7)))))))) ∧ (¬ (nI (M.1 9 k1 1)) = (nI 3) → Q M)))) : w_X0_hearAck M x1 x2 Q := h
def w_X0_hearInquiry (M : am_M) (x1 : Int32) (x2 : Int32) (x3 : Int32) (Q : am_M → Prop) : Prop := am_ix x3 10 (fun k1 => am_let (nI (M.1 9 k1 1)) (fun y2 => ((¬ y2 = (nI 3) → ((¬ y2 = 0 → Q M) ∧ (y2 = 0 → w_X2_send M (nI 6) x2 x1 x3 (fun M3 => Q M3)))) ∧ (y2 = (nI 3) → w_X2_send M (nI 5) x2 x1 x3 (fun M4 => Q M4)))))
theorem w_X0_hearInquiry_s {M : am_M} {x1 : Int32} {x2 : Int32} {x3 : Int32} {Q : am_M → Prop} (h : w_X0_hearInquiry M x1 x2 x3 Q) : am_ix x3 10 (fun k1 => am_let (nI (M.1 9 k1 1)) (fun y2 => ((¬ y2 = (nI 3) → ((¬ y2 = 0 → Q M) ∧ (y2 = 0 → w_X2_send M (nI 6) x2 x1 x3 (fun M3 => Q M3)))) ∧ (y2 = (nI 3) → w_X2_send M (nI 5) x2 x1 x3 (fun M4 => Q M4))))) := h
theorem w_X0_hearInquiry_i {M : am_M} {x1 : Int32} {x2 : Int32} {x3 : Int32} {Q : am_M → Prop} (h : am_ix x3 10 (fun k1 => am_let (nI (M.1 9 k1 1)) (fun y2 => ((¬ y2 = (nI 3) → ((¬ y2 = 0 → Q M) ∧ (y2 = 0 → w_X2_send M (nI 6) x2 x1 x3 (fun M3 => Q M3)))) ∧ (y2 = (nI 3) → w_X2_send M (nI 5) x2 x1 x3 (fun M4 => Q M4)))))) : w_X0_hearInquiry M x1 x2 x3 Q := h
def w_X0_hear (M : am_M) (x1 : Int32) (x2 : Int32) (x3 : Int32) (x4 : Int32) (Q : am_M → Prop) : Prop := ((x1 = (nI 1) → am_ix x3 4 (fun k1 => w_X3_voteOn M k1 x4 (fun y3 M2 => w_X2_send M2 y3 x3 x2 x4 (fun M4 => Q M4)))) ∧ (¬ x1 = (nI 1) → ((x1 = (nI 2) → w_X0_hearVote M x1 x2 x4 (fun M5 => Q M5)) ∧ (¬ x1 = (nI 2) → ((x1 = (nI 3) → w_X0_hearVote M x1 x2 x4 (fun M6 => Q M6)) ∧ (¬ x1 = (nI 3) → ((x1 = (nI 4) → w_X0_hearVote M x1 x2 x4 (fun M7 => Q M7)) ∧ (¬ x1 = (nI 4) → ((x1 = (nI 5) → am_ix x3 4 (fun k8 => w_X3_finishCommit M k8 x4 (fun M9 => w_X2_send M9 (nI 7) x3 x2 x4 (fun M10 => Q M10)))) ∧ (¬ x1 = (nI 5) → ((x1 = (nI 6) → am_ix x3 4 (fun k11 => w_X3_abort M k11 x4 (fun M12 => Q M12))) ∧ (¬ x1 = (nI 6) → ((x1 = (nI 7) → w_X0_hearAck M x2 x4 (fun M13 => Q M13)) ∧ (¬ x1 = (nI 7) → ((x1 = (nI 8) → w_X0_hearInquiry M x2 x3 x4 (fun M14 => Q M14)) ∧ (¬ x1 = (nI 8) → Q M))))))))))))))))
theorem w_X0_hear_s {M : am_M} {x1 : Int32} {x2 : Int32} {x3 : Int32} {x4 : Int32} {Q : am_M → Prop} (h : w_X0_hear M x1 x2 x3 x4 Q) : ((x1 = (nI 1) → am_ix x3 4 (fun k1 => w_X3_voteOn M k1 x4 (fun y3 M2 => w_X2_send M2 y3 x3 x2 x4 (fun M4 => Q M4)))) ∧ (¬ x1 = (nI 1) → ((x1 = (nI 2) → w_X0_hearVote M x1 x2 x4 (fun M5 => Q M5)) ∧ (¬ x1 = (nI 2) → ((x1 = (nI 3) → w_X0_hearVote M x1 x2 x4 (fun M6 => Q M6)) ∧ (¬ x1 = (nI 3) → ((x1 = (nI 4) → w_X0_hearVote M x1 x2 x4 (fun M7 => Q M7)) ∧ (¬ x1 = (nI 4) → ((x1 = (nI 5) → am_ix x3 4 (fun k8 => w_X3_finishCommit M k8 x4 (fun M9 => w_X2_send M9 (nI 7) x3 x2 x4 (fun M10 => Q M10)))) ∧ (¬ x1 = (nI 5) → ((x1 = (nI 6) → am_ix x3 4 (fun k11 => w_X3_abort M k11 x4 (fun M12 => Q M12))) ∧ (¬ x1 = (nI 6) → ((x1 = (nI 7) → w_X0_hearAck M x2 x4 (fun M13 => Q M13)) ∧ (¬ x1 = (nI 7) → ((x1 = (nI 8) → w_X0_hearInquiry M x2 x3 x4 (fun M14 => Q M14)) ∧ (¬ x1 = (nI 8) → Q M)))))))))))))))) := h
theorem w_X0_hear_i {M : am_M} {x1 : Int32} {x2 : Int32} {x3 : Int32} {x4 : Int32} {Q : am_M → Prop} (h : ((x1 = (nI 1) → am_ix x3 4 (fun k1 => w_X3_voteOn M k1 x4 (fun y3 M2 => w_X2_send M2 y3 x3 x2 x4 (fun M4 => Q M4)))) ∧ (¬ x1 = (nI 1) → ((x1 = (nI 2) → w_X0_hearVote M x1 x2 x4 (fun M5 => Q M5)) ∧ (¬ x1 = (nI 2) → ((x1 = (nI 3) → w_X0_hearVote M x1 x2 x4 (fun M6 => Q M6)) ∧ (¬ x1 = (nI 3) → ((x1 = (nI 4) → w_X0_hearVote M x1 x2 x4 (fun M7 => Q M7)) ∧ (¬ x1 = (nI 4) → ((x1 = (nI 5) → am_ix x3 4 (fun k8 => w_X3_finishCommit M k8 x4 (fun M9 => w_X2_send M9 (nI 7) x3 x2 x4 (fun M10 => Q M10)))) ∧ (¬ x1 = (nI 5) → ((x1 = (nI 6) → am_ix x3 4 (fun k11 => w_X3_abort M k11 x4 (fun M12 => Q M12))) ∧ (¬ x1 = (nI 6) → ((x1 = (nI 7) → w_X0_hearAck M x2 x4 (fun M13 => Q M13)) ∧ (¬ x1 = (nI 7) → ((x1 = (nI 8) → w_X0_hearInquiry M x2 x3 x4 (fun M14 => Q M14)) ∧ (¬ x1 = (nI 8) → Q M))))))))))))))))) : w_X0_hear M x1 x2 x3 x4 Q := h
def w_X0_deliver (M : am_M) (x1 : Int32) (Q : Int32 → am_M → Prop) : Prop := w_X2_has M x1 (fun y2 M1 => ((¬ y2 = 0 → am_ix (nI 0) 4 (fun k3 => am_ix x1 40 (fun k4 => am_let (nI (M1.1 2 k3 k4)) (fun y5 => am_ix (nI 1) 4 (fun k6 => am_ix x1 40 (fun k7 => am_let (nI (M1.1 2 k6 k7)) (fun y8 => am_ix (nI 2) 4 (fun k9 => am_ix x1 40 (fun k10 => am_let (nI (M1.1 2 k9 k10)) (fun y11 => am_ix (nI 3) 4 (fun k12 => am_ix x1 40 (fun k13 => am_let (nI (M1.1 2 k12 k13)) (fun y14 => w_X2_takeOut M1 x1 (fun M15 => am_ix y11 4 (fun k16 => (((nI (M15.1 3 k16 0)) = 0 → Q y5 M15) ∧ (¬ (nI (M15.1 3 k16 0)) = 0 → w_X0_hear M15 y5 y8 y11 y14 (fun M17 => Q y5 M17)))))))))))))))))) ∧ (y2 = 0 → Q (-2) M1)))
theorem w_X0_deliver_s {M : am_M} {x1 : Int32} {Q : Int32 → am_M → Prop} (h : w_X0_deliver M x1 Q) : w_X2_has M x1 (fun y2 M1 => ((¬ y2 = 0 → am_ix (nI 0) 4 (fun k3 => am_ix x1 40 (fun k4 => am_let (nI (M1.1 2 k3 k4)) (fun y5 => am_ix (nI 1) 4 (fun k6 => am_ix x1 40 (fun k7 => am_let (nI (M1.1 2 k6 k7)) (fun y8 => am_ix (nI 2) 4 (fun k9 => am_ix x1 40 (fun k10 => am_let (nI (M1.1 2 k9 k10)) (fun y11 => am_ix (nI 3) 4 (fun k12 => am_ix x1 40 (fun k13 => am_let (nI (M1.1 2 k12 k13)) (fun y14 => w_X2_takeOut M1 x1 (fun M15 => am_ix y11 4 (fun k16 => (((nI (M15.1 3 k16 0)) = 0 → Q y5 M15) ∧ (¬ (nI (M15.1 3 k16 0)) = 0 → w_X0_hear M15 y5 y8 y11 y14 (fun M17 => Q y5 M17)))))))))))))))))) ∧ (y2 = 0 → Q (-2) M1))) := h
theorem w_X0_deliver_i {M : am_M} {x1 : Int32} {Q : Int32 → am_M → Prop} (h : w_X2_has M x1 (fun y2 M1 => ((¬ y2 = 0 → am_ix (nI 0) 4 (fun k3 => am_ix x1 40 (fun k4 => am_let (nI (M1.1 2 k3 k4)) (fun y5 => am_ix (nI 1) 4 (fun k6 => am_ix x1 40 (fun k7 => am_let (nI (M1.1 2 k6 k7)) (fun y8 => am_ix (nI 2) 4 (fun k9 => am_ix x1 40 (fun k10 => am_let (nI (M1.1 2 k9 k10)) (fun y11 => am_ix (nI 3) 4 (fun k12 => am_ix x1 40 (fun k13 => am_let (nI (M1.1 2 k12 k13)) (fun y14 => w_X2_takeOut M1 x1 (fun M15 => am_ix y11 4 (fun k16 => (((nI (M15.1 3 k16 0)) = 0 → Q y5 M15) ∧ (¬ (nI (M15.1 3 k16 0)) = 0 → w_X0_hear M15 y5 y8 y11 y14 (fun M17 => Q y5 M17)))))))))))))))))) ∧ (y2 = 0 → Q (-2) M1)))) : w_X0_deliver M x1 Q := h
def w_X0_lose (M : am_M) (x1 : Int32) (Q : Int32 → am_M → Prop) : Prop := w_X2_has M x1 (fun y2 M1 => ((¬ y2 = 0 → am_ix (nI 0) 4 (fun k3 => am_ix x1 40 (fun k4 => am_let (nI (M1.1 2 k3 k4)) (fun y5 => w_X2_takeOut M1 x1 (fun M6 => Q y5 M6))))) ∧ (y2 = 0 → Q (-2) M1)))
theorem w_X0_lose_s {M : am_M} {x1 : Int32} {Q : Int32 → am_M → Prop} (h : w_X0_lose M x1 Q) : w_X2_has M x1 (fun y2 M1 => ((¬ y2 = 0 → am_ix (nI 0) 4 (fun k3 => am_ix x1 40 (fun k4 => am_let (nI (M1.1 2 k3 k4)) (fun y5 => w_X2_takeOut M1 x1 (fun M6 => Q y5 M6))))) ∧ (y2 = 0 → Q (-2) M1))) := h
theorem w_X0_lose_i {M : am_M} {x1 : Int32} {Q : Int32 → am_M → Prop} (h : w_X2_has M x1 (fun y2 M1 => ((¬ y2 = 0 → am_ix (nI 0) 4 (fun k3 => am_ix x1 40 (fun k4 => am_let (nI (M1.1 2 k3 k4)) (fun y5 => w_X2_takeOut M1 x1 (fun M6 => Q y5 M6))))) ∧ (y2 = 0 → Q (-2) M1)))) : w_X0_lose M x1 Q := h
def w_X0_expireAsMember (M : am_M) (x1 : Int32) (x2 : Int32) (Q : Int32 → am_M → Prop) : Prop := am_ix x1 4 (fun k1 => am_ix x2 10 (fun k2 => ((¬ (nI (M.1 4 k1 k2)) = 0 → am_ix x2 10 (fun k3 => ((¬ (nI (M.1 4 k1 k3)) = (nI 3) → w_X3_abort M k1 x2 (fun M4 => Q (nI 1) M4)) ∧ ((nI (M.1 4 k1 k3)) = (nI 3) → am_ix x2 10 (fun k5 => w_X2_send M (nI 8) x1 (nI (M.1 9 k5 0)) x2 (fun M6 => Q (nI 1) M6)))))) ∧ ((nI (M.1 4 k1 k2)) = 0 → Q (-4) M))))
theorem w_X0_expireAsMember_s {M : am_M} {x1 : Int32} {x2 : Int32} {Q : Int32 → am_M → Prop} (h : w_X0_expireAsMember M x1 x2 Q) : am_ix x1 4 (fun k1 => am_ix x2 10 (fun k2 => ((¬ (nI (M.1 4 k1 k2)) = 0 → am_ix x2 10 (fun k3 => ((¬ (nI (M.1 4 k1 k3)) = (nI 3) → w_X3_abort M k1 x2 (fun M4 => Q (nI 1) M4)) ∧ ((nI (M.1 4 k1 k3)) = (nI 3) → am_ix x2 10 (fun k5 => w_X2_send M (nI 8) x1 (nI (M.1 9 k5 0)) x2 (fun M6 => Q (nI 1) M6)))))) ∧ ((nI (M.1 4 k1 k2)) = 0 → Q (-4) M)))) := h
theorem w_X0_expireAsMember_i {M : am_M} {x1 : Int32} {x2 : Int32} {Q : Int32 → am_M → Prop} (h : am_ix x1 4 (fun k1 => am_ix x2 10 (fun k2 => ((¬ (nI (M.1 4 k1 k2)) = 0 → am_ix x2 10 (fun k3 => ((¬ (nI (M.1 4 k1 k3)) = (nI 3) → w_X3_abort M k1 x2 (fun M4 => Q (nI 1) M4)) ∧ ((nI (M.1 4 k1 k3)) = (nI 3) → am_ix x2 10 (fun k5 => w_X2_send M (nI 8) x1 (nI (M.1 9 k5 0)) x2 (fun M6 => Q (nI 1) M6)))))) ∧ ((nI (M.1 4 k1 k2)) = 0 → Q (-4) M))))) : w_X0_expireAsMember M x1 x2 Q := h
def w_X0_expireAsCoordinator (M : am_M) (x1 : Int32) (Q : Int32 → am_M → Prop) : Prop := am_ix x1 10 (fun k1 => ((¬ (nI (M.1 9 k1 1)) = (nI 2) → ((¬ (nI (M.1 9 k1 1)) = (nI 3) → Q (-4) M) ∧ ((nI (M.1 9 k1 1)) = (nI 3) → w_X2_sendToEach M (nI 5) (nI (M.1 9 k1 0)) (nI (M.1 9 k1 5)) x1 (fun M2 => Q (nI 1) M2)))) ∧ ((nI (M.1 9 k1 1)) = (nI 2) → w_X0_giveUp M x1 (nI 0) (fun y4 M3 => Q (nI 1) M3))))
theorem w_X0_expireAsCoordinator_s {M : am_M} {x1 : Int32} {Q : Int32 → am_M → Prop} (h : w_X0_expireAsCoordinator M x1 Q) : am_ix x1 10 (fun k1 => ((¬ (nI (M.1 9 k1 1)) = (nI 2) → ((¬ (nI (M.1 9 k1 1)) = (nI 3) → Q (-4) M) ∧ ((nI (M.1 9 k1 1)) = (nI 3) → w_X2_sendToEach M (nI 5) (nI (M.1 9 k1 0)) (nI (M.1 9 k1 5)) x1 (fun M2 => Q (nI 1) M2)))) ∧ ((nI (M.1 9 k1 1)) = (nI 2) → w_X0_giveUp M x1 (nI 0) (fun y4 M3 => Q (nI 1) M3)))) := h
theorem w_X0_expireAsCoordinator_i {M : am_M} {x1 : Int32} {Q : Int32 → am_M → Prop} (h : am_ix x1 10 (fun k1 => ((¬ (nI (M.1 9 k1 1)) = (nI 2) → ((¬ (nI (M.1 9 k1 1)) = (nI 3) → Q (-4) M) ∧ ((nI (M.1 9 k1 1)) = (nI 3) → w_X2_sendToEach M (nI 5) (nI (M.1 9 k1 0)) (nI (M.1 9 k1 5)) x1 (fun M2 => Q (nI 1) M2)))) ∧ ((nI (M.1 9 k1 1)) = (nI 2) → w_X0_giveUp M x1 (nI 0) (fun y4 M3 => Q (nI 1) M3))))) : w_X0_expireAsCoordinator M x1 Q := h
def w_X0_expire_J38 (M8 : am_M) (y5 : Int32) (y6 : Int32) (y7 : Int32) (Q : Int32 → am_M → Prop) : Prop := am_ix y5 4 (fun k9 => ((¬ (nI (M8.1 3 k9 0)) = 0 → ((y7 = 0 → w_X0_expireAsCoordinator M8 y6 (fun y11 M10 => Q y11 M10)) ∧ (¬ y7 = 0 → w_X0_expireAsMember M8 y5 y6 (fun y13 M12 => Q y13 M12)))) ∧ ((nI (M8.1 3 k9 0)) = 0 → Q (-3) M8)))
theorem w_X0_expire_J38_s {M8 : am_M} {y5 : Int32} {y6 : Int32} {y7 : Int32} {Q : Int32 → am_M → Prop} (h : w_X0_expire_J38 M8 y5 y6 y7 Q) : am_ix y5 4 (fun k9 => ((¬ (nI (M8.1 3 k9 0)) = 0 → ((y7 = 0 → w_X0_expireAsCoordinator M8 y6 (fun y11 M10 => Q y11 M10)) ∧ (¬ y7 = 0 → w_X0_expireAsMember M8 y5 y6 (fun y13 M12 => Q y13 M12)))) ∧ ((nI (M8.1 3 k9 0)) = 0 → Q (-3) M8))) := h
theorem w_X0_expire_J38_i {M8 : am_M} {y5 : Int32} {y6 : Int32} {y7 : Int32} {Q : Int32 → am_M → Prop} (h : am_ix y5 4 (fun k9 => ((¬ (nI (M8.1 3 k9 0)) = 0 → ((y7 = 0 → w_X0_expireAsCoordinator M8 y6 (fun y11 M10 => Q y11 M10)) ∧ (¬ y7 = 0 → w_X0_expireAsMember M8 y5 y6 (fun y13 M12 => Q y13 M12)))) ∧ ((nI (M8.1 3 k9 0)) = 0 → Q (-3) M8)))) : w_X0_expire_J38 M8 y5 y6 y7 Q := h
def w_X0_expire (M : am_M) (x1 : Int32) (x2 : Int32) (x3 : Int32) (Q : Int32 → am_M → Prop) : Prop := w_X0_isNode M x1 (fun y2 M1 => ((y2 = 0 → Q (-2) M1) ∧ (¬ y2 = 0 → w_X0_isTransaction M1 x2 (fun y4 M3 => ((¬ y4 = 0 → ((¬ x3 = 0 → w_X0_expire_J38 M3 x1 x2 x3 Q) ∧ (x3 = 0 → am_ix x2 10 (fun k14 => (((nI (M3.1 9 k14 0)) = x1 → w_X0_expire_J38 M3 x1 x2 x3 Q) ∧ (¬ (nI (M3.1 9 k14 0)) = x1 → Q (-2) M3)))))) ∧ (y4 = 0 → Q (-2) M3))))))
theorem w_X0_expire_s {M : am_M} {x1 : Int32} {x2 : Int32} {x3 : Int32} {Q : Int32 → am_M → Prop} (h : w_X0_expire M x1 x2 x3 Q) : w_X0_isNode M x1 (fun y2 M1 => ((y2 = 0 → Q (-2) M1) ∧ (¬ y2 = 0 → w_X0_isTransaction M1 x2 (fun y4 M3 => ((¬ y4 = 0 → ((¬ x3 = 0 → w_X0_expire_J38 M3 x1 x2 x3 Q) ∧ (x3 = 0 → am_ix x2 10 (fun k14 => (((nI (M3.1 9 k14 0)) = x1 → w_X0_expire_J38 M3 x1 x2 x3 Q) ∧ (¬ (nI (M3.1 9 k14 0)) = x1 → Q (-2) M3)))))) ∧ (y4 = 0 → Q (-2) M3)))))) := h
theorem w_X0_expire_i {M : am_M} {x1 : Int32} {x2 : Int32} {x3 : Int32} {Q : Int32 → am_M → Prop} (h : w_X0_isNode M x1 (fun y2 M1 => ((y2 = 0 → Q (-2) M1) ∧ (¬ y2 = 0 → w_X0_isTransaction M1 x2 (fun y4 M3 => ((¬ y4 = 0 → ((¬ x3 = 0 → w_X0_expire_J38 M3 x1 x2 x3 Q) ∧ (x3 = 0 → am_ix x2 10 (fun k14 => (((nI (M3.1 9 k14 0)) = x1 → w_X0_expire_J38 M3 x1 x2 x3 Q) ∧ (¬ (nI (M3.1 9 k14 0)) = x1 → Q (-2) M3)))))) ∧ (y4 = 0 → Q (-2) M3))))))) : w_X0_expire M x1 x2 x3 Q := h
def w_X1_dropUnsafe (M : am_M) (n : Nat) (Q : Int32 → am_M → Prop) : Prop := am_let ((nI (M.1 6 n 2)) - (nI (M.1 6 n 3))) (fun y1 => am_sf (am_c1 M 6 n 2) (nI (M.1 6 n 3)) (fun M2 => Q y1 M2))
theorem w_X1_dropUnsafe_s {M : am_M} {n : Nat} {Q : Int32 → am_M → Prop} (h : w_X1_dropUnsafe M n Q) : am_let ((nI (M.1 6 n 2)) - (nI (M.1 6 n 3))) (fun y1 => am_sf (am_c1 M 6 n 2) (nI (M.1 6 n 3)) (fun M2 => Q y1 M2)) := h
theorem w_X1_dropUnsafe_i {M : am_M} {n : Nat} {Q : Int32 → am_M → Prop} (h : am_let ((nI (M.1 6 n 2)) - (nI (M.1 6 n 3))) (fun y1 => am_sf (am_c1 M 6 n 2) (nI (M.1 6 n 3)) (fun M2 => Q y1 M2))) : w_X1_dropUnsafe M n Q := h
def w_X0_crash_L34 (k3 : Nat) (x1 : Int32) (Q : Int32 → am_M → Prop) (K : am_M → Int32 → Prop) : Nat → am_M → Int32 → Prop
  | 0, _, _ => False
  | f34 + 1, M7, z6 => (((nI (M7.1 0 0 3)) ≤ z6 → K M7 z6) ∧ (¬ (nI (M7.1 0 0 3)) ≤ z6 → w_X3_letGo M7 k3 z6 (fun M8 => am_ix z6 10 (fun k9 => ((¬ (nI (M8.1 9 k9 0)) = x1 → am_let (z6 + nI 1) (fun y10 => w_X0_crash_L34 k3 x1 Q K f34 M8 y10)) ∧ ((nI (M8.1 9 k9 0)) = x1 → am_ix z6 10 (fun k11 => w_X4_forget M8 k11 (fun M12 => am_let (z6 + nI 1) (fun y13 => w_X0_crash_L34 k3 x1 Q K f34 M12 y13)))))))))
theorem w_X0_crash_L34_s {k3 : Nat} {x1 : Int32} {Q : Int32 → am_M → Prop} {K : am_M → Int32 → Prop} {f34 : Nat} {M7 : am_M} {z6 : Int32} (h : w_X0_crash_L34 k3 x1 Q K (f34 + 1) M7 z6) : (((nI (M7.1 0 0 3)) ≤ z6 → K M7 z6) ∧ (¬ (nI (M7.1 0 0 3)) ≤ z6 → w_X3_letGo M7 k3 z6 (fun M8 => am_ix z6 10 (fun k9 => ((¬ (nI (M8.1 9 k9 0)) = x1 → am_let (z6 + nI 1) (fun y10 => w_X0_crash_L34 k3 x1 Q K f34 M8 y10)) ∧ ((nI (M8.1 9 k9 0)) = x1 → am_ix z6 10 (fun k11 => w_X4_forget M8 k11 (fun M12 => am_let (z6 + nI 1) (fun y13 => w_X0_crash_L34 k3 x1 Q K f34 M12 y13))))))))) := h
theorem w_X0_crash_L34_i {k3 : Nat} {x1 : Int32} {Q : Int32 → am_M → Prop} {K : am_M → Int32 → Prop} {f34 : Nat} {M7 : am_M} {z6 : Int32} (h : (((nI (M7.1 0 0 3)) ≤ z6 → K M7 z6) ∧ (¬ (nI (M7.1 0 0 3)) ≤ z6 → w_X3_letGo M7 k3 z6 (fun M8 => am_ix z6 10 (fun k9 => ((¬ (nI (M8.1 9 k9 0)) = x1 → am_let (z6 + nI 1) (fun y10 => w_X0_crash_L34 k3 x1 Q K f34 M8 y10)) ∧ ((nI (M8.1 9 k9 0)) = x1 → am_ix z6 10 (fun k11 => w_X4_forget M8 k11 (fun M12 => am_let (z6 + nI 1) (fun y13 => w_X0_crash_L34 k3 x1 Q K f34 M12 y13)))))))))) : w_X0_crash_L34 k3 x1 Q K (f34 + 1) M7 z6 := h
def w_X0_crash (M : am_M) (x1 : Int32) (Q : Int32 → am_M → Prop) : Prop := w_X0_isNode M x1 (fun y2 M1 => ((¬ y2 = 0 → am_ix x1 4 (fun k3 => ((¬ (nI (M1.1 3 k3 0)) = 0 → am_sfz (am_c1 M1 3 k3 0) (nI 0) (fun M4 => am_let (nI 0) (fun y5 => (∃ f34 : Nat, w_X0_crash_L34 k3 x1 Q (fun M14 z15 => w_X1_dropUnsafe M14 k3 (fun y17 M16 => Q y17 M16)) f34 M4 y5)))) ∧ ((nI (M1.1 3 k3 0)) = 0 → Q (-3) M1)))) ∧ (y2 = 0 → Q (-2) M1)))
theorem w_X0_crash_s {M : am_M} {x1 : Int32} {Q : Int32 → am_M → Prop} (h : w_X0_crash M x1 Q) : w_X0_isNode M x1 (fun y2 M1 => ((¬ y2 = 0 → am_ix x1 4 (fun k3 => ((¬ (nI (M1.1 3 k3 0)) = 0 → am_sfz (am_c1 M1 3 k3 0) (nI 0) (fun M4 => am_let (nI 0) (fun y5 => (∃ f34 : Nat, w_X0_crash_L34 k3 x1 Q (fun M14 z15 => w_X1_dropUnsafe M14 k3 (fun y17 M16 => Q y17 M16)) f34 M4 y5)))) ∧ ((nI (M1.1 3 k3 0)) = 0 → Q (-3) M1)))) ∧ (y2 = 0 → Q (-2) M1))) := h
theorem w_X0_crash_i {M : am_M} {x1 : Int32} {Q : Int32 → am_M → Prop} (h : w_X0_isNode M x1 (fun y2 M1 => ((¬ y2 = 0 → am_ix x1 4 (fun k3 => ((¬ (nI (M1.1 3 k3 0)) = 0 → am_sfz (am_c1 M1 3 k3 0) (nI 0) (fun M4 => am_let (nI 0) (fun y5 => (∃ f34 : Nat, w_X0_crash_L34 k3 x1 Q (fun M14 z15 => w_X1_dropUnsafe M14 k3 (fun y17 M16 => Q y17 M16)) f34 M4 y5)))) ∧ ((nI (M1.1 3 k3 0)) = 0 → Q (-3) M1)))) ∧ (y2 = 0 → Q (-2) M1)))) : w_X0_crash M x1 Q := h
def w_X1_find_L9 (y3 : Int32) (n : Nat) (x1 : Int32) (x2 : Int32) (Q : Int32 → am_M → Prop) (K : am_M → Int32 → Prop) : Nat → am_M → Int32 → Prop
  | 0, _, _ => False
  | f9 + 1, M6, z5 => (((nI (M6.1 6 n 2)) ≤ z5 → K M6 z5) ∧ (¬ (nI (M6.1 6 n 2)) ≤ z5 → am_ix z5 60 (fun k7 => ((¬ (nI (M6.1 7 n k7)) = y3 → am_let (z5 + nI 1) (fun y8 => w_X1_find_L9 y3 n x1 x2 Q K f9 M6 y8)) ∧ ((nI (M6.1 7 n k7)) = y3 → Q z5 M6)))))
theorem w_X1_find_L9_s {y3 : Int32} {n : Nat} {x1 : Int32} {x2 : Int32} {Q : Int32 → am_M → Prop} {K : am_M → Int32 → Prop} {f9 : Nat} {M6 : am_M} {z5 : Int32} (h : w_X1_find_L9 y3 n x1 x2 Q K (f9 + 1) M6 z5) : (((nI (M6.1 6 n 2)) ≤ z5 → K M6 z5) ∧ (¬ (nI (M6.1 6 n 2)) ≤ z5 → am_ix z5 60 (fun k7 => ((¬ (nI (M6.1 7 n k7)) = y3 → am_let (z5 + nI 1) (fun y8 => w_X1_find_L9 y3 n x1 x2 Q K f9 M6 y8)) ∧ ((nI (M6.1 7 n k7)) = y3 → Q z5 M6))))) := h
theorem w_X1_find_L9_i {y3 : Int32} {n : Nat} {x1 : Int32} {x2 : Int32} {Q : Int32 → am_M → Prop} {K : am_M → Int32 → Prop} {f9 : Nat} {M6 : am_M} {z5 : Int32} (h : (((nI (M6.1 6 n 2)) ≤ z5 → K M6 z5) ∧ (¬ (nI (M6.1 6 n 2)) ≤ z5 → am_ix z5 60 (fun k7 => ((¬ (nI (M6.1 7 n k7)) = y3 → am_let (z5 + nI 1) (fun y8 => w_X1_find_L9 y3 n x1 x2 Q K f9 M6 y8)) ∧ ((nI (M6.1 7 n k7)) = y3 → Q z5 M6)))))) : w_X1_find_L9 y3 n x1 x2 Q K (f9 + 1) M6 z5 := h
def w_X1_find (M : am_M) (n : Nat) (x1 : Int32) (x2 : Int32) (Q : Int32 → am_M → Prop) : Prop := w_X1_labelOf M x1 x2 (fun y2 M1 => am_let y2 (fun y3 => am_let (nI 0) (fun y4 => (∃ f9 : Nat, w_X1_find_L9 y3 n x1 x2 Q (fun M9 z10 => Q (-1) M9) f9 M1 y4))))
theorem w_X1_find_s {M : am_M} {n : Nat} {x1 : Int32} {x2 : Int32} {Q : Int32 → am_M → Prop} (h : w_X1_find M n x1 x2 Q) : w_X1_labelOf M x1 x2 (fun y2 M1 => am_let y2 (fun y3 => am_let (nI 0) (fun y4 => (∃ f9 : Nat, w_X1_find_L9 y3 n x1 x2 Q (fun M9 z10 => Q (-1) M9) f9 M1 y4)))) := h
theorem w_X1_find_i {M : am_M} {n : Nat} {x1 : Int32} {x2 : Int32} {Q : Int32 → am_M → Prop} (h : w_X1_labelOf M x1 x2 (fun y2 M1 => am_let y2 (fun y3 => am_let (nI 0) (fun y4 => (∃ f9 : Nat, w_X1_find_L9 y3 n x1 x2 Q (fun M9 z10 => Q (-1) M9) f9 M1 y4))))) : w_X1_find M n x1 x2 Q := h
def w_X3_restorePrepared (M : am_M) (n : Nat) (x1 : Int32) (Q : Int32 → am_M → Prop) : Prop := w_X1_find M n x1 (nI 1) (fun y2 M1 => am_let y2 (fun y3 => ((y3 = (-1) → Q (nI 0) M1) ∧ (¬ y3 = (-1) → w_X1_find M1 n x1 (nI 2) (fun y5 M4 => ((¬ y5 = (-1) → Q (nI 0) M4) ∧ (y5 = (-1) → w_X1_find M4 n x1 (nI 3) (fun y7 M6 => ((y7 = (-1) → am_sa (am_c1 M6 4 n) 10 x1 (nI 3) (fun M8 => am_ix y3 60 (fun k9 => am_sa (am_c1 M8 5 n) 10 x1 (nI (M8.1 8 n k9)) (fun M10 => Q (nI 1) M10)))) ∧ (¬ y7 = (-1) → Q (nI 0) M6))))))))))
theorem w_X3_restorePrepared_s {M : am_M} {n : Nat} {x1 : Int32} {Q : Int32 → am_M → Prop} (h : w_X3_restorePrepared M n x1 Q) : w_X1_find M n x1 (nI 1) (fun y2 M1 => am_let y2 (fun y3 => ((y3 = (-1) → Q (nI 0) M1) ∧ (¬ y3 = (-1) → w_X1_find M1 n x1 (nI 2) (fun y5 M4 => ((¬ y5 = (-1) → Q (nI 0) M4) ∧ (y5 = (-1) → w_X1_find M4 n x1 (nI 3) (fun y7 M6 => ((y7 = (-1) → am_sa (am_c1 M6 4 n) 10 x1 (nI 3) (fun M8 => am_ix y3 60 (fun k9 => am_sa (am_c1 M8 5 n) 10 x1 (nI (M8.1 8 n k9)) (fun M10 => Q (nI 1) M10)))) ∧ (¬ y7 = (-1) → Q (nI 0) M6)))))))))) := h
theorem w_X3_restorePrepared_i {M : am_M} {n : Nat} {x1 : Int32} {Q : Int32 → am_M → Prop} (h : w_X1_find M n x1 (nI 1) (fun y2 M1 => am_let y2 (fun y3 => ((y3 = (-1) → Q (nI 0) M1) ∧ (¬ y3 = (-1) → w_X1_find M1 n x1 (nI 2) (fun y5 M4 => ((¬ y5 = (-1) → Q (nI 0) M4) ∧ (y5 = (-1) → w_X1_find M4 n x1 (nI 3) (fun y7 M6 => ((y7 = (-1) → am_sa (am_c1 M6 4 n) 10 x1 (nI 3) (fun M8 => am_ix y3 60 (fun k9 => am_sa (am_c1 M8 5 n) 10 x1 (nI (M8.1 8 n k9)) (fun M10 => Q (nI 1) M10)))) ∧ (¬ y7 = (-1) → Q (nI 0) M6))))))))))) : w_X3_restorePrepared M n x1 Q := h
def w_X0_restoreCommitting (M : am_M) (x1 : Int32) (x2 : Int32) (Q : Int32 → am_M → Prop) : Prop := am_ix x1 4 (fun k1 => w_X1_find M k1 x2 (nI 4) (fun y3 M2 => am_let y3 (fun y4 => ((y4 = (-1) → Q (nI 0) M2) ∧ (¬ y4 = (-1) → w_X1_find M2 k1 x2 (nI 6) (fun y6 M5 => ((y6 = (-1) → am_ix y4 60 (fun k7 => am_let (nI (M5.1 8 k1 k7)) (fun y8 => am_ix x2 10 (fun k9 => am_sf (am_c1 M5 9 k9 1) (nI 3) (fun M10 => am_sf (am_c1 M10 9 k9 2) y8 (fun M11 => am_sf (am_c1 M11 9 k9 3) y8 (fun M12 => am_sf (am_c1 M12 9 k9 5) y8 (fun M13 => w_X2_sendToEach M13 (nI 5) x1 y8 x2 (fun M14 => Q (nI 1) M14))))))))) ∧ (¬ y6 = (-1) → Q (nI 0) M5))))))))
theorem w_X0_restoreCommitting_s {M : am_M} {x1 : Int32} {x2 : Int32} {Q : Int32 → am_M → Prop} (h : w_X0_restoreCommitting M x1 x2 Q) : am_ix x1 4 (fun k1 => w_X1_find M k1 x2 (nI 4) (fun y3 M2 => am_let y3 (fun y4 => ((y4 = (-1) → Q (nI 0) M2) ∧ (¬ y4 = (-1) → w_X1_find M2 k1 x2 (nI 6) (fun y6 M5 => ((y6 = (-1) → am_ix y4 60 (fun k7 => am_let (nI (M5.1 8 k1 k7)) (fun y8 => am_ix x2 10 (fun k9 => am_sf (am_c1 M5 9 k9 1) (nI 3) (fun M10 => am_sf (am_c1 M10 9 k9 2) y8 (fun M11 => am_sf (am_c1 M11 9 k9 3) y8 (fun M12 => am_sf (am_c1 M12 9 k9 5) y8 (fun M13 => w_X2_sendToEach M13 (nI 5) x1 y8 x2 (fun M14 => Q (nI 1) M14))))))))) ∧ (¬ y6 = (-1) → Q (nI 0) M5)))))))) := h
theorem w_X0_restoreCommitting_i {M : am_M} {x1 : Int32} {x2 : Int32} {Q : Int32 → am_M → Prop} (h : am_ix x1 4 (fun k1 => w_X1_find M k1 x2 (nI 4) (fun y3 M2 => am_let y3 (fun y4 => ((y4 = (-1) → Q (nI 0) M2) ∧ (¬ y4 = (-1) → w_X1_find M2 k1 x2 (nI 6) (fun y6 M5 => ((y6 = (-1) → am_ix y4 60 (fun k7 => am_let (nI (M5.1 8 k1 k7)) (fun y8 => am_ix x2 10 (fun k9 => am_sf (am_c1 M5 9 k9 1) (nI 3) (fun M10 => am_sf (am_c1 M10 9 k9 2) y8 (fun M11 => am_sf (am_c1 M11 9 k9 3) y8 (fun M12 => am_sf (am_c1 M12 9 k9 5) y8 (fun M13 => w_X2_sendToEach M13 (nI 5) x1 y8 x2 (fun M14 => Q (nI 1) M14))))))))) ∧ (¬ y6 = (-1) → Q (nI 0) M5))))))))) : w_X0_restoreCommitting M x1 x2 Q := h
def w_X0_recover_L37 (k3 : Nat) (x1 : Int32) (Q : Int32 → am_M → Prop) (K : am_M → Int32 → Int32 → Prop) : Nat → am_M → Int32 → Int32 → Prop
  | 0, _, _, _ => False
  | f37 + 1, M9, z7, z8 => (((nI (M9.1 0 0 3)) ≤ z8 → K M9 z7 z8) ∧ (¬ (nI (M9.1 0 0 3)) ≤ z8 → w_X3_restorePrepared M9 k3 z8 (fun y11 M10 => ((y11 = 0 → w_X0_restoreCommitting M10 x1 z8 (fun y13 M12 => ((y13 = 0 → am_let (z8 + nI 1) (fun y14 => w_X0_recover_L37 k3 x1 Q K f37 M12 z7 y14)) ∧ (¬ y13 = 0 → am_let (z7 + nI 1) (fun y15 => am_let (z8 + nI 1) (fun y16 => w_X0_recover_L37 k3 x1 Q K f37 M12 y15 y16)))))) ∧ (¬ y11 = 0 → am_let (z7 + nI 1) (fun y17 => w_X0_restoreCommitting M10 x1 z8 (fun y19 M18 => ((y19 = 0 → am_let (z8 + nI 1) (fun y20 => w_X0_recover_L37 k3 x1 Q K f37 M18 y17 y20)) ∧ (¬ y19 = 0 → am_let (y17 + nI 1) (fun y21 => am_let (z8 + nI 1) (fun y22 => w_X0_recover_L37 k3 x1 Q K f37 M18 y21 y22)))))))))))
theorem w_X0_recover_L37_s {k3 : Nat} {x1 : Int32} {Q : Int32 → am_M → Prop} {K : am_M → Int32 → Int32 → Prop} {f37 : Nat} {M9 : am_M} {z7 : Int32} {z8 : Int32} (h : w_X0_recover_L37 k3 x1 Q K (f37 + 1) M9 z7 z8) : (((nI (M9.1 0 0 3)) ≤ z8 → K M9 z7 z8) ∧ (¬ (nI (M9.1 0 0 3)) ≤ z8 → w_X3_restorePrepared M9 k3 z8 (fun y11 M10 => ((y11 = 0 → w_X0_restoreCommitting M10 x1 z8 (fun y13 M12 => ((y13 = 0 → am_let (z8 + nI 1) (fun y14 => w_X0_recover_L37 k3 x1 Q K f37 M12 z7 y14)) ∧ (¬ y13 = 0 → am_let (z7 + nI 1) (fun y15 => am_let (z8 + nI 1) (fun y16 => w_X0_recover_L37 k3 x1 Q K f37 M12 y15 y16)))))) ∧ (¬ y11 = 0 → am_let (z7 + nI 1) (fun y17 => w_X0_restoreCommitting M10 x1 z8 (fun y19 M18 => ((y19 = 0 → am_let (z8 + nI 1) (fun y20 => w_X0_recover_L37 k3 x1 Q K f37 M18 y17 y20)) ∧ (¬ y19 = 0 → am_let (y17 + nI 1) (fun y21 => am_let (z8 + nI 1) (fun y22 => w_X0_recover_L37 k3 x1 Q K f37 M18 y21 y22))))))))))) := h
theorem w_X0_recover_L37_i {k3 : Nat} {x1 : Int32} {Q : Int32 → am_M → Prop} {K : am_M → Int32 → Int32 → Prop} {f37 : Nat} {M9 : am_M} {z7 : Int32} {z8 : Int32} (h : (((nI (M9.1 0 0 3)) ≤ z8 → K M9 z7 z8) ∧ (¬ (nI (M9.1 0 0 3)) ≤ z8 → w_X3_restorePrepared M9 k3 z8 (fun y11 M10 => ((y11 = 0 → w_X0_restoreCommitting M10 x1 z8 (fun y13 M12 => ((y13 = 0 → am_let (z8 + nI 1) (fun y14 => w_X0_recover_L37 k3 x1 Q K f37 M12 z7 y14)) ∧ (¬ y13 = 0 → am_let (z7 + nI 1) (fun y15 => am_let (z8 + nI 1) (fun y16 => w_X0_recover_L37 k3 x1 Q K f37 M12 y15 y16)))))) ∧ (¬ y11 = 0 → am_let (z7 + nI 1) (fun y17 => w_X0_restoreCommitting M10 x1 z8 (fun y19 M18 => ((y19 = 0 → am_let (z8 + nI 1) (fun y20 => w_X0_recover_L37 k3 x1 Q K f37 M18 y17 y20)) ∧ (¬ y19 = 0 → am_let (y17 + nI 1) (fun y21 => am_let (z8 + nI 1) (fun y22 => w_X0_recover_L37 k3 x1 Q K f37 M18 y21 y22)))))))))))) : w_X0_recover_L37 k3 x1 Q K (f37 + 1) M9 z7 z8 := h
def w_X0_recover (M : am_M) (x1 : Int32) (Q : Int32 → am_M → Prop) : Prop := w_X0_isNode M x1 (fun y2 M1 => ((¬ y2 = 0 → am_ix x1 4 (fun k3 => (((nI (M1.1 3 k3 0)) = 0 → am_sfz (am_c1 M1 3 k3 0) (nI 1) (fun M4 => am_let (nI 0) (fun y5 => am_let (nI 0) (fun y6 => (∃ f37 : Nat, w_X0_recover_L37 k3 x1 Q (fun M23 z24 z25 => Q z24 M23) f37 M4 y5 y6))))) ∧ (¬ (nI (M1.1 3 k3 0)) = 0 → Q (-4) M1)))) ∧ (y2 = 0 → Q (-2) M1)))
theorem w_X0_recover_s {M : am_M} {x1 : Int32} {Q : Int32 → am_M → Prop} (h : w_X0_recover M x1 Q) : w_X0_isNode M x1 (fun y2 M1 => ((¬ y2 = 0 → am_ix x1 4 (fun k3 => (((nI (M1.1 3 k3 0)) = 0 → am_sfz (am_c1 M1 3 k3 0) (nI 1) (fun M4 => am_let (nI 0) (fun y5 => am_let (nI 0) (fun y6 => (∃ f37 : Nat, w_X0_recover_L37 k3 x1 Q (fun M23 z24 z25 => Q z24 M23) f37 M4 y5 y6))))) ∧ (¬ (nI (M1.1 3 k3 0)) = 0 → Q (-4) M1)))) ∧ (y2 = 0 → Q (-2) M1))) := h
theorem w_X0_recover_i {M : am_M} {x1 : Int32} {Q : Int32 → am_M → Prop} (h : w_X0_isNode M x1 (fun y2 M1 => ((¬ y2 = 0 → am_ix x1 4 (fun k3 => (((nI (M1.1 3 k3 0)) = 0 → am_sfz (am_c1 M1 3 k3 0) (nI 1) (fun M4 => am_let (nI 0) (fun y5 => am_let (nI 0) (fun y6 => (∃ f37 : Nat, w_X0_recover_L37 k3 x1 Q (fun M23 z24 z25 => Q z24 M23) f37 M4 y5 y6))))) ∧ (¬ (nI (M1.1 3 k3 0)) = 0 → Q (-4) M1)))) ∧ (y2 = 0 → Q (-2) M1)))) : w_X0_recover M x1 Q := h
def w_X0_up (M : am_M) (x1 : Int32) (Q : Int32 → am_M → Prop) : Prop := w_X0_isNode M x1 (fun y2 M1 => ((y2 = 0 → Q (nI 0) M1) ∧ (¬ y2 = 0 → am_ix x1 4 (fun k3 => (((nI (M1.1 3 k3 0)) = 0 → Q (nI 0) M1) ∧ (¬ (nI (M1.1 3 k3 0)) = 0 → Q (nI 1) M1))))))
theorem w_X0_up_s {M : am_M} {x1 : Int32} {Q : Int32 → am_M → Prop} (h : w_X0_up M x1 Q) : w_X0_isNode M x1 (fun y2 M1 => ((y2 = 0 → Q (nI 0) M1) ∧ (¬ y2 = 0 → am_ix x1 4 (fun k3 => (((nI (M1.1 3 k3 0)) = 0 → Q (nI 0) M1) ∧ (¬ (nI (M1.1 3 k3 0)) = 0 → Q (nI 1) M1)))))) := h
theorem w_X0_up_i {M : am_M} {x1 : Int32} {Q : Int32 → am_M → Prop} (h : w_X0_isNode M x1 (fun y2 M1 => ((y2 = 0 → Q (nI 0) M1) ∧ (¬ y2 = 0 → am_ix x1 4 (fun k3 => (((nI (M1.1 3 k3 0)) = 0 → Q (nI 0) M1) ∧ (¬ (nI (M1.1 3 k3 0)) = 0 → Q (nI 1) M1))))))) : w_X0_up M x1 Q := h
def w_X0_stage (M : am_M) (x1 : Int32) (Q : Int32 → am_M → Prop) : Prop := w_X0_isTransaction M x1 (fun y2 M1 => ((y2 = 0 → Q (-2) M1) ∧ (¬ y2 = 0 → am_ix x1 10 (fun k3 => Q (nI (M1.1 9 k3 1)) M1))))
theorem w_X0_stage_s {M : am_M} {x1 : Int32} {Q : Int32 → am_M → Prop} (h : w_X0_stage M x1 Q) : w_X0_isTransaction M x1 (fun y2 M1 => ((y2 = 0 → Q (-2) M1) ∧ (¬ y2 = 0 → am_ix x1 10 (fun k3 => Q (nI (M1.1 9 k3 1)) M1)))) := h
theorem w_X0_stage_i {M : am_M} {x1 : Int32} {Q : Int32 → am_M → Prop} (h : w_X0_isTransaction M x1 (fun y2 M1 => ((y2 = 0 → Q (-2) M1) ∧ (¬ y2 = 0 → am_ix x1 10 (fun k3 => Q (nI (M1.1 9 k3 1)) M1))))) : w_X0_stage M x1 Q := h
def w_X0_nodes (M : am_M) (x1 : Int32) (x2 : Int32) (Q : Int32 → am_M → Prop) : Prop := w_X0_isTransaction M x1 (fun y2 M1 => ((¬ y2 = 0 → ((x2 = (nI 0) → am_ix x1 10 (fun k3 => Q (nI (M1.1 9 k3 2)) M1)) ∧ (¬ x2 = (nI 0) → ((x2 = (nI 1) → am_ix x1 10 (fun k4 => Q (nI (M1.1 9 k4 3)) M1)) ∧ (¬ x2 = (nI 1) → ((x2 = (nI 2) → am_ix x1 10 (fun k5 => Q (nI (M1.1 9 k5 4)) M1)) ∧ (¬ x2 = (nI 2) → ((x2 = (nI 3) → am_ix x1 10 (fun k6 => Q (nI (M1.1 9 k6 5)) M1)) ∧ (¬ x2 = (nI 3) → Q (-2) M1))))))))) ∧ (y2 = 0 → Q (-2) M1)))
theorem w_X0_nodes_s {M : am_M} {x1 : Int32} {x2 : Int32} {Q : Int32 → am_M → Prop} (h : w_X0_nodes M x1 x2 Q) : w_X0_isTransaction M x1 (fun y2 M1 => ((¬ y2 = 0 → ((x2 = (nI 0) → am_ix x1 10 (fun k3 => Q (nI (M1.1 9 k3 2)) M1)) ∧ (¬ x2 = (nI 0) → ((x2 = (nI 1) → am_ix x1 10 (fun k4 => Q (nI (M1.1 9 k4 3)) M1)) ∧ (¬ x2 = (nI 1) → ((x2 = (nI 2) → am_ix x1 10 (fun k5 => Q (nI (M1.1 9 k5 4)) M1)) ∧ (¬ x2 = (nI 2) → ((x2 = (nI 3) → am_ix x1 10 (fun k6 => Q (nI (M1.1 9 k6 5)) M1)) ∧ (¬ x2 = (nI 3) → Q (-2) M1))))))))) ∧ (y2 = 0 → Q (-2) M1))) := h
theorem w_X0_nodes_i {M : am_M} {x1 : Int32} {x2 : Int32} {Q : Int32 → am_M → Prop} (h : w_X0_isTransaction M x1 (fun y2 M1 => ((¬ y2 = 0 → ((x2 = (nI 0) → am_ix x1 10 (fun k3 => Q (nI (M1.1 9 k3 2)) M1)) ∧ (¬ x2 = (nI 0) → ((x2 = (nI 1) → am_ix x1 10 (fun k4 => Q (nI (M1.1 9 k4 3)) M1)) ∧ (¬ x2 = (nI 1) → ((x2 = (nI 2) → am_ix x1 10 (fun k5 => Q (nI (M1.1 9 k5 4)) M1)) ∧ (¬ x2 = (nI 2) → ((x2 = (nI 3) → am_ix x1 10 (fun k6 => Q (nI (M1.1 9 k6 5)) M1)) ∧ (¬ x2 = (nI 3) → Q (-2) M1))))))))) ∧ (y2 = 0 → Q (-2) M1)))) : w_X0_nodes M x1 x2 Q := h
def w_X0_state (M : am_M) (x1 : Int32) (x2 : Int32) (Q : Int32 → am_M → Prop) : Prop := w_X0_isNode M x1 (fun y2 M1 => ((y2 = 0 → Q (-2) M1) ∧ (¬ y2 = 0 → w_X0_isTransaction M1 x2 (fun y4 M3 => ((¬ y4 = 0 → am_ix x1 4 (fun k5 => am_ix x2 10 (fun k6 => Q (nI (M3.1 4 k5 k6)) M3))) ∧ (y4 = 0 → Q (-2) M3))))))
theorem w_X0_state_s {M : am_M} {x1 : Int32} {x2 : Int32} {Q : Int32 → am_M → Prop} (h : w_X0_state M x1 x2 Q) : w_X0_isNode M x1 (fun y2 M1 => ((y2 = 0 → Q (-2) M1) ∧ (¬ y2 = 0 → w_X0_isTransaction M1 x2 (fun y4 M3 => ((¬ y4 = 0 → am_ix x1 4 (fun k5 => am_ix x2 10 (fun k6 => Q (nI (M3.1 4 k5 k6)) M3))) ∧ (y4 = 0 → Q (-2) M3)))))) := h
theorem w_X0_state_i {M : am_M} {x1 : Int32} {x2 : Int32} {Q : Int32 → am_M → Prop} (h : w_X0_isNode M x1 (fun y2 M1 => ((y2 = 0 → Q (-2) M1) ∧ (¬ y2 = 0 → w_X0_isTransaction M1 x2 (fun y4 M3 => ((¬ y4 = 0 → am_ix x1 4 (fun k5 => am_ix x2 10 (fun k6 => Q (nI (M3.1 4 k5 k6)) M3))) ∧ (y4 = 0 → Q (-2) M3))))))) : w_X0_state M x1 x2 Q := h
def w_X0_holder (M : am_M) (x1 : Int32) (x2 : Int32) (Q : Int32 → am_M → Prop) : Prop := w_X0_isNode M x1 (fun y2 M1 => ((y2 = 0 → Q (-2) M1) ∧ (¬ y2 = 0 → w_X0_isResource M1 x2 (fun y4 M3 => ((¬ y4 = 0 → am_ix x1 4 (fun k5 => w_X3_findOwner M3 k5 x2 (fun y7 M6 => Q y7 M6))) ∧ (y4 = 0 → Q (-2) M3))))))
theorem w_X0_holder_s {M : am_M} {x1 : Int32} {x2 : Int32} {Q : Int32 → am_M → Prop} (h : w_X0_holder M x1 x2 Q) : w_X0_isNode M x1 (fun y2 M1 => ((y2 = 0 → Q (-2) M1) ∧ (¬ y2 = 0 → w_X0_isResource M1 x2 (fun y4 M3 => ((¬ y4 = 0 → am_ix x1 4 (fun k5 => w_X3_findOwner M3 k5 x2 (fun y7 M6 => Q y7 M6))) ∧ (y4 = 0 → Q (-2) M3)))))) := h
theorem w_X0_holder_i {M : am_M} {x1 : Int32} {x2 : Int32} {Q : Int32 → am_M → Prop} (h : w_X0_isNode M x1 (fun y2 M1 => ((y2 = 0 → Q (-2) M1) ∧ (¬ y2 = 0 → w_X0_isResource M1 x2 (fun y4 M3 => ((¬ y4 = 0 → am_ix x1 4 (fun k5 => w_X3_findOwner M3 k5 x2 (fun y7 M6 => Q y7 M6))) ∧ (y4 = 0 → Q (-2) M3))))))) : w_X0_holder M x1 x2 Q := h
def w_X0_records (M : am_M) (x1 : Int32) (x2 : Int32) (Q : Int32 → am_M → Prop) : Prop := w_X0_isNode M x1 (fun y2 M1 => ((¬ y2 = 0 → am_ix x1 4 (fun k3 => ((x2 = 0 → Q (nI (M1.1 6 k3 2)) M1) ∧ (¬ x2 = 0 → Q (nI (M1.1 6 k3 3)) M1)))) ∧ (y2 = 0 → Q (-2) M1)))
theorem w_X0_records_s {M : am_M} {x1 : Int32} {x2 : Int32} {Q : Int32 → am_M → Prop} (h : w_X0_records M x1 x2 Q) : w_X0_isNode M x1 (fun y2 M1 => ((¬ y2 = 0 → am_ix x1 4 (fun k3 => ((x2 = 0 → Q (nI (M1.1 6 k3 2)) M1) ∧ (¬ x2 = 0 → Q (nI (M1.1 6 k3 3)) M1)))) ∧ (y2 = 0 → Q (-2) M1))) := h
theorem w_X0_records_i {M : am_M} {x1 : Int32} {x2 : Int32} {Q : Int32 → am_M → Prop} (h : w_X0_isNode M x1 (fun y2 M1 => ((¬ y2 = 0 → am_ix x1 4 (fun k3 => ((x2 = 0 → Q (nI (M1.1 6 k3 2)) M1) ∧ (¬ x2 = 0 → Q (nI (M1.1 6 k3 3)) M1)))) ∧ (y2 = 0 → Q (-2) M1)))) : w_X0_records M x1 x2 Q := h
def w_X1_has (M : am_M) (n : Nat) (x1 : Int32) (Q : Int32 → am_M → Prop) : Prop := ((x1 < 0 → Q (nI 0) M) ∧ (¬ x1 < 0 → (((nI (M.1 6 n 2)) ≤ x1 → Q (nI 0) M) ∧ (¬ (nI (M.1 6 n 2)) ≤ x1 → Q (nI 1) M))))
theorem w_X1_has_s {M : am_M} {n : Nat} {x1 : Int32} {Q : Int32 → am_M → Prop} (h : w_X1_has M n x1 Q) : ((x1 < 0 → Q (nI 0) M) ∧ (¬ x1 < 0 → (((nI (M.1 6 n 2)) ≤ x1 → Q (nI 0) M) ∧ (¬ (nI (M.1 6 n 2)) ≤ x1 → Q (nI 1) M)))) := h
theorem w_X1_has_i {M : am_M} {n : Nat} {x1 : Int32} {Q : Int32 → am_M → Prop} (h : ((x1 < 0 → Q (nI 0) M) ∧ (¬ x1 < 0 → (((nI (M.1 6 n 2)) ≤ x1 → Q (nI 0) M) ∧ (¬ (nI (M.1 6 n 2)) ≤ x1 → Q (nI 1) M))))) : w_X1_has M n x1 Q := h
def w_X0_entry (M : am_M) (x1 : Int32) (x2 : Int32) (Q : Int32 → am_M → Prop) : Prop := w_X0_isNode M x1 (fun y2 M1 => ((¬ y2 = 0 → am_ix x1 4 (fun k3 => w_X1_has M1 k3 x2 (fun y5 M4 => ((y5 = 0 → Q (-1) M4) ∧ (¬ y5 = 0 → am_ix x2 60 (fun k6 => Q (nI (M4.1 7 k3 k6)) M4)))))) ∧ (y2 = 0 → Q (-2) M1)))
theorem w_X0_entry_s {M : am_M} {x1 : Int32} {x2 : Int32} {Q : Int32 → am_M → Prop} (h : w_X0_entry M x1 x2 Q) : w_X0_isNode M x1 (fun y2 M1 => ((¬ y2 = 0 → am_ix x1 4 (fun k3 => w_X1_has M1 k3 x2 (fun y5 M4 => ((y5 = 0 → Q (-1) M4) ∧ (¬ y5 = 0 → am_ix x2 60 (fun k6 => Q (nI (M4.1 7 k3 k6)) M4)))))) ∧ (y2 = 0 → Q (-2) M1))) := h
theorem w_X0_entry_i {M : am_M} {x1 : Int32} {x2 : Int32} {Q : Int32 → am_M → Prop} (h : w_X0_isNode M x1 (fun y2 M1 => ((¬ y2 = 0 → am_ix x1 4 (fun k3 => w_X1_has M1 k3 x2 (fun y5 M4 => ((y5 = 0 → Q (-1) M4) ∧ (¬ y5 = 0 → am_ix x2 60 (fun k6 => Q (nI (M4.1 7 k3 k6)) M4)))))) ∧ (y2 = 0 → Q (-2) M1)))) : w_X0_entry M x1 x2 Q := h
def w_X0_content (M : am_M) (x1 : Int32) (x2 : Int32) (Q : Int32 → am_M → Prop) : Prop := w_X0_isNode M x1 (fun y2 M1 => ((¬ y2 = 0 → am_ix x1 4 (fun k3 => w_X1_has M1 k3 x2 (fun y5 M4 => ((y5 = 0 → Q (-1) M4) ∧ (¬ y5 = 0 → am_ix x2 60 (fun k6 => Q (nI (M4.1 8 k3 k6)) M4)))))) ∧ (y2 = 0 → Q (-2) M1)))
theorem w_X0_content_s {M : am_M} {x1 : Int32} {x2 : Int32} {Q : Int32 → am_M → Prop} (h : w_X0_content M x1 x2 Q) : w_X0_isNode M x1 (fun y2 M1 => ((¬ y2 = 0 → am_ix x1 4 (fun k3 => w_X1_has M1 k3 x2 (fun y5 M4 => ((y5 = 0 → Q (-1) M4) ∧ (¬ y5 = 0 → am_ix x2 60 (fun k6 => Q (nI (M4.1 8 k3 k6)) M4)))))) ∧ (y2 = 0 → Q (-2) M1))) := h
theorem w_X0_content_i {M : am_M} {x1 : Int32} {x2 : Int32} {Q : Int32 → am_M → Prop} (h : w_X0_isNode M x1 (fun y2 M1 => ((¬ y2 = 0 → am_ix x1 4 (fun k3 => w_X1_has M1 k3 x2 (fun y5 M4 => ((y5 = 0 → Q (-1) M4) ∧ (¬ y5 = 0 → am_ix x2 60 (fun k6 => Q (nI (M4.1 8 k3 k6)) M4)))))) ∧ (y2 = 0 → Q (-2) M1)))) : w_X0_content M x1 x2 Q := h
def w_X0_messages (M : am_M) (Q : Int32 → am_M → Prop) : Prop := Q (nI (M.1 1 0 1)) M
theorem w_X0_messages_s {M : am_M} {Q : Int32 → am_M → Prop} (h : w_X0_messages M Q) : Q (nI (M.1 1 0 1)) M := h
theorem w_X0_messages_i {M : am_M} {Q : Int32 → am_M → Prop} (h : Q (nI (M.1 1 0 1)) M) : w_X0_messages M Q := h
def w_X0_message (M : am_M) (x1 : Int32) (x2 : Int32) (Q : Int32 → am_M → Prop) : Prop := w_X2_has M x1 (fun y2 M1 => ((y2 = 0 → Q (-2) M1) ∧ (¬ y2 = 0 → ((x2 < 0 → Q (-2) M1) ∧ (¬ x2 < 0 → ((x2 < (nI 4) → am_ix x2 4 (fun k3 => am_ix x1 40 (fun k4 => Q (nI (M1.1 2 k3 k4)) M1))) ∧ (¬ x2 < (nI 4) → Q (-2) M1)))))))
theorem w_X0_message_s {M : am_M} {x1 : Int32} {x2 : Int32} {Q : Int32 → am_M → Prop} (h : w_X0_message M x1 x2 Q) : w_X2_has M x1 (fun y2 M1 => ((y2 = 0 → Q (-2) M1) ∧ (¬ y2 = 0 → ((x2 < 0 → Q (-2) M1) ∧ (¬ x2 < 0 → ((x2 < (nI 4) → am_ix x2 4 (fun k3 => am_ix x1 40 (fun k4 => Q (nI (M1.1 2 k3 k4)) M1))) ∧ (¬ x2 < (nI 4) → Q (-2) M1))))))) := h
theorem w_X0_message_i {M : am_M} {x1 : Int32} {x2 : Int32} {Q : Int32 → am_M → Prop} (h : w_X2_has M x1 (fun y2 M1 => ((y2 = 0 → Q (-2) M1) ∧ (¬ y2 = 0 → ((x2 < 0 → Q (-2) M1) ∧ (¬ x2 < 0 → ((x2 < (nI 4) → am_ix x2 4 (fun k3 => am_ix x1 40 (fun k4 => Q (nI (M1.1 2 k3 k4)) M1))) ∧ (¬ x2 < (nI 4) → Q (-2) M1)))))))) : w_X0_message M x1 x2 Q := h
def w_X0_forced (M : am_M) (x1 : Int32) (Q : Int32 → am_M → Prop) : Prop := w_X0_isNode M x1 (fun y2 M1 => ((y2 = 0 → Q (-2) M1) ∧ (¬ y2 = 0 → am_ix x1 4 (fun k3 => Q (nI (M1.1 6 k3 4)) M1))))
theorem w_X0_forced_s {M : am_M} {x1 : Int32} {Q : Int32 → am_M → Prop} (h : w_X0_forced M x1 Q) : w_X0_isNode M x1 (fun y2 M1 => ((y2 = 0 → Q (-2) M1) ∧ (¬ y2 = 0 → am_ix x1 4 (fun k3 => Q (nI (M1.1 6 k3 4)) M1)))) := h
theorem w_X0_forced_i {M : am_M} {x1 : Int32} {Q : Int32 → am_M → Prop} (h : w_X0_isNode M x1 (fun y2 M1 => ((y2 = 0 → Q (-2) M1) ∧ (¬ y2 = 0 → am_ix x1 4 (fun k3 => Q (nI (M1.1 6 k3 4)) M1))))) : w_X0_forced M x1 Q := h
def w_X5_noNode (M : am_M) (x1 : Int32) (Q : Int32 → am_M → Prop) : Prop := ((x1 < 0 → Q (nI 1) M) ∧ (¬ x1 < 0 → ((x1 ≤ (nI 3) → Q (nI 0) M) ∧ (¬ x1 ≤ (nI 3) → Q (nI 1) M))))
theorem w_X5_noNode_s {M : am_M} {x1 : Int32} {Q : Int32 → am_M → Prop} (h : w_X5_noNode M x1 Q) : ((x1 < 0 → Q (nI 1) M) ∧ (¬ x1 < 0 → ((x1 ≤ (nI 3) → Q (nI 0) M) ∧ (¬ x1 ≤ (nI 3) → Q (nI 1) M)))) := h
theorem w_X5_noNode_i {M : am_M} {x1 : Int32} {Q : Int32 → am_M → Prop} (h : ((x1 < 0 → Q (nI 1) M) ∧ (¬ x1 < 0 → ((x1 ≤ (nI 3) → Q (nI 0) M) ∧ (¬ x1 ≤ (nI 3) → Q (nI 1) M))))) : w_X5_noNode M x1 Q := h
def w_X5_begin (M : am_M) (x1 : Int32) (Q : Int32 → am_M → Prop) : Prop := w_X5_noNode M x1 (fun y2 M1 => ((y2 = 0 → am_ix x1 4 (fun k3 => (((nI (M1.2 21 0 k3)) = 0 → ((¬ (nI (M1.2 20 0 2)) = (nI 10) → am_sa (am_c2 M1 23 0) 10 (nI (M1.2 20 0 2)) x1 (fun M4 => am_sa (am_c2 M4 24 0) 10 (nI (M4.2 20 0 2)) (nI 1) (fun M5 => am_sf (am_c2 M5 20 0 2) ((nI (M5.2 20 0 2)) + (nI 1)) (fun M6 => Q ((nI (M6.2 20 0 2)) - (nI 1)) M6)))) ∧ ((nI (M1.2 20 0 2)) = (nI 10) → Q (-5) M1))) ∧ (¬ (nI (M1.2 21 0 k3)) = 0 → Q (-3) M1)))) ∧ (¬ y2 = 0 → Q (-2) M1)))
theorem w_X5_begin_s {M : am_M} {x1 : Int32} {Q : Int32 → am_M → Prop} (h : w_X5_begin M x1 Q) : w_X5_noNode M x1 (fun y2 M1 => ((y2 = 0 → am_ix x1 4 (fun k3 => (((nI (M1.2 21 0 k3)) = 0 → ((¬ (nI (M1.2 20 0 2)) = (nI 10) → am_sa (am_c2 M1 23 0) 10 (nI (M1.2 20 0 2)) x1 (fun M4 => am_sa (am_c2 M4 24 0) 10 (nI (M4.2 20 0 2)) (nI 1) (fun M5 => am_sf (am_c2 M5 20 0 2) ((nI (M5.2 20 0 2)) + (nI 1)) (fun M6 => Q ((nI (M6.2 20 0 2)) - (nI 1)) M6)))) ∧ ((nI (M1.2 20 0 2)) = (nI 10) → Q (-5) M1))) ∧ (¬ (nI (M1.2 21 0 k3)) = 0 → Q (-3) M1)))) ∧ (¬ y2 = 0 → Q (-2) M1))) := h
theorem w_X5_begin_i {M : am_M} {x1 : Int32} {Q : Int32 → am_M → Prop} (h : w_X5_noNode M x1 (fun y2 M1 => ((y2 = 0 → am_ix x1 4 (fun k3 => (((nI (M1.2 21 0 k3)) = 0 → ((¬ (nI (M1.2 20 0 2)) = (nI 10) → am_sa (am_c2 M1 23 0) 10 (nI (M1.2 20 0 2)) x1 (fun M4 => am_sa (am_c2 M4 24 0) 10 (nI (M4.2 20 0 2)) (nI 1) (fun M5 => am_sf (am_c2 M5 20 0 2) ((nI (M5.2 20 0 2)) + (nI 1)) (fun M6 => Q ((nI (M6.2 20 0 2)) - (nI 1)) M6)))) ∧ ((nI (M1.2 20 0 2)) = (nI 10) → Q (-5) M1))) ∧ (¬ (nI (M1.2 21 0 k3)) = 0 → Q (-3) M1)))) ∧ (¬ y2 = 0 → Q (-2) M1)))) : w_X5_begin M x1 Q := h
def w_X5_noWork (M : am_M) (x1 : Int32) (Q : Int32 → am_M → Prop) : Prop := ((x1 < 0 → Q (nI 1) M) ∧ (¬ x1 < 0 → ((x1 < (nI (M.2 20 0 2)) → Q (nI 0) M) ∧ (¬ x1 < (nI (M.2 20 0 2)) → Q (nI 1) M))))
theorem w_X5_noWork_s {M : am_M} {x1 : Int32} {Q : Int32 → am_M → Prop} (h : w_X5_noWork M x1 Q) : ((x1 < 0 → Q (nI 1) M) ∧ (¬ x1 < 0 → ((x1 < (nI (M.2 20 0 2)) → Q (nI 0) M) ∧ (¬ x1 < (nI (M.2 20 0 2)) → Q (nI 1) M)))) := h
theorem w_X5_noWork_i {M : am_M} {x1 : Int32} {Q : Int32 → am_M → Prop} (h : ((x1 < 0 → Q (nI 1) M) ∧ (¬ x1 < 0 → ((x1 < (nI (M.2 20 0 2)) → Q (nI 0) M) ∧ (¬ x1 < (nI (M.2 20 0 2)) → Q (nI 1) M))))) : w_X5_noWork M x1 Q := h
def w_X5_work_J163 (M35 : am_M) (y30 : Int32) (y31 : Int32) (y32 : Int32) (y33 : Int32) (y34 : Int32) (Q : Int32 → am_M → Prop) : Prop := am_ix y33 40 (fun k36 => ((¬ (nI (M35.2 29 0 k36)) = (nI 2) → ((y32 < 0 → Q (nI 1) M35) ∧ (¬ y32 < 0 → am_sa (am_c2 M35 30 0) 32 (((nI 8) * y31) + y32) (y30 + (nI 1)) (fun M37 => Q (nI 1) M37)))) ∧ ((nI (M35.2 29 0 k36)) = (nI 2) → Q (nI 0) M35)))
theorem w_X5_work_J163_s {M35 : am_M} {y30 : Int32} {y31 : Int32} {y32 : Int32} {y33 : Int32} {y34 : Int32} {Q : Int32 → am_M → Prop} (h : w_X5_work_J163 M35 y30 y31 y32 y33 y34 Q) : am_ix y33 40 (fun k36 => ((¬ (nI (M35.2 29 0 k36)) = (nI 2) → ((y32 < 0 → Q (nI 1) M35) ∧ (¬ y32 < 0 → am_sa (am_c2 M35 30 0) 32 (((nI 8) * y31) + y32) (y30 + (nI 1)) (fun M37 => Q (nI 1) M37)))) ∧ ((nI (M35.2 29 0 k36)) = (nI 2) → Q (nI 0) M35))) := h
theorem w_X5_work_J163_i {M35 : am_M} {y30 : Int32} {y31 : Int32} {y32 : Int32} {y33 : Int32} {y34 : Int32} {Q : Int32 → am_M → Prop} (h : am_ix y33 40 (fun k36 => ((¬ (nI (M35.2 29 0 k36)) = (nI 2) → ((y32 < 0 → Q (nI 1) M35) ∧ (¬ y32 < 0 → am_sa (am_c2 M35 30 0) 32 (((nI 8) * y31) + y32) (y30 + (nI 1)) (fun M37 => Q (nI 1) M37)))) ∧ ((nI (M35.2 29 0 k36)) = (nI 2) → Q (nI 0) M35)))) : w_X5_work_J163 M35 y30 y31 y32 y33 y34 Q := h
def w_X5_work_J142 (M29 : am_M) (y24 : Int32) (y25 : Int32) (y26 : Int32) (y27 : Int32) (y28 : Int32) (Q : Int32 → am_M → Prop) : Prop := ((y28 = 0 → w_X5_work_J163 M29 y24 y25 y26 y27 y28 Q) ∧ (¬ y28 = 0 → ((y28 = (y24 + (nI 1)) → w_X5_work_J163 M29 y24 y25 y26 y27 y28 Q) ∧ (¬ y28 = (y24 + (nI 1)) → am_sa (am_c2 M29 29 0) 40 y27 (nI 2) (fun M38 => w_X5_work_J163 M38 y24 y25 y26 y27 y28 Q)))))
theorem w_X5_work_J142_s {M29 : am_M} {y24 : Int32} {y25 : Int32} {y26 : Int32} {y27 : Int32} {y28 : Int32} {Q : Int32 → am_M → Prop} (h : w_X5_work_J142 M29 y24 y25 y26 y27 y28 Q) : ((y28 = 0 → w_X5_work_J163 M29 y24 y25 y26 y27 y28 Q) ∧ (¬ y28 = 0 → ((y28 = (y24 + (nI 1)) → w_X5_work_J163 M29 y24 y25 y26 y27 y28 Q) ∧ (¬ y28 = (y24 + (nI 1)) → am_sa (am_c2 M29 29 0) 40 y27 (nI 2) (fun M38 => w_X5_work_J163 M38 y24 y25 y26 y27 y28 Q))))) := h
theorem w_X5_work_J142_i {M29 : am_M} {y24 : Int32} {y25 : Int32} {y26 : Int32} {y27 : Int32} {y28 : Int32} {Q : Int32 → am_M → Prop} (h : ((y28 = 0 → w_X5_work_J163 M29 y24 y25 y26 y27 y28 Q) ∧ (¬ y28 = 0 → ((y28 = (y24 + (nI 1)) → w_X5_work_J163 M29 y24 y25 y26 y27 y28 Q) ∧ (¬ y28 = (y24 + (nI 1)) → am_sa (am_c2 M29 29 0) 40 y27 (nI 2) (fun M38 => w_X5_work_J163 M38 y24 y25 y26 y27 y28 Q)))))) : w_X5_work_J142 M29 y24 y25 y26 y27 y28 Q := h
def w_X5_work_J121 (M21 : am_M) (y17 : Int32) (y18 : Int32) (y19 : Int32) (y20 : Int32) (Q : Int32 → am_M → Prop) : Prop := ((0 ≤ y19 → am_ix (((nI 8) * y18) + y19) 32 (fun k22 => am_let (nI (M21.2 30 0 k22)) (fun y23 => w_X5_work_J142 M21 y17 y18 y19 y20 y23 Q))) ∧ (¬ 0 ≤ y19 → am_let (nI 0) (fun y39 => w_X5_work_J142 M21 y17 y18 y19 y20 y39 Q)))
theorem w_X5_work_J121_s {M21 : am_M} {y17 : Int32} {y18 : Int32} {y19 : Int32} {y20 : Int32} {Q : Int32 → am_M → Prop} (h : w_X5_work_J121 M21 y17 y18 y19 y20 Q) : ((0 ≤ y19 → am_ix (((nI 8) * y18) + y19) 32 (fun k22 => am_let (nI (M21.2 30 0 k22)) (fun y23 => w_X5_work_J142 M21 y17 y18 y19 y20 y23 Q))) ∧ (¬ 0 ≤ y19 → am_let (nI 0) (fun y39 => w_X5_work_J142 M21 y17 y18 y19 y20 y39 Q))) := h
theorem w_X5_work_J121_i {M21 : am_M} {y17 : Int32} {y18 : Int32} {y19 : Int32} {y20 : Int32} {Q : Int32 → am_M → Prop} (h : ((0 ≤ y19 → am_ix (((nI 8) * y18) + y19) 32 (fun k22 => am_let (nI (M21.2 30 0 k22)) (fun y23 => w_X5_work_J142 M21 y17 y18 y19 y20 y23 Q))) ∧ (¬ 0 ≤ y19 → am_let (nI 0) (fun y39 => w_X5_work_J142 M21 y17 y18 y19 y20 y39 Q)))) : w_X5_work_J121 M21 y17 y18 y19 y20 Q := h
def w_X5_work_J95 (M15 : am_M) (y11 : Int32) (y12 : Int32) (y13 : Int32) (y14 : Int32) (Q : Int32 → am_M → Prop) : Prop := am_ix y14 40 (fun k16 => ((¬ (nI (M15.2 25 0 k16)) = 0 → w_X5_work_J121 M15 y11 y12 y13 y14 Q) ∧ ((nI (M15.2 25 0 k16)) = 0 → am_sz (am_c2 M15 25 0) 40 y14 (nI 1) (fun M40 => am_sa (am_c2 M40 29 0) 40 y14 (nI 1) (fun M41 => w_X5_work_J121 M41 y11 y12 y13 y14 Q)))))
theorem w_X5_work_J95_s {M15 : am_M} {y11 : Int32} {y12 : Int32} {y13 : Int32} {y14 : Int32} {Q : Int32 → am_M → Prop} (h : w_X5_work_J95 M15 y11 y12 y13 y14 Q) : am_ix y14 40 (fun k16 => ((¬ (nI (M15.2 25 0 k16)) = 0 → w_X5_work_J121 M15 y11 y12 y13 y14 Q) ∧ ((nI (M15.2 25 0 k16)) = 0 → am_sz (am_c2 M15 25 0) 40 y14 (nI 1) (fun M40 => am_sa (am_c2 M40 29 0) 40 y14 (nI 1) (fun M41 => w_X5_work_J121 M41 y11 y12 y13 y14 Q))))) := h
theorem w_X5_work_J95_i {M15 : am_M} {y11 : Int32} {y12 : Int32} {y13 : Int32} {y14 : Int32} {Q : Int32 → am_M → Prop} (h : am_ix y14 40 (fun k16 => ((¬ (nI (M15.2 25 0 k16)) = 0 → w_X5_work_J121 M15 y11 y12 y13 y14 Q) ∧ ((nI (M15.2 25 0 k16)) = 0 → am_sz (am_c2 M15 25 0) 40 y14 (nI 1) (fun M40 => am_sa (am_c2 M40 29 0) 40 y14 (nI 1) (fun M41 => w_X5_work_J121 M41 y11 y12 y13 y14 Q)))))) : w_X5_work_J95 M15 y11 y12 y13 y14 Q := h
def w_X5_work (M : am_M) (x1 : Int32) (x2 : Int32) (x3 : Int32) (Q : Int32 → am_M → Prop) : Prop := w_X5_noWork M x1 (fun y2 M1 => ((¬ y2 = 0 → Q (-2) M1) ∧ (y2 = 0 → w_X5_noNode M1 x2 (fun y4 M3 => ((¬ y4 = 0 → Q (-2) M3) ∧ (y4 = 0 → ((x3 < (-1) → Q (-2) M3) ∧ (¬ x3 < (-1) → ((x3 ≤ (nI 7) → am_let (((nI 4) * x1) + x2) (fun y5 => am_ix x2 4 (fun k6 => ((¬ (nI (M3.2 21 0 k6)) = 0 → Q (-3) M3) ∧ ((nI (M3.2 21 0 k6)) = 0 → am_ix x1 10 (fun k7 => am_ix (nI (M3.2 23 0 k7)) 4 (fun k8 => (((nI (M3.2 21 0 k8)) = 0 → am_ix x1 10 (fun k9 => ((¬ (nI (M3.2 24 0 k9)) = (nI 1) → Q (-4) M3) ∧ ((nI (M3.2 24 0 k9)) = (nI 1) → am_ix y5 40 (fun k10 => (((nI (M3.2 25 0 k10)) = 0 → w_X5_work_J95 M3 x1 x2 x3 y5 Q) ∧ (¬ (nI (M3.2 25 0 k10)) = 0 → am_ix y5 40 (fun k42 => ((¬ (nI (M3.2 29 0 k42)) = 0 → w_X5_work_J95 M3 x1 x2 x3 y5 Q) ∧ ((nI (M3.2 29 0 k42)) = 0 → Q (-4) M3)))))))))) ∧ (¬ (nI (M3.2 21 0 k8)) = 0 → Q (-3) M3))))))))) ∧ (¬ x3 ≤ (nI 7) → Q (-2) M3))))))))))
theorem w_X5_work_s {M : am_M} {x1 : Int32} {x2 : Int32} {x3 : Int32} {Q : Int32 → am_M → Prop} (h : w_X5_work M x1 x2 x3 Q) : w_X5_noWork M x1 (fun y2 M1 => ((¬ y2 = 0 → Q (-2) M1) ∧ (y2 = 0 → w_X5_noNode M1 x2 (fun y4 M3 => ((¬ y4 = 0 → Q (-2) M3) ∧ (y4 = 0 → ((x3 < (-1) → Q (-2) M3) ∧ (¬ x3 < (-1) → ((x3 ≤ (nI 7) → am_let (((nI 4) * x1) + x2) (fun y5 => am_ix x2 4 (fun k6 => ((¬ (nI (M3.2 21 0 k6)) = 0 → Q (-3) M3) ∧ ((nI (M3.2 21 0 k6)) = 0 → am_ix x1 10 (fun k7 => am_ix (nI (M3.2 23 0 k7)) 4 (fun k8 => (((nI (M3.2 21 0 k8)) = 0 → am_ix x1 10 (fun k9 => ((¬ (nI (M3.2 24 0 k9)) = (nI 1) → Q (-4) M3) ∧ ((nI (M3.2 24 0 k9)) = (nI 1) → am_ix y5 40 (fun k10 => (((nI (M3.2 25 0 k10)) = 0 → w_X5_work_J95 M3 x1 x2 x3 y5 Q) ∧ (¬ (nI (M3.2 25 0 k10)) = 0 → am_ix y5 40 (fun k42 => ((¬ (nI (M3.2 29 0 k42)) = 0 → w_X5_work_J95 M3 x1 x2 x3 y5 Q) ∧ ((nI (M3.2 29 0 k42)) = 0 → Q (-4) M3)))))))))) ∧ (¬ (nI (M3.2 21 0 k8)) = 0 → Q (-3) M3))))))))) ∧ (¬ x3 ≤ (nI 7) → Q (-2) M3)))))))))) := h
theorem w_X5_work_i {M : am_M} {x1 : Int32} {x2 : Int32} {x3 : Int32} {Q : Int32 → am_M → Prop} (h : w_X5_noWork M x1 (fun y2 M1 => ((¬ y2 = 0 → Q (-2) M1) ∧ (y2 = 0 → w_X5_noNode M1 x2 (fun y4 M3 => ((¬ y4 = 0 → Q (-2) M3) ∧ (y4 = 0 → ((x3 < (-1) → Q (-2) M3) ∧ (¬ x3 < (-1) → ((x3 ≤ (nI 7) → am_let (((nI 4) * x1) + x2) (fun y5 => am_ix x2 4 (fun k6 => ((¬ (nI (M3.2 21 0 k6)) = 0 → Q (-3) M3) ∧ ((nI (M3.2 21 0 k6)) = 0 → am_ix x1 10 (fun k7 => am_ix (nI (M3.2 23 0 k7)) 4 (fun k8 => (((nI (M3.2 21 0 k8)) = 0 → am_ix x1 10 (fun k9 => ((¬ (nI (M3.2 24 0 k9)) = (nI 1) → Q (-4) M3) ∧ ((nI (M3.2 24 0 k9)) = (nI 1) → am_ix y5 40 (fun k10 => (((nI (M3.2 25 0 k10)) = 0 → w_X5_work_J95 M3 x1 x2 x3 y5 Q) ∧ (¬ (nI (M3.2 25 0 k10)) = 0 → am_ix y5 40 (fun k42 => ((¬ (nI (M3.2 29 0 k42)) = 0 → w_X5_work_J95 M3 x1 x2 x3 y5 Q) ∧ ((nI (M3.2 29 0 k42)) = 0 → Q (-4) M3)))))))))) ∧ (¬ (nI (M3.2 21 0 k8)) = 0 → Q (-3) M3))))))))) ∧ (¬ x3 ≤ (nI 7) → Q (-2) M3))))))))))) : w_X5_work M x1 x2 x3 Q := h
def w_X5_send (M : am_M) (x1 : Int32) (x2 : Int32) (x3 : Int32) (x4 : Int32) (Q : am_M → Prop) : Prop := (((nI 40) ≤ (nI (M.2 20 0 16)) → Q M) ∧ (¬ (nI 40) ≤ (nI (M.2 20 0 16)) → am_sa (am_c2 M 36 0) 40 (nI (M.2 20 0 16)) x1 (fun M1 => am_sa (am_c2 M1 37 0) 40 (nI (M1.2 20 0 16)) x2 (fun M2 => am_sa (am_c2 M2 38 0) 40 (nI (M2.2 20 0 16)) x3 (fun M3 => am_sa (am_c2 M3 39 0) 40 (nI (M3.2 20 0 16)) x4 (fun M4 => am_sf (am_c2 M4 20 0 16) ((nI (M4.2 20 0 16)) + (nI 1)) (fun M5 => Q M5)))))))
theorem w_X5_send_s {M : am_M} {x1 : Int32} {x2 : Int32} {x3 : Int32} {x4 : Int32} {Q : am_M → Prop} (h : w_X5_send M x1 x2 x3 x4 Q) : (((nI 40) ≤ (nI (M.2 20 0 16)) → Q M) ∧ (¬ (nI 40) ≤ (nI (M.2 20 0 16)) → am_sa (am_c2 M 36 0) 40 (nI (M.2 20 0 16)) x1 (fun M1 => am_sa (am_c2 M1 37 0) 40 (nI (M1.2 20 0 16)) x2 (fun M2 => am_sa (am_c2 M2 38 0) 40 (nI (M2.2 20 0 16)) x3 (fun M3 => am_sa (am_c2 M3 39 0) 40 (nI (M3.2 20 0 16)) x4 (fun M4 => am_sf (am_c2 M4 20 0 16) ((nI (M4.2 20 0 16)) + (nI 1)) (fun M5 => Q M5))))))) := h
theorem w_X5_send_i {M : am_M} {x1 : Int32} {x2 : Int32} {x3 : Int32} {x4 : Int32} {Q : am_M → Prop} (h : (((nI 40) ≤ (nI (M.2 20 0 16)) → Q M) ∧ (¬ (nI 40) ≤ (nI (M.2 20 0 16)) → am_sa (am_c2 M 36 0) 40 (nI (M.2 20 0 16)) x1 (fun M1 => am_sa (am_c2 M1 37 0) 40 (nI (M1.2 20 0 16)) x2 (fun M2 => am_sa (am_c2 M2 38 0) 40 (nI (M2.2 20 0 16)) x3 (fun M3 => am_sa (am_c2 M3 39 0) 40 (nI (M3.2 20 0 16)) x4 (fun M4 => am_sf (am_c2 M4 20 0 16) ((nI (M4.2 20 0 16)) + (nI 1)) (fun M5 => Q M5)))))))) : w_X5_send M x1 x2 x3 x4 Q := h
def w_X5_forget_L9 (x1 : Int32) (Q : am_M → Prop) (K : am_M → Int32 → Prop) : Nat → am_M → Int32 → Prop
  | 0, _, _ => False
  | f9 + 1, M4, z3 => (((nI 4) ≤ z3 → K M4 z3) ∧ (¬ (nI 4) ≤ z3 → am_sz (am_c2 M4 25 0) 40 (((nI 4) * x1) + z3) (nI 0) (fun M5 => am_sz (am_c2 M5 26 0) 40 (((nI 4) * x1) + z3) (nI 0) (fun M6 => am_sz (am_c2 M6 27 0) 40 (((nI 4) * x1) + z3) (nI 0) (fun M7 => am_sz (am_c2 M7 28 0) 40 (((nI 4) * x1) + z3) (nI 0) (fun M8 => am_let (z3 + nI 1) (fun y9 => w_X5_forget_L9 x1 Q K f9 M8 y9)))))))
theorem w_X5_forget_L9_s {x1 : Int32} {Q : am_M → Prop} {K : am_M → Int32 → Prop} {f9 : Nat} {M4 : am_M} {z3 : Int32} (h : w_X5_forget_L9 x1 Q K (f9 + 1) M4 z3) : (((nI 4) ≤ z3 → K M4 z3) ∧ (¬ (nI 4) ≤ z3 → am_sz (am_c2 M4 25 0) 40 (((nI 4) * x1) + z3) (nI 0) (fun M5 => am_sz (am_c2 M5 26 0) 40 (((nI 4) * x1) + z3) (nI 0) (fun M6 => am_sz (am_c2 M6 27 0) 40 (((nI 4) * x1) + z3) (nI 0) (fun M7 => am_sz (am_c2 M7 28 0) 40 (((nI 4) * x1) + z3) (nI 0) (fun M8 => am_let (z3 + nI 1) (fun y9 => w_X5_forget_L9 x1 Q K f9 M8 y9))))))) := h
theorem w_X5_forget_L9_i {x1 : Int32} {Q : am_M → Prop} {K : am_M → Int32 → Prop} {f9 : Nat} {M4 : am_M} {z3 : Int32} (h : (((nI 4) ≤ z3 → K M4 z3) ∧ (¬ (nI 4) ≤ z3 → am_sz (am_c2 M4 25 0) 40 (((nI 4) * x1) + z3) (nI 0) (fun M5 => am_sz (am_c2 M5 26 0) 40 (((nI 4) * x1) + z3) (nI 0) (fun M6 => am_sz (am_c2 M6 27 0) 40 (((nI 4) * x1) + z3) (nI 0) (fun M7 => am_sz (am_c2 M7 28 0) 40 (((nI 4) * x1) + z3) (nI 0) (fun M8 => am_let (z3 + nI 1) (fun y9 => w_X5_forget_L9 x1 Q K f9 M8 y9)))))))) : w_X5_forget_L9 x1 Q K (f9 + 1) M4 z3 := h
def w_X5_forget (M : am_M) (x1 : Int32) (Q : am_M → Prop) : Prop := am_sa (am_c2 M 24 0) 10 x1 (nI 0) (fun M1 => am_let (nI 0) (fun y2 => (∃ f9 : Nat, w_X5_forget_L9 x1 Q (fun M10 z11 => Q M10) f9 M1 y2)))
theorem w_X5_forget_s {M : am_M} {x1 : Int32} {Q : am_M → Prop} (h : w_X5_forget M x1 Q) : am_sa (am_c2 M 24 0) 10 x1 (nI 0) (fun M1 => am_let (nI 0) (fun y2 => (∃ f9 : Nat, w_X5_forget_L9 x1 Q (fun M10 z11 => Q M10) f9 M1 y2))) := h
theorem w_X5_forget_i {M : am_M} {x1 : Int32} {Q : am_M → Prop} (h : am_sa (am_c2 M 24 0) 10 x1 (nI 0) (fun M1 => am_let (nI 0) (fun y2 => (∃ f9 : Nat, w_X5_forget_L9 x1 Q (fun M10 z11 => Q M10) f9 M1 y2)))) : w_X5_forget M x1 Q := h
def w_X5_commit_L52 (x1 : Int32) (Q : Int32 → am_M → Prop) (K : am_M → Int32 → Int32 → Prop) : Nat → am_M → Int32 → Int32 → Prop
  | 0, _, _, _ => False
  | f52 + 1, M11, z9, z10 => (((nI 4) ≤ z10 → K M11 z9 z10) ∧ (¬ (nI 4) ≤ z10 → am_ix (((nI 4) * x1) + z10) 40 (fun k12 => (((nI (M11.2 25 0 k12)) = 0 → am_let (z10 + nI 1) (fun y13 => w_X5_commit_L52 x1 Q K f52 M11 z9 y13)) ∧ (¬ (nI (M11.2 25 0 k12)) = 0 → am_ix x1 10 (fun k14 => w_X5_send M11 (nI 1) (nI (M11.2 23 0 k14)) z10 x1 (fun M15 => am_let (z9 + nI 1) (fun y16 => am_let (z10 + nI 1) (fun y17 => w_X5_commit_L52 x1 Q K f52 M15 y16 y17)))))))))
theorem w_X5_commit_L52_s {x1 : Int32} {Q : Int32 → am_M → Prop} {K : am_M → Int32 → Int32 → Prop} {f52 : Nat} {M11 : am_M} {z9 : Int32} {z10 : Int32} (h : w_X5_commit_L52 x1 Q K (f52 + 1) M11 z9 z10) : (((nI 4) ≤ z10 → K M11 z9 z10) ∧ (¬ (nI 4) ≤ z10 → am_ix (((nI 4) * x1) + z10) 40 (fun k12 => (((nI (M11.2 25 0 k12)) = 0 → am_let (z10 + nI 1) (fun y13 => w_X5_commit_L52 x1 Q K f52 M11 z9 y13)) ∧ (¬ (nI (M11.2 25 0 k12)) = 0 → am_ix x1 10 (fun k14 => w_X5_send M11 (nI 1) (nI (M11.2 23 0 k14)) z10 x1 (fun M15 => am_let (z9 + nI 1) (fun y16 => am_let (z10 + nI 1) (fun y17 => w_X5_commit_L52 x1 Q K f52 M15 y16 y17))))))))) := h
theorem w_X5_commit_L52_i {x1 : Int32} {Q : Int32 → am_M → Prop} {K : am_M → Int32 → Int32 → Prop} {f52 : Nat} {M11 : am_M} {z9 : Int32} {z10 : Int32} (h : (((nI 4) ≤ z10 → K M11 z9 z10) ∧ (¬ (nI 4) ≤ z10 → am_ix (((nI 4) * x1) + z10) 40 (fun k12 => (((nI (M11.2 25 0 k12)) = 0 → am_let (z10 + nI 1) (fun y13 => w_X5_commit_L52 x1 Q K f52 M11 z9 y13)) ∧ (¬ (nI (M11.2 25 0 k12)) = 0 → am_ix x1 10 (fun k14 => w_X5_send M11 (nI 1) (nI (M11.2 23 0 k14)) z10 x1 (fun M15 => am_let (z9 + nI 1) (fun y16 => am_let (z10 + nI 1) (fun y17 => w_X5_commit_L52 x1 Q K f52 M15 y16 y17)))))))))) : w_X5_commit_L52 x1 Q K (f52 + 1) M11 z9 z10 := h
def w_X5_commit (M : am_M) (x1 : Int32) (Q : Int32 → am_M → Prop) : Prop := w_X5_noWork M x1 (fun y2 M1 => ((y2 = 0 → am_ix x1 10 (fun k3 => am_ix (nI (M1.2 23 0 k3)) 4 (fun k4 => (((nI (M1.2 21 0 k4)) = 0 → am_ix x1 10 (fun k5 => (((nI (M1.2 24 0 k5)) = (nI 1) → am_let (nI 0) (fun y6 => am_sa (am_c2 M1 24 0) 10 x1 (nI 2) (fun M7 => am_let (nI 0) (fun y8 => (∃ f52 : Nat, w_X5_commit_L52 x1 Q (fun M18 z19 z20 => ((¬ z19 = 0 → Q z19 M18) ∧ (z19 = 0 → w_X5_forget M18 x1 (fun M21 => Q z19 M21)))) f52 M7 y6 y8))))) ∧ (¬ (nI (M1.2 24 0 k5)) = (nI 1) → Q (-4) M1)))) ∧ (¬ (nI (M1.2 21 0 k4)) = 0 → Q (-3) M1))))) ∧ (¬ y2 = 0 → Q (-2) M1)))
theorem w_X5_commit_s {M : am_M} {x1 : Int32} {Q : Int32 → am_M → Prop} (h : w_X5_commit M x1 Q) : w_X5_noWork M x1 (fun y2 M1 => ((y2 = 0 → am_ix x1 10 (fun k3 => am_ix (nI (M1.2 23 0 k3)) 4 (fun k4 => (((nI (M1.2 21 0 k4)) = 0 → am_ix x1 10 (fun k5 => (((nI (M1.2 24 0 k5)) = (nI 1) → am_let (nI 0) (fun y6 => am_sa (am_c2 M1 24 0) 10 x1 (nI 2) (fun M7 => am_let (nI 0) (fun y8 => (∃ f52 : Nat, w_X5_commit_L52 x1 Q (fun M18 z19 z20 => ((¬ z19 = 0 → Q z19 M18) ∧ (z19 = 0 → w_X5_forget M18 x1 (fun M21 => Q z19 M21)))) f52 M7 y6 y8))))) ∧ (¬ (nI (M1.2 24 0 k5)) = (nI 1) → Q (-4) M1)))) ∧ (¬ (nI (M1.2 21 0 k4)) = 0 → Q (-3) M1))))) ∧ (¬ y2 = 0 → Q (-2) M1))) := h
theorem w_X5_commit_i {M : am_M} {x1 : Int32} {Q : Int32 → am_M → Prop} (h : w_X5_noWork M x1 (fun y2 M1 => ((y2 = 0 → am_ix x1 10 (fun k3 => am_ix (nI (M1.2 23 0 k3)) 4 (fun k4 => (((nI (M1.2 21 0 k4)) = 0 → am_ix x1 10 (fun k5 => (((nI (M1.2 24 0 k5)) = (nI 1) → am_let (nI 0) (fun y6 => am_sa (am_c2 M1 24 0) 10 x1 (nI 2) (fun M7 => am_let (nI 0) (fun y8 => (∃ f52 : Nat, w_X5_commit_L52 x1 Q (fun M18 z19 z20 => ((¬ z19 = 0 → Q z19 M18) ∧ (z19 = 0 → w_X5_forget M18 x1 (fun M21 => Q z19 M21)))) f52 M7 y6 y8))))) ∧ (¬ (nI (M1.2 24 0 k5)) = (nI 1) → Q (-4) M1)))) ∧ (¬ (nI (M1.2 21 0 k4)) = 0 → Q (-3) M1))))) ∧ (¬ y2 = 0 → Q (-2) M1)))) : w_X5_commit M x1 Q := h
def w_X5_write (M : am_M) (x1 : Int32) (x2 : Int32) (x3 : Int32) (x4 : Int32) (Q : am_M → Prop) : Prop := am_ix x1 4 (fun k1 => am_let (((nI 64) * x1) + (nI (M.2 31 0 k1))) (fun y2 => am_sa (am_c2 M 32 0) 256 y2 x2 (fun M3 => am_sa (am_c2 M3 33 0) 256 y2 x3 (fun M4 => am_sa (am_c2 M4 34 0) 256 y2 x4 (fun M5 => am_sz (am_c2 M5 35 0) 256 y2 (nI 0) (fun M6 => am_ix x1 4 (fun k7 => am_sa (am_c2 M6 31 0) 4 x1 ((nI (M6.2 31 0 k7)) + (nI 1)) (fun M8 => Q M8))))))))
theorem w_X5_write_s {M : am_M} {x1 : Int32} {x2 : Int32} {x3 : Int32} {x4 : Int32} {Q : am_M → Prop} (h : w_X5_write M x1 x2 x3 x4 Q) : am_ix x1 4 (fun k1 => am_let (((nI 64) * x1) + (nI (M.2 31 0 k1))) (fun y2 => am_sa (am_c2 M 32 0) 256 y2 x2 (fun M3 => am_sa (am_c2 M3 33 0) 256 y2 x3 (fun M4 => am_sa (am_c2 M4 34 0) 256 y2 x4 (fun M5 => am_sz (am_c2 M5 35 0) 256 y2 (nI 0) (fun M6 => am_ix x1 4 (fun k7 => am_sa (am_c2 M6 31 0) 4 x1 ((nI (M6.2 31 0 k7)) + (nI 1)) (fun M8 => Q M8)))))))) := h
theorem w_X5_write_i {M : am_M} {x1 : Int32} {x2 : Int32} {x3 : Int32} {x4 : Int32} {Q : am_M → Prop} (h : am_ix x1 4 (fun k1 => am_let (((nI 64) * x1) + (nI (M.2 31 0 k1))) (fun y2 => am_sa (am_c2 M 32 0) 256 y2 x2 (fun M3 => am_sa (am_c2 M3 33 0) 256 y2 x3 (fun M4 => am_sa (am_c2 M4 34 0) 256 y2 x4 (fun M5 => am_sz (am_c2 M5 35 0) 256 y2 (nI 0) (fun M6 => am_ix x1 4 (fun k7 => am_sa (am_c2 M6 31 0) 4 x1 ((nI (M6.2 31 0 k7)) + (nI 1)) (fun M8 => Q M8))))))))) : w_X5_write M x1 x2 x3 x4 Q := h
def w_X5_pullBack_L18 (x1 : Int32) (x2 : Int32) (Q : Int32 → am_M → Prop) (K : am_M → Int32 → Int32 → Prop) : Nat → am_M → Int32 → Int32 → Prop
  | 0, _, _, _ => False
  | f18 + 1, M7, z5, z6 => (((nI 4) ≤ z6 → K M7 z5 z6) ∧ (¬ (nI 4) ≤ z6 → am_ix (((nI 4) * x1) + z6) 40 (fun k8 => (((nI (M7.2 25 0 k8)) = 0 → am_let (z6 + nI 1) (fun y9 => w_X5_pullBack_L18 x1 x2 Q K f18 M7 z5 y9)) ∧ (¬ (nI (M7.2 25 0 k8)) = 0 → am_ix (((nI 4) * x1) + z6) 40 (fun k10 => ((¬ (nI (M7.2 27 0 k10)) = 0 → am_let (z6 + nI 1) (fun y11 => w_X5_pullBack_L18 x1 x2 Q K f18 M7 z5 y11)) ∧ ((nI (M7.2 27 0 k10)) = 0 → ((z6 = x2 → am_let (z6 + nI 1) (fun y12 => w_X5_pullBack_L18 x1 x2 Q K f18 M7 z5 y12)) ∧ (¬ z6 = x2 → am_ix x1 10 (fun k13 => w_X5_send M7 (nI 6) (nI (M7.2 23 0 k13)) z6 x1 (fun M14 => am_let (z5 + nI 1) (fun y15 => am_let (z6 + nI 1) (fun y16 => w_X5_pullBack_L18 x1 x2 Q K f18 M14 y15 y16))))))))))))))
theorem w_X5_pullBack_L18_s {x1 : Int32} {x2 : Int32} {Q : Int32 → am_M → Prop} {K : am_M → Int32 → Int32 → Prop} {f18 : Nat} {M7 : am_M} {z5 : Int32} {z6 : Int32} (h : w_X5_pullBack_L18 x1 x2 Q K (f18 + 1) M7 z5 z6) : (((nI 4) ≤ z6 → K M7 z5 z6) ∧ (¬ (nI 4) ≤ z6 → am_ix (((nI 4) * x1) + z6) 40 (fun k8 => (((nI (M7.2 25 0 k8)) = 0 → am_let (z6 + nI 1) (fun y9 => w_X5_pullBack_L18 x1 x2 Q K f18 M7 z5 y9)) ∧ (¬ (nI (M7.2 25 0 k8)) = 0 → am_ix (((nI 4) * x1) + z6) 40 (fun k10 => ((¬ (nI (M7.2 27 0 k10)) = 0 → am_let (z6 + nI 1) (fun y11 => w_X5_pullBack_L18 x1 x2 Q K f18 M7 z5 y11)) ∧ ((nI (M7.2 27 0 k10)) = 0 → ((z6 = x2 → am_let (z6 + nI 1) (fun y12 => w_X5_pullBack_L18 x1 x2 Q K f18 M7 z5 y12)) ∧ (¬ z6 = x2 → am_ix x1 10 (fun k13 => w_X5_send M7 (nI 6) (nI (M7.2 23 0 k13)) z6 x1 (fun M14 => am_let (z5 + nI 1) (fun y15 => am_let (z6 + nI 1) (fun y16 => w_X5_pullBack_L18 x1 x2 Q K f18 M14 y15 y16)))))))))))))) := h
theorem w_X5_pullBack_L18_i {x1 : Int32} {x2 : Int32} {Q : Int32 → am_M → Prop} {K : am_M → Int32 → Int32 → Prop} {f18 : Nat} {M7 : am_M} {z5 : Int32} {z6 : Int32} (h : (((nI 4) ≤ z6 → K M7 z5 z6) ∧ (¬ (nI 4) ≤ z6 → am_ix (((nI 4) * x1) + z6) 40 (fun k8 => (((nI (M7.2 25 0 k8)) = 0 → am_let (z6 + nI 1) (fun y9 => w_X5_pullBack_L18 x1 x2 Q K f18 M7 z5 y9)) ∧ (¬ (nI (M7.2 25 0 k8)) = 0 → am_ix (((nI 4) * x1) + z6) 40 (fun k10 => ((¬ (nI (M7.2 27 0 k10)) = 0 → am_let (z6 + nI 1) (fun y11 => w_X5_pullBack_L18 x1 x2 Q K f18 M7 z5 y11)) ∧ ((nI (M7.2 27 0 k10)) = 0 → ((z6 = x2 → am_let (z6 + nI 1) (fun y12 => w_X5_pullBack_L18 x1 x2 Q K f18 M7 z5 y12)) ∧ (¬ z6 = x2 → am_ix x1 10 (fun k13 => w_X5_send M7 (nI 6) (nI (M7.2 23 0 k13)) z6 x1 (fun M14 => am_let (z5 + nI 1) (fun y15 => am_let (z6 + nI 1) (fun y16 => w_X5_pullBack_L18 x1 x2 Q K f18 M14 y15 y16))))))))))))))) : w_X5_pullBack_L18 x1 x2 Q K (f18 + 1) M7 z5 z6 := h
def w_X5_pullBack (M : am_M) (x1 : Int32) (x2 : Int32) (Q : Int32 → am_M → Prop) : Prop := am_let (nI 0) (fun y1 => am_ix x1 10 (fun k2 => w_X5_write M (nI (M.2 23 0 k2)) x1 (nI 5) (nI 0) (fun M3 => am_let (nI 0) (fun y4 => (∃ f18 : Nat, w_X5_pullBack_L18 x1 x2 Q (fun M17 z18 z19 => w_X5_forget M17 x1 (fun M20 => Q z18 M20)) f18 M3 y1 y4)))))
theorem w_X5_pullBack_s {M : am_M} {x1 : Int32} {x2 : Int32} {Q : Int32 → am_M → Prop} (h : w_X5_pullBack M x1 x2 Q) : am_let (nI 0) (fun y1 => am_ix x1 10 (fun k2 => w_X5_write M (nI (M.2 23 0 k2)) x1 (nI 5) (nI 0) (fun M3 => am_let (nI 0) (fun y4 => (∃ f18 : Nat, w_X5_pullBack_L18 x1 x2 Q (fun M17 z18 z19 => w_X5_forget M17 x1 (fun M20 => Q z18 M20)) f18 M3 y1 y4))))) := h
theorem w_X5_pullBack_i {M : am_M} {x1 : Int32} {x2 : Int32} {Q : Int32 → am_M → Prop} (h : am_let (nI 0) (fun y1 => am_ix x1 10 (fun k2 => w_X5_write M (nI (M.2 23 0 k2)) x1 (nI 5) (nI 0) (fun M3 => am_let (nI 0) (fun y4 => (∃ f18 : Nat, w_X5_pullBack_L18 x1 x2 Q (fun M17 z18 z19 => w_X5_forget M17 x1 (fun M20 => Q z18 M20)) f18 M3 y1 y4)))))) : w_X5_pullBack M x1 x2 Q := h
def w_X5_withdraw (M : am_M) (x1 : Int32) (Q : Int32 → am_M → Prop) : Prop := w_X5_noWork M x1 (fun y2 M1 => ((y2 = 0 → am_ix x1 10 (fun k3 => am_ix (nI (M1.2 23 0 k3)) 4 (fun k4 => (((nI (M1.2 21 0 k4)) = 0 → am_ix x1 10 (fun k5 => (((nI (M1.2 24 0 k5)) = (nI 1) → w_X5_pullBack M1 x1 (-1) (fun y7 M6 => Q y7 M6)) ∧ (¬ (nI (M1.2 24 0 k5)) = (nI 1) → am_ix x1 10 (fun k8 => ((¬ (nI (M1.2 24 0 k8)) = (nI 2) → Q (-4) M1) ∧ ((nI (M1.2 24 0 k8)) = (nI 2) → w_X5_pullBack M1 x1 (-1) (fun y10 M9 => Q y10 M9)))))))) ∧ (¬ (nI (M1.2 21 0 k4)) = 0 → Q (-3) M1))))) ∧ (¬ y2 = 0 → Q (-2) M1)))
theorem w_X5_withdraw_s {M : am_M} {x1 : Int32} {Q : Int32 → am_M → Prop} (h : w_X5_withdraw M x1 Q) : w_X5_noWork M x1 (fun y2 M1 => ((y2 = 0 → am_ix x1 10 (fun k3 => am_ix (nI (M1.2 23 0 k3)) 4 (fun k4 => (((nI (M1.2 21 0 k4)) = 0 → am_ix x1 10 (fun k5 => (((nI (M1.2 24 0 k5)) = (nI 1) → w_X5_pullBack M1 x1 (-1) (fun y7 M6 => Q y7 M6)) ∧ (¬ (nI (M1.2 24 0 k5)) = (nI 1) → am_ix x1 10 (fun k8 => ((¬ (nI (M1.2 24 0 k8)) = (nI 2) → Q (-4) M1) ∧ ((nI (M1.2 24 0 k8)) = (nI 2) → w_X5_pullBack M1 x1 (-1) (fun y10 M9 => Q y10 M9)))))))) ∧ (¬ (nI (M1.2 21 0 k4)) = 0 → Q (-3) M1))))) ∧ (¬ y2 = 0 → Q (-2) M1))) := h
theorem w_X5_withdraw_i {M : am_M} {x1 : Int32} {Q : Int32 → am_M → Prop} (h : w_X5_noWork M x1 (fun y2 M1 => ((y2 = 0 → am_ix x1 10 (fun k3 => am_ix (nI (M1.2 23 0 k3)) 4 (fun k4 => (((nI (M1.2 21 0 k4)) = 0 → am_ix x1 10 (fun k5 => (((nI (M1.2 24 0 k5)) = (nI 1) → w_X5_pullBack M1 x1 (-1) (fun y7 M6 => Q y7 M6)) ∧ (¬ (nI (M1.2 24 0 k5)) = (nI 1) → am_ix x1 10 (fun k8 => ((¬ (nI (M1.2 24 0 k8)) = (nI 2) → Q (-4) M1) ∧ ((nI (M1.2 24 0 k8)) = (nI 2) → w_X5_pullBack M1 x1 (-1) (fun y10 M9 => Q y10 M9)))))))) ∧ (¬ (nI (M1.2 21 0 k4)) = 0 → Q (-3) M1))))) ∧ (¬ y2 = 0 → Q (-2) M1)))) : w_X5_withdraw M x1 Q := h
def w_X5_take_L12 (x1 : Int32) (Q : am_M → Prop) (K : am_M → Int32 → Prop) : Nat → am_M → Int32 → Prop
  | 0, _, _ => False
  | f12 + 1, M4, z3 => (((nI (M4.2 20 0 16)) ≤ z3 → K M4 z3) ∧ (¬ (nI (M4.2 20 0 16)) ≤ z3 → am_ix (z3 + (nI 1)) 40 (fun k5 => am_sa (am_c2 M4 36 0) 40 z3 (nI (M4.2 36 0 k5)) (fun M6 => am_ix (z3 + (nI 1)) 40 (fun k7 => am_sa (am_c2 M6 37 0) 40 z3 (nI (M6.2 37 0 k7)) (fun M8 => am_ix (z3 + (nI 1)) 40 (fun k9 => am_sa (am_c2 M8 38 0) 40 z3 (nI (M8.2 38 0 k9)) (fun M10 => am_ix (z3 + (nI 1)) 40 (fun k11 => am_sa (am_c2 M10 39 0) 40 z3 (nI (M10.2 39 0 k11)) (fun M12 => am_let (z3 + nI 1) (fun y13 => w_X5_take_L12 x1 Q K f12 M12 y13)))))))))))
theorem w_X5_take_L12_s {x1 : Int32} {Q : am_M → Prop} {K : am_M → Int32 → Prop} {f12 : Nat} {M4 : am_M} {z3 : Int32} (h : w_X5_take_L12 x1 Q K (f12 + 1) M4 z3) : (((nI (M4.2 20 0 16)) ≤ z3 → K M4 z3) ∧ (¬ (nI (M4.2 20 0 16)) ≤ z3 → am_ix (z3 + (nI 1)) 40 (fun k5 => am_sa (am_c2 M4 36 0) 40 z3 (nI (M4.2 36 0 k5)) (fun M6 => am_ix (z3 + (nI 1)) 40 (fun k7 => am_sa (am_c2 M6 37 0) 40 z3 (nI (M6.2 37 0 k7)) (fun M8 => am_ix (z3 + (nI 1)) 40 (fun k9 => am_sa (am_c2 M8 38 0) 40 z3 (nI (M8.2 38 0 k9)) (fun M10 => am_ix (z3 + (nI 1)) 40 (fun k11 => am_sa (am_c2 M10 39 0) 40 z3 (nI (M10.2 39 0 k11)) (fun M12 => am_let (z3 + nI 1) (fun y13 => w_X5_take_L12 x1 Q K f12 M12 y13))))))))))) := h
theorem w_X5_take_L12_i {x1 : Int32} {Q : am_M → Prop} {K : am_M → Int32 → Prop} {f12 : Nat} {M4 : am_M} {z3 : Int32} (h : (((nI (M4.2 20 0 16)) ≤ z3 → K M4 z3) ∧ (¬ (nI (M4.2 20 0 16)) ≤ z3 → am_ix (z3 + (nI 1)) 40 (fun k5 => am_sa (am_c2 M4 36 0) 40 z3 (nI (M4.2 36 0 k5)) (fun M6 => am_ix (z3 + (nI 1)) 40 (fun k7 => am_sa (am_c2 M6 37 0) 40 z3 (nI (M6.2 37 0 k7)) (fun M8 => am_ix (z3 + (nI 1)) 40 (fun k9 => am_sa (am_c2 M8 38 0) 40 z3 (nI (M8.2 38 0 k9)) (fun M10 => am_ix (z3 + (nI 1)) 40 (fun k11 => am_sa (am_c2 M10 39 0) 40 z3 (nI (M10.2 39 0 k11)) (fun M12 => am_let (z3 + nI 1) (fun y13 => w_X5_take_L12 x1 Q K f12 M12 y13)))))))))))) : w_X5_take_L12 x1 Q K (f12 + 1) M4 z3 := h
def w_X5_take (M : am_M) (x1 : Int32) (Q : am_M → Prop) : Prop := am_sf (am_c2 M 20 0 16) ((nI (M.2 20 0 16)) - (nI 1)) (fun M1 => am_let x1 (fun y2 => (∃ f12 : Nat, w_X5_take_L12 x1 Q (fun M14 z15 => Q M14) f12 M1 y2)))
theorem w_X5_take_s {M : am_M} {x1 : Int32} {Q : am_M → Prop} (h : w_X5_take M x1 Q) : am_sf (am_c2 M 20 0 16) ((nI (M.2 20 0 16)) - (nI 1)) (fun M1 => am_let x1 (fun y2 => (∃ f12 : Nat, w_X5_take_L12 x1 Q (fun M14 z15 => Q M14) f12 M1 y2))) := h
theorem w_X5_take_i {M : am_M} {x1 : Int32} {Q : am_M → Prop} (h : am_sf (am_c2 M 20 0 16) ((nI (M.2 20 0 16)) - (nI 1)) (fun M1 => am_let x1 (fun y2 => (∃ f12 : Nat, w_X5_take_L12 x1 Q (fun M14 z15 => Q M14) f12 M1 y2)))) : w_X5_take M x1 Q := h
def w_X5_letGo_L2 (x1 : Int32) (x2 : Int32) (Q : am_M → Prop) (K : am_M → Int32 → Prop) : Nat → am_M → Int32 → Prop
  | 0, _, _ => False
  | f2 + 1, M3, z2 => (((nI 8) ≤ z2 → K M3 z2) ∧ (¬ (nI 8) ≤ z2 → am_ix (((nI 8) * x1) + z2) 32 (fun k4 => ((¬ (nI (M3.2 30 0 k4)) = (x2 + (nI 1)) → am_ix (((nI 8) * x1) + z2) 32 (fun k5 => am_sa (am_c2 M3 30 0) 32 (((nI 8) * x1) + z2) (nI (M3.2 30 0 k5)) (fun M6 => am_let (z2 + nI 1) (fun y7 => w_X5_letGo_L2 x1 x2 Q K f2 M6 y7)))) ∧ ((nI (M3.2 30 0 k4)) = (x2 + (nI 1)) → am_sa (am_c2 M3 30 0) 32 (((nI 8) * x1) + z2) (nI 0) (fun M8 => am_let (z2 + nI 1) (fun y9 => w_X5_letGo_L2 x1 x2 Q K f2 M8 y9)))))))
theorem w_X5_letGo_L2_s {x1 : Int32} {x2 : Int32} {Q : am_M → Prop} {K : am_M → Int32 → Prop} {f2 : Nat} {M3 : am_M} {z2 : Int32} (h : w_X5_letGo_L2 x1 x2 Q K (f2 + 1) M3 z2) : (((nI 8) ≤ z2 → K M3 z2) ∧ (¬ (nI 8) ≤ z2 → am_ix (((nI 8) * x1) + z2) 32 (fun k4 => ((¬ (nI (M3.2 30 0 k4)) = (x2 + (nI 1)) → am_ix (((nI 8) * x1) + z2) 32 (fun k5 => am_sa (am_c2 M3 30 0) 32 (((nI 8) * x1) + z2) (nI (M3.2 30 0 k5)) (fun M6 => am_let (z2 + nI 1) (fun y7 => w_X5_letGo_L2 x1 x2 Q K f2 M6 y7)))) ∧ ((nI (M3.2 30 0 k4)) = (x2 + (nI 1)) → am_sa (am_c2 M3 30 0) 32 (((nI 8) * x1) + z2) (nI 0) (fun M8 => am_let (z2 + nI 1) (fun y9 => w_X5_letGo_L2 x1 x2 Q K f2 M8 y9))))))) := h
theorem w_X5_letGo_L2_i {x1 : Int32} {x2 : Int32} {Q : am_M → Prop} {K : am_M → Int32 → Prop} {f2 : Nat} {M3 : am_M} {z2 : Int32} (h : (((nI 8) ≤ z2 → K M3 z2) ∧ (¬ (nI 8) ≤ z2 → am_ix (((nI 8) * x1) + z2) 32 (fun k4 => ((¬ (nI (M3.2 30 0 k4)) = (x2 + (nI 1)) → am_ix (((nI 8) * x1) + z2) 32 (fun k5 => am_sa (am_c2 M3 30 0) 32 (((nI 8) * x1) + z2) (nI (M3.2 30 0 k5)) (fun M6 => am_let (z2 + nI 1) (fun y7 => w_X5_letGo_L2 x1 x2 Q K f2 M6 y7)))) ∧ ((nI (M3.2 30 0 k4)) = (x2 + (nI 1)) → am_sa (am_c2 M3 30 0) 32 (((nI 8) * x1) + z2) (nI 0) (fun M8 => am_let (z2 + nI 1) (fun y9 => w_X5_letGo_L2 x1 x2 Q K f2 M8 y9)))))))) : w_X5_letGo_L2 x1 x2 Q K (f2 + 1) M3 z2 := h
def w_X5_letGo (M : am_M) (x1 : Int32) (x2 : Int32) (Q : am_M → Prop) : Prop := am_let (nI 0) (fun y1 => (∃ f2 : Nat, w_X5_letGo_L2 x1 x2 Q (fun M10 z11 => am_sa (am_c2 M10 29 0) 40 (((nI 4) * x2) + x1) (nI 0) (fun M12 => Q M12)) f2 M y1))
theorem w_X5_letGo_s {M : am_M} {x1 : Int32} {x2 : Int32} {Q : am_M → Prop} (h : w_X5_letGo M x1 x2 Q) : am_let (nI 0) (fun y1 => (∃ f2 : Nat, w_X5_letGo_L2 x1 x2 Q (fun M10 z11 => am_sa (am_c2 M10 29 0) 40 (((nI 4) * x2) + x1) (nI 0) (fun M12 => Q M12)) f2 M y1)) := h
theorem w_X5_letGo_i {M : am_M} {x1 : Int32} {x2 : Int32} {Q : am_M → Prop} (h : am_let (nI 0) (fun y1 => (∃ f2 : Nat, w_X5_letGo_L2 x1 x2 Q (fun M10 z11 => am_sa (am_c2 M10 29 0) 40 (((nI 4) * x2) + x1) (nI 0) (fun M12 => Q M12)) f2 M y1))) : w_X5_letGo M x1 x2 Q := h
def w_X5_giveUp (M : am_M) (x1 : Int32) (x2 : Int32) (Q : am_M → Prop) : Prop := w_X5_write M x1 x2 (nI 3) (nI 0) (fun M1 => w_X5_letGo M1 x1 x2 (fun M2 => Q M2))
theorem w_X5_giveUp_s {M : am_M} {x1 : Int32} {x2 : Int32} {Q : am_M → Prop} (h : w_X5_giveUp M x1 x2 Q) : w_X5_write M x1 x2 (nI 3) (nI 0) (fun M1 => w_X5_letGo M1 x1 x2 (fun M2 => Q M2)) := h
theorem w_X5_giveUp_i {M : am_M} {x1 : Int32} {x2 : Int32} {Q : am_M → Prop} (h : w_X5_write M x1 x2 (nI 3) (nI 0) (fun M1 => w_X5_letGo M1 x1 x2 (fun M2 => Q M2))) : w_X5_giveUp M x1 x2 Q := h
def w_X5_holding_L5 (x1 : Int32) (x2 : Int32) (Q : Int32 → am_M → Prop) (K : am_M → Int32 → Int32 → Prop) : Nat → am_M → Int32 → Int32 → Prop
  | 0, _, _, _ => False
  | f5 + 1, M5, z3, z4 => (((nI 8) ≤ z4 → K M5 z3 z4) ∧ (¬ (nI 8) ≤ z4 → am_ix (((nI 8) * x1) + z4) 32 (fun k6 => ((¬ (nI (M5.2 30 0 k6)) = (x2 + (nI 1)) → am_let z3 (fun y7 => am_let (z4 + nI 1) (fun y8 => w_X5_holding_L5 x1 x2 Q K f5 M5 y7 y8))) ∧ ((nI (M5.2 30 0 k6)) = (x2 + (nI 1)) → am_let (z3 ||| ((nI 1) <<< (z4 &&& 31))) (fun y9 => am_let (z4 + nI 1) (fun y10 => w_X5_holding_L5 x1 x2 Q K f5 M5 y9 y10)))))))
theorem w_X5_holding_L5_s {x1 : Int32} {x2 : Int32} {Q : Int32 → am_M → Prop} {K : am_M → Int32 → Int32 → Prop} {f5 : Nat} {M5 : am_M} {z3 : Int32} {z4 : Int32} (h : w_X5_holding_L5 x1 x2 Q K (f5 + 1) M5 z3 z4) : (((nI 8) ≤ z4 → K M5 z3 z4) ∧ (¬ (nI 8) ≤ z4 → am_ix (((nI 8) * x1) + z4) 32 (fun k6 => ((¬ (nI (M5.2 30 0 k6)) = (x2 + (nI 1)) → am_let z3 (fun y7 => am_let (z4 + nI 1) (fun y8 => w_X5_holding_L5 x1 x2 Q K f5 M5 y7 y8))) ∧ ((nI (M5.2 30 0 k6)) = (x2 + (nI 1)) → am_let (z3 ||| ((nI 1) <<< (z4 &&& 31))) (fun y9 => am_let (z4 + nI 1) (fun y10 => w_X5_holding_L5 x1 x2 Q K f5 M5 y9 y10))))))) := h
theorem w_X5_holding_L5_i {x1 : Int32} {x2 : Int32} {Q : Int32 → am_M → Prop} {K : am_M → Int32 → Int32 → Prop} {f5 : Nat} {M5 : am_M} {z3 : Int32} {z4 : Int32} (h : (((nI 8) ≤ z4 → K M5 z3 z4) ∧ (¬ (nI 8) ≤ z4 → am_ix (((nI 8) * x1) + z4) 32 (fun k6 => ((¬ (nI (M5.2 30 0 k6)) = (x2 + (nI 1)) → am_let z3 (fun y7 => am_let (z4 + nI 1) (fun y8 => w_X5_holding_L5 x1 x2 Q K f5 M5 y7 y8))) ∧ ((nI (M5.2 30 0 k6)) = (x2 + (nI 1)) → am_let (z3 ||| ((nI 1) <<< (z4 &&& 31))) (fun y9 => am_let (z4 + nI 1) (fun y10 => w_X5_holding_L5 x1 x2 Q K f5 M5 y9 y10)))))))) : w_X5_holding_L5 x1 x2 Q K (f5 + 1) M5 z3 z4 := h
def w_X5_holding (M : am_M) (x1 : Int32) (x2 : Int32) (Q : Int32 → am_M → Prop) : Prop := am_let (nI 0) (fun y1 => am_let (nI 0) (fun y2 => (∃ f5 : Nat, w_X5_holding_L5 x1 x2 Q (fun M11 z12 z13 => Q z12 M11) f5 M y1 y2)))
theorem w_X5_holding_s {M : am_M} {x1 : Int32} {x2 : Int32} {Q : Int32 → am_M → Prop} (h : w_X5_holding M x1 x2 Q) : am_let (nI 0) (fun y1 => am_let (nI 0) (fun y2 => (∃ f5 : Nat, w_X5_holding_L5 x1 x2 Q (fun M11 z12 z13 => Q z12 M11) f5 M y1 y2))) := h
theorem w_X5_holding_i {M : am_M} {x1 : Int32} {x2 : Int32} {Q : Int32 → am_M → Prop} (h : am_let (nI 0) (fun y1 => am_let (nI 0) (fun y2 => (∃ f5 : Nat, w_X5_holding_L5 x1 x2 Q (fun M11 z12 z13 => Q z12 M11) f5 M y1 y2)))) : w_X5_holding M x1 x2 Q := h
def w_X5_force_L12 (x1 : Int32) (x2 : Int32) (x3 : Int32) (x4 : Int32) (Q : am_M → Prop) (K : am_M → Int32 → Prop) : Nat → am_M → Int32 → Prop
  | 0, _, _ => False
  | f12 + 1, M4, z3 => am_ix x1 4 (fun k5 => (((nI (M4.2 31 0 k5)) ≤ z3 → K M4 z3) ∧ (¬ (nI (M4.2 31 0 k5)) ≤ z3 → am_sz (am_c2 M4 35 0) 256 (((nI 64) * x1) + z3) (nI 1) (fun M6 => am_let (z3 + nI 1) (fun y7 => w_X5_force_L12 x1 x2 x3 x4 Q K f12 M6 y7)))))
theorem w_X5_force_L12_s {x1 : Int32} {x2 : Int32} {x3 : Int32} {x4 : Int32} {Q : am_M → Prop} {K : am_M → Int32 → Prop} {f12 : Nat} {M4 : am_M} {z3 : Int32} (h : w_X5_force_L12 x1 x2 x3 x4 Q K (f12 + 1) M4 z3) : am_ix x1 4 (fun k5 => (((nI (M4.2 31 0 k5)) ≤ z3 → K M4 z3) ∧ (¬ (nI (M4.2 31 0 k5)) ≤ z3 → am_sz (am_c2 M4 35 0) 256 (((nI 64) * x1) + z3) (nI 1) (fun M6 => am_let (z3 + nI 1) (fun y7 => w_X5_force_L12 x1 x2 x3 x4 Q K f12 M6 y7))))) := h
theorem w_X5_force_L12_i {x1 : Int32} {x2 : Int32} {x3 : Int32} {x4 : Int32} {Q : am_M → Prop} {K : am_M → Int32 → Prop} {f12 : Nat} {M4 : am_M} {z3 : Int32} (h : am_ix x1 4 (fun k5 => (((nI (M4.2 31 0 k5)) ≤ z3 → K M4 z3) ∧ (¬ (nI (M4.2 31 0 k5)) ≤ z3 → am_sz (am_c2 M4 35 0) 256 (((nI 64) * x1) + z3) (nI 1) (fun M6 => am_let (z3 + nI 1) (fun y7 => w_X5_force_L12 x1 x2 x3 x4 Q K f12 M6 y7)))))) : w_X5_force_L12 x1 x2 x3 x4 Q K (f12 + 1) M4 z3 := h
def w_X5_force (M : am_M) (x1 : Int32) (x2 : Int32) (x3 : Int32) (x4 : Int32) (Q : am_M → Prop) : Prop := w_X5_write M x1 x2 x3 x4 (fun M1 => am_let (nI 0) (fun y2 => (∃ f12 : Nat, w_X5_force_L12 x1 x2 x3 x4 Q (fun M8 z9 => am_ix x1 4 (fun k10 => am_sa (am_c2 M8 22 0) 4 x1 ((nI (M8.2 22 0 k10)) + (nI 1)) (fun M11 => Q M11))) f12 M1 y2)))
theorem w_X5_force_s {M : am_M} {x1 : Int32} {x2 : Int32} {x3 : Int32} {x4 : Int32} {Q : am_M → Prop} (h : w_X5_force M x1 x2 x3 x4 Q) : w_X5_write M x1 x2 x3 x4 (fun M1 => am_let (nI 0) (fun y2 => (∃ f12 : Nat, w_X5_force_L12 x1 x2 x3 x4 Q (fun M8 z9 => am_ix x1 4 (fun k10 => am_sa (am_c2 M8 22 0) 4 x1 ((nI (M8.2 22 0 k10)) + (nI 1)) (fun M11 => Q M11))) f12 M1 y2))) := h
theorem w_X5_force_i {M : am_M} {x1 : Int32} {x2 : Int32} {x3 : Int32} {x4 : Int32} {Q : am_M → Prop} (h : w_X5_write M x1 x2 x3 x4 (fun M1 => am_let (nI 0) (fun y2 => (∃ f12 : Nat, w_X5_force_L12 x1 x2 x3 x4 Q (fun M8 z9 => am_ix x1 4 (fun k10 => am_sa (am_c2 M8 22 0) 4 x1 ((nI (M8.2 22 0 k10)) + (nI 1)) (fun M11 => Q M11))) f12 M1 y2)))) : w_X5_force M x1 x2 x3 x4 Q := h
def w_X5_hearPrepare_J101 (M15 : am_M) (y10 : Int32) (y11 : Int32) (y12 : Int32) (y13 : Int32) (y14 : Int32) (Q : am_M → Prop) : Prop := w_X5_send M15 y14 y10 y11 y12 (fun M16 => Q M16)
theorem w_X5_hearPrepare_J101_s {M15 : am_M} {y10 : Int32} {y11 : Int32} {y12 : Int32} {y13 : Int32} {y14 : Int32} {Q : am_M → Prop} (h : w_X5_hearPrepare_J101 M15 y10 y11 y12 y13 y14 Q) : w_X5_send M15 y14 y10 y11 y12 (fun M16 => Q M16) := h
theorem w_X5_hearPrepare_J101_i {M15 : am_M} {y10 : Int32} {y11 : Int32} {y12 : Int32} {y13 : Int32} {y14 : Int32} {Q : am_M → Prop} (h : w_X5_send M15 y14 y10 y11 y12 (fun M16 => Q M16)) : w_X5_hearPrepare_J101 M15 y10 y11 y12 y13 y14 Q := h
def w_X5_hearPrepare_J71 (M9 : am_M) (y4 : Int32) (y5 : Int32) (y6 : Int32) (y7 : Int32) (y8 : Int32) (Q : am_M → Prop) : Prop := ((¬ y7 = (nI 1) → w_X5_hearPrepare_J101 M9 y4 y5 y6 y7 y8 Q) ∧ (y7 = (nI 1) → w_X5_holding M9 y4 y6 (fun y18 M17 => w_X5_force M17 y4 y6 (nI 1) y18 (fun M19 => am_sa (am_c2 M19 29 0) 40 (((nI 4) * y6) + y4) (nI 3) (fun M20 => w_X5_hearPrepare_J101 M20 y4 y5 y6 y7 y8 Q)))))
theorem w_X5_hearPrepare_J71_s {M9 : am_M} {y4 : Int32} {y5 : Int32} {y6 : Int32} {y7 : Int32} {y8 : Int32} {Q : am_M → Prop} (h : w_X5_hearPrepare_J71 M9 y4 y5 y6 y7 y8 Q) : ((¬ y7 = (nI 1) → w_X5_hearPrepare_J101 M9 y4 y5 y6 y7 y8 Q) ∧ (y7 = (nI 1) → w_X5_holding M9 y4 y6 (fun y18 M17 => w_X5_force M17 y4 y6 (nI 1) y18 (fun M19 => am_sa (am_c2 M19 29 0) 40 (((nI 4) * y6) + y4) (nI 3) (fun M20 => w_X5_hearPrepare_J101 M20 y4 y5 y6 y7 y8 Q))))) := h
theorem w_X5_hearPrepare_J71_i {M9 : am_M} {y4 : Int32} {y5 : Int32} {y6 : Int32} {y7 : Int32} {y8 : Int32} {Q : am_M → Prop} (h : ((¬ y7 = (nI 1) → w_X5_hearPrepare_J101 M9 y4 y5 y6 y7 y8 Q) ∧ (y7 = (nI 1) → w_X5_holding M9 y4 y6 (fun y18 M17 => w_X5_force M17 y4 y6 (nI 1) y18 (fun M19 => am_sa (am_c2 M19 29 0) 40 (((nI 4) * y6) + y4) (nI 3) (fun M20 => w_X5_hearPrepare_J101 M20 y4 y5 y6 y7 y8 Q)))))) : w_X5_hearPrepare_J71 M9 y4 y5 y6 y7 y8 Q := h
def w_X5_hearPrepare (M : am_M) (x1 : Int32) (x2 : Int32) (x3 : Int32) (Q : am_M → Prop) : Prop := am_ix (((nI 4) * x3) + x1) 40 (fun k1 => am_let (nI (M.2 29 0 k1)) (fun y2 => am_let (nI 2) (fun y3 => ((¬ y2 = 0 → ((¬ y2 = (nI 2) → ((¬ y2 = (nI 1) → w_X5_hearPrepare_J71 M x1 x2 x3 y2 y3 Q) ∧ (y2 = (nI 1) → w_X5_holding M x1 x3 (fun y22 M21 => ((¬ y22 = 0 → w_X5_hearPrepare_J71 M21 x1 x2 x3 y2 y3 Q) ∧ (y22 = 0 → w_X5_letGo M21 x1 x3 (fun M23 => am_let (nI 3) (fun y24 => w_X5_hearPrepare_J101 M23 x1 x2 x3 y2 y24 Q)))))))) ∧ (y2 = (nI 2) → w_X5_giveUp M x1 x3 (fun M25 => am_let (nI 4) (fun y26 => w_X5_hearPrepare_J101 M25 x1 x2 x3 y2 y26 Q))))) ∧ (y2 = 0 → am_let (nI 4) (fun y27 => w_X5_hearPrepare_J101 M x1 x2 x3 y2 y27 Q))))))
theorem w_X5_hearPrepare_s {M : am_M} {x1 : Int32} {x2 : Int32} {x3 : Int32} {Q : am_M → Prop} (h : w_X5_hearPrepare M x1 x2 x3 Q) : am_ix (((nI 4) * x3) + x1) 40 (fun k1 => am_let (nI (M.2 29 0 k1)) (fun y2 => am_let (nI 2) (fun y3 => ((¬ y2 = 0 → ((¬ y2 = (nI 2) → ((¬ y2 = (nI 1) → w_X5_hearPrepare_J71 M x1 x2 x3 y2 y3 Q) ∧ (y2 = (nI 1) → w_X5_holding M x1 x3 (fun y22 M21 => ((¬ y22 = 0 → w_X5_hearPrepare_J71 M21 x1 x2 x3 y2 y3 Q) ∧ (y22 = 0 → w_X5_letGo M21 x1 x3 (fun M23 => am_let (nI 3) (fun y24 => w_X5_hearPrepare_J101 M23 x1 x2 x3 y2 y24 Q)))))))) ∧ (y2 = (nI 2) → w_X5_giveUp M x1 x3 (fun M25 => am_let (nI 4) (fun y26 => w_X5_hearPrepare_J101 M25 x1 x2 x3 y2 y26 Q))))) ∧ (y2 = 0 → am_let (nI 4) (fun y27 => w_X5_hearPrepare_J101 M x1 x2 x3 y2 y27 Q)))))) := h
theorem w_X5_hearPrepare_i {M : am_M} {x1 : Int32} {x2 : Int32} {x3 : Int32} {Q : am_M → Prop} (h : am_ix (((nI 4) * x3) + x1) 40 (fun k1 => am_let (nI (M.2 29 0 k1)) (fun y2 => am_let (nI 2) (fun y3 => ((¬ y2 = 0 → ((¬ y2 = (nI 2) → ((¬ y2 = (nI 1) → w_X5_hearPrepare_J71 M x1 x2 x3 y2 y3 Q) ∧ (y2 = (nI 1) → w_X5_holding M x1 x3 (fun y22 M21 => ((¬ y22 = 0 → w_X5_hearPrepare_J71 M21 x1 x2 x3 y2 y3 Q) ∧ (y22 = 0 → w_X5_letGo M21 x1 x3 (fun M23 => am_let (nI 3) (fun y24 => w_X5_hearPrepare_J101 M23 x1 x2 x3 y2 y24 Q)))))))) ∧ (y2 = (nI 2) → w_X5_giveUp M x1 x3 (fun M25 => am_let (nI 4) (fun y26 => w_X5_hearPrepare_J101 M25 x1 x2 x3 y2 y26 Q))))) ∧ (y2 = 0 → am_let (nI 4) (fun y27 => w_X5_hearPrepare_J101 M x1 x2 x3 y2 y27 Q))))))) : w_X5_hearPrepare M x1 x2 x3 Q := h
def w_X5_bits_L5 (x1 : Int32) (x2 : Int32) (Q : Int32 → am_M → Prop) (K : am_M → Int32 → Int32 → Prop) : Nat → am_M → Int32 → Int32 → Prop
  | 0, _, _, _ => False
  | f5 + 1, M5, z3, z4 => (((nI 4) ≤ z4 → K M5 z3 z4) ∧ (¬ (nI 4) ≤ z4 → am_let (((nI 4) * x1) + z4) (fun y6 => ((¬ x2 = 0 → ((¬ x2 = (nI 1) → ((¬ x2 = (nI 2) → am_ix y6 40 (fun k7 => am_let (nI (M5.2 28 0 k7)) (fun y8 => ((y8 = 0 → am_let z3 (fun y9 => am_let (z4 + nI 1) (fun y10 => w_X5_bits_L5 x1 x2 Q K f5 M5 y9 y10))) ∧ (¬ y8 = 0 → am_let (z3 ||| ((nI 1) <<< (z4 &&& 31))) (fun y11 => am_let (z4 + nI 1) (fun y12 => w_X5_bits_L5 x1 x2 Q K f5 M5 y11 y12))))))) ∧ (x2 = (nI 2) → am_ix y6 40 (fun k13 => am_let (nI (M5.2 27 0 k13)) (fun y14 => ((y14 = 0 → am_let z3 (fun y15 => am_let (z4 + nI 1) (fun y16 => w_X5_bits_L5 x1 x2 Q K f5 M5 y15 y16))) ∧ (¬ y14 = 0 → am_let (z3 ||| ((nI 1) <<< (z4 &&& 31))) (fun y17 => am_let (z4 + nI 1) (fun y18 => w_X5_bits_L5 x1 x2 Q K f5 M5 y17 y18))))))))) ∧ (x2 = (nI 1) → am_ix y6 40 (fun k19 => am_let (nI (M5.2 26 0 k19)) (fun y20 => ((y20 = 0 → am_let z3 (fun y21 => am_let (z4 + nI 1) (fun y22 => w_X5_bits_L5 x1 x2 Q K f5 M5 y21 y22))) ∧ (¬ y20 = 0 → am_let (z3 ||| ((nI 1) <<< (z4 &&& 31))) (fun y23 => am_let (z4 + nI 1) (fun y24 => w_X5_bits_L5 x1 x2 Q K f5 M5 y23 y24))))))))) ∧ (x2 = 0 → am_ix y6 40 (fun k25 => am_let (nI (M5.2 25 0 k25)) (fun y26 => ((y26 = 0 → am_let z3 (fun y27 => am_let (z4 + nI 1) (fun y28 => w_X5_bits_L5 x1 x2 Q K f5 M5 y27 y28))) ∧ (¬ y26 = 0 → am_let (z3 ||| ((nI 1) <<< (z4 &&& 31))) (fun y29 => am_let (z4 + nI 1) (fun y30 => w_X5_bits_L5 x1 x2 Q K f5 M5 y29 y30)))))))))))
theorem w_X5_bits_L5_s {x1 : Int32} {x2 : Int32} {Q : Int32 → am_M → Prop} {K : am_M → Int32 → Int32 → Prop} {f5 : Nat} {M5 : am_M} {z3 : Int32} {z4 : Int32} (h : w_X5_bits_L5 x1 x2 Q K (f5 + 1) M5 z3 z4) : (((nI 4) ≤ z4 → K M5 z3 z4) ∧ (¬ (nI 4) ≤ z4 → am_let (((nI 4) * x1) + z4) (fun y6 => ((¬ x2 = 0 → ((¬ x2 = (nI 1) → ((¬ x2 = (nI 2) → am_ix y6 40 (fun k7 => am_let (nI (M5.2 28 0 k7)) (fun y8 => ((y8 = 0 → am_let z3 (fun y9 => am_let (z4 + nI 1) (fun y10 => w_X5_bits_L5 x1 x2 Q K f5 M5 y9 y10))) ∧ (¬ y8 = 0 → am_let (z3 ||| ((nI 1) <<< (z4 &&& 31))) (fun y11 => am_let (z4 + nI 1) (fun y12 => w_X5_bits_L5 x1 x2 Q K f5 M5 y11 y12))))))) ∧ (x2 = (nI 2) → am_ix y6 40 (fun k13 => am_let (nI (M5.2 27 0 k13)) (fun y14 => ((y14 = 0 → am_let z3 (fun y15 => am_let (z4 + nI 1) (fun y16 => w_X5_bits_L5 x1 x2 Q K f5 M5 y15 y16))) ∧ (¬ y14 = 0 → am_let (z3 ||| ((nI 1) <<< (z4 &&& 31))) (fun y17 => am_let (z4 + nI 1) (fun y18 => w_X5_bits_L5 x1 x2 Q K f5 M5 y17 y18))))))))) ∧ (x2 = (nI 1) → am_ix y6 40 (fun k19 => am_let (nI (M5.2 26 0 k19)) (fun y20 => ((y20 = 0 → am_let z3 (fun y21 => am_let (z4 + nI 1) (fun y22 => w_X5_bits_L5 x1 x2 Q K f5 M5 y21 y22))) ∧ (¬ y20 = 0 → am_let (z3 ||| ((nI 1) <<< (z4 &&& 31))) (fun y23 => am_let (z4 + nI 1) (fun y24 => w_X5_bits_L5 x1 x2 Q K f5 M5 y23 y24))))))))) ∧ (x2 = 0 → am_ix y6 40 (fun k25 => am_let (nI (M5.2 25 0 k25)) (fun y26 => ((y26 = 0 → am_let z3 (fun y27 => am_let (z4 + nI 1) (fun y28 => w_X5_bits_L5 x1 x2 Q K f5 M5 y27 y28))) ∧ (¬ y26 = 0 → am_let (z3 ||| ((nI 1) <<< (z4 &&& 31))) (fun y29 => am_let (z4 + nI 1) (fun y30 => w_X5_bits_L5 x1 x2 Q K f5 M5 y29 y30))))))))))) := h
theorem w_X5_bits_L5_i {x1 : Int32} {x2 : Int32} {Q : Int32 → am_M → Prop} {K : am_M → Int32 → Int32 → Prop} {f5 : Nat} {M5 : am_M} {z3 : Int32} {z4 : Int32} (h : (((nI 4) ≤ z4 → K M5 z3 z4) ∧ (¬ (nI 4) ≤ z4 → am_let (((nI 4) * x1) + z4) (fun y6 => ((¬ x2 = 0 → ((¬ x2 = (nI 1) → ((¬ x2 = (nI 2) → am_ix y6 40 (fun k7 => am_let (nI (M5.2 28 0 k7)) (fun y8 => ((y8 = 0 → am_let z3 (fun y9 => am_let (z4 + nI 1) (fun y10 => w_X5_bits_L5 x1 x2 Q K f5 M5 y9 y10))) ∧ (¬ y8 = 0 → am_let (z3 ||| ((nI 1) <<< (z4 &&& 31))) (fun y11 => am_let (z4 + nI 1) (fun y12 => w_X5_bits_L5 x1 x2 Q K f5 M5 y11 y12))))))) ∧ (x2 = (nI 2) → am_ix y6 40 (fun k13 => am_let (nI (M5.2 27 0 k13)) (fun y14 => ((y14 = 0 → am_let z3 (fun y15 => am_let (z4 + nI 1) (fun y16 => w_X5_bits_L5 x1 x2 Q K f5 M5 y15 y16))) ∧ (¬ y14 = 0 → am_let (z3 ||| ((nI 1) <<< (z4 &&& 31))) (fun y17 => am_let (z4 + nI 1) (fun y18 => w_X5_bits_L5 x1 x2 Q K f5 M5 y17 y18))))))))) ∧ (x2 = (nI 1) → am_ix y6 40 (fun k19 => am_let (nI (M5.2 26 0 k19)) (fun y20 => ((y20 = 0 → am_let z3 (fun y21 => am_let (z4 + nI 1) (fun y22 => w_X5_bits_L5 x1 x2 Q K f5 M5 y21 y22))) ∧ (¬ y20 = 0 → am_let (z3 ||| ((nI 1) <<< (z4 &&& 31))) (fun y23 => am_let (z4 + nI 1) (fun y24 => w_X5_bits_L5 x1 x2 Q K f5 M5 y23 y24))))))))) ∧ (x2 = 0 → am_ix y6 40 (fun k25 => am_let (nI (M5.2 25 0 k25)) (fun y26 => ((y26 = 0 → am_let z3 (fun y27 => am_let (z4 + nI 1) (fun y28 => w_X5_bits_L5 x1 x2 Q K f5 M5 y27 y28))) ∧ (¬ y26 = 0 → am_let (z3 ||| ((nI 1) <<< (z4 &&& 31))) (fun y29 => am_let (z4 + nI 1) (fun y30 => w_X5_bits_L5 x1 x2 Q K f5 M5 y29 y30)))))))))))) : w_X5_bits_L5 x1 x2 Q K (f5 + 1) M5 z3 z4 := h
def w_X5_bits (M : am_M) (x1 : Int32) (x2 : Int32) (Q : Int32 → am_M → Prop) : Prop := am_let (nI 0) (fun y1 => am_let (nI 0) (fun y2 => (∃ f5 : Nat, w_X5_bits_L5 x1 x2 Q (fun M31 z32 z33 => Q z32 M31) f5 M y1 y2)))
theorem w_X5_bits_s {M : am_M} {x1 : Int32} {x2 : Int32} {Q : Int32 → am_M → Prop} (h : w_X5_bits M x1 x2 Q) : am_let (nI 0) (fun y1 => am_let (nI 0) (fun y2 => (∃ f5 : Nat, w_X5_bits_L5 x1 x2 Q (fun M31 z32 z33 => Q z32 M31) f5 M y1 y2))) := h
theorem w_X5_bits_i {M : am_M} {x1 : Int32} {x2 : Int32} {Q : Int32 → am_M → Prop} (h : am_let (nI 0) (fun y1 => am_let (nI 0) (fun y2 => (∃ f5 : Nat, w_X5_bits_L5 x1 x2 Q (fun M31 z32 z33 => Q z32 M31) f5 M y1 y2)))) : w_X5_bits M x1 x2 Q := h
def w_X5_sendDue_L2 (x1 : Int32) (Q : am_M → Prop) (K : am_M → Int32 → Prop) : Nat → am_M → Int32 → Prop
  | 0, _, _ => False
  | f2 + 1, M3, z2 => (((nI 4) ≤ z2 → K M3 z2) ∧ (¬ (nI 4) ≤ z2 → am_ix (((nI 4) * x1) + z2) 40 (fun k4 => (((nI (M3.2 28 0 k4)) = 0 → am_let (z2 + nI 1) (fun y5 => w_X5_sendDue_L2 x1 Q K f2 M3 y5)) ∧ (¬ (nI (M3.2 28 0 k4)) = 0 → am_ix x1 10 (fun k6 => w_X5_send M3 (nI 5) (nI (M3.2 23 0 k6)) z2 x1 (fun M7 => am_let (z2 + nI 1) (fun y8 => w_X5_sendDue_L2 x1 Q K f2 M7 y8))))))))
theorem w_X5_sendDue_L2_s {x1 : Int32} {Q : am_M → Prop} {K : am_M → Int32 → Prop} {f2 : Nat} {M3 : am_M} {z2 : Int32} (h : w_X5_sendDue_L2 x1 Q K (f2 + 1) M3 z2) : (((nI 4) ≤ z2 → K M3 z2) ∧ (¬ (nI 4) ≤ z2 → am_ix (((nI 4) * x1) + z2) 40 (fun k4 => (((nI (M3.2 28 0 k4)) = 0 → am_let (z2 + nI 1) (fun y5 => w_X5_sendDue_L2 x1 Q K f2 M3 y5)) ∧ (¬ (nI (M3.2 28 0 k4)) = 0 → am_ix x1 10 (fun k6 => w_X5_send M3 (nI 5) (nI (M3.2 23 0 k6)) z2 x1 (fun M7 => am_let (z2 + nI 1) (fun y8 => w_X5_sendDue_L2 x1 Q K f2 M7 y8)))))))) := h
theorem w_X5_sendDue_L2_i {x1 : Int32} {Q : am_M → Prop} {K : am_M → Int32 → Prop} {f2 : Nat} {M3 : am_M} {z2 : Int32} (h : (((nI 4) ≤ z2 → K M3 z2) ∧ (¬ (nI 4) ≤ z2 → am_ix (((nI 4) * x1) + z2) 40 (fun k4 => (((nI (M3.2 28 0 k4)) = 0 → am_let (z2 + nI 1) (fun y5 => w_X5_sendDue_L2 x1 Q K f2 M3 y5)) ∧ (¬ (nI (M3.2 28 0 k4)) = 0 → am_ix x1 10 (fun k6 => w_X5_send M3 (nI 5) (nI (M3.2 23 0 k6)) z2 x1 (fun M7 => am_let (z2 + nI 1) (fun y8 => w_X5_sendDue_L2 x1 Q K f2 M7 y8))))))))) : w_X5_sendDue_L2 x1 Q K (f2 + 1) M3 z2 := h
def w_X5_sendDue (M : am_M) (x1 : Int32) (Q : am_M → Prop) : Prop := am_let (nI 0) (fun y1 => (∃ f2 : Nat, w_X5_sendDue_L2 x1 Q (fun M9 z10 => Q M9) f2 M y1))
theorem w_X5_sendDue_s {M : am_M} {x1 : Int32} {Q : am_M → Prop} (h : w_X5_sendDue M x1 Q) : am_let (nI 0) (fun y1 => (∃ f2 : Nat, w_X5_sendDue_L2 x1 Q (fun M9 z10 => Q M9) f2 M y1)) := h
theorem w_X5_sendDue_i {M : am_M} {x1 : Int32} {Q : am_M → Prop} (h : am_let (nI 0) (fun y1 => (∃ f2 : Nat, w_X5_sendDue_L2 x1 Q (fun M9 z10 => Q M9) f2 M y1))) : w_X5_sendDue M x1 Q := h
def w_X5_decide_L42 (y3 : Int32) (x1 : Int32) (Q : am_M → Prop) (K : am_M → Int32 → Prop) : Nat → am_M → Int32 → Prop
  | 0, _, _ => False
  | f42 + 1, M10, z9 => (((nI 4) ≤ z9 → K M10 z9) ∧ (¬ (nI 4) ≤ z9 → am_ix (((nI 4) * x1) + z9) 40 (fun k11 => am_sz (am_c2 M10 28 0) 40 (((nI 4) * x1) + z9) (nI (M10.2 26 0 k11)) (fun M12 => am_let (z9 + nI 1) (fun y13 => w_X5_decide_L42 y3 x1 Q K f42 M12 y13)))))
theorem w_X5_decide_L42_s {y3 : Int32} {x1 : Int32} {Q : am_M → Prop} {K : am_M → Int32 → Prop} {f42 : Nat} {M10 : am_M} {z9 : Int32} (h : w_X5_decide_L42 y3 x1 Q K (f42 + 1) M10 z9) : (((nI 4) ≤ z9 → K M10 z9) ∧ (¬ (nI 4) ≤ z9 → am_ix (((nI 4) * x1) + z9) 40 (fun k11 => am_sz (am_c2 M10 28 0) 40 (((nI 4) * x1) + z9) (nI (M10.2 26 0 k11)) (fun M12 => am_let (z9 + nI 1) (fun y13 => w_X5_decide_L42 y3 x1 Q K f42 M12 y13))))) := h
theorem w_X5_decide_L42_i {y3 : Int32} {x1 : Int32} {Q : am_M → Prop} {K : am_M → Int32 → Prop} {f42 : Nat} {M10 : am_M} {z9 : Int32} (h : (((nI 4) ≤ z9 → K M10 z9) ∧ (¬ (nI 4) ≤ z9 → am_ix (((nI 4) * x1) + z9) 40 (fun k11 => am_sz (am_c2 M10 28 0) 40 (((nI 4) * x1) + z9) (nI (M10.2 26 0 k11)) (fun M12 => am_let (z9 + nI 1) (fun y13 => w_X5_decide_L42 y3 x1 Q K f42 M12 y13)))))) : w_X5_decide_L42 y3 x1 Q K (f42 + 1) M10 z9 := h
def w_X5_decide (M : am_M) (x1 : Int32) (Q : am_M → Prop) : Prop := w_X5_bits M x1 (nI 1) (fun y2 M1 => am_let y2 (fun y3 => w_X5_bits M1 x1 (nI 0) (fun y5 M4 => w_X5_bits M4 x1 (nI 2) (fun y7 M6 => ((((y5 &&& (y3 ^^^ (-1))) &&& (y7 ^^^ (-1))) = 0 → ((¬ y3 = 0 → am_let (nI 0) (fun y8 => (∃ f42 : Nat, w_X5_decide_L42 y3 x1 Q (fun M14 z15 => am_ix x1 10 (fun k16 => w_X5_force M14 (nI (M14.2 23 0 k16)) x1 (nI 4) y3 (fun M17 => am_sa (am_c2 M17 24 0) 10 x1 (nI 3) (fun M18 => w_X5_sendDue M18 x1 (fun M19 => Q M19))))) f42 M6 y8))) ∧ (y3 = 0 → w_X5_forget M6 x1 (fun M20 => Q M20)))) ∧ (¬ ((y5 &&& (y3 ^^^ (-1))) &&& (y7 ^^^ (-1))) = 0 → Q M6))))))
theorem w_X5_decide_s {M : am_M} {x1 : Int32} {Q : am_M → Prop} (h : w_X5_decide M x1 Q) : w_X5_bits M x1 (nI 1) (fun y2 M1 => am_let y2 (fun y3 => w_X5_bits M1 x1 (nI 0) (fun y5 M4 => w_X5_bits M4 x1 (nI 2) (fun y7 M6 => ((((y5 &&& (y3 ^^^ (-1))) &&& (y7 ^^^ (-1))) = 0 → ((¬ y3 = 0 → am_let (nI 0) (fun y8 => (∃ f42 : Nat, w_X5_decide_L42 y3 x1 Q (fun M14 z15 => am_ix x1 10 (fun k16 => w_X5_force M14 (nI (M14.2 23 0 k16)) x1 (nI 4) y3 (fun M17 => am_sa (am_c2 M17 24 0) 10 x1 (nI 3) (fun M18 => w_X5_sendDue M18 x1 (fun M19 => Q M19))))) f42 M6 y8))) ∧ (y3 = 0 → w_X5_forget M6 x1 (fun M20 => Q M20)))) ∧ (¬ ((y5 &&& (y3 ^^^ (-1))) &&& (y7 ^^^ (-1))) = 0 → Q M6)))))) := h
theorem w_X5_decide_i {M : am_M} {x1 : Int32} {Q : am_M → Prop} (h : w_X5_bits M x1 (nI 1) (fun y2 M1 => am_let y2 (fun y3 => w_X5_bits M1 x1 (nI 0) (fun y5 M4 => w_X5_bits M4 x1 (nI 2) (fun y7 M6 => ((((y5 &&& (y3 ^^^ (-1))) &&& (y7 ^^^ (-1))) = 0 → ((¬ y3 = 0 → am_let (nI 0) (fun y8 => (∃ f42 : Nat, w_X5_decide_L42 y3 x1 Q (fun M14 z15 => am_ix x1 10 (fun k16 => w_X5_force M14 (nI (M14.2 23 0 k16)) x1 (nI 4) y3 (fun M17 => am_sa (am_c2 M17 24 0) 10 x1 (nI 3) (fun M18 => w_X5_sendDue M18 x1 (fun M19 => Q M19))))) f42 M6 y8))) ∧ (y3 = 0 → w_X5_forget M6 x1 (fun M20 => Q M20)))) ∧ (¬ ((y5 &&& (y3 ^^^ (-1))) &&& (y7 ^^^ (-1))) = 0 → Q M6))))))) : w_X5_decide M x1 Q := h
def w_X5_hearVote (M : am_M) (x1 : Int32) (x2 : Int32) (x3 : Int32) (Q : am_M → Prop) : Prop := am_let (((nI 4) * x3) + x2) (fun y1 => am_ix x3 10 (fun k2 => ((¬ (nI (M.2 24 0 k2)) = (nI 2) → Q M) ∧ ((nI (M.2 24 0 k2)) = (nI 2) → am_ix y1 40 (fun k3 => ((¬ (nI (M.2 25 0 k3)) = 0 → ((¬ x1 = (nI 4) → ((¬ x1 = (nI 2) → am_sz (am_c2 M 27 0) 40 y1 (nI 1) (fun M4 => w_X5_decide M4 x3 (fun M5 => Q M5))) ∧ (x1 = (nI 2) → am_sz (am_c2 M 26 0) 40 y1 (nI 1) (fun M6 => w_X5_decide M6 x3 (fun M7 => Q M7))))) ∧ (x1 = (nI 4) → w_X5_pullBack M x3 x2 (fun y9 M8 => Q M8)))) ∧ ((nI (M.2 25 0 k3)) = 0 → Q M)))))))
theorem w_X5_hearVote_s {M : am_M} {x1 : Int32} {x2 : Int32} {x3 : Int32} {Q : am_M → Prop} (h : w_X5_hearVote M x1 x2 x3 Q) : am_let (((nI 4) * x3) + x2) (fun y1 => am_ix x3 10 (fun k2 => ((¬ (nI (M.2 24 0 k2)) = (nI 2) → Q M) ∧ ((nI (M.2 24 0 k2)) = (nI 2) → am_ix y1 40 (fun k3 => ((¬ (nI (M.2 25 0 k3)) = 0 → ((¬ x1 = (nI 4) → ((¬ x1 = (nI 2) → am_sz (am_c2 M 27 0) 40 y1 (nI 1) (fun M4 => w_X5_decide M4 x3 (fun M5 => Q M5))) ∧ (x1 = (nI 2) → am_sz (am_c2 M 26 0) 40 y1 (nI 1) (fun M6 => w_X5_decide M6 x3 (fun M7 => Q M7))))) ∧ (x1 = (nI 4) → w_X5_pullBack M x3 x2 (fun y9 M8 => Q M8)))) ∧ ((nI (M.2 25 0 k3)) = 0 → Q M))))))) := h
theorem w_X5_hearVote_i {M : am_M} {x1 : Int32} {x2 : Int32} {x3 : Int32} {Q : am_M → Prop} (h : am_let (((nI 4) * x3) + x2) (fun y1 => am_ix x3 10 (fun k2 => ((¬ (nI (M.2 24 0 k2)) = (nI 2) → Q M) ∧ ((nI (M.2 24 0 k2)) = (nI 2) → am_ix y1 40 (fun k3 => ((¬ (nI (M.2 25 0 k3)) = 0 → ((¬ x1 = (nI 4) → ((¬ x1 = (nI 2) → am_sz (am_c2 M 27 0) 40 y1 (nI 1) (fun M4 => w_X5_decide M4 x3 (fun M5 => Q M5))) ∧ (x1 = (nI 2) → am_sz (am_c2 M 26 0) 40 y1 (nI 1) (fun M6 => w_X5_decide M6 x3 (fun M7 => Q M7))))) ∧ (x1 = (nI 4) → w_X5_pullBack M x3 x2 (fun y9 M8 => Q M8)))) ∧ ((nI (M.2 25 0 k3)) = 0 → Q M)))))))) : w_X5_hearVote M x1 x2 x3 Q := h
def w_X5_hearAck (M : am_M) (x1 : Int32) (x2 : Int32) (Q : am_M → Prop) : Prop := am_ix x2 10 (fun k1 => ((¬ (nI (M.2 24 0 k1)) = (nI 3) → Q M) ∧ ((nI (M.2 24 0 k1)) = (nI 3) → am_sz (am_c2 M 28 0) 40 (((nI 4) * x2) + x1) (nI 0) (fun M2 => w_X5_bits M2 x2 (nI 3) (fun y4 M3 => ((¬ y4 = 0 → Q M3) ∧ (y4 = 0 → am_ix x2 10 (fun k5 => w_X5_write M3 (nI (M3.2 23 0 k5)) x2 (nI 6) (nI 0) (fun M6 => w_X5_forget M6 x2 (fun M7 => Q M7))))))))))
theorem w_X5_hearAck_s {M : am_M} {x1 : Int32} {x2 : Int32} {Q : am_M → Prop} (h : w_X5_hearAck M x1 x2 Q) : am_ix x2 10 (fun k1 => ((¬ (nI (M.2 24 0 k1)) = (nI 3) → Q M) ∧ ((nI (M.2 24 0 k1)) = (nI 3) → am_sz (am_c2 M 28 0) 40 (((nI 4) * x2) + x1) (nI 0) (fun M2 => w_X5_bits M2 x2 (nI 3) (fun y4 M3 => ((¬ y4 = 0 → Q M3) ∧ (y4 = 0 → am_ix x2 10 (fun k5 => w_X5_write M3 (nI (M3.2 23 0 k5)) x2 (nI 6) (nI 0) (fun M6 => w_X5_forget M6 x2 (fun M7 => Q M7)))))))))) := h
theorem w_X5_hearAck_i {M : am_M} {x1 : Int32} {x2 : Int32} {Q : am_M → Prop} (h : am_ix x2 10 (fun k1 => ((¬ (nI (M.2 24 0 k1)) = (nI 3) → Q M) ∧ ((nI (M.2 24 0 k1)) = (nI 3) → am_sz (am_c2 M 28 0) 40 (((nI 4) * x2) + x1) (nI 0) (fun M2 => w_X5_bits M2 x2 (nI 3) (fun y4 M3 => ((¬ y4 = 0 → Q M3) ∧ (y4 = 0 → am_ix x2 10 (fun k5 => w_X5_write M3 (nI (M3.2 23 0 k5)) x2 (nI 6) (nI 0) (fun M6 => w_X5_forget M6 x2 (fun M7 => Q M7))))))))))) : w_X5_hearAck M x1 x2 Q := h
def w_X5_hear (M : am_M) (x1 : Int32) (x2 : Int32) (x3 : Int32) (x4 : Int32) (Q : am_M → Prop) : Prop := ((x1 = (nI 1) → w_X5_hearPrepare M x3 x2 x4 (fun M1 => Q M1)) ∧ (¬ x1 = (nI 1) → ((x1 = (nI 2) → w_X5_hearVote M x1 x2 x4 (fun M2 => Q M2)) ∧ (¬ x1 = (nI 2) → ((x1 = (nI 3) → w_X5_hearVote M x1 x2 x4 (fun M3 => Q M3)) ∧ (¬ x1 = (nI 3) → ((x1 = (nI 4) → w_X5_hearVote M x1 x2 x4 (fun M4 => Q M4)) ∧ (¬ x1 = (nI 4) → ((x1 = (nI 5) → am_ix (((nI 4) * x4) + x3) 40 (fun k5 => ((¬ (nI (M.2 29 0 k5)) = (nI 3) → w_X5_send M (nI 7) x3 x2 x4 (fun M6 => Q M6)) ∧ ((nI (M.2 29 0 k5)) = (nI 3) → w_X5_force M x3 x4 (nI 2) (nI 0) (fun M7 => w_X5_letGo M7 x3 x4 (fun M8 => w_X5_send M8 (nI 7) x3 x2 x4 (fun M9 => Q M9))))))) ∧ (¬ x1 = (nI 5) → ((x1 = (nI 6) → am_ix (((nI 4) * x4) + x3) 40 (fun k10 => (((nI (M.2 29 0 k10)) = 0 → Q M) ∧ (¬ (nI (M.2 29 0 k10)) = 0 → w_X5_giveUp M x3 x4 (fun M11 => Q M11))))) ∧ (¬ x1 = (nI 6) → ((x1 = (nI 7) → w_X5_hearAck M x2 x4 (fun M12 => Q M12)) ∧ (¬ x1 = (nI 7) → am_ix x4 10 (fun k13 => (((nI (M.2 24 0 k13)) = (nI 3) → am_ix x4 10 (fun k14 => ((¬ (nI (M.2 24 0 k14)) = (nI 3) → w_X5_send M (nI 6) x3 x2 x4 (fun M15 => Q M15)) ∧ ((nI (M.2 24 0 k14)) = (nI 3) → w_X5_send M (nI 5) x3 x2 x4 (fun M16 => Q M16))))) ∧ (¬ (nI (M.2 24 0 k13)) = (nI 3) → am_ix x4 10 (fun k17 => ((¬ (nI (M.2 24 0 k17)) = 0 → Q M) ∧ ((nI (M.2 24 0 k17)) = 0 → am_ix x4 10 (fun k18 => ((¬ (nI (M.2 24 0 k18)) = (nI 3) → w_X5_send M (nI 6) x3 x2 x4 (fun M19 => Q M19)) ∧ ((nI (M.2 24 0 k18)) = (nI 3) → w_X5_send M (nI 5) x3 x2 x4 (fun M20 => Q M20))))))))))))))))))))))))
theorem w_X5_hear_s {M : am_M} {x1 : Int32} {x2 : Int32} {x3 : Int32} {x4 : Int32} {Q : am_M → Prop} (h : w_X5_hear M x1 x2 x3 x4 Q) : ((x1 = (nI 1) → w_X5_hearPrepare M x3 x2 x4 (fun M1 => Q M1)) ∧ (¬ x1 = (nI 1) → ((x1 = (nI 2) → w_X5_hearVote M x1 x2 x4 (fun M2 => Q M2)) ∧ (¬ x1 = (nI 2) → ((x1 = (nI 3) → w_X5_hearVote M x1 x2 x4 (fun M3 => Q M3)) ∧ (¬ x1 = (nI 3) → ((x1 = (nI 4) → w_X5_hearVote M x1 x2 x4 (fun M4 => Q M4)) ∧ (¬ x1 = (nI 4) → ((x1 = (nI 5) → am_ix (((nI 4) * x4) + x3) 40 (fun k5 => ((¬ (nI (M.2 29 0 k5)) = (nI 3) → w_X5_send M (nI 7) x3 x2 x4 (fun M6 => Q M6)) ∧ ((nI (M.2 29 0 k5)) = (nI 3) → w_X5_force M x3 x4 (nI 2) (nI 0) (fun M7 => w_X5_letGo M7 x3 x4 (fun M8 => w_X5_send M8 (nI 7) x3 x2 x4 (fun M9 => Q M9))))))) ∧ (¬ x1 = (nI 5) → ((x1 = (nI 6) → am_ix (((nI 4) * x4) + x3) 40 (fun k10 => (((nI (M.2 29 0 k10)) = 0 → Q M) ∧ (¬ (nI (M.2 29 0 k10)) = 0 → w_X5_giveUp M x3 x4 (fun M11 => Q M11))))) ∧ (¬ x1 = (nI 6) → ((x1 = (nI 7) → w_X5_hearAck M x2 x4 (fun M12 => Q M12)) ∧ (¬ x1 = (nI 7) → am_ix x4 10 (fun k13 => (((nI (M.2 24 0 k13)) = (nI 3) → am_ix x4 10 (fun k14 => ((¬ (nI (M.2 24 0 k14)) = (nI 3) → w_X5_send M (nI 6) x3 x2 x4 (fun M15 => Q M15)) ∧ ((nI (M.2 24 0 k14)) = (nI 3) → w_X5_send M (nI 5) x3 x2 x4 (fun M16 => Q M16))))) ∧ (¬ (nI (M.2 24 0 k13)) = (nI 3) → am_ix x4 10 (fun k17 => ((¬ (nI (M.2 24 0 k17)) = 0 → Q M) ∧ ((nI (M.2 24 0 k17)) = 0 → am_ix x4 10 (fun k18 => ((¬ (nI (M.2 24 0 k18)) = (nI 3) → w_X5_send M (nI 6) x3 x2 x4 (fun M19 => Q M19)) ∧ ((nI (M.2 24 0 k18)) = (nI 3) → w_X5_send M (nI 5) x3 x2 x4 (fun M20 => Q M20)))))))))))))))))))))))) := h
theorem w_X5_hear_i {M : am_M} {x1 : Int32} {x2 : Int32} {x3 : Int32} {x4 : Int32} {Q : am_M → Prop} (h : ((x1 = (nI 1) → w_X5_hearPrepare M x3 x2 x4 (fun M1 => Q M1)) ∧ (¬ x1 = (nI 1) → ((x1 = (nI 2) → w_X5_hearVote M x1 x2 x4 (fun M2 => Q M2)) ∧ (¬ x1 = (nI 2) → ((x1 = (nI 3) → w_X5_hearVote M x1 x2 x4 (fun M3 => Q M3)) ∧ (¬ x1 = (nI 3) → ((x1 = (nI 4) → w_X5_hearVote M x1 x2 x4 (fun M4 => Q M4)) ∧ (¬ x1 = (nI 4) → ((x1 = (nI 5) → am_ix (((nI 4) * x4) + x3) 40 (fun k5 => ((¬ (nI (M.2 29 0 k5)) = (nI 3) → w_X5_send M (nI 7) x3 x2 x4 (fun M6 => Q M6)) ∧ ((nI (M.2 29 0 k5)) = (nI 3) → w_X5_force M x3 x4 (nI 2) (nI 0) (fun M7 => w_X5_letGo M7 x3 x4 (fun M8 => w_X5_send M8 (nI 7) x3 x2 x4 (fun M9 => Q M9))))))) ∧ (¬ x1 = (nI 5) → ((x1 = (nI 6) → am_ix (((nI 4) * x4) + x3) 40 (fun k10 => (((nI (M.2 29 0 k10)) = 0 → Q M) ∧ (¬ (nI (M.2 29 0 k10)) = 0 → w_X5_giveUp M x3 x4 (fun M11 => Q M11))))) ∧ (¬ x1 = (nI 6) → ((x1 = (nI 7) → w_X5_hearAck M x2 x4 (fun M12 => Q M12)) ∧ (¬ x1 = (nI 7) → am_ix x4 10 (fun k13 => (((nI (M.2 24 0 k13)) = (nI 3) → am_ix x4 10 (fun k14 => ((¬ (nI (M.2 24 0 k14)) = (nI 3) → w_X5_send M (nI 6) x3 x2 x4 (fun M15 => Q M15)) ∧ ((nI (M.2 24 0 k14)) = (nI 3) → w_X5_send M (nI 5) x3 x2 x4 (fun M16 => Q M16))))) ∧ (¬ (nI (M.2 24 0 k13)) = (nI 3) → am_ix x4 10 (fun k17 => ((¬ (nI (M.2 24 0 k17)) = 0 → Q M) ∧ ((nI (M.2 24 0 k17)) = 0 → am_ix x4 10 (fun k18 => ((¬ (nI (M.2 24 0 k18)) = (nI 3) → w_X5_send M (nI 6) x3 x2 x4 (fun M19 => Q M19)) ∧ ((nI (M.2 24 0 k18)) = (nI 3) → w_X5_send M (nI 5) x3 x2 x4 (fun M20 => Q M20))))))))))))))))))))))))) : w_X5_hear M x1 x2 x3 x4 Q := h
def w_X5_deliver (M : am_M) (x1 : Int32) (Q : Int32 → am_M → Prop) : Prop := ((x1 < 0 → Q (-2) M) ∧ (¬ x1 < 0 → ((x1 < (nI (M.2 20 0 16)) → am_ix x1 40 (fun k1 => am_let (nI (M.2 36 0 k1)) (fun y2 => am_ix x1 40 (fun k3 => am_let (nI (M.2 37 0 k3)) (fun y4 => am_ix x1 40 (fun k5 => am_let (nI (M.2 38 0 k5)) (fun y6 => am_ix x1 40 (fun k7 => am_let (nI (M.2 39 0 k7)) (fun y8 => w_X5_take M x1 (fun M9 => am_ix y6 4 (fun k10 => ((¬ (nI (M9.2 21 0 k10)) = 0 → Q y2 M9) ∧ ((nI (M9.2 21 0 k10)) = 0 → w_X5_hear M9 y2 y4 y6 y8 (fun M11 => Q y2 M11)))))))))))))) ∧ (¬ x1 < (nI (M.2 20 0 16)) → Q (-2) M))))
theorem w_X5_deliver_s {M : am_M} {x1 : Int32} {Q : Int32 → am_M → Prop} (h : w_X5_deliver M x1 Q) : ((x1 < 0 → Q (-2) M) ∧ (¬ x1 < 0 → ((x1 < (nI (M.2 20 0 16)) → am_ix x1 40 (fun k1 => am_let (nI (M.2 36 0 k1)) (fun y2 => am_ix x1 40 (fun k3 => am_let (nI (M.2 37 0 k3)) (fun y4 => am_ix x1 40 (fun k5 => am_let (nI (M.2 38 0 k5)) (fun y6 => am_ix x1 40 (fun k7 => am_let (nI (M.2 39 0 k7)) (fun y8 => w_X5_take M x1 (fun M9 => am_ix y6 4 (fun k10 => ((¬ (nI (M9.2 21 0 k10)) = 0 → Q y2 M9) ∧ ((nI (M9.2 21 0 k10)) = 0 → w_X5_hear M9 y2 y4 y6 y8 (fun M11 => Q y2 M11)))))))))))))) ∧ (¬ x1 < (nI (M.2 20 0 16)) → Q (-2) M)))) := h
theorem w_X5_deliver_i {M : am_M} {x1 : Int32} {Q : Int32 → am_M → Prop} (h : ((x1 < 0 → Q (-2) M) ∧ (¬ x1 < 0 → ((x1 < (nI (M.2 20 0 16)) → am_ix x1 40 (fun k1 => am_let (nI (M.2 36 0 k1)) (fun y2 => am_ix x1 40 (fun k3 => am_let (nI (M.2 37 0 k3)) (fun y4 => am_ix x1 40 (fun k5 => am_let (nI (M.2 38 0 k5)) (fun y6 => am_ix x1 40 (fun k7 => am_let (nI (M.2 39 0 k7)) (fun y8 => w_X5_take M x1 (fun M9 => am_ix y6 4 (fun k10 => ((¬ (nI (M9.2 21 0 k10)) = 0 → Q y2 M9) ∧ ((nI (M9.2 21 0 k10)) = 0 → w_X5_hear M9 y2 y4 y6 y8 (fun M11 => Q y2 M11)))))))))))))) ∧ (¬ x1 < (nI (M.2 20 0 16)) → Q (-2) M))))) : w_X5_deliver M x1 Q := h
def w_X5_lose (M : am_M) (x1 : Int32) (Q : Int32 → am_M → Prop) : Prop := ((x1 < 0 → Q (-2) M) ∧ (¬ x1 < 0 → ((x1 < (nI (M.2 20 0 16)) → am_ix x1 40 (fun k1 => am_let (nI (M.2 36 0 k1)) (fun y2 => w_X5_take M x1 (fun M3 => Q y2 M3)))) ∧ (¬ x1 < (nI (M.2 20 0 16)) → Q (-2) M))))
theorem w_X5_lose_s {M : am_M} {x1 : Int32} {Q : Int32 → am_M → Prop} (h : w_X5_lose M x1 Q) : ((x1 < 0 → Q (-2) M) ∧ (¬ x1 < 0 → ((x1 < (nI (M.2 20 0 16)) → am_ix x1 40 (fun k1 => am_let (nI (M.2 36 0 k1)) (fun y2 => w_X5_take M x1 (fun M3 => Q y2 M3)))) ∧ (¬ x1 < (nI (M.2 20 0 16)) → Q (-2) M)))) := h
theorem w_X5_lose_i {M : am_M} {x1 : Int32} {Q : Int32 → am_M → Prop} (h : ((x1 < 0 → Q (-2) M) ∧ (¬ x1 < 0 → ((x1 < (nI (M.2 20 0 16)) → am_ix x1 40 (fun k1 => am_let (nI (M.2 36 0 k1)) (fun y2 => w_X5_take M x1 (fun M3 => Q y2 M3)))) ∧ (¬ x1 < (nI (M.2 20 0 16)) → Q (-2) M))))) : w_X5_lose M x1 Q := h
def w_X5_expire_J148 (M19 : am_M) (y14 : Int32) (y15 : Int32) (y16 : Int32) (y17 : Int32) (y18 : Int32) (Q : Int32 → am_M → Prop) : Prop := (((nI 2) ≤ y18 → Q (nI 1) M19) ∧ (¬ (nI 2) ≤ y18 → Q (-4) M19))
theorem w_X5_expire_J148_s {M19 : am_M} {y14 : Int32} {y15 : Int32} {y16 : Int32} {y17 : Int32} {y18 : Int32} {Q : Int32 → am_M → Prop} (h : w_X5_expire_J148 M19 y14 y15 y16 y17 y18 Q) : (((nI 2) ≤ y18 → Q (nI 1) M19) ∧ (¬ (nI 2) ≤ y18 → Q (-4) M19)) := h
theorem w_X5_expire_J148_i {M19 : am_M} {y14 : Int32} {y15 : Int32} {y16 : Int32} {y17 : Int32} {y18 : Int32} {Q : Int32 → am_M → Prop} (h : (((nI 2) ≤ y18 → Q (nI 1) M19) ∧ (¬ (nI 2) ≤ y18 → Q (-4) M19))) : w_X5_expire_J148 M19 y14 y15 y16 y17 y18 Q := h
def w_X5_expire_J101 (M28 : am_M) (y24 : Int32) (y25 : Int32) (y26 : Int32) (y27 : Int32) (Q : Int32 → am_M → Prop) : Prop := ((¬ y27 = 0 → Q (nI 1) M28) ∧ (y27 = 0 → Q (-4) M28))
theorem w_X5_expire_J101_s {M28 : am_M} {y24 : Int32} {y25 : Int32} {y26 : Int32} {y27 : Int32} {Q : Int32 → am_M → Prop} (h : w_X5_expire_J101 M28 y24 y25 y26 y27 Q) : ((¬ y27 = 0 → Q (nI 1) M28) ∧ (y27 = 0 → Q (-4) M28)) := h
theorem w_X5_expire_J101_i {M28 : am_M} {y24 : Int32} {y25 : Int32} {y26 : Int32} {y27 : Int32} {Q : Int32 → am_M → Prop} (h : ((¬ y27 = 0 → Q (nI 1) M28) ∧ (y27 = 0 → Q (-4) M28))) : w_X5_expire_J101 M28 y24 y25 y26 y27 Q := h
def w_X5_expire_J32 (M8 : am_M) (y5 : Int32) (y6 : Int32) (y7 : Int32) (Q : Int32 → am_M → Prop) : Prop := am_ix y5 4 (fun k9 => (((nI (M8.2 21 0 k9)) = 0 → am_ix (((nI 4) * y6) + y5) 40 (fun k10 => am_let (nI (M8.2 29 0 k10)) (fun y11 => ((y7 = 0 → am_ix y6 10 (fun k12 => am_let (nI (M8.2 24 0 k12)) (fun y13 => ((¬ y13 = (nI 2) → ((¬ y13 = (nI 3) → w_X5_expire_J148 M8 y5 y6 y7 y11 y13 Q) ∧ (y13 = (nI 3) → w_X5_sendDue M8 y6 (fun M20 => w_X5_expire_J148 M20 y5 y6 y7 y11 y13 Q)))) ∧ (y13 = (nI 2) → w_X5_pullBack M8 y6 (-1) (fun y22 M21 => w_X5_expire_J148 M21 y5 y6 y7 y11 y13 Q)))))) ∧ (¬ y7 = 0 → ((y11 = (nI 1) → w_X5_giveUp M8 y5 y6 (fun M23 => w_X5_expire_J101 M23 y5 y6 y7 y11 Q)) ∧ (¬ y11 = (nI 1) → ((¬ y11 = (nI 2) → ((¬ y11 = (nI 3) → w_X5_expire_J101 M8 y5 y6 y7 y11 Q) ∧ (y11 = (nI 3) → am_ix y6 10 (fun k29 => w_X5_send M8 (nI 8) y5 (nI (M8.2 23 0 k29)) y6 (fun M30 => w_X5_expire_J101 M30 y5 y6 y7 y11 Q))))) ∧ (y11 = (nI 2) → w_X5_giveUp M8 y5 y6 (fun M31 => w_X5_expire_J101 M31 y5 y6 y7 y11 Q)))))))))) ∧ (¬ (nI (M8.2 21 0 k9)) = 0 → Q (-3) M8)))
theorem w_X5_expire_J32_s {M8 : am_M} {y5 : Int32} {y6 : Int32} {y7 : Int32} {Q : Int32 → am_M → Prop} (h : w_X5_expire_J32 M8 y5 y6 y7 Q) : am_ix y5 4 (fun k9 => (((nI (M8.2 21 0 k9)) = 0 → am_ix (((nI 4) * y6) + y5) 40 (fun k10 => am_let (nI (M8.2 29 0 k10)) (fun y11 => ((y7 = 0 → am_ix y6 10 (fun k12 => am_let (nI (M8.2 24 0 k12)) (fun y13 => ((¬ y13 = (nI 2) → ((¬ y13 = (nI 3) → w_X5_expire_J148 M8 y5 y6 y7 y11 y13 Q) ∧ (y13 = (nI 3) → w_X5_sendDue M8 y6 (fun M20 => w_X5_expire_J148 M20 y5 y6 y7 y11 y13 Q)))) ∧ (y13 = (nI 2) → w_X5_pullBack M8 y6 (-1) (fun y22 M21 => w_X5_expire_J148 M21 y5 y6 y7 y11 y13 Q)))))) ∧ (¬ y7 = 0 → ((y11 = (nI 1) → w_X5_giveUp M8 y5 y6 (fun M23 => w_X5_expire_J101 M23 y5 y6 y7 y11 Q)) ∧ (¬ y11 = (nI 1) → ((¬ y11 = (nI 2) → ((¬ y11 = (nI 3) → w_X5_expire_J101 M8 y5 y6 y7 y11 Q) ∧ (y11 = (nI 3) → am_ix y6 10 (fun k29 => w_X5_send M8 (nI 8) y5 (nI (M8.2 23 0 k29)) y6 (fun M30 => w_X5_expire_J101 M30 y5 y6 y7 y11 Q))))) ∧ (y11 = (nI 2) → w_X5_giveUp M8 y5 y6 (fun M31 => w_X5_expire_J101 M31 y5 y6 y7 y11 Q)))))))))) ∧ (¬ (nI (M8.2 21 0 k9)) = 0 → Q (-3) M8))) := h
theorem w_X5_expire_J32_i {M8 : am_M} {y5 : Int32} {y6 : Int32} {y7 : Int32} {Q : Int32 → am_M → Prop} (h : am_ix y5 4 (fun k9 => (((nI (M8.2 21 0 k9)) = 0 → am_ix (((nI 4) * y6) + y5) 40 (fun k10 => am_let (nI (M8.2 29 0 k10)) (fun y11 => ((y7 = 0 → am_ix y6 10 (fun k12 => am_let (nI (M8.2 24 0 k12)) (fun y13 => ((¬ y13 = (nI 2) → ((¬ y13 = (nI 3) → w_X5_expire_J148 M8 y5 y6 y7 y11 y13 Q) ∧ (y13 = (nI 3) → w_X5_sendDue M8 y6 (fun M20 => w_X5_expire_J148 M20 y5 y6 y7 y11 y13 Q)))) ∧ (y13 = (nI 2) → w_X5_pullBack M8 y6 (-1) (fun y22 M21 => w_X5_expire_J148 M21 y5 y6 y7 y11 y13 Q)))))) ∧ (¬ y7 = 0 → ((y11 = (nI 1) → w_X5_giveUp M8 y5 y6 (fun M23 => w_X5_expire_J101 M23 y5 y6 y7 y11 Q)) ∧ (¬ y11 = (nI 1) → ((¬ y11 = (nI 2) → ((¬ y11 = (nI 3) → w_X5_expire_J101 M8 y5 y6 y7 y11 Q) ∧ (y11 = (nI 3) → am_ix y6 10 (fun k29 => w_X5_send M8 (nI 8) y5 (nI (M8.2 23 0 k29)) y6 (fun M30 => w_X5_expire_J101 M30 y5 y6 y7 y11 Q))))) ∧ (y11 = (nI 2) → w_X5_giveUp M8 y5 y6 (fun M31 => w_X5_expire_J101 M31 y5 y6 y7 y11 Q)))))))))) ∧ (¬ (nI (M8.2 21 0 k9)) = 0 → Q (-3) M8)))) : w_X5_expire_J32 M8 y5 y6 y7 Q := h
def w_X5_expire (M : am_M) (x1 : Int32) (x2 : Int32) (x3 : Int32) (Q : Int32 → am_M → Prop) : Prop := w_X5_noNode M x1 (fun y2 M1 => ((¬ y2 = 0 → Q (-2) M1) ∧ (y2 = 0 → w_X5_noWork M1 x2 (fun y4 M3 => ((¬ y4 = 0 → Q (-2) M3) ∧ (y4 = 0 → ((¬ x3 = 0 → w_X5_expire_J32 M3 x1 x2 x3 Q) ∧ (x3 = 0 → am_ix x2 10 (fun k32 => (((nI (M3.2 23 0 k32)) = x1 → w_X5_expire_J32 M3 x1 x2 x3 Q) ∧ (¬ (nI (M3.2 23 0 k32)) = x1 → Q (-2) M3)))))))))))
theorem w_X5_expire_s {M : am_M} {x1 : Int32} {x2 : Int32} {x3 : Int32} {Q : Int32 → am_M → Prop} (h : w_X5_expire M x1 x2 x3 Q) : w_X5_noNode M x1 (fun y2 M1 => ((¬ y2 = 0 → Q (-2) M1) ∧ (y2 = 0 → w_X5_noWork M1 x2 (fun y4 M3 => ((¬ y4 = 0 → Q (-2) M3) ∧ (y4 = 0 → ((¬ x3 = 0 → w_X5_expire_J32 M3 x1 x2 x3 Q) ∧ (x3 = 0 → am_ix x2 10 (fun k32 => (((nI (M3.2 23 0 k32)) = x1 → w_X5_expire_J32 M3 x1 x2 x3 Q) ∧ (¬ (nI (M3.2 23 0 k32)) = x1 → Q (-2) M3))))))))))) := h
theorem w_X5_expire_i {M : am_M} {x1 : Int32} {x2 : Int32} {x3 : Int32} {Q : Int32 → am_M → Prop} (h : w_X5_noNode M x1 (fun y2 M1 => ((¬ y2 = 0 → Q (-2) M1) ∧ (y2 = 0 → w_X5_noWork M1 x2 (fun y4 M3 => ((¬ y4 = 0 → Q (-2) M3) ∧ (y4 = 0 → ((¬ x3 = 0 → w_X5_expire_J32 M3 x1 x2 x3 Q) ∧ (x3 = 0 → am_ix x2 10 (fun k32 => (((nI (M3.2 23 0 k32)) = x1 → w_X5_expire_J32 M3 x1 x2 x3 Q) ∧ (¬ (nI (M3.2 23 0 k32)) = x1 → Q (-2) M3)))))))))))) : w_X5_expire M x1 x2 x3 Q := h
def w_X5_crash_L31 (x1 : Int32) (Q : Int32 → am_M → Prop) (K : am_M → Int32 → Prop) : Nat → am_M → Int32 → Prop
  | 0, _, _ => False
  | f31 + 1, M7, z6 => (((nI (M7.2 20 0 2)) ≤ z6 → K M7 z6) ∧ (¬ (nI (M7.2 20 0 2)) ≤ z6 → w_X5_letGo M7 x1 z6 (fun M8 => am_ix z6 10 (fun k9 => ((¬ (nI (M8.2 23 0 k9)) = x1 → am_let (z6 + nI 1) (fun y10 => w_X5_crash_L31 x1 Q K f31 M8 y10)) ∧ ((nI (M8.2 23 0 k9)) = x1 → w_X5_forget M8 z6 (fun M11 => am_let (z6 + nI 1) (fun y12 => w_X5_crash_L31 x1 Q K f31 M11 y12))))))))
theorem w_X5_crash_L31_s {x1 : Int32} {Q : Int32 → am_M → Prop} {K : am_M → Int32 → Prop} {f31 : Nat} {M7 : am_M} {z6 : Int32} (h : w_X5_crash_L31 x1 Q K (f31 + 1) M7 z6) : (((nI (M7.2 20 0 2)) ≤ z6 → K M7 z6) ∧ (¬ (nI (M7.2 20 0 2)) ≤ z6 → w_X5_letGo M7 x1 z6 (fun M8 => am_ix z6 10 (fun k9 => ((¬ (nI (M8.2 23 0 k9)) = x1 → am_let (z6 + nI 1) (fun y10 => w_X5_crash_L31 x1 Q K f31 M8 y10)) ∧ ((nI (M8.2 23 0 k9)) = x1 → w_X5_forget M8 z6 (fun M11 => am_let (z6 + nI 1) (fun y12 => w_X5_crash_L31 x1 Q K f31 M11 y12)))))))) := h
theorem w_X5_crash_L31_i {x1 : Int32} {Q : Int32 → am_M → Prop} {K : am_M → Int32 → Prop} {f31 : Nat} {M7 : am_M} {z6 : Int32} (h : (((nI (M7.2 20 0 2)) ≤ z6 → K M7 z6) ∧ (¬ (nI (M7.2 20 0 2)) ≤ z6 → w_X5_letGo M7 x1 z6 (fun M8 => am_ix z6 10 (fun k9 => ((¬ (nI (M8.2 23 0 k9)) = x1 → am_let (z6 + nI 1) (fun y10 => w_X5_crash_L31 x1 Q K f31 M8 y10)) ∧ ((nI (M8.2 23 0 k9)) = x1 → w_X5_forget M8 z6 (fun M11 => am_let (z6 + nI 1) (fun y12 => w_X5_crash_L31 x1 Q K f31 M11 y12))))))))) : w_X5_crash_L31 x1 Q K (f31 + 1) M7 z6 := h
def w_X5_crash_L68 (x1 : Int32) (Q : Int32 → am_M → Prop) (K : am_M → Int32 → Prop) : Nat → am_M → Int32 → Prop
  | 0, _, _ => False
  | f68 + 1, M17, z16 => am_ix x1 4 (fun k18 => (((nI (M17.2 31 0 k18)) ≤ 0 → K M17 z16) ∧ (¬ (nI (M17.2 31 0 k18)) ≤ 0 → am_ix x1 4 (fun k19 => am_ix ((((nI 64) * x1) + (nI (M17.2 31 0 k19))) - (nI 1)) 256 (fun k20 => ((¬ (nI (M17.2 35 0 k20)) = 0 → K M17 z16) ∧ ((nI (M17.2 35 0 k20)) = 0 → am_ix x1 4 (fun k21 => am_sa (am_c2 M17 31 0) 4 x1 ((nI (M17.2 31 0 k21)) - (nI 1)) (fun M22 => am_let (z16 + nI 1) (fun y23 => w_X5_crash_L68 x1 Q K f68 M22 y23))))))))))
theorem w_X5_crash_L68_s {x1 : Int32} {Q : Int32 → am_M → Prop} {K : am_M → Int32 → Prop} {f68 : Nat} {M17 : am_M} {z16 : Int32} (h : w_X5_crash_L68 x1 Q K (f68 + 1) M17 z16) : am_ix x1 4 (fun k18 => (((nI (M17.2 31 0 k18)) ≤ 0 → K M17 z16) ∧ (¬ (nI (M17.2 31 0 k18)) ≤ 0 → am_ix x1 4 (fun k19 => am_ix ((((nI 64) * x1) + (nI (M17.2 31 0 k19))) - (nI 1)) 256 (fun k20 => ((¬ (nI (M17.2 35 0 k20)) = 0 → K M17 z16) ∧ ((nI (M17.2 35 0 k20)) = 0 → am_ix x1 4 (fun k21 => am_sa (am_c2 M17 31 0) 4 x1 ((nI (M17.2 31 0 k21)) - (nI 1)) (fun M22 => am_let (z16 + nI 1) (fun y23 => w_X5_crash_L68 x1 Q K f68 M22 y23)))))))))) := h
theorem w_X5_crash_L68_i {x1 : Int32} {Q : Int32 → am_M → Prop} {K : am_M → Int32 → Prop} {f68 : Nat} {M17 : am_M} {z16 : Int32} (h : am_ix x1 4 (fun k18 => (((nI (M17.2 31 0 k18)) ≤ 0 → K M17 z16) ∧ (¬ (nI (M17.2 31 0 k18)) ≤ 0 → am_ix x1 4 (fun k19 => am_ix ((((nI 64) * x1) + (nI (M17.2 31 0 k19))) - (nI 1)) 256 (fun k20 => ((¬ (nI (M17.2 35 0 k20)) = 0 → K M17 z16) ∧ ((nI (M17.2 35 0 k20)) = 0 → am_ix x1 4 (fun k21 => am_sa (am_c2 M17 31 0) 4 x1 ((nI (M17.2 31 0 k21)) - (nI 1)) (fun M22 => am_let (z16 + nI 1) (fun y23 => w_X5_crash_L68 x1 Q K f68 M22 y23))))))))))) : w_X5_crash_L68 x1 Q K (f68 + 1) M17 z16 := h
def w_X5_crash (M : am_M) (x1 : Int32) (Q : Int32 → am_M → Prop) : Prop := w_X5_noNode M x1 (fun y2 M1 => ((y2 = 0 → am_ix x1 4 (fun k3 => (((nI (M1.2 21 0 k3)) = 0 → am_sz (am_c2 M1 21 0) 4 x1 (nI 1) (fun M4 => am_let (nI 0) (fun y5 => (∃ f31 : Nat, w_X5_crash_L31 x1 Q (fun M13 z14 => am_let (nI 0) (fun y15 => (∃ f68 : Nat, w_X5_crash_L68 x1 Q (fun M24 z25 => Q z25 M24) f68 M13 y15))) f31 M4 y5)))) ∧ (¬ (nI (M1.2 21 0 k3)) = 0 → Q (-3) M1)))) ∧ (¬ y2 = 0 → Q (-2) M1)))
theorem w_X5_crash_s {M : am_M} {x1 : Int32} {Q : Int32 → am_M → Prop} (h : w_X5_crash M x1 Q) : w_X5_noNode M x1 (fun y2 M1 => ((y2 = 0 → am_ix x1 4 (fun k3 => (((nI (M1.2 21 0 k3)) = 0 → am_sz (am_c2 M1 21 0) 4 x1 (nI 1) (fun M4 => am_let (nI 0) (fun y5 => (∃ f31 : Nat, w_X5_crash_L31 x1 Q (fun M13 z14 => am_let (nI 0) (fun y15 => (∃ f68 : Nat, w_X5_crash_L68 x1 Q (fun M24 z25 => Q z25 M24) f68 M13 y15))) f31 M4 y5)))) ∧ (¬ (nI (M1.2 21 0 k3)) = 0 → Q (-3) M1)))) ∧ (¬ y2 = 0 → Q (-2) M1))) := h
theorem w_X5_crash_i {M : am_M} {x1 : Int32} {Q : Int32 → am_M → Prop} (h : w_X5_noNode M x1 (fun y2 M1 => ((y2 = 0 → am_ix x1 4 (fun k3 => (((nI (M1.2 21 0 k3)) = 0 → am_sz (am_c2 M1 21 0) 4 x1 (nI 1) (fun M4 => am_let (nI 0) (fun y5 => (∃ f31 : Nat, w_X5_crash_L31 x1 Q (fun M13 z14 => am_let (nI 0) (fun y15 => (∃ f68 : Nat, w_X5_crash_L68 x1 Q (fun M24 z25 => Q z25 M24) f68 M13 y15))) f31 M4 y5)))) ∧ (¬ (nI (M1.2 21 0 k3)) = 0 → Q (-3) M1)))) ∧ (¬ y2 = 0 → Q (-2) M1)))) : w_X5_crash M x1 Q := h
def w_X5_logged_L3 (x1 : Int32) (x2 : Int32) (x3 : Int32) (Q : Int32 → am_M → Prop) (K : am_M → Int32 → Prop) : Nat → am_M → Int32 → Prop
  | 0, _, _ => False
  | f3 + 1, M3, z2 => am_ix x1 4 (fun k4 => (((nI (M3.2 31 0 k4)) ≤ z2 → K M3 z2) ∧ (¬ (nI (M3.2 31 0 k4)) ≤ z2 → am_ix (((nI 64) * x1) + z2) 256 (fun k5 => ((¬ (nI (M3.2 32 0 k5)) = x2 → am_let (z2 + nI 1) (fun y6 => w_X5_logged_L3 x1 x2 x3 Q K f3 M3 y6)) ∧ ((nI (M3.2 32 0 k5)) = x2 → am_ix (((nI 64) * x1) + z2) 256 (fun k7 => ((¬ (nI (M3.2 33 0 k7)) = x3 → am_let (z2 + nI 1) (fun y8 => w_X5_logged_L3 x1 x2 x3 Q K f3 M3 y8)) ∧ ((nI (M3.2 33 0 k7)) = x3 → Q (((nI 64) * x1) + z2) M3)))))))))
theorem w_X5_logged_L3_s {x1 : Int32} {x2 : Int32} {x3 : Int32} {Q : Int32 → am_M → Prop} {K : am_M → Int32 → Prop} {f3 : Nat} {M3 : am_M} {z2 : Int32} (h : w_X5_logged_L3 x1 x2 x3 Q K (f3 + 1) M3 z2) : am_ix x1 4 (fun k4 => (((nI (M3.2 31 0 k4)) ≤ z2 → K M3 z2) ∧ (¬ (nI (M3.2 31 0 k4)) ≤ z2 → am_ix (((nI 64) * x1) + z2) 256 (fun k5 => ((¬ (nI (M3.2 32 0 k5)) = x2 → am_let (z2 + nI 1) (fun y6 => w_X5_logged_L3 x1 x2 x3 Q K f3 M3 y6)) ∧ ((nI (M3.2 32 0 k5)) = x2 → am_ix (((nI 64) * x1) + z2) 256 (fun k7 => ((¬ (nI (M3.2 33 0 k7)) = x3 → am_let (z2 + nI 1) (fun y8 => w_X5_logged_L3 x1 x2 x3 Q K f3 M3 y8)) ∧ ((nI (M3.2 33 0 k7)) = x3 → Q (((nI 64) * x1) + z2) M3))))))))) := h
theorem w_X5_logged_L3_i {x1 : Int32} {x2 : Int32} {x3 : Int32} {Q : Int32 → am_M → Prop} {K : am_M → Int32 → Prop} {f3 : Nat} {M3 : am_M} {z2 : Int32} (h : am_ix x1 4 (fun k4 => (((nI (M3.2 31 0 k4)) ≤ z2 → K M3 z2) ∧ (¬ (nI (M3.2 31 0 k4)) ≤ z2 → am_ix (((nI 64) * x1) + z2) 256 (fun k5 => ((¬ (nI (M3.2 32 0 k5)) = x2 → am_let (z2 + nI 1) (fun y6 => w_X5_logged_L3 x1 x2 x3 Q K f3 M3 y6)) ∧ ((nI (M3.2 32 0 k5)) = x2 → am_ix (((nI 64) * x1) + z2) 256 (fun k7 => ((¬ (nI (M3.2 33 0 k7)) = x3 → am_let (z2 + nI 1) (fun y8 => w_X5_logged_L3 x1 x2 x3 Q K f3 M3 y8)) ∧ ((nI (M3.2 33 0 k7)) = x3 → Q (((nI 64) * x1) + z2) M3)))))))))) : w_X5_logged_L3 x1 x2 x3 Q K (f3 + 1) M3 z2 := h
def w_X5_logged (M : am_M) (x1 : Int32) (x2 : Int32) (x3 : Int32) (Q : Int32 → am_M → Prop) : Prop := am_let (nI 0) (fun y1 => (∃ f3 : Nat, w_X5_logged_L3 x1 x2 x3 Q (fun M9 z10 => Q (-1) M9) f3 M y1))
theorem w_X5_logged_s {M : am_M} {x1 : Int32} {x2 : Int32} {x3 : Int32} {Q : Int32 → am_M → Prop} (h : w_X5_logged M x1 x2 x3 Q) : am_let (nI 0) (fun y1 => (∃ f3 : Nat, w_X5_logged_L3 x1 x2 x3 Q (fun M9 z10 => Q (-1) M9) f3 M y1)) := h
theorem w_X5_logged_i {M : am_M} {x1 : Int32} {x2 : Int32} {x3 : Int32} {Q : Int32 → am_M → Prop} (h : am_let (nI 0) (fun y1 => (∃ f3 : Nat, w_X5_logged_L3 x1 x2 x3 Q (fun M9 z10 => Q (-1) M9) f3 M y1))) : w_X5_logged M x1 x2 x3 Q := h
def w_X5_recoverMember_L48 (y3 : Int32) (x1 : Int32) (x2 : Int32) (Q : Int32 → am_M → Prop) (K : am_M → Int32 → Prop) : Nat → am_M → Int32 → Prop
  | 0, _, _ => False
  | f48 + 1, M11, z10 => (((nI 8) ≤ z10 → K M11 z10) ∧ (¬ (nI 8) ≤ z10 → am_ix y3 256 (fun k12 => ((¬ (((nI (M11.2 34 0 k12)) >>> (z10 &&& 31)) &&& (nI 1)) = (nI 1) → am_ix (((nI 8) * x1) + z10) 32 (fun k13 => am_sa (am_c2 M11 30 0) 32 (((nI 8) * x1) + z10) (nI (M11.2 30 0 k13)) (fun M14 => am_let (z10 + nI 1) (fun y15 => w_X5_recoverMember_L48 y3 x1 x2 Q K f48 M14 y15)))) ∧ ((((nI (M11.2 34 0 k12)) >>> (z10 &&& 31)) &&& (nI 1)) = (nI 1) → am_sa (am_c2 M11 30 0) 32 (((nI 8) * x1) + z10) (x2 + (nI 1)) (fun M16 => am_let (z10 + nI 1) (fun y17 => w_X5_recoverMember_L48 y3 x1 x2 Q K f48 M16 y17)))))))
theorem w_X5_recoverMember_L48_s {y3 : Int32} {x1 : Int32} {x2 : Int32} {Q : Int32 → am_M → Prop} {K : am_M → Int32 → Prop} {f48 : Nat} {M11 : am_M} {z10 : Int32} (h : w_X5_recoverMember_L48 y3 x1 x2 Q K (f48 + 1) M11 z10) : (((nI 8) ≤ z10 → K M11 z10) ∧ (¬ (nI 8) ≤ z10 → am_ix y3 256 (fun k12 => ((¬ (((nI (M11.2 34 0 k12)) >>> (z10 &&& 31)) &&& (nI 1)) = (nI 1) → am_ix (((nI 8) * x1) + z10) 32 (fun k13 => am_sa (am_c2 M11 30 0) 32 (((nI 8) * x1) + z10) (nI (M11.2 30 0 k13)) (fun M14 => am_let (z10 + nI 1) (fun y15 => w_X5_recoverMember_L48 y3 x1 x2 Q K f48 M14 y15)))) ∧ ((((nI (M11.2 34 0 k12)) >>> (z10 &&& 31)) &&& (nI 1)) = (nI 1) → am_sa (am_c2 M11 30 0) 32 (((nI 8) * x1) + z10) (x2 + (nI 1)) (fun M16 => am_let (z10 + nI 1) (fun y17 => w_X5_recoverMember_L48 y3 x1 x2 Q K f48 M16 y17))))))) := h
theorem w_X5_recoverMember_L48_i {y3 : Int32} {x1 : Int32} {x2 : Int32} {Q : Int32 → am_M → Prop} {K : am_M → Int32 → Prop} {f48 : Nat} {M11 : am_M} {z10 : Int32} (h : (((nI 8) ≤ z10 → K M11 z10) ∧ (¬ (nI 8) ≤ z10 → am_ix y3 256 (fun k12 => ((¬ (((nI (M11.2 34 0 k12)) >>> (z10 &&& 31)) &&& (nI 1)) = (nI 1) → am_ix (((nI 8) * x1) + z10) 32 (fun k13 => am_sa (am_c2 M11 30 0) 32 (((nI 8) * x1) + z10) (nI (M11.2 30 0 k13)) (fun M14 => am_let (z10 + nI 1) (fun y15 => w_X5_recoverMember_L48 y3 x1 x2 Q K f48 M14 y15)))) ∧ ((((nI (M11.2 34 0 k12)) >>> (z10 &&& 31)) &&& (nI 1)) = (nI 1) → am_sa (am_c2 M11 30 0) 32 (((nI 8) * x1) + z10) (x2 + (nI 1)) (fun M16 => am_let (z10 + nI 1) (fun y17 => w_X5_recoverMember_L48 y3 x1 x2 Q K f48 M16 y17)))))))) : w_X5_recoverMember_L48 y3 x1 x2 Q K (f48 + 1) M11 z10 := h
def w_X5_recoverMember (M : am_M) (x1 : Int32) (x2 : Int32) (Q : Int32 → am_M → Prop) : Prop := w_X5_logged M x1 x2 (nI 1) (fun y2 M1 => am_let y2 (fun y3 => ((y3 < 0 → Q (nI 0) M1) ∧ (¬ y3 < 0 → w_X5_logged M1 x1 x2 (nI 2) (fun y5 M4 => ((0 ≤ y5 → Q (nI 0) M4) ∧ (¬ 0 ≤ y5 → w_X5_logged M4 x1 x2 (nI 3) (fun y7 M6 => ((y7 < 0 → am_sa (am_c2 M6 29 0) 40 (((nI 4) * x2) + x1) (nI 3) (fun M8 => am_let (nI 0) (fun y9 => (∃ f48 : Nat, w_X5_recoverMember_L48 y3 x1 x2 Q (fun M18 z19 => Q (nI 1) M18) f48 M8 y9)))) ∧ (¬ y7 < 0 → Q (nI 0) M6))))))))))
theorem w_X5_recoverMember_s {M : am_M} {x1 : Int32} {x2 : Int32} {Q : Int32 → am_M → Prop} (h : w_X5_recoverMember M x1 x2 Q) : w_X5_logged M x1 x2 (nI 1) (fun y2 M1 => am_let y2 (fun y3 => ((y3 < 0 → Q (nI 0) M1) ∧ (¬ y3 < 0 → w_X5_logged M1 x1 x2 (nI 2) (fun y5 M4 => ((0 ≤ y5 → Q (nI 0) M4) ∧ (¬ 0 ≤ y5 → w_X5_logged M4 x1 x2 (nI 3) (fun y7 M6 => ((y7 < 0 → am_sa (am_c2 M6 29 0) 40 (((nI 4) * x2) + x1) (nI 3) (fun M8 => am_let (nI 0) (fun y9 => (∃ f48 : Nat, w_X5_recoverMember_L48 y3 x1 x2 Q (fun M18 z19 => Q (nI 1) M18) f48 M8 y9)))) ∧ (¬ y7 < 0 → Q (nI 0) M6)))))))))) := h
theorem w_X5_recoverMember_i {M : am_M} {x1 : Int32} {x2 : Int32} {Q : Int32 → am_M → Prop} (h : w_X5_logged M x1 x2 (nI 1) (fun y2 M1 => am_let y2 (fun y3 => ((y3 < 0 → Q (nI 0) M1) ∧ (¬ y3 < 0 → w_X5_logged M1 x1 x2 (nI 2) (fun y5 M4 => ((0 ≤ y5 → Q (nI 0) M4) ∧ (¬ 0 ≤ y5 → w_X5_logged M4 x1 x2 (nI 3) (fun y7 M6 => ((y7 < 0 → am_sa (am_c2 M6 29 0) 40 (((nI 4) * x2) + x1) (nI 3) (fun M8 => am_let (nI 0) (fun y9 => (∃ f48 : Nat, w_X5_recoverMember_L48 y3 x1 x2 Q (fun M18 z19 => Q (nI 1) M18) f48 M8 y9)))) ∧ (¬ y7 < 0 → Q (nI 0) M6))))))))))) : w_X5_recoverMember M x1 x2 Q := h
def w_X5_recoverChief_L35 (y3 : Int32) (x1 : Int32) (x2 : Int32) (Q : Int32 → am_M → Prop) (K : am_M → Int32 → Prop) : Nat → am_M → Int32 → Prop
  | 0, _, _ => False
  | f35 + 1, M9, z8 => (((nI 4) ≤ z8 → K M9 z8) ∧ (¬ (nI 4) ≤ z8 → am_ix y3 256 (fun k10 => ((¬ (((nI (M9.2 34 0 k10)) >>> (z8 &&& 31)) &&& (nI 1)) = (nI 1) → am_let (nI 0) (fun y11 => am_sz (am_c2 M9 25 0) 40 (((nI 4) * x2) + z8) y11 (fun M12 => am_sz (am_c2 M12 26 0) 40 (((nI 4) * x2) + z8) y11 (fun M13 => am_sz (am_c2 M13 28 0) 40 (((nI 4) * x2) + z8) y11 (fun M14 => am_let (z8 + nI 1) (fun y15 => w_X5_recoverChief_L35 y3 x1 x2 Q K f35 M14 y15)))))) ∧ ((((nI (M9.2 34 0 k10)) >>> (z8 &&& 31)) &&& (nI 1)) = (nI 1) → am_let (nI 1) (fun y16 => am_sz (am_c2 M9 25 0) 40 (((nI 4) * x2) + z8) y16 (fun M17 => am_sz (am_c2 M17 26 0) 40 (((nI 4) * x2) + z8) y16 (fun M18 => am_sz (am_c2 M18 28 0) 40 (((nI 4) * x2) + z8) y16 (fun M19 => am_let (z8 + nI 1) (fun y20 => w_X5_recoverChief_L35 y3 x1 x2 Q K f35 M19 y20))))))))))
theorem w_X5_recoverChief_L35_s {y3 : Int32} {x1 : Int32} {x2 : Int32} {Q : Int32 → am_M → Prop} {K : am_M → Int32 → Prop} {f35 : Nat} {M9 : am_M} {z8 : Int32} (h : w_X5_recoverChief_L35 y3 x1 x2 Q K (f35 + 1) M9 z8) : (((nI 4) ≤ z8 → K M9 z8) ∧ (¬ (nI 4) ≤ z8 → am_ix y3 256 (fun k10 => ((¬ (((nI (M9.2 34 0 k10)) >>> (z8 &&& 31)) &&& (nI 1)) = (nI 1) → am_let (nI 0) (fun y11 => am_sz (am_c2 M9 25 0) 40 (((nI 4) * x2) + z8) y11 (fun M12 => am_sz (am_c2 M12 26 0) 40 (((nI 4) * x2) + z8) y11 (fun M13 => am_sz (am_c2 M13 28 0) 40 (((nI 4) * x2) + z8) y11 (fun M14 => am_let (z8 + nI 1) (fun y15 => w_X5_recoverChief_L35 y3 x1 x2 Q K f35 M14 y15)))))) ∧ ((((nI (M9.2 34 0 k10)) >>> (z8 &&& 31)) &&& (nI 1)) = (nI 1) → am_let (nI 1) (fun y16 => am_sz (am_c2 M9 25 0) 40 (((nI 4) * x2) + z8) y16 (fun M17 => am_sz (am_c2 M17 26 0) 40 (((nI 4) * x2) + z8) y16 (fun M18 => am_sz (am_c2 M18 28 0) 40 (((nI 4) * x2) + z8) y16 (fun M19 => am_let (z8 + nI 1) (fun y20 => w_X5_recoverChief_L35 y3 x1 x2 Q K f35 M19 y20)))))))))) := h
theorem w_X5_recoverChief_L35_i {y3 : Int32} {x1 : Int32} {x2 : Int32} {Q : Int32 → am_M → Prop} {K : am_M → Int32 → Prop} {f35 : Nat} {M9 : am_M} {z8 : Int32} (h : (((nI 4) ≤ z8 → K M9 z8) ∧ (¬ (nI 4) ≤ z8 → am_ix y3 256 (fun k10 => ((¬ (((nI (M9.2 34 0 k10)) >>> (z8 &&& 31)) &&& (nI 1)) = (nI 1) → am_let (nI 0) (fun y11 => am_sz (am_c2 M9 25 0) 40 (((nI 4) * x2) + z8) y11 (fun M12 => am_sz (am_c2 M12 26 0) 40 (((nI 4) * x2) + z8) y11 (fun M13 => am_sz (am_c2 M13 28 0) 40 (((nI 4) * x2) + z8) y11 (fun M14 => am_let (z8 + nI 1) (fun y15 => w_X5_recoverChief_L35 y3 x1 x2 Q K f35 M14 y15)))))) ∧ ((((nI (M9.2 34 0 k10)) >>> (z8 &&& 31)) &&& (nI 1)) = (nI 1) → am_let (nI 1) (fun y16 => am_sz (am_c2 M9 25 0) 40 (((nI 4) * x2) + z8) y16 (fun M17 => am_sz (am_c2 M17 26 0) 40 (((nI 4) * x2) + z8) y16 (fun M18 => am_sz (am_c2 M18 28 0) 40 (((nI 4) * x2) + z8) y16 (fun M19 => am_let (z8 + nI 1) (fun y20 => w_X5_recoverChief_L35 y3 x1 x2 Q K f35 M19 y20))))))))))) : w_X5_recoverChief_L35 y3 x1 x2 Q K (f35 + 1) M9 z8 := h
def w_X5_recoverChief (M : am_M) (x1 : Int32) (x2 : Int32) (Q : Int32 → am_M → Prop) : Prop := w_X5_logged M x1 x2 (nI 4) (fun y2 M1 => am_let y2 (fun y3 => ((y3 < 0 → Q (nI 0) M1) ∧ (¬ y3 < 0 → w_X5_logged M1 x1 x2 (nI 6) (fun y5 M4 => ((y5 < 0 → am_sa (am_c2 M4 24 0) 10 x2 (nI 3) (fun M6 => am_let (nI 0) (fun y7 => (∃ f35 : Nat, w_X5_recoverChief_L35 y3 x1 x2 Q (fun M21 z22 => w_X5_sendDue M21 x2 (fun M23 => Q (nI 1) M23)) f35 M6 y7)))) ∧ (¬ y5 < 0 → Q (nI 0) M4)))))))
theorem w_X5_recoverChief_s {M : am_M} {x1 : Int32} {x2 : Int32} {Q : Int32 → am_M → Prop} (h : w_X5_recoverChief M x1 x2 Q) : w_X5_logged M x1 x2 (nI 4) (fun y2 M1 => am_let y2 (fun y3 => ((y3 < 0 → Q (nI 0) M1) ∧ (¬ y3 < 0 → w_X5_logged M1 x1 x2 (nI 6) (fun y5 M4 => ((y5 < 0 → am_sa (am_c2 M4 24 0) 10 x2 (nI 3) (fun M6 => am_let (nI 0) (fun y7 => (∃ f35 : Nat, w_X5_recoverChief_L35 y3 x1 x2 Q (fun M21 z22 => w_X5_sendDue M21 x2 (fun M23 => Q (nI 1) M23)) f35 M6 y7)))) ∧ (¬ y5 < 0 → Q (nI 0) M4))))))) := h
theorem w_X5_recoverChief_i {M : am_M} {x1 : Int32} {x2 : Int32} {Q : Int32 → am_M → Prop} (h : w_X5_logged M x1 x2 (nI 4) (fun y2 M1 => am_let y2 (fun y3 => ((y3 < 0 → Q (nI 0) M1) ∧ (¬ y3 < 0 → w_X5_logged M1 x1 x2 (nI 6) (fun y5 M4 => ((y5 < 0 → am_sa (am_c2 M4 24 0) 10 x2 (nI 3) (fun M6 => am_let (nI 0) (fun y7 => (∃ f35 : Nat, w_X5_recoverChief_L35 y3 x1 x2 Q (fun M21 z22 => w_X5_sendDue M21 x2 (fun M23 => Q (nI 1) M23)) f35 M6 y7)))) ∧ (¬ y5 < 0 → Q (nI 0) M4)))))))) : w_X5_recoverChief M x1 x2 Q := h
def w_X5_recover_L33 (x1 : Int32) (Q : Int32 → am_M → Prop) (K : am_M → Int32 → Int32 → Prop) : Nat → am_M → Int32 → Int32 → Prop
  | 0, _, _, _ => False
  | f33 + 1, M9, z7, z8 => (((nI (M9.2 20 0 2)) ≤ z8 → K M9 z7 z8) ∧ (¬ (nI (M9.2 20 0 2)) ≤ z8 → w_X5_recoverMember M9 x1 z8 (fun y11 M10 => am_let (z7 + y11) (fun y12 => w_X5_recoverChief M10 x1 z8 (fun y14 M13 => am_let (y12 + y14) (fun y15 => am_let (z8 + nI 1) (fun y16 => w_X5_recover_L33 x1 Q K f33 M13 y15 y16)))))))
theorem w_X5_recover_L33_s {x1 : Int32} {Q : Int32 → am_M → Prop} {K : am_M → Int32 → Int32 → Prop} {f33 : Nat} {M9 : am_M} {z7 : Int32} {z8 : Int32} (h : w_X5_recover_L33 x1 Q K (f33 + 1) M9 z7 z8) : (((nI (M9.2 20 0 2)) ≤ z8 → K M9 z7 z8) ∧ (¬ (nI (M9.2 20 0 2)) ≤ z8 → w_X5_recoverMember M9 x1 z8 (fun y11 M10 => am_let (z7 + y11) (fun y12 => w_X5_recoverChief M10 x1 z8 (fun y14 M13 => am_let (y12 + y14) (fun y15 => am_let (z8 + nI 1) (fun y16 => w_X5_recover_L33 x1 Q K f33 M13 y15 y16))))))) := h
theorem w_X5_recover_L33_i {x1 : Int32} {Q : Int32 → am_M → Prop} {K : am_M → Int32 → Int32 → Prop} {f33 : Nat} {M9 : am_M} {z7 : Int32} {z8 : Int32} (h : (((nI (M9.2 20 0 2)) ≤ z8 → K M9 z7 z8) ∧ (¬ (nI (M9.2 20 0 2)) ≤ z8 → w_X5_recoverMember M9 x1 z8 (fun y11 M10 => am_let (z7 + y11) (fun y12 => w_X5_recoverChief M10 x1 z8 (fun y14 M13 => am_let (y12 + y14) (fun y15 => am_let (z8 + nI 1) (fun y16 => w_X5_recover_L33 x1 Q K f33 M13 y15 y16)))))))) : w_X5_recover_L33 x1 Q K (f33 + 1) M9 z7 z8 := h
def w_X5_recover (M : am_M) (x1 : Int32) (Q : Int32 → am_M → Prop) : Prop := w_X5_noNode M x1 (fun y2 M1 => ((y2 = 0 → am_ix x1 4 (fun k3 => ((¬ (nI (M1.2 21 0 k3)) = 0 → am_sz (am_c2 M1 21 0) 4 x1 (nI 0) (fun M4 => am_let (nI 0) (fun y5 => am_let (nI 0) (fun y6 => (∃ f33 : Nat, w_X5_recover_L33 x1 Q (fun M17 z18 z19 => Q z18 M17) f33 M4 y5 y6))))) ∧ ((nI (M1.2 21 0 k3)) = 0 → Q (-4) M1)))) ∧ (¬ y2 = 0 → Q (-2) M1)))
theorem w_X5_recover_s {M : am_M} {x1 : Int32} {Q : Int32 → am_M → Prop} (h : w_X5_recover M x1 Q) : w_X5_noNode M x1 (fun y2 M1 => ((y2 = 0 → am_ix x1 4 (fun k3 => ((¬ (nI (M1.2 21 0 k3)) = 0 → am_sz (am_c2 M1 21 0) 4 x1 (nI 0) (fun M4 => am_let (nI 0) (fun y5 => am_let (nI 0) (fun y6 => (∃ f33 : Nat, w_X5_recover_L33 x1 Q (fun M17 z18 z19 => Q z18 M17) f33 M4 y5 y6))))) ∧ ((nI (M1.2 21 0 k3)) = 0 → Q (-4) M1)))) ∧ (¬ y2 = 0 → Q (-2) M1))) := h
theorem w_X5_recover_i {M : am_M} {x1 : Int32} {Q : Int32 → am_M → Prop} (h : w_X5_noNode M x1 (fun y2 M1 => ((y2 = 0 → am_ix x1 4 (fun k3 => ((¬ (nI (M1.2 21 0 k3)) = 0 → am_sz (am_c2 M1 21 0) 4 x1 (nI 0) (fun M4 => am_let (nI 0) (fun y5 => am_let (nI 0) (fun y6 => (∃ f33 : Nat, w_X5_recover_L33 x1 Q (fun M17 z18 z19 => Q z18 M17) f33 M4 y5 y6))))) ∧ ((nI (M1.2 21 0 k3)) = 0 → Q (-4) M1)))) ∧ (¬ y2 = 0 → Q (-2) M1)))) : w_X5_recover M x1 Q := h
def w_X5_up (M : am_M) (x1 : Int32) (Q : Int32 → am_M → Prop) : Prop := w_X5_noNode M x1 (fun y2 M1 => ((¬ y2 = 0 → Q (nI 0) M1) ∧ (y2 = 0 → am_ix x1 4 (fun k3 => ((¬ (nI (M1.2 21 0 k3)) = 0 → Q (nI 0) M1) ∧ ((nI (M1.2 21 0 k3)) = 0 → Q (nI 1) M1))))))
theorem w_X5_up_s {M : am_M} {x1 : Int32} {Q : Int32 → am_M → Prop} (h : w_X5_up M x1 Q) : w_X5_noNode M x1 (fun y2 M1 => ((¬ y2 = 0 → Q (nI 0) M1) ∧ (y2 = 0 → am_ix x1 4 (fun k3 => ((¬ (nI (M1.2 21 0 k3)) = 0 → Q (nI 0) M1) ∧ ((nI (M1.2 21 0 k3)) = 0 → Q (nI 1) M1)))))) := h
theorem w_X5_up_i {M : am_M} {x1 : Int32} {Q : Int32 → am_M → Prop} (h : w_X5_noNode M x1 (fun y2 M1 => ((¬ y2 = 0 → Q (nI 0) M1) ∧ (y2 = 0 → am_ix x1 4 (fun k3 => ((¬ (nI (M1.2 21 0 k3)) = 0 → Q (nI 0) M1) ∧ ((nI (M1.2 21 0 k3)) = 0 → Q (nI 1) M1))))))) : w_X5_up M x1 Q := h
def w_X5_stage (M : am_M) (x1 : Int32) (Q : Int32 → am_M → Prop) : Prop := w_X5_noWork M x1 (fun y2 M1 => ((y2 = 0 → am_ix x1 10 (fun k3 => Q (nI (M1.2 24 0 k3)) M1)) ∧ (¬ y2 = 0 → Q (-2) M1)))
theorem w_X5_stage_s {M : am_M} {x1 : Int32} {Q : Int32 → am_M → Prop} (h : w_X5_stage M x1 Q) : w_X5_noWork M x1 (fun y2 M1 => ((y2 = 0 → am_ix x1 10 (fun k3 => Q (nI (M1.2 24 0 k3)) M1)) ∧ (¬ y2 = 0 → Q (-2) M1))) := h
theorem w_X5_stage_i {M : am_M} {x1 : Int32} {Q : Int32 → am_M → Prop} (h : w_X5_noWork M x1 (fun y2 M1 => ((y2 = 0 → am_ix x1 10 (fun k3 => Q (nI (M1.2 24 0 k3)) M1)) ∧ (¬ y2 = 0 → Q (-2) M1)))) : w_X5_stage M x1 Q := h
def w_X5_nodes (M : am_M) (x1 : Int32) (x2 : Int32) (Q : Int32 → am_M → Prop) : Prop := w_X5_noWork M x1 (fun y2 M1 => ((¬ y2 = 0 → Q (-2) M1) ∧ (y2 = 0 → ((x2 < 0 → Q (-2) M1) ∧ (¬ x2 < 0 → ((x2 ≤ (nI 3) → w_X5_bits M1 x1 x2 (fun y4 M3 => Q y4 M3)) ∧ (¬ x2 ≤ (nI 3) → Q (-2) M1)))))))
theorem w_X5_nodes_s {M : am_M} {x1 : Int32} {x2 : Int32} {Q : Int32 → am_M → Prop} (h : w_X5_nodes M x1 x2 Q) : w_X5_noWork M x1 (fun y2 M1 => ((¬ y2 = 0 → Q (-2) M1) ∧ (y2 = 0 → ((x2 < 0 → Q (-2) M1) ∧ (¬ x2 < 0 → ((x2 ≤ (nI 3) → w_X5_bits M1 x1 x2 (fun y4 M3 => Q y4 M3)) ∧ (¬ x2 ≤ (nI 3) → Q (-2) M1))))))) := h
theorem w_X5_nodes_i {M : am_M} {x1 : Int32} {x2 : Int32} {Q : Int32 → am_M → Prop} (h : w_X5_noWork M x1 (fun y2 M1 => ((¬ y2 = 0 → Q (-2) M1) ∧ (y2 = 0 → ((x2 < 0 → Q (-2) M1) ∧ (¬ x2 < 0 → ((x2 ≤ (nI 3) → w_X5_bits M1 x1 x2 (fun y4 M3 => Q y4 M3)) ∧ (¬ x2 ≤ (nI 3) → Q (-2) M1)))))))) : w_X5_nodes M x1 x2 Q := h
def w_X5_state (M : am_M) (x1 : Int32) (x2 : Int32) (Q : Int32 → am_M → Prop) : Prop := w_X5_noNode M x1 (fun y2 M1 => ((¬ y2 = 0 → Q (-2) M1) ∧ (y2 = 0 → w_X5_noWork M1 x2 (fun y4 M3 => ((y4 = 0 → am_ix (((nI 4) * x2) + x1) 40 (fun k5 => Q (nI (M3.2 29 0 k5)) M3)) ∧ (¬ y4 = 0 → Q (-2) M3))))))
theorem w_X5_state_s {M : am_M} {x1 : Int32} {x2 : Int32} {Q : Int32 → am_M → Prop} (h : w_X5_state M x1 x2 Q) : w_X5_noNode M x1 (fun y2 M1 => ((¬ y2 = 0 → Q (-2) M1) ∧ (y2 = 0 → w_X5_noWork M1 x2 (fun y4 M3 => ((y4 = 0 → am_ix (((nI 4) * x2) + x1) 40 (fun k5 => Q (nI (M3.2 29 0 k5)) M3)) ∧ (¬ y4 = 0 → Q (-2) M3)))))) := h
theorem w_X5_state_i {M : am_M} {x1 : Int32} {x2 : Int32} {Q : Int32 → am_M → Prop} (h : w_X5_noNode M x1 (fun y2 M1 => ((¬ y2 = 0 → Q (-2) M1) ∧ (y2 = 0 → w_X5_noWork M1 x2 (fun y4 M3 => ((y4 = 0 → am_ix (((nI 4) * x2) + x1) 40 (fun k5 => Q (nI (M3.2 29 0 k5)) M3)) ∧ (¬ y4 = 0 → Q (-2) M3))))))) : w_X5_state M x1 x2 Q := h
def w_X5_holder (M : am_M) (x1 : Int32) (x2 : Int32) (Q : Int32 → am_M → Prop) : Prop := w_X5_noNode M x1 (fun y2 M1 => ((¬ y2 = 0 → Q (-2) M1) ∧ (y2 = 0 → ((x2 < 0 → Q (-2) M1) ∧ (¬ x2 < 0 → ((x2 ≤ (nI 7) → am_ix (((nI 8) * x1) + x2) 32 (fun k3 => Q ((nI (M1.2 30 0 k3)) - (nI 1)) M1)) ∧ (¬ x2 ≤ (nI 7) → Q (-2) M1)))))))
theorem w_X5_holder_s {M : am_M} {x1 : Int32} {x2 : Int32} {Q : Int32 → am_M → Prop} (h : w_X5_holder M x1 x2 Q) : w_X5_noNode M x1 (fun y2 M1 => ((¬ y2 = 0 → Q (-2) M1) ∧ (y2 = 0 → ((x2 < 0 → Q (-2) M1) ∧ (¬ x2 < 0 → ((x2 ≤ (nI 7) → am_ix (((nI 8) * x1) + x2) 32 (fun k3 => Q ((nI (M1.2 30 0 k3)) - (nI 1)) M1)) ∧ (¬ x2 ≤ (nI 7) → Q (-2) M1))))))) := h
theorem w_X5_holder_i {M : am_M} {x1 : Int32} {x2 : Int32} {Q : Int32 → am_M → Prop} (h : w_X5_noNode M x1 (fun y2 M1 => ((¬ y2 = 0 → Q (-2) M1) ∧ (y2 = 0 → ((x2 < 0 → Q (-2) M1) ∧ (¬ x2 < 0 → ((x2 ≤ (nI 7) → am_ix (((nI 8) * x1) + x2) 32 (fun k3 => Q ((nI (M1.2 30 0 k3)) - (nI 1)) M1)) ∧ (¬ x2 ≤ (nI 7) → Q (-2) M1)))))))) : w_X5_holder M x1 x2 Q := h
def w_X5_records_L15 (x1 : Int32) (x2 : Int32) (Q : Int32 → am_M → Prop) (K : am_M → Int32 → Int32 → Prop) : Nat → am_M → Int32 → Int32 → Prop
  | 0, _, _, _ => False
  | f15 + 1, M7, z5, z6 => am_ix x1 4 (fun k8 => (((nI (M7.2 31 0 k8)) ≤ z6 → K M7 z5 z6) ∧ (¬ (nI (M7.2 31 0 k8)) ≤ z6 → ((x2 = 0 → am_let (z5 + (nI 1)) (fun y9 => am_let (z6 + nI 1) (fun y10 => w_X5_records_L15 x1 x2 Q K f15 M7 y9 y10))) ∧ (¬ x2 = 0 → am_ix (((nI 64) * x1) + z6) 256 (fun k11 => (((nI (M7.2 35 0 k11)) = 0 → am_let z5 (fun y12 => am_let (z6 + nI 1) (fun y13 => w_X5_records_L15 x1 x2 Q K f15 M7 y12 y13))) ∧ (¬ (nI (M7.2 35 0 k11)) = 0 → am_let (z5 + (nI 1)) (fun y14 => am_let (z6 + nI 1) (fun y15 => w_X5_records_L15 x1 x2 Q K f15 M7 y14 y15))))))))))
theorem w_X5_records_L15_s {x1 : Int32} {x2 : Int32} {Q : Int32 → am_M → Prop} {K : am_M → Int32 → Int32 → Prop} {f15 : Nat} {M7 : am_M} {z5 : Int32} {z6 : Int32} (h : w_X5_records_L15 x1 x2 Q K (f15 + 1) M7 z5 z6) : am_ix x1 4 (fun k8 => (((nI (M7.2 31 0 k8)) ≤ z6 → K M7 z5 z6) ∧ (¬ (nI (M7.2 31 0 k8)) ≤ z6 → ((x2 = 0 → am_let (z5 + (nI 1)) (fun y9 => am_let (z6 + nI 1) (fun y10 => w_X5_records_L15 x1 x2 Q K f15 M7 y9 y10))) ∧ (¬ x2 = 0 → am_ix (((nI 64) * x1) + z6) 256 (fun k11 => (((nI (M7.2 35 0 k11)) = 0 → am_let z5 (fun y12 => am_let (z6 + nI 1) (fun y13 => w_X5_records_L15 x1 x2 Q K f15 M7 y12 y13))) ∧ (¬ (nI (M7.2 35 0 k11)) = 0 → am_let (z5 + (nI 1)) (fun y14 => am_let (z6 + nI 1) (fun y15 => w_X5_records_L15 x1 x2 Q K f15 M7 y14 y15)))))))))) := h
theorem w_X5_records_L15_i {x1 : Int32} {x2 : Int32} {Q : Int32 → am_M → Prop} {K : am_M → Int32 → Int32 → Prop} {f15 : Nat} {M7 : am_M} {z5 : Int32} {z6 : Int32} (h : am_ix x1 4 (fun k8 => (((nI (M7.2 31 0 k8)) ≤ z6 → K M7 z5 z6) ∧ (¬ (nI (M7.2 31 0 k8)) ≤ z6 → ((x2 = 0 → am_let (z5 + (nI 1)) (fun y9 => am_let (z6 + nI 1) (fun y10 => w_X5_records_L15 x1 x2 Q K f15 M7 y9 y10))) ∧ (¬ x2 = 0 → am_ix (((nI 64) * x1) + z6) 256 (fun k11 => (((nI (M7.2 35 0 k11)) = 0 → am_let z5 (fun y12 => am_let (z6 + nI 1) (fun y13 => w_X5_records_L15 x1 x2 Q K f15 M7 y12 y13))) ∧ (¬ (nI (M7.2 35 0 k11)) = 0 → am_let (z5 + (nI 1)) (fun y14 => am_let (z6 + nI 1) (fun y15 => w_X5_records_L15 x1 x2 Q K f15 M7 y14 y15))))))))))) : w_X5_records_L15 x1 x2 Q K (f15 + 1) M7 z5 z6 := h
def w_X5_records (M : am_M) (x1 : Int32) (x2 : Int32) (Q : Int32 → am_M → Prop) : Prop := w_X5_noNode M x1 (fun y2 M1 => ((y2 = 0 → am_let (nI 0) (fun y3 => am_let (nI 0) (fun y4 => (∃ f15 : Nat, w_X5_records_L15 x1 x2 Q (fun M16 z17 z18 => Q z17 M16) f15 M1 y3 y4)))) ∧ (¬ y2 = 0 → Q (-2) M1)))
theorem w_X5_records_s {M : am_M} {x1 : Int32} {x2 : Int32} {Q : Int32 → am_M → Prop} (h : w_X5_records M x1 x2 Q) : w_X5_noNode M x1 (fun y2 M1 => ((y2 = 0 → am_let (nI 0) (fun y3 => am_let (nI 0) (fun y4 => (∃ f15 : Nat, w_X5_records_L15 x1 x2 Q (fun M16 z17 z18 => Q z17 M16) f15 M1 y3 y4)))) ∧ (¬ y2 = 0 → Q (-2) M1))) := h
theorem w_X5_records_i {M : am_M} {x1 : Int32} {x2 : Int32} {Q : Int32 → am_M → Prop} (h : w_X5_noNode M x1 (fun y2 M1 => ((y2 = 0 → am_let (nI 0) (fun y3 => am_let (nI 0) (fun y4 => (∃ f15 : Nat, w_X5_records_L15 x1 x2 Q (fun M16 z17 z18 => Q z17 M16) f15 M1 y3 y4)))) ∧ (¬ y2 = 0 → Q (-2) M1)))) : w_X5_records M x1 x2 Q := h
def w_X5_isRecord (M : am_M) (x1 : Int32) (x2 : Int32) (Q : Int32 → am_M → Prop) : Prop := ((x2 < 0 → Q (nI 0) M) ∧ (¬ x2 < 0 → am_ix x1 4 (fun k1 => (((nI (M.2 31 0 k1)) ≤ x2 → Q (nI 0) M) ∧ (¬ (nI (M.2 31 0 k1)) ≤ x2 → Q (nI 1) M)))))
theorem w_X5_isRecord_s {M : am_M} {x1 : Int32} {x2 : Int32} {Q : Int32 → am_M → Prop} (h : w_X5_isRecord M x1 x2 Q) : ((x2 < 0 → Q (nI 0) M) ∧ (¬ x2 < 0 → am_ix x1 4 (fun k1 => (((nI (M.2 31 0 k1)) ≤ x2 → Q (nI 0) M) ∧ (¬ (nI (M.2 31 0 k1)) ≤ x2 → Q (nI 1) M))))) := h
theorem w_X5_isRecord_i {M : am_M} {x1 : Int32} {x2 : Int32} {Q : Int32 → am_M → Prop} (h : ((x2 < 0 → Q (nI 0) M) ∧ (¬ x2 < 0 → am_ix x1 4 (fun k1 => (((nI (M.2 31 0 k1)) ≤ x2 → Q (nI 0) M) ∧ (¬ (nI (M.2 31 0 k1)) ≤ x2 → Q (nI 1) M)))))) : w_X5_isRecord M x1 x2 Q := h
def w_X5_entry (M : am_M) (x1 : Int32) (x2 : Int32) (Q : Int32 → am_M → Prop) : Prop := w_X5_noNode M x1 (fun y2 M1 => ((y2 = 0 → w_X5_isRecord M1 x1 x2 (fun y4 M3 => ((y4 = 0 → Q (-1) M3) ∧ (¬ y4 = 0 → am_ix (((nI 64) * x1) + x2) 256 (fun k5 => am_ix (((nI 64) * x1) + x2) 256 (fun k6 => Q (((nI 10) * (nI (M3.2 32 0 k5))) + (nI (M3.2 33 0 k6))) M3)))))) ∧ (¬ y2 = 0 → Q (-2) M1)))
theorem w_X5_entry_s {M : am_M} {x1 : Int32} {x2 : Int32} {Q : Int32 → am_M → Prop} (h : w_X5_entry M x1 x2 Q) : w_X5_noNode M x1 (fun y2 M1 => ((y2 = 0 → w_X5_isRecord M1 x1 x2 (fun y4 M3 => ((y4 = 0 → Q (-1) M3) ∧ (¬ y4 = 0 → am_ix (((nI 64) * x1) + x2) 256 (fun k5 => am_ix (((nI 64) * x1) + x2) 256 (fun k6 => Q (((nI 10) * (nI (M3.2 32 0 k5))) + (nI (M3.2 33 0 k6))) M3)))))) ∧ (¬ y2 = 0 → Q (-2) M1))) := h
theorem w_X5_entry_i {M : am_M} {x1 : Int32} {x2 : Int32} {Q : Int32 → am_M → Prop} (h : w_X5_noNode M x1 (fun y2 M1 => ((y2 = 0 → w_X5_isRecord M1 x1 x2 (fun y4 M3 => ((y4 = 0 → Q (-1) M3) ∧ (¬ y4 = 0 → am_ix (((nI 64) * x1) + x2) 256 (fun k5 => am_ix (((nI 64) * x1) + x2) 256 (fun k6 => Q (((nI 10) * (nI (M3.2 32 0 k5))) + (nI (M3.2 33 0 k6))) M3)))))) ∧ (¬ y2 = 0 → Q (-2) M1)))) : w_X5_entry M x1 x2 Q := h
def w_X5_content (M : am_M) (x1 : Int32) (x2 : Int32) (Q : Int32 → am_M → Prop) : Prop := w_X5_noNode M x1 (fun y2 M1 => ((y2 = 0 → w_X5_isRecord M1 x1 x2 (fun y4 M3 => ((y4 = 0 → Q (-1) M3) ∧ (¬ y4 = 0 → am_ix (((nI 64) * x1) + x2) 256 (fun k5 => Q (nI (M3.2 34 0 k5)) M3))))) ∧ (¬ y2 = 0 → Q (-2) M1)))
theorem w_X5_content_s {M : am_M} {x1 : Int32} {x2 : Int32} {Q : Int32 → am_M → Prop} (h : w_X5_content M x1 x2 Q) : w_X5_noNode M x1 (fun y2 M1 => ((y2 = 0 → w_X5_isRecord M1 x1 x2 (fun y4 M3 => ((y4 = 0 → Q (-1) M3) ∧ (¬ y4 = 0 → am_ix (((nI 64) * x1) + x2) 256 (fun k5 => Q (nI (M3.2 34 0 k5)) M3))))) ∧ (¬ y2 = 0 → Q (-2) M1))) := h
theorem w_X5_content_i {M : am_M} {x1 : Int32} {x2 : Int32} {Q : Int32 → am_M → Prop} (h : w_X5_noNode M x1 (fun y2 M1 => ((y2 = 0 → w_X5_isRecord M1 x1 x2 (fun y4 M3 => ((y4 = 0 → Q (-1) M3) ∧ (¬ y4 = 0 → am_ix (((nI 64) * x1) + x2) 256 (fun k5 => Q (nI (M3.2 34 0 k5)) M3))))) ∧ (¬ y2 = 0 → Q (-2) M1)))) : w_X5_content M x1 x2 Q := h
def w_X5_messages (M : am_M) (Q : Int32 → am_M → Prop) : Prop := Q (nI (M.2 20 0 16)) M
theorem w_X5_messages_s {M : am_M} {Q : Int32 → am_M → Prop} (h : w_X5_messages M Q) : Q (nI (M.2 20 0 16)) M := h
theorem w_X5_messages_i {M : am_M} {Q : Int32 → am_M → Prop} (h : Q (nI (M.2 20 0 16)) M) : w_X5_messages M Q := h
def w_X5_message (M : am_M) (x1 : Int32) (x2 : Int32) (Q : Int32 → am_M → Prop) : Prop := ((x1 < 0 → Q (-2) M) ∧ (¬ x1 < 0 → (((nI (M.2 20 0 16)) ≤ x1 → Q (-2) M) ∧ (¬ (nI (M.2 20 0 16)) ≤ x1 → ((x2 < 0 → Q (-2) M) ∧ (¬ x2 < 0 → ((x2 ≤ (nI 3) → ((¬ x2 = 0 → ((¬ x2 = (nI 1) → ((¬ x2 = (nI 2) → am_ix x1 40 (fun k1 => Q (nI (M.2 39 0 k1)) M)) ∧ (x2 = (nI 2) → am_ix x1 40 (fun k2 => Q (nI (M.2 38 0 k2)) M)))) ∧ (x2 = (nI 1) → am_ix x1 40 (fun k3 => Q (nI (M.2 37 0 k3)) M)))) ∧ (x2 = 0 → am_ix x1 40 (fun k4 => Q (nI (M.2 36 0 k4)) M)))) ∧ (¬ x2 ≤ (nI 3) → Q (-2) M))))))))
theorem w_X5_message_s {M : am_M} {x1 : Int32} {x2 : Int32} {Q : Int32 → am_M → Prop} (h : w_X5_message M x1 x2 Q) : ((x1 < 0 → Q (-2) M) ∧ (¬ x1 < 0 → (((nI (M.2 20 0 16)) ≤ x1 → Q (-2) M) ∧ (¬ (nI (M.2 20 0 16)) ≤ x1 → ((x2 < 0 → Q (-2) M) ∧ (¬ x2 < 0 → ((x2 ≤ (nI 3) → ((¬ x2 = 0 → ((¬ x2 = (nI 1) → ((¬ x2 = (nI 2) → am_ix x1 40 (fun k1 => Q (nI (M.2 39 0 k1)) M)) ∧ (x2 = (nI 2) → am_ix x1 40 (fun k2 => Q (nI (M.2 38 0 k2)) M)))) ∧ (x2 = (nI 1) → am_ix x1 40 (fun k3 => Q (nI (M.2 37 0 k3)) M)))) ∧ (x2 = 0 → am_ix x1 40 (fun k4 => Q (nI (M.2 36 0 k4)) M)))) ∧ (¬ x2 ≤ (nI 3) → Q (-2) M)))))))) := h
theorem w_X5_message_i {M : am_M} {x1 : Int32} {x2 : Int32} {Q : Int32 → am_M → Prop} (h : ((x1 < 0 → Q (-2) M) ∧ (¬ x1 < 0 → (((nI (M.2 20 0 16)) ≤ x1 → Q (-2) M) ∧ (¬ (nI (M.2 20 0 16)) ≤ x1 → ((x2 < 0 → Q (-2) M) ∧ (¬ x2 < 0 → ((x2 ≤ (nI 3) → ((¬ x2 = 0 → ((¬ x2 = (nI 1) → ((¬ x2 = (nI 2) → am_ix x1 40 (fun k1 => Q (nI (M.2 39 0 k1)) M)) ∧ (x2 = (nI 2) → am_ix x1 40 (fun k2 => Q (nI (M.2 38 0 k2)) M)))) ∧ (x2 = (nI 1) → am_ix x1 40 (fun k3 => Q (nI (M.2 37 0 k3)) M)))) ∧ (x2 = 0 → am_ix x1 40 (fun k4 => Q (nI (M.2 36 0 k4)) M)))) ∧ (¬ x2 ≤ (nI 3) → Q (-2) M))))))))) : w_X5_message M x1 x2 Q := h
def w_X5_forced (M : am_M) (x1 : Int32) (Q : Int32 → am_M → Prop) : Prop := w_X5_noNode M x1 (fun y2 M1 => ((y2 = 0 → am_ix x1 4 (fun k3 => Q (nI (M1.2 22 0 k3)) M1)) ∧ (¬ y2 = 0 → Q (-2) M1)))
theorem w_X5_forced_s {M : am_M} {x1 : Int32} {Q : Int32 → am_M → Prop} (h : w_X5_forced M x1 Q) : w_X5_noNode M x1 (fun y2 M1 => ((y2 = 0 → am_ix x1 4 (fun k3 => Q (nI (M1.2 22 0 k3)) M1)) ∧ (¬ y2 = 0 → Q (-2) M1))) := h
theorem w_X5_forced_i {M : am_M} {x1 : Int32} {Q : Int32 → am_M → Prop} (h : w_X5_noNode M x1 (fun y2 M1 => ((y2 = 0 → am_ix x1 4 (fun k3 => Q (nI (M1.2 22 0 k3)) M1)) ∧ (¬ y2 = 0 → Q (-2) M1)))) : w_X5_forced M x1 Q := h
end
