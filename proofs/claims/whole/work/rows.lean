section
/-- a private method of a class that the tables say can be made, by its rows of tables_1 -/
def lw_okq (q : MethodName × Nat) : Prop := (q.1.cls ≠ "java/lang/invoke/MethodHandle" ∧ q.1.cls ≠ "java/lang/invoke/VarHandle") ∧ Cond.instantiable q.1.cls q.2 ∈ tables_1 ∧ Cond.privateMethod q.1 ∈ tables_1 ∧ Cond.instanceMethod q.1 ∈ tables_1
theorem lw_p0 : lw_okq (⟨"AbsentMeansAbort", "isTransaction", "(I)Z"⟩, 4) := ⟨⟨by decide +kernel, by decide +kernel⟩, List.mem_of_getElem? (i := 9) (by decide +kernel), List.mem_of_getElem? (i := 141) (by decide +kernel), List.mem_of_getElem? (i := 142) (by decide +kernel)⟩
theorem lw_p1 : lw_okq (⟨"AbsentMeansAbort", "giveUp", "(II)I"⟩, 4) := ⟨⟨by decide +kernel, by decide +kernel⟩, List.mem_of_getElem? (i := 9) (by decide +kernel), List.mem_of_getElem? (i := 191) (by decide +kernel), List.mem_of_getElem? (i := 192) (by decide +kernel)⟩
theorem lw_p2 : lw_okq (⟨"AbsentMeansAbort", "hear", "(IIII)V"⟩, 4) := ⟨⟨by decide +kernel, by decide +kernel⟩, List.mem_of_getElem? (i := 9) (by decide +kernel), List.mem_of_getElem? (i := 214) (by decide +kernel), List.mem_of_getElem? (i := 215) (by decide +kernel)⟩
theorem lw_p3 : lw_okq (⟨"AbsentMeansAbort$Node", "voteWhenWorking", "(I)I"⟩, 4) := ⟨⟨by decide +kernel, by decide +kernel⟩, List.mem_of_getElem? (i := 18) (by decide +kernel), List.mem_of_getElem? (i := 222) (by decide +kernel), List.mem_of_getElem? (i := 223) (by decide +kernel)⟩
theorem lw_p4 : lw_okq (⟨"AbsentMeansAbort", "hearVote", "(III)V"⟩, 4) := ⟨⟨by decide +kernel, by decide +kernel⟩, List.mem_of_getElem? (i := 9) (by decide +kernel), List.mem_of_getElem? (i := 241) (by decide +kernel), List.mem_of_getElem? (i := 242) (by decide +kernel)⟩
theorem lw_p5 : lw_okq (⟨"AbsentMeansAbort", "decide", "(I)V"⟩, 4) := ⟨⟨by decide +kernel, by decide +kernel⟩, List.mem_of_getElem? (i := 9) (by decide +kernel), List.mem_of_getElem? (i := 249) (by decide +kernel), List.mem_of_getElem? (i := 250) (by decide +kernel)⟩
theorem lw_p6 : lw_okq (⟨"AbsentMeansAbort", "hearAck", "(II)V"⟩, 4) := ⟨⟨by decide +kernel, by decide +kernel⟩, List.mem_of_getElem? (i := 9) (by decide +kernel), List.mem_of_getElem? (i := 259) (by decide +kernel), List.mem_of_getElem? (i := 260) (by decide +kernel)⟩
theorem lw_p7 : lw_okq (⟨"AbsentMeansAbort", "hearInquiry", "(III)V"⟩, 4) := ⟨⟨by decide +kernel, by decide +kernel⟩, List.mem_of_getElem? (i := 9) (by decide +kernel), List.mem_of_getElem? (i := 263) (by decide +kernel), List.mem_of_getElem? (i := 264) (by decide +kernel)⟩
theorem lw_p8 : lw_okq (⟨"AbsentMeansAbort", "expireAsMember", "(II)I"⟩, 4) := ⟨⟨by decide +kernel, by decide +kernel⟩, List.mem_of_getElem? (i := 9) (by decide +kernel), List.mem_of_getElem? (i := 275) (by decide +kernel), List.mem_of_getElem? (i := 276) (by decide +kernel)⟩
theorem lw_p9 : lw_okq (⟨"AbsentMeansAbort", "expireAsCoordinator", "(I)I"⟩, 4) := ⟨⟨by decide +kernel, by decide +kernel⟩, List.mem_of_getElem? (i := 9) (by decide +kernel), List.mem_of_getElem? (i := 279) (by decide +kernel), List.mem_of_getElem? (i := 280) (by decide +kernel)⟩
theorem lw_p10 : lw_okq (⟨"AbsentMeansAbort", "restoreCommitting", "(II)Z"⟩, 4) := ⟨⟨by decide +kernel, by decide +kernel⟩, List.mem_of_getElem? (i := 9) (by decide +kernel), List.mem_of_getElem? (i := 304) (by decide +kernel), List.mem_of_getElem? (i := 305) (by decide +kernel)⟩
theorem lw_p11 : lw_okq (⟨"AbsentMeansAbortModel", "noWork", "(I)Z"⟩, 21) := ⟨⟨by decide +kernel, by decide +kernel⟩, List.mem_of_getElem? (i := 358) (by decide +kernel), List.mem_of_getElem? (i := 440) (by decide +kernel), List.mem_of_getElem? (i := 441) (by decide +kernel)⟩
theorem lw_p12 : lw_okq (⟨"AbsentMeansAbortModel", "send", "(IIII)V"⟩, 21) := ⟨⟨by decide +kernel, by decide +kernel⟩, List.mem_of_getElem? (i := 358) (by decide +kernel), List.mem_of_getElem? (i := 448) (by decide +kernel), List.mem_of_getElem? (i := 449) (by decide +kernel)⟩
theorem lw_p13 : lw_okq (⟨"AbsentMeansAbortModel", "forget", "(I)V"⟩, 21) := ⟨⟨by decide +kernel, by decide +kernel⟩, List.mem_of_getElem? (i := 358) (by decide +kernel), List.mem_of_getElem? (i := 452) (by decide +kernel), List.mem_of_getElem? (i := 453) (by decide +kernel)⟩
theorem lw_p14 : lw_okq (⟨"AbsentMeansAbortModel", "pullBack", "(II)I"⟩, 21) := ⟨⟨by decide +kernel, by decide +kernel⟩, List.mem_of_getElem? (i := 358) (by decide +kernel), List.mem_of_getElem? (i := 460) (by decide +kernel), List.mem_of_getElem? (i := 461) (by decide +kernel)⟩
theorem lw_p15 : lw_okq (⟨"AbsentMeansAbortModel", "write", "(IIII)V"⟩, 21) := ⟨⟨by decide +kernel, by decide +kernel⟩, List.mem_of_getElem? (i := 358) (by decide +kernel), List.mem_of_getElem? (i := 464) (by decide +kernel), List.mem_of_getElem? (i := 465) (by decide +kernel)⟩
def lw_privs_1 : List (MethodName × Nat) := [(⟨"AbsentMeansAbort", "isTransaction", "(I)Z"⟩, 4), (⟨"AbsentMeansAbort", "giveUp", "(II)I"⟩, 4), (⟨"AbsentMeansAbort", "hear", "(IIII)V"⟩, 4), (⟨"AbsentMeansAbort$Node", "voteWhenWorking", "(I)I"⟩, 4), (⟨"AbsentMeansAbort", "hearVote", "(III)V"⟩, 4), (⟨"AbsentMeansAbort", "decide", "(I)V"⟩, 4), (⟨"AbsentMeansAbort", "hearAck", "(II)V"⟩, 4), (⟨"AbsentMeansAbort", "hearInquiry", "(III)V"⟩, 4), (⟨"AbsentMeansAbort", "expireAsMember", "(II)I"⟩, 4), (⟨"AbsentMeansAbort", "expireAsCoordinator", "(I)I"⟩, 4), (⟨"AbsentMeansAbort", "restoreCommitting", "(II)Z"⟩, 4), (⟨"AbsentMeansAbortModel", "noWork", "(I)Z"⟩, 21), (⟨"AbsentMeansAbortModel", "send", "(IIII)V"⟩, 21), (⟨"AbsentMeansAbortModel", "forget", "(I)V"⟩, 21), (⟨"AbsentMeansAbortModel", "pullBack", "(II)I"⟩, 21), (⟨"AbsentMeansAbortModel", "write", "(IIII)V"⟩, 21)]
theorem lw_r1 : ∀ q ∈ lw_privs_1, lw_okq q := List.forall_mem_cons.mpr ⟨lw_p0, List.forall_mem_cons.mpr ⟨lw_p1, List.forall_mem_cons.mpr ⟨lw_p2, List.forall_mem_cons.mpr ⟨lw_p3, List.forall_mem_cons.mpr ⟨lw_p4, List.forall_mem_cons.mpr ⟨lw_p5, List.forall_mem_cons.mpr ⟨lw_p6, List.forall_mem_cons.mpr ⟨lw_p7, List.forall_mem_cons.mpr ⟨lw_p8, List.forall_mem_cons.mpr ⟨lw_p9, List.forall_mem_cons.mpr ⟨lw_p10, List.forall_mem_cons.mpr ⟨lw_p11, List.forall_mem_cons.mpr ⟨lw_p12, List.forall_mem_cons.mpr ⟨lw_p13, List.forall_mem_cons.mpr ⟨lw_p14, List.forall_mem_cons.mpr ⟨lw_p15, fun _ h => absurd h List.not_mem_nil⟩⟩⟩⟩⟩⟩⟩⟩⟩⟩⟩⟩⟩⟩⟩⟩
theorem lw_p16 : lw_okq (⟨"AbsentMeansAbortModel", "take", "(I)V"⟩, 21) := ⟨⟨by decide +kernel, by decide +kernel⟩, List.mem_of_getElem? (i := 358) (by decide +kernel), List.mem_of_getElem? (i := 472) (by decide +kernel), List.mem_of_getElem? (i := 473) (by decide +kernel)⟩
theorem lw_p17 : lw_okq (⟨"AbsentMeansAbortModel", "hear", "(IIII)V"⟩, 21) := ⟨⟨by decide +kernel, by decide +kernel⟩, List.mem_of_getElem? (i := 358) (by decide +kernel), List.mem_of_getElem? (i := 476) (by decide +kernel), List.mem_of_getElem? (i := 477) (by decide +kernel)⟩
theorem lw_p18 : lw_okq (⟨"AbsentMeansAbortModel", "hearPrepare", "(III)V"⟩, 21) := ⟨⟨by decide +kernel, by decide +kernel⟩, List.mem_of_getElem? (i := 358) (by decide +kernel), List.mem_of_getElem? (i := 480) (by decide +kernel), List.mem_of_getElem? (i := 481) (by decide +kernel)⟩
theorem lw_p19 : lw_okq (⟨"AbsentMeansAbortModel", "giveUp", "(II)V"⟩, 21) := ⟨⟨by decide +kernel, by decide +kernel⟩, List.mem_of_getElem? (i := 358) (by decide +kernel), List.mem_of_getElem? (i := 484) (by decide +kernel), List.mem_of_getElem? (i := 485) (by decide +kernel)⟩
theorem lw_p20 : lw_okq (⟨"AbsentMeansAbortModel", "letGo", "(II)V"⟩, 21) := ⟨⟨by decide +kernel, by decide +kernel⟩, List.mem_of_getElem? (i := 358) (by decide +kernel), List.mem_of_getElem? (i := 488) (by decide +kernel), List.mem_of_getElem? (i := 489) (by decide +kernel)⟩
theorem lw_p21 : lw_okq (⟨"AbsentMeansAbortModel", "holding", "(II)I"⟩, 21) := ⟨⟨by decide +kernel, by decide +kernel⟩, List.mem_of_getElem? (i := 358) (by decide +kernel), List.mem_of_getElem? (i := 492) (by decide +kernel), List.mem_of_getElem? (i := 493) (by decide +kernel)⟩
theorem lw_p22 : lw_okq (⟨"AbsentMeansAbortModel", "force", "(IIII)V"⟩, 21) := ⟨⟨by decide +kernel, by decide +kernel⟩, List.mem_of_getElem? (i := 358) (by decide +kernel), List.mem_of_getElem? (i := 496) (by decide +kernel), List.mem_of_getElem? (i := 497) (by decide +kernel)⟩
theorem lw_p23 : lw_okq (⟨"AbsentMeansAbortModel", "hearVote", "(III)V"⟩, 21) := ⟨⟨by decide +kernel, by decide +kernel⟩, List.mem_of_getElem? (i := 358) (by decide +kernel), List.mem_of_getElem? (i := 500) (by decide +kernel), List.mem_of_getElem? (i := 501) (by decide +kernel)⟩
theorem lw_p24 : lw_okq (⟨"AbsentMeansAbortModel", "decide", "(I)V"⟩, 21) := ⟨⟨by decide +kernel, by decide +kernel⟩, List.mem_of_getElem? (i := 358) (by decide +kernel), List.mem_of_getElem? (i := 504) (by decide +kernel), List.mem_of_getElem? (i := 505) (by decide +kernel)⟩
theorem lw_p25 : lw_okq (⟨"AbsentMeansAbortModel", "bits", "(II)I"⟩, 21) := ⟨⟨by decide +kernel, by decide +kernel⟩, List.mem_of_getElem? (i := 358) (by decide +kernel), List.mem_of_getElem? (i := 508) (by decide +kernel), List.mem_of_getElem? (i := 509) (by decide +kernel)⟩
theorem lw_p26 : lw_okq (⟨"AbsentMeansAbortModel", "sendDue", "(I)V"⟩, 21) := ⟨⟨by decide +kernel, by decide +kernel⟩, List.mem_of_getElem? (i := 358) (by decide +kernel), List.mem_of_getElem? (i := 512) (by decide +kernel), List.mem_of_getElem? (i := 513) (by decide +kernel)⟩
theorem lw_p27 : lw_okq (⟨"AbsentMeansAbortModel", "hearAck", "(II)V"⟩, 21) := ⟨⟨by decide +kernel, by decide +kernel⟩, List.mem_of_getElem? (i := 358) (by decide +kernel), List.mem_of_getElem? (i := 516) (by decide +kernel), List.mem_of_getElem? (i := 517) (by decide +kernel)⟩
theorem lw_p28 : lw_okq (⟨"AbsentMeansAbortModel", "recoverMember", "(II)I"⟩, 21) := ⟨⟨by decide +kernel, by decide +kernel⟩, List.mem_of_getElem? (i := 358) (by decide +kernel), List.mem_of_getElem? (i := 536) (by decide +kernel), List.mem_of_getElem? (i := 537) (by decide +kernel)⟩
theorem lw_p29 : lw_okq (⟨"AbsentMeansAbortModel", "logged", "(III)I"⟩, 21) := ⟨⟨by decide +kernel, by decide +kernel⟩, List.mem_of_getElem? (i := 358) (by decide +kernel), List.mem_of_getElem? (i := 540) (by decide +kernel), List.mem_of_getElem? (i := 541) (by decide +kernel)⟩
theorem lw_p30 : lw_okq (⟨"AbsentMeansAbortModel", "recoverChief", "(II)I"⟩, 21) := ⟨⟨by decide +kernel, by decide +kernel⟩, List.mem_of_getElem? (i := 358) (by decide +kernel), List.mem_of_getElem? (i := 544) (by decide +kernel), List.mem_of_getElem? (i := 545) (by decide +kernel)⟩
theorem lw_p31 : lw_okq (⟨"AbsentMeansAbortModel", "isRecord", "(II)Z"⟩, 21) := ⟨⟨by decide +kernel, by decide +kernel⟩, List.mem_of_getElem? (i := 358) (by decide +kernel), List.mem_of_getElem? (i := 576) (by decide +kernel), List.mem_of_getElem? (i := 577) (by decide +kernel)⟩
def lw_privs_2 : List (MethodName × Nat) := [(⟨"AbsentMeansAbortModel", "take", "(I)V"⟩, 21), (⟨"AbsentMeansAbortModel", "hear", "(IIII)V"⟩, 21), (⟨"AbsentMeansAbortModel", "hearPrepare", "(III)V"⟩, 21), (⟨"AbsentMeansAbortModel", "giveUp", "(II)V"⟩, 21), (⟨"AbsentMeansAbortModel", "letGo", "(II)V"⟩, 21), (⟨"AbsentMeansAbortModel", "holding", "(II)I"⟩, 21), (⟨"AbsentMeansAbortModel", "force", "(IIII)V"⟩, 21), (⟨"AbsentMeansAbortModel", "hearVote", "(III)V"⟩, 21), (⟨"AbsentMeansAbortModel", "decide", "(I)V"⟩, 21), (⟨"AbsentMeansAbortModel", "bits", "(II)I"⟩, 21), (⟨"AbsentMeansAbortModel", "sendDue", "(I)V"⟩, 21), (⟨"AbsentMeansAbortModel", "hearAck", "(II)V"⟩, 21), (⟨"AbsentMeansAbortModel", "recoverMember", "(II)I"⟩, 21), (⟨"AbsentMeansAbortModel", "logged", "(III)I"⟩, 21), (⟨"AbsentMeansAbortModel", "recoverChief", "(II)I"⟩, 21), (⟨"AbsentMeansAbortModel", "isRecord", "(II)Z"⟩, 21)]
theorem lw_r2 : ∀ q ∈ lw_privs_2, lw_okq q := List.forall_mem_cons.mpr ⟨lw_p16, List.forall_mem_cons.mpr ⟨lw_p17, List.forall_mem_cons.mpr ⟨lw_p18, List.forall_mem_cons.mpr ⟨lw_p19, List.forall_mem_cons.mpr ⟨lw_p20, List.forall_mem_cons.mpr ⟨lw_p21, List.forall_mem_cons.mpr ⟨lw_p22, List.forall_mem_cons.mpr ⟨lw_p23, List.forall_mem_cons.mpr ⟨lw_p24, List.forall_mem_cons.mpr ⟨lw_p25, List.forall_mem_cons.mpr ⟨lw_p26, List.forall_mem_cons.mpr ⟨lw_p27, List.forall_mem_cons.mpr ⟨lw_p28, List.forall_mem_cons.mpr ⟨lw_p29, List.forall_mem_cons.mpr ⟨lw_p30, List.forall_mem_cons.mpr ⟨lw_p31, fun _ h => absurd h List.not_mem_nil⟩⟩⟩⟩⟩⟩⟩⟩⟩⟩⟩⟩⟩⟩⟩⟩
def lw_privs : List (MethodName × Nat) := lw_privs_1 ++ (lw_privs_2)
def lw_tbl : List Cond := k2_sels lw_privs ++ tables_1
theorem lw_privs_ok : ∀ q ∈ lw_privs, lw_okq q := by
  show ∀ q ∈ lw_privs_1 ++ (lw_privs_2), lw_okq q
  exact List.forall_mem_append.mpr ⟨lw_r1, lw_r2⟩
end
section
/-! names, words, their places -/
def RX0 : String := "AbsentMeansAbort"
def TX0 : u_T := fun k => match k with
  | 0 => ("AbsentMeansAbort", "allNodes", "[LAbsentMeansAbort$Node;", true)
  | 1 => ("AbsentMeansAbort", "transactions", "[LAbsentMeansAbort$Transaction;", true)
  | 2 => ("AbsentMeansAbort", "row", "LAbsentMeansAbort$MessageRow;", true)
  | _ => ("AbsentMeansAbort", "begun", "I", false)
def tyX0 : Nat → FieldType := fun k => match k with
  | 0 => .array (.object "AbsentMeansAbort$Node")
  | 1 => .array (.object "AbsentMeansAbort$Transaction")
  | 2 => .object "AbsentMeansAbort$MessageRow"
  | _ => .int
theorem nmX0 : ∀ a, a < 4 → ∀ b, b < 4 → a ≠ b → (TX0 a).2.1 ≠ (TX0 b).2.1 := by decide +kernel
theorem tyX0_ok : ∀ k, k < 4 → parseFieldDescriptor (TX0 k).2.2.1 = some (tyX0 k) := by decide +kernel
def RX1 : String := "AbsentMeansAbort$Log"
def TX1 : u_T := fun k => match k with
  | 0 => ("AbsentMeansAbort$Log", "labels", "[I", true)
  | 1 => ("AbsentMeansAbort$Log", "contents", "[I", true)
  | 2 => ("AbsentMeansAbort$Log", "count", "I", false)
  | 3 => ("AbsentMeansAbort$Log", "safeCount", "I", false)
  | _ => ("AbsentMeansAbort$Log", "forcedCount", "I", false)
def tyX1 : Nat → FieldType := fun k => match k with
  | 0 => .array .int
  | 1 => .array .int
  | 2 => .int
  | 3 => .int
  | _ => .int
theorem nmX1 : ∀ a, a < 5 → ∀ b, b < 5 → a ≠ b → (TX1 a).2.1 ≠ (TX1 b).2.1 := by decide +kernel
theorem tyX1_ok : ∀ k, k < 5 → parseFieldDescriptor (TX1 k).2.2.1 = some (tyX1 k) := by decide +kernel
def RX2 : String := "AbsentMeansAbort$MessageRow"
def TX2 : u_T := fun k => match k with
  | 0 => ("AbsentMeansAbort$MessageRow", "parts", "[[I", true)
  | _ => ("AbsentMeansAbort$MessageRow", "count", "I", false)
def tyX2 : Nat → FieldType := fun k => match k with
  | 0 => .array (.array .int)
  | _ => .int
theorem nmX2 : ∀ a, a < 2 → ∀ b, b < 2 → a ≠ b → (TX2 a).2.1 ≠ (TX2 b).2.1 := by decide +kernel
theorem tyX2_ok : ∀ k, k < 2 → parseFieldDescriptor (TX2 k).2.2.1 = some (tyX2 k) := by decide +kernel
def RX3 : String := "AbsentMeansAbort$Node"
def TX3 : u_T := fun k => match k with
  | 0 => ("AbsentMeansAbort$Node", "running", "Z", false)
  | 1 => ("AbsentMeansAbort$Node", "states", "[I", true)
  | 2 => ("AbsentMeansAbort$Node", "held", "[I", true)
  | _ => ("AbsentMeansAbort$Node", "log", "LAbsentMeansAbort$Log;", true)
def tyX3 : Nat → FieldType := fun k => match k with
  | 0 => .boolean
  | 1 => .array .int
  | 2 => .array .int
  | _ => .object "AbsentMeansAbort$Log"
theorem nmX3 : ∀ a, a < 4 → ∀ b, b < 4 → a ≠ b → (TX3 a).2.1 ≠ (TX3 b).2.1 := by decide +kernel
theorem tyX3_ok : ∀ k, k < 4 → parseFieldDescriptor (TX3 k).2.2.1 = some (tyX3 k) := by decide +kernel
def RX4 : String := "AbsentMeansAbort$Transaction"
def TX4 : u_T := fun k => match k with
  | 0 => ("AbsentMeansAbort$Transaction", "coordinator", "I", false)
  | 1 => ("AbsentMeansAbort$Transaction", "phase", "I", false)
  | 2 => ("AbsentMeansAbort$Transaction", "members", "I", false)
  | 3 => ("AbsentMeansAbort$Transaction", "saidYes", "I", false)
  | 4 => ("AbsentMeansAbort$Transaction", "saidRead", "I", false)
  | _ => ("AbsentMeansAbort$Transaction", "due", "I", false)
def tyX4 : Nat → FieldType := fun k => match k with
  | 0 => .int
  | 1 => .int
  | 2 => .int
  | 3 => .int
  | 4 => .int
  | _ => .int
theorem nmX4 : ∀ a, a < 6 → ∀ b, b < 6 → a ≠ b → (TX4 a).2.1 ≠ (TX4 b).2.1 := by decide +kernel
theorem tyX4_ok : ∀ k, k < 6 → parseFieldDescriptor (TX4 k).2.2.1 = some (tyX4 k) := by decide +kernel
def RX5 : String := "AbsentMeansAbortModel"
def TX5 : u_T := fun k => match k with
  | 0 => ("AbsentMeansAbortModel", "down", "[Z", true)
  | 1 => ("AbsentMeansAbortModel", "forces", "[I", true)
  | 2 => ("AbsentMeansAbortModel", "count", "I", false)
  | 3 => ("AbsentMeansAbortModel", "chief", "[I", true)
  | 4 => ("AbsentMeansAbortModel", "stages", "[I", true)
  | 5 => ("AbsentMeansAbortModel", "member", "[Z", true)
  | 6 => ("AbsentMeansAbortModel", "yes", "[Z", true)
  | 7 => ("AbsentMeansAbortModel", "read", "[Z", true)
  | 8 => ("AbsentMeansAbortModel", "due", "[Z", true)
  | 9 => ("AbsentMeansAbortModel", "states", "[I", true)
  | 10 => ("AbsentMeansAbortModel", "held", "[I", true)
  | 11 => ("AbsentMeansAbortModel", "length", "[I", true)
  | 12 => ("AbsentMeansAbortModel", "logOf", "[I", true)
  | 13 => ("AbsentMeansAbortModel", "logKind", "[I", true)
  | 14 => ("AbsentMeansAbortModel", "logWhat", "[I", true)
  | 15 => ("AbsentMeansAbortModel", "logSafe", "[Z", true)
  | 16 => ("AbsentMeansAbortModel", "waiting", "I", false)
  | 17 => ("AbsentMeansAbortModel", "kinds", "[I", true)
  | 18 => ("AbsentMeansAbortModel", "from", "[I", true)
  | 19 => ("AbsentMeansAbortModel", "to", "[I", true)
  | _ => ("AbsentMeansAbortModel", "about", "[I", true)
def tyX5 : Nat → FieldType := fun k => match k with
  | 0 => .array .boolean
  | 1 => .array .int
  | 2 => .int
  | 3 => .array .int
  | 4 => .array .int
  | 5 => .array .boolean
  | 6 => .array .boolean
  | 7 => .array .boolean
  | 8 => .array .boolean
  | 9 => .array .int
  | 10 => .array .int
  | 11 => .array .int
  | 12 => .array .int
  | 13 => .array .int
  | 14 => .array .int
  | 15 => .array .boolean
  | 16 => .int
  | 17 => .array .int
  | 18 => .array .int
  | 19 => .array .int
  | _ => .array .int
theorem nmX5 : ∀ a, a < 21 → ∀ b, b < 21 → a ≠ b → (TX5 a).2.1 ≠ (TX5 b).2.1 := by decide +kernel
theorem tyX5_ok : ∀ k, k < 21 → parseFieldDescriptor (TX5 k).2.2.1 = some (tyX5 k) := by decide +kernel
def RJ6 : String := "java/lang/Integer"
def RL : String := "AbsentMeansAbortLaw"
abbrev vwCl : List vw_C := [(RX0, TX0, 4), (RX1, TX1, 5), (RX2, TX2, 2), (RX3, TX3, 4), (RX4, TX4, 6), (RX5, TX5, 21)]
abbrev cX0_init : ByteArray := prog_1_method_1_code
def yX0_init : MethodName := ⟨RX0, "<init>", "()V"⟩
abbrev cX3_init : ByteArray := prog_4_method_1_code
def yX3_init : MethodName := ⟨RX3, "<init>", "()V"⟩
abbrev cX1_init : ByteArray := prog_2_method_1_code
def yX1_init : MethodName := ⟨RX1, "<init>", "()V"⟩
abbrev cX4_init : ByteArray := prog_5_method_1_code
def yX4_init : MethodName := ⟨RX4, "<init>", "()V"⟩
abbrev cX2_init : ByteArray := prog_3_method_1_code
def yX2_init : MethodName := ⟨RX2, "<init>", "()V"⟩
abbrev cX0_begin : ByteArray := prog_1_method_2_code
def yX0_begin : MethodName := ⟨RX0, "begin", "(I)I"⟩
abbrev cX0_isNode : ByteArray := prog_1_method_32_code
def yX0_isNode : MethodName := ⟨RX0, "isNode", "(I)Z"⟩
abbrev cX0_work : ByteArray := prog_1_method_3_code
def yX0_work : MethodName := ⟨RX0, "work", "(III)I"⟩
abbrev cX0_isTransaction : ByteArray := prog_1_method_31_code
def yX0_isTransaction : MethodName := ⟨RX0, "isTransaction", "(I)Z"⟩
abbrev cX0_isResource : ByteArray := prog_1_method_33_code
def yX0_isResource : MethodName := ⟨RX0, "isResource", "(I)Z"⟩
abbrev cX0_isIn : ByteArray := prog_1_method_35_code
def yX0_isIn : MethodName := ⟨RX0, "isIn", "(II)Z"⟩
abbrev cX0_only : ByteArray := prog_1_method_34_code
def yX0_only : MethodName := ⟨RX0, "only", "(I)I"⟩
abbrev cX3_grant : ByteArray := prog_4_method_3_code
def yX3_grant : MethodName := ⟨RX3, "grant", "(II)Z"⟩
abbrev cX3_findOwner : ByteArray := prog_4_method_2_code
def yX3_findOwner : MethodName := ⟨RX3, "findOwner", "(I)I"⟩
abbrev cX0_commit : ByteArray := prog_1_method_4_code
def yX0_commit : MethodName := ⟨RX0, "commit", "(I)I"⟩
abbrev cX4_forget : ByteArray := prog_5_method_3_code
def yX4_forget : MethodName := ⟨RX4, "forget", "()V"⟩
abbrev cX2_sendToEach : ByteArray := prog_3_method_4_code
def yX2_sendToEach : MethodName := ⟨RX2, "sendToEach", "(IIII)V"⟩
abbrev cX2_send : ByteArray := prog_3_method_3_code
def yX2_send : MethodName := ⟨RX2, "send", "(IIII)V"⟩
abbrev cJ6_bitCount : ByteArray := prog_8_method_49_code
def yJ6_bitCount : MethodName := ⟨RJ6, "bitCount", "(I)I"⟩
abbrev cX0_withdraw : ByteArray := prog_1_method_5_code
def yX0_withdraw : MethodName := ⟨RX0, "withdraw", "(I)I"⟩
abbrev cX0_giveUp : ByteArray := prog_1_method_27_code
def yX0_giveUp : MethodName := ⟨RX0, "giveUp", "(II)I"⟩
abbrev cX1_write : ByteArray := prog_2_method_3_code
def yX1_write : MethodName := ⟨RX1, "write", "(III)V"⟩
abbrev cX1_labelOf : ByteArray := prog_2_method_7_code
def yX1_labelOf : MethodName := ⟨RX1, "labelOf", "(II)I"⟩
abbrev cX0_deliver : ByteArray := prog_1_method_6_code
def yX0_deliver : MethodName := ⟨RX0, "deliver", "(I)I"⟩
abbrev cX2_has : ByteArray := prog_3_method_2_code
def yX2_has : MethodName := ⟨RX2, "has", "(I)Z"⟩
abbrev cX2_takeOut : ByteArray := prog_3_method_5_code
def yX2_takeOut : MethodName := ⟨RX2, "takeOut", "(I)V"⟩
abbrev cX0_hear : ByteArray := prog_1_method_22_code
def yX0_hear : MethodName := ⟨RX0, "hear", "(IIII)V"⟩
abbrev cX3_voteOn : ByteArray := prog_4_method_5_code
def yX3_voteOn : MethodName := ⟨RX3, "voteOn", "(I)I"⟩
abbrev cX3_voteWhenWorking : ByteArray := prog_4_method_6_code
def yX3_voteWhenWorking : MethodName := ⟨RX3, "voteWhenWorking", "(I)I"⟩
abbrev cX3_letGo : ByteArray := prog_4_method_4_code
def yX3_letGo : MethodName := ⟨RX3, "letGo", "(I)V"⟩
abbrev cX1_force : ByteArray := prog_2_method_4_code
def yX1_force : MethodName := ⟨RX1, "force", "(III)V"⟩
abbrev cX3_abort : ByteArray := prog_4_method_8_code
def yX3_abort : MethodName := ⟨RX3, "abort", "(I)V"⟩
abbrev cX0_hearVote : ByteArray := prog_1_method_23_code
def yX0_hearVote : MethodName := ⟨RX0, "hearVote", "(III)V"⟩
abbrev cX4_hasAllVotes : ByteArray := prog_5_method_2_code
def yX4_hasAllVotes : MethodName := ⟨RX4, "hasAllVotes", "()Z"⟩
abbrev cX0_decide : ByteArray := prog_1_method_24_code
def yX0_decide : MethodName := ⟨RX0, "decide", "(I)V"⟩
abbrev cX3_finishCommit : ByteArray := prog_4_method_7_code
def yX3_finishCommit : MethodName := ⟨RX3, "finishCommit", "(I)V"⟩
abbrev cX0_hearAck : ByteArray := prog_1_method_25_code
def yX0_hearAck : MethodName := ⟨RX0, "hearAck", "(II)V"⟩
abbrev cX0_hearInquiry : ByteArray := prog_1_method_26_code
def yX0_hearInquiry : MethodName := ⟨RX0, "hearInquiry", "(III)V"⟩
abbrev cX0_lose : ByteArray := prog_1_method_7_code
def yX0_lose : MethodName := ⟨RX0, "lose", "(I)I"⟩
abbrev cX0_expire : ByteArray := prog_1_method_8_code
def yX0_expire : MethodName := ⟨RX0, "expire", "(IIZ)I"⟩
abbrev cX0_expireAsMember : ByteArray := prog_1_method_28_code
def yX0_expireAsMember : MethodName := ⟨RX0, "expireAsMember", "(II)I"⟩
abbrev cX0_expireAsCoordinator : ByteArray := prog_1_method_29_code
def yX0_expireAsCoordinator : MethodName := ⟨RX0, "expireAsCoordinator", "(I)I"⟩
abbrev cX0_crash : ByteArray := prog_1_method_9_code
def yX0_crash : MethodName := ⟨RX0, "crash", "(I)I"⟩
abbrev cX1_dropUnsafe : ByteArray := prog_2_method_5_code
def yX1_dropUnsafe : MethodName := ⟨RX1, "dropUnsafe", "()I"⟩
abbrev cX0_recover : ByteArray := prog_1_method_10_code
def yX0_recover : MethodName := ⟨RX0, "recover", "(I)I"⟩
abbrev cX3_restorePrepared : ByteArray := prog_4_method_9_code
def yX3_restorePrepared : MethodName := ⟨RX3, "restorePrepared", "(I)Z"⟩
abbrev cX1_find : ByteArray := prog_2_method_6_code
def yX1_find : MethodName := ⟨RX1, "find", "(II)I"⟩
abbrev cX0_restoreCommitting : ByteArray := prog_1_method_30_code
def yX0_restoreCommitting : MethodName := ⟨RX0, "restoreCommitting", "(II)Z"⟩
abbrev cX0_up : ByteArray := prog_1_method_11_code
def yX0_up : MethodName := ⟨RX0, "up", "(I)Z"⟩
abbrev cX0_stage : ByteArray := prog_1_method_12_code
def yX0_stage : MethodName := ⟨RX0, "stage", "(I)I"⟩
abbrev cX0_nodes : ByteArray := prog_1_method_13_code
def yX0_nodes : MethodName := ⟨RX0, "nodes", "(II)I"⟩
abbrev cX0_state : ByteArray := prog_1_method_14_code
def yX0_state : MethodName := ⟨RX0, "state", "(II)I"⟩
abbrev cX0_holder : ByteArray := prog_1_method_15_code
def yX0_holder : MethodName := ⟨RX0, "holder", "(II)I"⟩
abbrev cX0_records : ByteArray := prog_1_method_16_code
def yX0_records : MethodName := ⟨RX0, "records", "(IZ)I"⟩
abbrev cX0_entry : ByteArray := prog_1_method_17_code
def yX0_entry : MethodName := ⟨RX0, "entry", "(II)I"⟩
abbrev cX1_has : ByteArray := prog_2_method_2_code
def yX1_has : MethodName := ⟨RX1, "has", "(I)Z"⟩
abbrev cX0_content : ByteArray := prog_1_method_18_code
def yX0_content : MethodName := ⟨RX0, "content", "(II)I"⟩
abbrev cX0_messages : ByteArray := prog_1_method_19_code
def yX0_messages : MethodName := ⟨RX0, "messages", "()I"⟩
abbrev cX0_message : ByteArray := prog_1_method_20_code
def yX0_message : MethodName := ⟨RX0, "message", "(II)I"⟩
abbrev cX0_forced : ByteArray := prog_1_method_21_code
def yX0_forced : MethodName := ⟨RX0, "forced", "(I)I"⟩
abbrev cX5_init : ByteArray := prog_7_method_1_code
def yX5_init : MethodName := ⟨RX5, "<init>", "()V"⟩
abbrev cX5_begin : ByteArray := prog_7_method_21_code
def yX5_begin : MethodName := ⟨RX5, "begin", "(I)I"⟩
abbrev cX5_noNode : ByteArray := prog_7_method_2_code
def yX5_noNode : MethodName := ⟨RX5, "noNode", "(I)Z"⟩
abbrev cX5_work : ByteArray := prog_7_method_22_code
def yX5_work : MethodName := ⟨RX5, "work", "(III)I"⟩
abbrev cX5_noWork : ByteArray := prog_7_method_3_code
def yX5_noWork : MethodName := ⟨RX5, "noWork", "(I)Z"⟩
abbrev cX5_commit : ByteArray := prog_7_method_23_code
def yX5_commit : MethodName := ⟨RX5, "commit", "(I)I"⟩
abbrev cX5_send : ByteArray := prog_7_method_4_code
def yX5_send : MethodName := ⟨RX5, "send", "(IIII)V"⟩
abbrev cX5_forget : ByteArray := prog_7_method_12_code
def yX5_forget : MethodName := ⟨RX5, "forget", "(I)V"⟩
abbrev cX5_withdraw : ByteArray := prog_7_method_24_code
def yX5_withdraw : MethodName := ⟨RX5, "withdraw", "(I)I"⟩
abbrev cX5_pullBack : ByteArray := prog_7_method_13_code
def yX5_pullBack : MethodName := ⟨RX5, "pullBack", "(II)I"⟩
abbrev cX5_write : ByteArray := prog_7_method_6_code
def yX5_write : MethodName := ⟨RX5, "write", "(IIII)V"⟩
abbrev cX5_deliver : ByteArray := prog_7_method_25_code
def yX5_deliver : MethodName := ⟨RX5, "deliver", "(I)I"⟩
abbrev cX5_take : ByteArray := prog_7_method_5_code
def yX5_take : MethodName := ⟨RX5, "take", "(I)V"⟩
abbrev cX5_hear : ByteArray := prog_7_method_20_code
def yX5_hear : MethodName := ⟨RX5, "hear", "(IIII)V"⟩
abbrev cX5_hearPrepare : ByteArray := prog_7_method_17_code
def yX5_hearPrepare : MethodName := ⟨RX5, "hearPrepare", "(III)V"⟩
abbrev cX5_giveUp : ByteArray := prog_7_method_11_code
def yX5_giveUp : MethodName := ⟨RX5, "giveUp", "(II)V"⟩
abbrev cX5_letGo : ByteArray := prog_7_method_10_code
def yX5_letGo : MethodName := ⟨RX5, "letGo", "(II)V"⟩
abbrev cX5_holding : ByteArray := prog_7_method_9_code
def yX5_holding : MethodName := ⟨RX5, "holding", "(II)I"⟩
abbrev cX5_force : ByteArray := prog_7_method_7_code
def yX5_force : MethodName := ⟨RX5, "force", "(IIII)V"⟩
abbrev cX5_hearVote : ByteArray := prog_7_method_18_code
def yX5_hearVote : MethodName := ⟨RX5, "hearVote", "(III)V"⟩
abbrev cX5_decide : ByteArray := prog_7_method_16_code
def yX5_decide : MethodName := ⟨RX5, "decide", "(I)V"⟩
abbrev cX5_bits : ByteArray := prog_7_method_15_code
def yX5_bits : MethodName := ⟨RX5, "bits", "(II)I"⟩
abbrev cX5_sendDue : ByteArray := prog_7_method_14_code
def yX5_sendDue : MethodName := ⟨RX5, "sendDue", "(I)V"⟩
abbrev cX5_hearAck : ByteArray := prog_7_method_19_code
def yX5_hearAck : MethodName := ⟨RX5, "hearAck", "(II)V"⟩
abbrev cX5_lose : ByteArray := prog_7_method_26_code
def yX5_lose : MethodName := ⟨RX5, "lose", "(I)I"⟩
abbrev cX5_expire : ByteArray := prog_7_method_27_code
def yX5_expire : MethodName := ⟨RX5, "expire", "(IIZ)I"⟩
abbrev cX5_crash : ByteArray := prog_7_method_28_code
def yX5_crash : MethodName := ⟨RX5, "crash", "(I)I"⟩
abbrev cX5_recover : ByteArray := prog_7_method_31_code
def yX5_recover : MethodName := ⟨RX5, "recover", "(I)I"⟩
abbrev cX5_recoverMember : ByteArray := prog_7_method_29_code
def yX5_recoverMember : MethodName := ⟨RX5, "recoverMember", "(II)I"⟩
abbrev cX5_logged : ByteArray := prog_7_method_8_code
def yX5_logged : MethodName := ⟨RX5, "logged", "(III)I"⟩
abbrev cX5_recoverChief : ByteArray := prog_7_method_30_code
def yX5_recoverChief : MethodName := ⟨RX5, "recoverChief", "(II)I"⟩
abbrev cX5_up : ByteArray := prog_7_method_32_code
def yX5_up : MethodName := ⟨RX5, "up", "(I)Z"⟩
abbrev cX5_stage : ByteArray := prog_7_method_33_code
def yX5_stage : MethodName := ⟨RX5, "stage", "(I)I"⟩
abbrev cX5_nodes : ByteArray := prog_7_method_34_code
def yX5_nodes : MethodName := ⟨RX5, "nodes", "(II)I"⟩
abbrev cX5_state : ByteArray := prog_7_method_35_code
def yX5_state : MethodName := ⟨RX5, "state", "(II)I"⟩
abbrev cX5_holder : ByteArray := prog_7_method_36_code
def yX5_holder : MethodName := ⟨RX5, "holder", "(II)I"⟩
abbrev cX5_records : ByteArray := prog_7_method_37_code
def yX5_records : MethodName := ⟨RX5, "records", "(IZ)I"⟩
abbrev cX5_entry : ByteArray := prog_7_method_39_code
def yX5_entry : MethodName := ⟨RX5, "entry", "(II)I"⟩
abbrev cX5_isRecord : ByteArray := prog_7_method_38_code
def yX5_isRecord : MethodName := ⟨RX5, "isRecord", "(II)Z"⟩
abbrev cX5_content : ByteArray := prog_7_method_40_code
def yX5_content : MethodName := ⟨RX5, "content", "(II)I"⟩
abbrev cX5_messages : ByteArray := prog_7_method_41_code
def yX5_messages : MethodName := ⟨RX5, "messages", "()I"⟩
abbrev cX5_message : ByteArray := prog_7_method_42_code
def yX5_message : MethodName := ⟨RX5, "message", "(II)I"⟩
abbrev cX5_forced : ByteArray := prog_7_method_43_code
def yX5_forced : MethodName := ⟨RX5, "forced", "(I)I"⟩
abbrev cL_law : ByteArray := code
def yL_law : MethodName := ⟨RL, "law", "([I)Z"⟩
def am_all : List Cond := lw_tbl.filter goodWord
theorem am_in {c : Cond} (i : Nat) (h : tables_1[i]? = some c) (hg : goodWord c = true) : c ∈ am_all := List.mem_filter.mpr ⟨List.mem_append_right _ (List.mem_of_getElem? h), hg⟩
theorem am_inS {c : Cond} (i : Nat) (h : (k2_sels lw_privs)[i]? = some c) (hg : goodWord c = true) : c ∈ am_all := List.mem_filter.mpr ⟨List.mem_append_left _ (List.mem_of_getElem? h), hg⟩
theorem am_gd {c c2 : Cond} (h : c2 ∈ am_all) : GoodIn (c :: am_all) (c2 :: am_all) := by
  intro w hw
  have hw : w ∈ am_all := (List.mem_cons.mp hw).elim (fun q => q ▸ h) id
  exact ⟨List.mem_cons_of_mem _ hw, good_of_word (List.mem_filter.mp hw).2⟩
theorem mn_L : Cond.initialized RL ∈ am_all := am_in 0 (by decide +kernel) rfl
theorem mn_X0 : Cond.initialized RX0 ∈ am_all := am_in 1 (by decide +kernel) rfl
theorem mn_X3 : Cond.initialized RX3 ∈ am_all := am_in 2 (by decide +kernel) rfl
theorem mn_X1 : Cond.initialized RX1 ∈ am_all := am_in 3 (by decide +kernel) rfl
theorem mn_X4 : Cond.initialized RX4 ∈ am_all := am_in 4 (by decide +kernel) rfl
theorem mn_X2 : Cond.initialized RX2 ∈ am_all := am_in 5 (by decide +kernel) rfl
theorem mn_X5 : Cond.initialized RX5 ∈ am_all := am_in 6 (by decide +kernel) rfl
theorem mn_J6 : Cond.initialized RJ6 ∈ am_all := am_in 7 (by decide +kernel) rfl
theorem ml_L_9 : Cond.methodLink RL 9 yX0_init ∈ am_all := am_in 10 (by decide +kernel) rfl
theorem mi_X0_init : Cond.instanceMethod yX0_init ∈ am_all := am_in 11 (by decide +kernel) rfl
set_option maxRecDepth 100000 in
theorem mc_X0_init : Cond.code yX0_init cX0_init 2 none ∈ am_all := am_in 12 rfl rfl
theorem mi_X3_init : Cond.instanceMethod yX3_init ∈ am_all := am_in 20 (by decide +kernel) rfl
set_option maxRecDepth 100000 in
theorem mc_X3_init : Cond.code yX3_init cX3_init 1 none ∈ am_all := am_in 21 rfl rfl
theorem mi_X1_init : Cond.instanceMethod yX1_init ∈ am_all := am_in 26 (by decide +kernel) rfl
set_option maxRecDepth 100000 in
theorem mc_X1_init : Cond.code yX1_init cX1_init 1 none ∈ am_all := am_in 27 rfl rfl
theorem mf_X1_9 : Cond.fieldLink RX1 9 RX1 "labels" "[I" ∈ am_all := am_in 29 (by decide +kernel) rfl
theorem mf_X0_146 : Cond.fieldLink RX0 146 RX1 "labels" "[I" ∈ am_all := am_in 30 (by decide +kernel) rfl
theorem mf_X1_15 : Cond.fieldLink RX1 15 RX1 "contents" "[I" ∈ am_all := am_in 31 (by decide +kernel) rfl
theorem mf_X3_61 : Cond.fieldLink RX3 61 RX1 "contents" "[I" ∈ am_all := am_in 32 (by decide +kernel) rfl
theorem mf_X0_149 : Cond.fieldLink RX0 149 RX1 "contents" "[I" ∈ am_all := am_in 33 (by decide +kernel) rfl
theorem mf_X1_18 : Cond.fieldLink RX1 18 RX1 "count" "I" ∈ am_all := am_in 34 (by decide +kernel) rfl
theorem mf_X0_142 : Cond.fieldLink RX0 142 RX1 "count" "I" ∈ am_all := am_in 35 (by decide +kernel) rfl
theorem mf_X1_30 : Cond.fieldLink RX1 30 RX1 "safeCount" "I" ∈ am_all := am_in 36 (by decide +kernel) rfl
theorem mf_X0_139 : Cond.fieldLink RX0 139 RX1 "safeCount" "I" ∈ am_all := am_in 37 (by decide +kernel) rfl
theorem mf_X1_33 : Cond.fieldLink RX1 33 RX1 "forcedCount" "I" ∈ am_all := am_in 38 (by decide +kernel) rfl
theorem mf_X0_153 : Cond.fieldLink RX0 153 RX1 "forcedCount" "I" ∈ am_all := am_in 39 (by decide +kernel) rfl
theorem mf_X3_9 : Cond.fieldLink RX3 9 RX3 "running" "Z" ∈ am_all := am_in 52 (by decide +kernel) rfl
theorem mf_X0_38 : Cond.fieldLink RX0 38 RX3 "running" "Z" ∈ am_all := am_in 53 (by decide +kernel) rfl
theorem mf_X3_15 : Cond.fieldLink RX3 15 RX3 "states" "[I" ∈ am_all := am_in 54 (by decide +kernel) rfl
theorem mf_X0_61 : Cond.fieldLink RX0 61 RX3 "states" "[I" ∈ am_all := am_in 55 (by decide +kernel) rfl
theorem mf_X3_19 : Cond.fieldLink RX3 19 RX3 "held" "[I" ∈ am_all := am_in 56 (by decide +kernel) rfl
theorem mf_X3_25 : Cond.fieldLink RX3 25 RX3 "log" "LAbsentMeansAbort$Log;" ∈ am_all := am_in 57 (by decide +kernel) rfl
theorem mf_X0_111 : Cond.fieldLink RX0 111 RX3 "log" "LAbsentMeansAbort$Log;" ∈ am_all := am_in 58 (by decide +kernel) rfl
theorem mi_X4_init : Cond.instanceMethod yX4_init ∈ am_all := am_in 72 (by decide +kernel) rfl
set_option maxRecDepth 100000 in
theorem mc_X4_init : Cond.code yX4_init cX4_init 1 none ∈ am_all := am_in 73 rfl rfl
theorem mf_X0_42 : Cond.fieldLink RX0 42 RX4 "coordinator" "I" ∈ am_all := am_in 75 (by decide +kernel) rfl
theorem mf_X0_45 : Cond.fieldLink RX0 45 RX4 "phase" "I" ∈ am_all := am_in 76 (by decide +kernel) rfl
theorem mf_X4_21 : Cond.fieldLink RX4 21 RX4 "phase" "I" ∈ am_all := am_in 77 (by decide +kernel) rfl
theorem mf_X4_9 : Cond.fieldLink RX4 9 RX4 "members" "I" ∈ am_all := am_in 78 (by decide +kernel) rfl
theorem mf_X0_54 : Cond.fieldLink RX0 54 RX4 "members" "I" ∈ am_all := am_in 79 (by decide +kernel) rfl
theorem mf_X4_15 : Cond.fieldLink RX4 15 RX4 "saidYes" "I" ∈ am_all := am_in 80 (by decide +kernel) rfl
theorem mf_X0_127 : Cond.fieldLink RX0 127 RX4 "saidYes" "I" ∈ am_all := am_in 81 (by decide +kernel) rfl
theorem mf_X4_18 : Cond.fieldLink RX4 18 RX4 "saidRead" "I" ∈ am_all := am_in 82 (by decide +kernel) rfl
theorem mf_X0_130 : Cond.fieldLink RX0 130 RX4 "saidRead" "I" ∈ am_all := am_in 83 (by decide +kernel) rfl
theorem mf_X4_24 : Cond.fieldLink RX4 24 RX4 "due" "I" ∈ am_all := am_in 84 (by decide +kernel) rfl
theorem mf_X0_133 : Cond.fieldLink RX0 133 RX4 "due" "I" ∈ am_all := am_in 85 (by decide +kernel) rfl
theorem mi_X2_init : Cond.instanceMethod yX2_init ∈ am_all := am_in 102 (by decide +kernel) rfl
set_option maxRecDepth 100000 in
theorem mc_X2_init : Cond.code yX2_init cX2_init 1 none ∈ am_all := am_in 103 rfl rfl
theorem mf_X2_11 : Cond.fieldLink RX2 11 RX2 "parts" "[[I" ∈ am_all := am_in 107 (by decide +kernel) rfl
theorem mf_X0_91 : Cond.fieldLink RX0 91 RX2 "parts" "[[I" ∈ am_all := am_in 108 (by decide +kernel) rfl
theorem mf_X2_16 : Cond.fieldLink RX2 16 RX2 "count" "I" ∈ am_all := am_in 109 (by decide +kernel) rfl
theorem mf_X0_152 : Cond.fieldLink RX0 152 RX2 "count" "I" ∈ am_all := am_in 110 (by decide +kernel) rfl
theorem mf_X0_11 : Cond.fieldLink RX0 11 RX0 "allNodes" "[LAbsentMeansAbort$Node;" ∈ am_all := am_in 116 (by decide +kernel) rfl
theorem mf_X0_18 : Cond.fieldLink RX0 18 RX0 "transactions" "[LAbsentMeansAbort$Transaction;" ∈ am_all := am_in 117 (by decide +kernel) rfl
theorem mf_X0_26 : Cond.fieldLink RX0 26 RX0 "row" "LAbsentMeansAbort$MessageRow;" ∈ am_all := am_in 118 (by decide +kernel) rfl
theorem mf_X0_30 : Cond.fieldLink RX0 30 RX0 "begun" "I" ∈ am_all := am_in 119 (by decide +kernel) rfl
theorem ml_L_13 : Cond.methodLink RL 13 yX0_begin ∈ am_all := am_in 129 (by decide +kernel) rfl
theorem mi_X0_begin : Cond.instanceMethod yX0_begin ∈ am_all := am_in 130 (by decide +kernel) rfl
theorem me_X0_begin : Cond.selects RX0 yX0_begin yX0_begin ∈ am_all := am_in 131 (by decide +kernel) rfl
set_option maxRecDepth 100000 in
theorem mc_X0_begin : Cond.code yX0_begin cX0_begin 3 (some .int) ∈ am_all := am_in 132 rfl rfl
theorem ml_X0_34 : Cond.methodLink RX0 34 yX0_isNode ∈ am_all := am_in 133 (by decide +kernel) rfl
theorem ms_X0_isNode : Cond.static yX0_isNode ∈ am_all := am_in 134 (by decide +kernel) rfl
set_option maxRecDepth 100000 in
theorem mc_X0_isNode : Cond.code yX0_isNode cX0_isNode 1 (some .boolean) ∈ am_all := am_in 135 rfl rfl
theorem ml_L_18 : Cond.methodLink RL 18 yX0_work ∈ am_all := am_in 136 (by decide +kernel) rfl
theorem mi_X0_work : Cond.instanceMethod yX0_work ∈ am_all := am_in 137 (by decide +kernel) rfl
theorem me_X0_work : Cond.selects RX0 yX0_work yX0_work ∈ am_all := am_in 138 (by decide +kernel) rfl
set_option maxRecDepth 100000 in
theorem mc_X0_work : Cond.code yX0_work cX0_work 7 (some .int) ∈ am_all := am_in 139 rfl rfl
theorem ml_X0_48 : Cond.methodLink RX0 48 yX0_isTransaction ∈ am_all := am_in 140 (by decide +kernel) rfl
theorem mi_X0_isTransaction : Cond.instanceMethod yX0_isTransaction ∈ am_all := am_in 142 (by decide +kernel) rfl
set_option maxRecDepth 100000 in
theorem mc_X0_isTransaction : Cond.code yX0_isTransaction cX0_isTransaction 2 (some .boolean) ∈ am_all := am_in 143 rfl rfl
theorem ml_X0_51 : Cond.methodLink RX0 51 yX0_isResource ∈ am_all := am_in 144 (by decide +kernel) rfl
theorem ms_X0_isResource : Cond.static yX0_isResource ∈ am_all := am_in 145 (by decide +kernel) rfl
set_option maxRecDepth 100000 in
theorem mc_X0_isResource : Cond.code yX0_isResource cX0_isResource 1 (some .boolean) ∈ am_all := am_in 146 rfl rfl
theorem ml_X0_57 : Cond.methodLink RX0 57 yX0_isIn ∈ am_all := am_in 147 (by decide +kernel) rfl
theorem ms_X0_isIn : Cond.static yX0_isIn ∈ am_all := am_in 148 (by decide +kernel) rfl
set_option maxRecDepth 100000 in
theorem mc_X0_isIn : Cond.code yX0_isIn cX0_isIn 2 (some .boolean) ∈ am_all := am_in 149 rfl rfl
theorem ml_X0_65 : Cond.methodLink RX0 65 yX0_only ∈ am_all := am_in 150 (by decide +kernel) rfl
theorem ms_X0_only : Cond.static yX0_only ∈ am_all := am_in 151 (by decide +kernel) rfl
set_option maxRecDepth 100000 in
theorem mc_X0_only : Cond.code yX0_only cX0_only 1 (some .int) ∈ am_all := am_in 152 rfl rfl
theorem ml_X0_69 : Cond.methodLink RX0 69 yX3_grant ∈ am_all := am_in 153 (by decide +kernel) rfl
theorem mi_X3_grant : Cond.instanceMethod yX3_grant ∈ am_all := am_in 154 (by decide +kernel) rfl
theorem me_X3_grant : Cond.selects RX3 yX3_grant yX3_grant ∈ am_all := am_in 155 (by decide +kernel) rfl
set_option maxRecDepth 100000 in
theorem mc_X3_grant : Cond.code yX3_grant cX3_grant 4 (some .boolean) ∈ am_all := am_in 156 rfl rfl
theorem ml_X3_33 : Cond.methodLink RX3 33 yX3_findOwner ∈ am_all := am_in 157 (by decide +kernel) rfl
theorem mi_X3_findOwner : Cond.instanceMethod yX3_findOwner ∈ am_all := am_in 158 (by decide +kernel) rfl
theorem me_X3_findOwner : Cond.selects RX3 yX3_findOwner yX3_findOwner ∈ am_all := am_in 159 (by decide +kernel) rfl
set_option maxRecDepth 100000 in
theorem mc_X3_findOwner : Cond.code yX3_findOwner cX3_findOwner 3 (some .int) ∈ am_all := am_in 160 rfl rfl
theorem ml_L_23 : Cond.methodLink RL 23 yX0_commit ∈ am_all := am_in 163 (by decide +kernel) rfl
theorem mi_X0_commit : Cond.instanceMethod yX0_commit ∈ am_all := am_in 164 (by decide +kernel) rfl
theorem me_X0_commit : Cond.selects RX0 yX0_commit yX0_commit ∈ am_all := am_in 165 (by decide +kernel) rfl
set_option maxRecDepth 100000 in
theorem mc_X0_commit : Cond.code yX0_commit cX0_commit 3 (some .int) ∈ am_all := am_in 166 rfl rfl
theorem ml_X0_72 : Cond.methodLink RX0 72 yX4_forget ∈ am_all := am_in 167 (by decide +kernel) rfl
theorem mi_X4_forget : Cond.instanceMethod yX4_forget ∈ am_all := am_in 168 (by decide +kernel) rfl
theorem me_X4_forget : Cond.selects RX4 yX4_forget yX4_forget ∈ am_all := am_in 169 (by decide +kernel) rfl
set_option maxRecDepth 100000 in
theorem mc_X4_forget : Cond.code yX4_forget cX4_forget 1 none ∈ am_all := am_in 170 rfl rfl
theorem ml_X0_75 : Cond.methodLink RX0 75 yX2_sendToEach ∈ am_all := am_in 171 (by decide +kernel) rfl
theorem mi_X2_sendToEach : Cond.instanceMethod yX2_sendToEach ∈ am_all := am_in 172 (by decide +kernel) rfl
theorem me_X2_sendToEach : Cond.selects RX2 yX2_sendToEach yX2_sendToEach ∈ am_all := am_in 173 (by decide +kernel) rfl
set_option maxRecDepth 100000 in
theorem mc_X2_sendToEach : Cond.code yX2_sendToEach cX2_sendToEach 6 none ∈ am_all := am_in 174 rfl rfl
theorem ml_X2_24 : Cond.methodLink RX2 24 yX2_send ∈ am_all := am_in 176 (by decide +kernel) rfl
theorem mi_X2_send : Cond.instanceMethod yX2_send ∈ am_all := am_in 177 (by decide +kernel) rfl
theorem me_X2_send : Cond.selects RX2 yX2_send yX2_send ∈ am_all := am_in 178 (by decide +kernel) rfl
set_option maxRecDepth 100000 in
theorem mc_X2_send : Cond.code yX2_send cX2_send 5 none ∈ am_all := am_in 179 rfl rfl
theorem ml_X0_79 : Cond.methodLink RX0 79 yJ6_bitCount ∈ am_all := am_in 180 (by decide +kernel) rfl
theorem ms_J6_bitCount : Cond.static yJ6_bitCount ∈ am_all := am_in 181 (by decide +kernel) rfl
set_option maxRecDepth 100000 in
theorem mc_J6_bitCount : Cond.code yJ6_bitCount cJ6_bitCount 1 (some .int) ∈ am_all := am_in 182 rfl rfl
theorem mk_J6_265 : Cond.constant RJ6 265 1431655765 ∈ am_all := am_in 183 (by decide +kernel) rfl
theorem mk_J6_266 : Cond.constant RJ6 266 858993459 ∈ am_all := am_in 184 (by decide +kernel) rfl
theorem mk_J6_267 : Cond.constant RJ6 267 252645135 ∈ am_all := am_in 185 (by decide +kernel) rfl
theorem ml_L_27 : Cond.methodLink RL 27 yX0_withdraw ∈ am_all := am_in 186 (by decide +kernel) rfl
theorem mi_X0_withdraw : Cond.instanceMethod yX0_withdraw ∈ am_all := am_in 187 (by decide +kernel) rfl
theorem me_X0_withdraw : Cond.selects RX0 yX0_withdraw yX0_withdraw ∈ am_all := am_in 188 (by decide +kernel) rfl
set_option maxRecDepth 100000 in
theorem mc_X0_withdraw : Cond.code yX0_withdraw cX0_withdraw 3 (some .int) ∈ am_all := am_in 189 rfl rfl
theorem ml_X0_84 : Cond.methodLink RX0 84 yX0_giveUp ∈ am_all := am_in 190 (by decide +kernel) rfl
theorem mi_X0_giveUp : Cond.instanceMethod yX0_giveUp ∈ am_all := am_in 192 (by decide +kernel) rfl
set_option maxRecDepth 100000 in
theorem mc_X0_giveUp : Cond.code yX0_giveUp cX0_giveUp 5 (some .int) ∈ am_all := am_in 193 rfl rfl
theorem ml_X0_189 : Cond.methodLink RX0 189 yX1_write ∈ am_all := am_in 194 (by decide +kernel) rfl
theorem mi_X1_write : Cond.instanceMethod yX1_write ∈ am_all := am_in 195 (by decide +kernel) rfl
theorem me_X1_write : Cond.selects RX1 yX1_write yX1_write ∈ am_all := am_in 196 (by decide +kernel) rfl
set_option maxRecDepth 100000 in
theorem mc_X1_write : Cond.code yX1_write cX1_write 4 none ∈ am_all := am_in 197 rfl rfl
theorem ml_X1_22 : Cond.methodLink RX1 22 yX1_labelOf ∈ am_all := am_in 198 (by decide +kernel) rfl
theorem ms_X1_labelOf : Cond.static yX1_labelOf ∈ am_all := am_in 199 (by decide +kernel) rfl
set_option maxRecDepth 100000 in
theorem mc_X1_labelOf : Cond.code yX1_labelOf cX1_labelOf 2 (some .int) ∈ am_all := am_in 200 rfl rfl
theorem ml_L_31 : Cond.methodLink RL 31 yX0_deliver ∈ am_all := am_in 201 (by decide +kernel) rfl
theorem mi_X0_deliver : Cond.instanceMethod yX0_deliver ∈ am_all := am_in 202 (by decide +kernel) rfl
theorem me_X0_deliver : Cond.selects RX0 yX0_deliver yX0_deliver ∈ am_all := am_in 203 (by decide +kernel) rfl
set_option maxRecDepth 100000 in
theorem mc_X0_deliver : Cond.code yX0_deliver cX0_deliver 6 (some .int) ∈ am_all := am_in 204 rfl rfl
theorem ml_X0_88 : Cond.methodLink RX0 88 yX2_has ∈ am_all := am_in 205 (by decide +kernel) rfl
theorem mi_X2_has : Cond.instanceMethod yX2_has ∈ am_all := am_in 206 (by decide +kernel) rfl
theorem me_X2_has : Cond.selects RX2 yX2_has yX2_has ∈ am_all := am_in 207 (by decide +kernel) rfl
set_option maxRecDepth 100000 in
theorem mc_X2_has : Cond.code yX2_has cX2_has 2 (some .boolean) ∈ am_all := am_in 208 rfl rfl
theorem ml_X0_95 : Cond.methodLink RX0 95 yX2_takeOut ∈ am_all := am_in 209 (by decide +kernel) rfl
theorem mi_X2_takeOut : Cond.instanceMethod yX2_takeOut ∈ am_all := am_in 210 (by decide +kernel) rfl
theorem me_X2_takeOut : Cond.selects RX2 yX2_takeOut yX2_takeOut ∈ am_all := am_in 211 (by decide +kernel) rfl
set_option maxRecDepth 100000 in
theorem mc_X2_takeOut : Cond.code yX2_takeOut cX2_takeOut 4 none ∈ am_all := am_in 212 rfl rfl
theorem ml_X0_99 : Cond.methodLink RX0 99 yX0_hear ∈ am_all := am_in 213 (by decide +kernel) rfl
theorem mi_X0_hear : Cond.instanceMethod yX0_hear ∈ am_all := am_in 215 (by decide +kernel) rfl
set_option maxRecDepth 100000 in
theorem mc_X0_hear : Cond.code yX0_hear cX0_hear 5 none ∈ am_all := am_in 216 rfl rfl
theorem ml_X0_156 : Cond.methodLink RX0 156 yX3_voteOn ∈ am_all := am_in 217 (by decide +kernel) rfl
theorem mi_X3_voteOn : Cond.instanceMethod yX3_voteOn ∈ am_all := am_in 218 (by decide +kernel) rfl
theorem me_X3_voteOn : Cond.selects RX3 yX3_voteOn yX3_voteOn ∈ am_all := am_in 219 (by decide +kernel) rfl
set_option maxRecDepth 100000 in
theorem mc_X3_voteOn : Cond.code yX3_voteOn cX3_voteOn 2 (some .int) ∈ am_all := am_in 220 rfl rfl
theorem ml_X3_40 : Cond.methodLink RX3 40 yX3_voteWhenWorking ∈ am_all := am_in 221 (by decide +kernel) rfl
theorem mi_X3_voteWhenWorking : Cond.instanceMethod yX3_voteWhenWorking ∈ am_all := am_in 223 (by decide +kernel) rfl
set_option maxRecDepth 100000 in
theorem mc_X3_voteWhenWorking : Cond.code yX3_voteWhenWorking cX3_voteWhenWorking 2 (some .int) ∈ am_all := am_in 224 rfl rfl
theorem ml_X3_47 : Cond.methodLink RX3 47 yX3_letGo ∈ am_all := am_in 225 (by decide +kernel) rfl
theorem mi_X3_letGo : Cond.instanceMethod yX3_letGo ∈ am_all := am_in 226 (by decide +kernel) rfl
theorem me_X3_letGo : Cond.selects RX3 yX3_letGo yX3_letGo ∈ am_all := am_in 227 (by decide +kernel) rfl
set_option maxRecDepth 100000 in
theorem mc_X3_letGo : Cond.code yX3_letGo cX3_letGo 2 none ∈ am_all := am_in 228 rfl rfl
theorem ml_X3_50 : Cond.methodLink RX3 50 yX1_force ∈ am_all := am_in 229 (by decide +kernel) rfl
theorem mi_X1_force : Cond.instanceMethod yX1_force ∈ am_all := am_in 230 (by decide +kernel) rfl
theorem me_X1_force : Cond.selects RX1 yX1_force yX1_force ∈ am_all := am_in 231 (by decide +kernel) rfl
set_option maxRecDepth 100000 in
theorem mc_X1_force : Cond.code yX1_force cX1_force 4 none ∈ am_all := am_in 232 rfl rfl
theorem ml_X1_26 : Cond.methodLink RX1 26 yX1_write ∈ am_all := am_in 233 (by decide +kernel) rfl
theorem ml_X3_43 : Cond.methodLink RX3 43 yX3_abort ∈ am_all := am_in 234 (by decide +kernel) rfl
theorem mi_X3_abort : Cond.instanceMethod yX3_abort ∈ am_all := am_in 235 (by decide +kernel) rfl
theorem me_X3_abort : Cond.selects RX3 yX3_abort yX3_abort ∈ am_all := am_in 236 (by decide +kernel) rfl
set_option maxRecDepth 100000 in
theorem mc_X3_abort : Cond.code yX3_abort cX3_abort 2 none ∈ am_all := am_in 237 rfl rfl
theorem ml_X3_54 : Cond.methodLink RX3 54 yX1_write ∈ am_all := am_in 238 (by decide +kernel) rfl
theorem ml_X0_159 : Cond.methodLink RX0 159 yX2_send ∈ am_all := am_in 239 (by decide +kernel) rfl
theorem ml_X0_162 : Cond.methodLink RX0 162 yX0_hearVote ∈ am_all := am_in 240 (by decide +kernel) rfl
theorem mi_X0_hearVote : Cond.instanceMethod yX0_hearVote ∈ am_all := am_in 242 (by decide +kernel) rfl
set_option maxRecDepth 100000 in
theorem mc_X0_hearVote : Cond.code yX0_hearVote cX0_hearVote 5 none ∈ am_all := am_in 243 rfl rfl
theorem ml_X0_179 : Cond.methodLink RX0 179 yX4_hasAllVotes ∈ am_all := am_in 244 (by decide +kernel) rfl
theorem mi_X4_hasAllVotes : Cond.instanceMethod yX4_hasAllVotes ∈ am_all := am_in 245 (by decide +kernel) rfl
theorem me_X4_hasAllVotes : Cond.selects RX4 yX4_hasAllVotes yX4_hasAllVotes ∈ am_all := am_in 246 (by decide +kernel) rfl
set_option maxRecDepth 100000 in
theorem mc_X4_hasAllVotes : Cond.code yX4_hasAllVotes cX4_hasAllVotes 1 (some .boolean) ∈ am_all := am_in 247 rfl rfl
theorem ml_X0_183 : Cond.methodLink RX0 183 yX0_decide ∈ am_all := am_in 248 (by decide +kernel) rfl
theorem mi_X0_decide : Cond.instanceMethod yX0_decide ∈ am_all := am_in 250 (by decide +kernel) rfl
set_option maxRecDepth 100000 in
theorem mc_X0_decide : Cond.code yX0_decide cX0_decide 3 none ∈ am_all := am_in 251 rfl rfl
theorem ml_X0_186 : Cond.methodLink RX0 186 yX1_force ∈ am_all := am_in 252 (by decide +kernel) rfl
theorem ml_X0_166 : Cond.methodLink RX0 166 yX3_finishCommit ∈ am_all := am_in 253 (by decide +kernel) rfl
theorem mi_X3_finishCommit : Cond.instanceMethod yX3_finishCommit ∈ am_all := am_in 254 (by decide +kernel) rfl
theorem me_X3_finishCommit : Cond.selects RX3 yX3_finishCommit yX3_finishCommit ∈ am_all := am_in 255 (by decide +kernel) rfl
set_option maxRecDepth 100000 in
theorem mc_X3_finishCommit : Cond.code yX3_finishCommit cX3_finishCommit 2 none ∈ am_all := am_in 256 rfl rfl
theorem ml_X0_169 : Cond.methodLink RX0 169 yX3_abort ∈ am_all := am_in 257 (by decide +kernel) rfl
theorem ml_X0_172 : Cond.methodLink RX0 172 yX0_hearAck ∈ am_all := am_in 258 (by decide +kernel) rfl
theorem mi_X0_hearAck : Cond.instanceMethod yX0_hearAck ∈ am_all := am_in 260 (by decide +kernel) rfl
set_option maxRecDepth 100000 in
theorem mc_X0_hearAck : Cond.code yX0_hearAck cX0_hearAck 4 none ∈ am_all := am_in 261 rfl rfl
theorem ml_X0_176 : Cond.methodLink RX0 176 yX0_hearInquiry ∈ am_all := am_in 262 (by decide +kernel) rfl
theorem mi_X0_hearInquiry : Cond.instanceMethod yX0_hearInquiry ∈ am_all := am_in 264 (by decide +kernel) rfl
set_option maxRecDepth 100000 in
theorem mc_X0_hearInquiry : Cond.code yX0_hearInquiry cX0_hearInquiry 5 none ∈ am_all := am_in 265 rfl rfl
theorem ml_L_35 : Cond.methodLink RL 35 yX0_lose ∈ am_all := am_in 266 (by decide +kernel) rfl
theorem mi_X0_lose : Cond.instanceMethod yX0_lose ∈ am_all := am_in 267 (by decide +kernel) rfl
theorem me_X0_lose : Cond.selects RX0 yX0_lose yX0_lose ∈ am_all := am_in 268 (by decide +kernel) rfl
set_option maxRecDepth 100000 in
theorem mc_X0_lose : Cond.code yX0_lose cX0_lose 3 (some .int) ∈ am_all := am_in 269 rfl rfl
theorem ml_L_39 : Cond.methodLink RL 39 yX0_expire ∈ am_all := am_in 270 (by decide +kernel) rfl
theorem mi_X0_expire : Cond.instanceMethod yX0_expire ∈ am_all := am_in 271 (by decide +kernel) rfl
theorem me_X0_expire : Cond.selects RX0 yX0_expire yX0_expire ∈ am_all := am_in 272 (by decide +kernel) rfl
set_option maxRecDepth 100000 in
theorem mc_X0_expire : Cond.code yX0_expire cX0_expire 4 (some .int) ∈ am_all := am_in 273 rfl rfl
theorem ml_X0_102 : Cond.methodLink RX0 102 yX0_expireAsMember ∈ am_all := am_in 274 (by decide +kernel) rfl
theorem mi_X0_expireAsMember : Cond.instanceMethod yX0_expireAsMember ∈ am_all := am_in 276 (by decide +kernel) rfl
set_option maxRecDepth 100000 in
theorem mc_X0_expireAsMember : Cond.code yX0_expireAsMember cX0_expireAsMember 4 (some .int) ∈ am_all := am_in 277 rfl rfl
theorem ml_X0_105 : Cond.methodLink RX0 105 yX0_expireAsCoordinator ∈ am_all := am_in 278 (by decide +kernel) rfl
theorem mi_X0_expireAsCoordinator : Cond.instanceMethod yX0_expireAsCoordinator ∈ am_all := am_in 280 (by decide +kernel) rfl
set_option maxRecDepth 100000 in
theorem mc_X0_expireAsCoordinator : Cond.code yX0_expireAsCoordinator cX0_expireAsCoordinator 3 (some .int) ∈ am_all := am_in 281 rfl rfl
theorem ml_L_44 : Cond.methodLink RL 44 yX0_crash ∈ am_all := am_in 282 (by decide +kernel) rfl
theorem mi_X0_crash : Cond.instanceMethod yX0_crash ∈ am_all := am_in 283 (by decide +kernel) rfl
theorem me_X0_crash : Cond.selects RX0 yX0_crash yX0_crash ∈ am_all := am_in 284 (by decide +kernel) rfl
set_option maxRecDepth 100000 in
theorem mc_X0_crash : Cond.code yX0_crash cX0_crash 4 (some .int) ∈ am_all := am_in 285 rfl rfl
theorem ml_X0_108 : Cond.methodLink RX0 108 yX3_letGo ∈ am_all := am_in 286 (by decide +kernel) rfl
theorem ml_X0_115 : Cond.methodLink RX0 115 yX1_dropUnsafe ∈ am_all := am_in 287 (by decide +kernel) rfl
theorem mi_X1_dropUnsafe : Cond.instanceMethod yX1_dropUnsafe ∈ am_all := am_in 288 (by decide +kernel) rfl
theorem me_X1_dropUnsafe : Cond.selects RX1 yX1_dropUnsafe yX1_dropUnsafe ∈ am_all := am_in 289 (by decide +kernel) rfl
set_option maxRecDepth 100000 in
theorem mc_X1_dropUnsafe : Cond.code yX1_dropUnsafe cX1_dropUnsafe 2 (some .int) ∈ am_all := am_in 290 rfl rfl
theorem ml_L_48 : Cond.methodLink RL 48 yX0_recover ∈ am_all := am_in 291 (by decide +kernel) rfl
theorem mi_X0_recover : Cond.instanceMethod yX0_recover ∈ am_all := am_in 292 (by decide +kernel) rfl
theorem me_X0_recover : Cond.selects RX0 yX0_recover yX0_recover ∈ am_all := am_in 293 (by decide +kernel) rfl
set_option maxRecDepth 100000 in
theorem mc_X0_recover : Cond.code yX0_recover cX0_recover 5 (some .int) ∈ am_all := am_in 294 rfl rfl
theorem ml_X0_121 : Cond.methodLink RX0 121 yX3_restorePrepared ∈ am_all := am_in 295 (by decide +kernel) rfl
theorem mi_X3_restorePrepared : Cond.instanceMethod yX3_restorePrepared ∈ am_all := am_in 296 (by decide +kernel) rfl
theorem me_X3_restorePrepared : Cond.selects RX3 yX3_restorePrepared yX3_restorePrepared ∈ am_all := am_in 297 (by decide +kernel) rfl
set_option maxRecDepth 100000 in
theorem mc_X3_restorePrepared : Cond.code yX3_restorePrepared cX3_restorePrepared 3 (some .boolean) ∈ am_all := am_in 298 rfl rfl
theorem ml_X3_57 : Cond.methodLink RX3 57 yX1_find ∈ am_all := am_in 299 (by decide +kernel) rfl
theorem mi_X1_find : Cond.instanceMethod yX1_find ∈ am_all := am_in 300 (by decide +kernel) rfl
theorem me_X1_find : Cond.selects RX1 yX1_find yX1_find ∈ am_all := am_in 301 (by decide +kernel) rfl
set_option maxRecDepth 100000 in
theorem mc_X1_find : Cond.code yX1_find cX1_find 5 (some .int) ∈ am_all := am_in 302 rfl rfl
theorem ml_X0_124 : Cond.methodLink RX0 124 yX0_restoreCommitting ∈ am_all := am_in 303 (by decide +kernel) rfl
theorem mi_X0_restoreCommitting : Cond.instanceMethod yX0_restoreCommitting ∈ am_all := am_in 305 (by decide +kernel) rfl
set_option maxRecDepth 100000 in
theorem mc_X0_restoreCommitting : Cond.code yX0_restoreCommitting cX0_restoreCommitting 7 (some .boolean) ∈ am_all := am_in 306 rfl rfl
theorem ml_X0_192 : Cond.methodLink RX0 192 yX1_find ∈ am_all := am_in 307 (by decide +kernel) rfl
theorem ml_L_52 : Cond.methodLink RL 52 yX0_up ∈ am_all := am_in 308 (by decide +kernel) rfl
theorem mi_X0_up : Cond.instanceMethod yX0_up ∈ am_all := am_in 309 (by decide +kernel) rfl
theorem me_X0_up : Cond.selects RX0 yX0_up yX0_up ∈ am_all := am_in 310 (by decide +kernel) rfl
set_option maxRecDepth 100000 in
theorem mc_X0_up : Cond.code yX0_up cX0_up 2 (some .boolean) ∈ am_all := am_in 311 rfl rfl
theorem ml_L_57 : Cond.methodLink RL 57 yX0_stage ∈ am_all := am_in 312 (by decide +kernel) rfl
theorem mi_X0_stage : Cond.instanceMethod yX0_stage ∈ am_all := am_in 313 (by decide +kernel) rfl
theorem me_X0_stage : Cond.selects RX0 yX0_stage yX0_stage ∈ am_all := am_in 314 (by decide +kernel) rfl
set_option maxRecDepth 100000 in
theorem mc_X0_stage : Cond.code yX0_stage cX0_stage 2 (some .int) ∈ am_all := am_in 315 rfl rfl
theorem ml_L_61 : Cond.methodLink RL 61 yX0_nodes ∈ am_all := am_in 316 (by decide +kernel) rfl
theorem mi_X0_nodes : Cond.instanceMethod yX0_nodes ∈ am_all := am_in 317 (by decide +kernel) rfl
theorem me_X0_nodes : Cond.selects RX0 yX0_nodes yX0_nodes ∈ am_all := am_in 318 (by decide +kernel) rfl
set_option maxRecDepth 100000 in
theorem mc_X0_nodes : Cond.code yX0_nodes cX0_nodes 3 (some .int) ∈ am_all := am_in 319 rfl rfl
theorem ml_L_66 : Cond.methodLink RL 66 yX0_state ∈ am_all := am_in 320 (by decide +kernel) rfl
theorem mi_X0_state : Cond.instanceMethod yX0_state ∈ am_all := am_in 321 (by decide +kernel) rfl
theorem me_X0_state : Cond.selects RX0 yX0_state yX0_state ∈ am_all := am_in 322 (by decide +kernel) rfl
set_option maxRecDepth 100000 in
theorem mc_X0_state : Cond.code yX0_state cX0_state 3 (some .int) ∈ am_all := am_in 323 rfl rfl
theorem ml_L_70 : Cond.methodLink RL 70 yX0_holder ∈ am_all := am_in 324 (by decide +kernel) rfl
theorem mi_X0_holder : Cond.instanceMethod yX0_holder ∈ am_all := am_in 325 (by decide +kernel) rfl
theorem me_X0_holder : Cond.selects RX0 yX0_holder yX0_holder ∈ am_all := am_in 326 (by decide +kernel) rfl
set_option maxRecDepth 100000 in
theorem mc_X0_holder : Cond.code yX0_holder cX0_holder 3 (some .int) ∈ am_all := am_in 327 rfl rfl
theorem ml_X0_136 : Cond.methodLink RX0 136 yX3_findOwner ∈ am_all := am_in 328 (by decide +kernel) rfl
theorem ml_L_74 : Cond.methodLink RL 74 yX0_records ∈ am_all := am_in 329 (by decide +kernel) rfl
theorem mi_X0_records : Cond.instanceMethod yX0_records ∈ am_all := am_in 330 (by decide +kernel) rfl
theorem me_X0_records : Cond.selects RX0 yX0_records yX0_records ∈ am_all := am_in 331 (by decide +kernel) rfl
set_option maxRecDepth 100000 in
theorem mc_X0_records : Cond.code yX0_records cX0_records 4 (some .int) ∈ am_all := am_in 332 rfl rfl
theorem ml_L_79 : Cond.methodLink RL 79 yX0_entry ∈ am_all := am_in 333 (by decide +kernel) rfl
theorem mi_X0_entry : Cond.instanceMethod yX0_entry ∈ am_all := am_in 334 (by decide +kernel) rfl
theorem me_X0_entry : Cond.selects RX0 yX0_entry yX0_entry ∈ am_all := am_in 335 (by decide +kernel) rfl
set_option maxRecDepth 100000 in
theorem mc_X0_entry : Cond.code yX0_entry cX0_entry 4 (some .int) ∈ am_all := am_in 336 rfl rfl
theorem ml_X0_145 : Cond.methodLink RX0 145 yX1_has ∈ am_all := am_in 337 (by decide +kernel) rfl
theorem mi_X1_has : Cond.instanceMethod yX1_has ∈ am_all := am_in 338 (by decide +kernel) rfl
theorem me_X1_has : Cond.selects RX1 yX1_has yX1_has ∈ am_all := am_in 339 (by decide +kernel) rfl
set_option maxRecDepth 100000 in
theorem mc_X1_has : Cond.code yX1_has cX1_has 2 (some .boolean) ∈ am_all := am_in 340 rfl rfl
theorem ml_L_83 : Cond.methodLink RL 83 yX0_content ∈ am_all := am_in 341 (by decide +kernel) rfl
theorem mi_X0_content : Cond.instanceMethod yX0_content ∈ am_all := am_in 342 (by decide +kernel) rfl
theorem me_X0_content : Cond.selects RX0 yX0_content yX0_content ∈ am_all := am_in 343 (by decide +kernel) rfl
set_option maxRecDepth 100000 in
theorem mc_X0_content : Cond.code yX0_content cX0_content 4 (some .int) ∈ am_all := am_in 344 rfl rfl
theorem ml_L_87 : Cond.methodLink RL 87 yX0_messages ∈ am_all := am_in 345 (by decide +kernel) rfl
theorem mi_X0_messages : Cond.instanceMethod yX0_messages ∈ am_all := am_in 346 (by decide +kernel) rfl
theorem me_X0_messages : Cond.selects RX0 yX0_messages yX0_messages ∈ am_all := am_in 347 (by decide +kernel) rfl
set_option maxRecDepth 100000 in
theorem mc_X0_messages : Cond.code yX0_messages cX0_messages 1 (some .int) ∈ am_all := am_in 348 rfl rfl
theorem ml_L_92 : Cond.methodLink RL 92 yX0_message ∈ am_all := am_in 349 (by decide +kernel) rfl
theorem mi_X0_message : Cond.instanceMethod yX0_message ∈ am_all := am_in 350 (by decide +kernel) rfl
theorem me_X0_message : Cond.selects RX0 yX0_message yX0_message ∈ am_all := am_in 351 (by decide +kernel) rfl
set_option maxRecDepth 100000 in
theorem mc_X0_message : Cond.code yX0_message cX0_message 3 (some .int) ∈ am_all := am_in 352 rfl rfl
theorem ml_L_96 : Cond.methodLink RL 96 yX0_forced ∈ am_all := am_in 353 (by decide +kernel) rfl
theorem mi_X0_forced : Cond.instanceMethod yX0_forced ∈ am_all := am_in 354 (by decide +kernel) rfl
theorem me_X0_forced : Cond.selects RX0 yX0_forced yX0_forced ∈ am_all := am_in 355 (by decide +kernel) rfl
set_option maxRecDepth 100000 in
theorem mc_X0_forced : Cond.code yX0_forced cX0_forced 2 (some .int) ∈ am_all := am_in 356 rfl rfl
theorem ml_L_12 : Cond.methodLink RL 12 yX5_init ∈ am_all := am_in 359 (by decide +kernel) rfl
theorem mi_X5_init : Cond.instanceMethod yX5_init ∈ am_all := am_in 360 (by decide +kernel) rfl
set_option maxRecDepth 100000 in
theorem mc_X5_init : Cond.code yX5_init cX5_init 1 none ∈ am_all := am_in 361 rfl rfl
theorem mf_X5_7 : Cond.fieldLink RX5 7 RX5 "down" "[Z" ∈ am_all := am_in 363 (by decide +kernel) rfl
theorem mf_X5_13 : Cond.fieldLink RX5 13 RX5 "forces" "[I" ∈ am_all := am_in 364 (by decide +kernel) rfl
theorem mf_X5_68 : Cond.fieldLink RX5 68 RX5 "count" "I" ∈ am_all := am_in 365 (by decide +kernel) rfl
theorem mf_X5_17 : Cond.fieldLink RX5 17 RX5 "chief" "[I" ∈ am_all := am_in 366 (by decide +kernel) rfl
theorem mf_X5_20 : Cond.fieldLink RX5 20 RX5 "stages" "[I" ∈ am_all := am_in 367 (by decide +kernel) rfl
theorem mf_X5_23 : Cond.fieldLink RX5 23 RX5 "member" "[Z" ∈ am_all := am_in 368 (by decide +kernel) rfl
theorem mf_X5_26 : Cond.fieldLink RX5 26 RX5 "yes" "[Z" ∈ am_all := am_in 369 (by decide +kernel) rfl
theorem mf_X5_29 : Cond.fieldLink RX5 29 RX5 "read" "[Z" ∈ am_all := am_in 370 (by decide +kernel) rfl
theorem mf_X5_32 : Cond.fieldLink RX5 32 RX5 "due" "[Z" ∈ am_all := am_in 371 (by decide +kernel) rfl
theorem mf_X5_35 : Cond.fieldLink RX5 35 RX5 "states" "[I" ∈ am_all := am_in 372 (by decide +kernel) rfl
theorem mf_X5_38 : Cond.fieldLink RX5 38 RX5 "held" "[I" ∈ am_all := am_in 373 (by decide +kernel) rfl
theorem mf_X5_41 : Cond.fieldLink RX5 41 RX5 "length" "[I" ∈ am_all := am_in 374 (by decide +kernel) rfl
theorem mf_X5_44 : Cond.fieldLink RX5 44 RX5 "logOf" "[I" ∈ am_all := am_in 375 (by decide +kernel) rfl
theorem mf_X5_47 : Cond.fieldLink RX5 47 RX5 "logKind" "[I" ∈ am_all := am_in 376 (by decide +kernel) rfl
theorem mf_X5_50 : Cond.fieldLink RX5 50 RX5 "logWhat" "[I" ∈ am_all := am_in 377 (by decide +kernel) rfl
theorem mf_X5_53 : Cond.fieldLink RX5 53 RX5 "logSafe" "[Z" ∈ am_all := am_in 378 (by decide +kernel) rfl
theorem mf_X5_72 : Cond.fieldLink RX5 72 RX5 "waiting" "I" ∈ am_all := am_in 379 (by decide +kernel) rfl
theorem mf_X5_56 : Cond.fieldLink RX5 56 RX5 "kinds" "[I" ∈ am_all := am_in 380 (by decide +kernel) rfl
theorem mf_X5_59 : Cond.fieldLink RX5 59 RX5 "from" "[I" ∈ am_all := am_in 381 (by decide +kernel) rfl
theorem mf_X5_62 : Cond.fieldLink RX5 62 RX5 "to" "[I" ∈ am_all := am_in 382 (by decide +kernel) rfl
theorem mf_X5_65 : Cond.fieldLink RX5 65 RX5 "about" "[I" ∈ am_all := am_in 383 (by decide +kernel) rfl
theorem ml_L_17 : Cond.methodLink RL 17 yX5_begin ∈ am_all := am_in 428 (by decide +kernel) rfl
theorem mi_X5_begin : Cond.instanceMethod yX5_begin ∈ am_all := am_in 429 (by decide +kernel) rfl
theorem me_X5_begin : Cond.selects RX5 yX5_begin yX5_begin ∈ am_all := am_in 430 (by decide +kernel) rfl
set_option maxRecDepth 100000 in
theorem mc_X5_begin : Cond.code yX5_begin cX5_begin 2 (some .int) ∈ am_all := am_in 431 rfl rfl
theorem ml_X5_122 : Cond.methodLink RX5 122 yX5_noNode ∈ am_all := am_in 432 (by decide +kernel) rfl
theorem ms_X5_noNode : Cond.static yX5_noNode ∈ am_all := am_in 433 (by decide +kernel) rfl
set_option maxRecDepth 100000 in
theorem mc_X5_noNode : Cond.code yX5_noNode cX5_noNode 1 (some .boolean) ∈ am_all := am_in 434 rfl rfl
theorem ml_L_22 : Cond.methodLink RL 22 yX5_work ∈ am_all := am_in 435 (by decide +kernel) rfl
theorem mi_X5_work : Cond.instanceMethod yX5_work ∈ am_all := am_in 436 (by decide +kernel) rfl
theorem me_X5_work : Cond.selects RX5 yX5_work yX5_work ∈ am_all := am_in 437 (by decide +kernel) rfl
set_option maxRecDepth 100000 in
theorem mc_X5_work : Cond.code yX5_work cX5_work 6 (some .int) ∈ am_all := am_in 438 rfl rfl
theorem ml_X5_126 : Cond.methodLink RX5 126 yX5_noWork ∈ am_all := am_in 439 (by decide +kernel) rfl
theorem mi_X5_noWork : Cond.instanceMethod yX5_noWork ∈ am_all := am_in 441 (by decide +kernel) rfl
set_option maxRecDepth 100000 in
theorem mc_X5_noWork : Cond.code yX5_noWork cX5_noWork 2 (some .boolean) ∈ am_all := am_in 442 rfl rfl
theorem ml_L_26 : Cond.methodLink RL 26 yX5_commit ∈ am_all := am_in 443 (by decide +kernel) rfl
theorem mi_X5_commit : Cond.instanceMethod yX5_commit ∈ am_all := am_in 444 (by decide +kernel) rfl
theorem me_X5_commit : Cond.selects RX5 yX5_commit yX5_commit ∈ am_all := am_in 445 (by decide +kernel) rfl
set_option maxRecDepth 100000 in
theorem mc_X5_commit : Cond.code yX5_commit cX5_commit 4 (some .int) ∈ am_all := am_in 446 rfl rfl
theorem ml_X5_83 : Cond.methodLink RX5 83 yX5_send ∈ am_all := am_in 447 (by decide +kernel) rfl
theorem mi_X5_send : Cond.instanceMethod yX5_send ∈ am_all := am_in 449 (by decide +kernel) rfl
set_option maxRecDepth 100000 in
theorem mc_X5_send : Cond.code yX5_send cX5_send 5 none ∈ am_all := am_in 450 rfl rfl
theorem ml_X5_86 : Cond.methodLink RX5 86 yX5_forget ∈ am_all := am_in 451 (by decide +kernel) rfl
theorem mi_X5_forget : Cond.instanceMethod yX5_forget ∈ am_all := am_in 453 (by decide +kernel) rfl
set_option maxRecDepth 100000 in
theorem mc_X5_forget : Cond.code yX5_forget cX5_forget 3 none ∈ am_all := am_in 454 rfl rfl
theorem ml_L_30 : Cond.methodLink RL 30 yX5_withdraw ∈ am_all := am_in 455 (by decide +kernel) rfl
theorem mi_X5_withdraw : Cond.instanceMethod yX5_withdraw ∈ am_all := am_in 456 (by decide +kernel) rfl
theorem me_X5_withdraw : Cond.selects RX5 yX5_withdraw yX5_withdraw ∈ am_all := am_in 457 (by decide +kernel) rfl
set_option maxRecDepth 100000 in
theorem mc_X5_withdraw : Cond.code yX5_withdraw cX5_withdraw 2 (some .int) ∈ am_all := am_in 458 rfl rfl
theorem ml_X5_106 : Cond.methodLink RX5 106 yX5_pullBack ∈ am_all := am_in 459 (by decide +kernel) rfl
theorem mi_X5_pullBack : Cond.instanceMethod yX5_pullBack ∈ am_all := am_in 461 (by decide +kernel) rfl
set_option maxRecDepth 100000 in
theorem mc_X5_pullBack : Cond.code yX5_pullBack cX5_pullBack 5 (some .int) ∈ am_all := am_in 462 rfl rfl
theorem ml_X5_75 : Cond.methodLink RX5 75 yX5_write ∈ am_all := am_in 463 (by decide +kernel) rfl
theorem mi_X5_write : Cond.instanceMethod yX5_write ∈ am_all := am_in 465 (by decide +kernel) rfl
set_option maxRecDepth 100000 in
theorem mc_X5_write : Cond.code yX5_write cX5_write 6 none ∈ am_all := am_in 466 rfl rfl
theorem ml_L_34 : Cond.methodLink RL 34 yX5_deliver ∈ am_all := am_in 467 (by decide +kernel) rfl
theorem mi_X5_deliver : Cond.instanceMethod yX5_deliver ∈ am_all := am_in 468 (by decide +kernel) rfl
theorem me_X5_deliver : Cond.selects RX5 yX5_deliver yX5_deliver ∈ am_all := am_in 469 (by decide +kernel) rfl
set_option maxRecDepth 100000 in
theorem mc_X5_deliver : Cond.code yX5_deliver cX5_deliver 6 (some .int) ∈ am_all := am_in 470 rfl rfl
theorem ml_X5_129 : Cond.methodLink RX5 129 yX5_take ∈ am_all := am_in 471 (by decide +kernel) rfl
theorem mi_X5_take : Cond.instanceMethod yX5_take ∈ am_all := am_in 473 (by decide +kernel) rfl
set_option maxRecDepth 100000 in
theorem mc_X5_take : Cond.code yX5_take cX5_take 3 none ∈ am_all := am_in 474 rfl rfl
theorem ml_X5_132 : Cond.methodLink RX5 132 yX5_hear ∈ am_all := am_in 475 (by decide +kernel) rfl
theorem mi_X5_hear : Cond.instanceMethod yX5_hear ∈ am_all := am_in 477 (by decide +kernel) rfl
set_option maxRecDepth 100000 in
theorem mc_X5_hear : Cond.code yX5_hear cX5_hear 5 none ∈ am_all := am_in 478 rfl rfl
theorem ml_X5_112 : Cond.methodLink RX5 112 yX5_hearPrepare ∈ am_all := am_in 479 (by decide +kernel) rfl
theorem mi_X5_hearPrepare : Cond.instanceMethod yX5_hearPrepare ∈ am_all := am_in 481 (by decide +kernel) rfl
set_option maxRecDepth 100000 in
theorem mc_X5_hearPrepare : Cond.code yX5_hearPrepare cX5_hearPrepare 6 none ∈ am_all := am_in 482 rfl rfl
theorem ml_X5_100 : Cond.methodLink RX5 100 yX5_giveUp ∈ am_all := am_in 483 (by decide +kernel) rfl
theorem mi_X5_giveUp : Cond.instanceMethod yX5_giveUp ∈ am_all := am_in 485 (by decide +kernel) rfl
set_option maxRecDepth 100000 in
theorem mc_X5_giveUp : Cond.code yX5_giveUp cX5_giveUp 3 none ∈ am_all := am_in 486 rfl rfl
theorem ml_X5_79 : Cond.methodLink RX5 79 yX5_letGo ∈ am_all := am_in 487 (by decide +kernel) rfl
theorem mi_X5_letGo : Cond.instanceMethod yX5_letGo ∈ am_all := am_in 489 (by decide +kernel) rfl
set_option maxRecDepth 100000 in
theorem mc_X5_letGo : Cond.code yX5_letGo cX5_letGo 4 none ∈ am_all := am_in 490 rfl rfl
theorem ml_X5_103 : Cond.methodLink RX5 103 yX5_holding ∈ am_all := am_in 491 (by decide +kernel) rfl
theorem mi_X5_holding : Cond.instanceMethod yX5_holding ∈ am_all := am_in 493 (by decide +kernel) rfl
set_option maxRecDepth 100000 in
theorem mc_X5_holding : Cond.code yX5_holding cX5_holding 5 (some .int) ∈ am_all := am_in 494 rfl rfl
theorem ml_X5_94 : Cond.methodLink RX5 94 yX5_force ∈ am_all := am_in 495 (by decide +kernel) rfl
theorem mi_X5_force : Cond.instanceMethod yX5_force ∈ am_all := am_in 497 (by decide +kernel) rfl
set_option maxRecDepth 100000 in
theorem mc_X5_force : Cond.code yX5_force cX5_force 6 none ∈ am_all := am_in 498 rfl rfl
theorem ml_X5_116 : Cond.methodLink RX5 116 yX5_hearVote ∈ am_all := am_in 499 (by decide +kernel) rfl
theorem mi_X5_hearVote : Cond.instanceMethod yX5_hearVote ∈ am_all := am_in 501 (by decide +kernel) rfl
set_option maxRecDepth 100000 in
theorem mc_X5_hearVote : Cond.code yX5_hearVote cX5_hearVote 5 none ∈ am_all := am_in 502 rfl rfl
theorem ml_X5_109 : Cond.methodLink RX5 109 yX5_decide ∈ am_all := am_in 503 (by decide +kernel) rfl
theorem mi_X5_decide : Cond.instanceMethod yX5_decide ∈ am_all := am_in 505 (by decide +kernel) rfl
set_option maxRecDepth 100000 in
theorem mc_X5_decide : Cond.code yX5_decide cX5_decide 4 none ∈ am_all := am_in 506 rfl rfl
theorem ml_X5_90 : Cond.methodLink RX5 90 yX5_bits ∈ am_all := am_in 507 (by decide +kernel) rfl
theorem mi_X5_bits : Cond.instanceMethod yX5_bits ∈ am_all := am_in 509 (by decide +kernel) rfl
set_option maxRecDepth 100000 in
theorem mc_X5_bits : Cond.code yX5_bits cX5_bits 7 (some .int) ∈ am_all := am_in 510 rfl rfl
theorem ml_X5_97 : Cond.methodLink RX5 97 yX5_sendDue ∈ am_all := am_in 511 (by decide +kernel) rfl
theorem mi_X5_sendDue : Cond.instanceMethod yX5_sendDue ∈ am_all := am_in 513 (by decide +kernel) rfl
set_option maxRecDepth 100000 in
theorem mc_X5_sendDue : Cond.code yX5_sendDue cX5_sendDue 3 none ∈ am_all := am_in 514 rfl rfl
theorem ml_X5_119 : Cond.methodLink RX5 119 yX5_hearAck ∈ am_all := am_in 515 (by decide +kernel) rfl
theorem mi_X5_hearAck : Cond.instanceMethod yX5_hearAck ∈ am_all := am_in 517 (by decide +kernel) rfl
set_option maxRecDepth 100000 in
theorem mc_X5_hearAck : Cond.code yX5_hearAck cX5_hearAck 3 none ∈ am_all := am_in 518 rfl rfl
theorem ml_L_38 : Cond.methodLink RL 38 yX5_lose ∈ am_all := am_in 519 (by decide +kernel) rfl
theorem mi_X5_lose : Cond.instanceMethod yX5_lose ∈ am_all := am_in 520 (by decide +kernel) rfl
theorem me_X5_lose : Cond.selects RX5 yX5_lose yX5_lose ∈ am_all := am_in 521 (by decide +kernel) rfl
set_option maxRecDepth 100000 in
theorem mc_X5_lose : Cond.code yX5_lose cX5_lose 3 (some .int) ∈ am_all := am_in 522 rfl rfl
theorem ml_L_43 : Cond.methodLink RL 43 yX5_expire ∈ am_all := am_in 523 (by decide +kernel) rfl
theorem mi_X5_expire : Cond.instanceMethod yX5_expire ∈ am_all := am_in 524 (by decide +kernel) rfl
theorem me_X5_expire : Cond.selects RX5 yX5_expire yX5_expire ∈ am_all := am_in 525 (by decide +kernel) rfl
set_option maxRecDepth 100000 in
theorem mc_X5_expire : Cond.code yX5_expire cX5_expire 6 (some .int) ∈ am_all := am_in 526 rfl rfl
theorem ml_L_47 : Cond.methodLink RL 47 yX5_crash ∈ am_all := am_in 527 (by decide +kernel) rfl
theorem mi_X5_crash : Cond.instanceMethod yX5_crash ∈ am_all := am_in 528 (by decide +kernel) rfl
theorem me_X5_crash : Cond.selects RX5 yX5_crash yX5_crash ∈ am_all := am_in 529 (by decide +kernel) rfl
set_option maxRecDepth 100000 in
theorem mc_X5_crash : Cond.code yX5_crash cX5_crash 3 (some .int) ∈ am_all := am_in 530 rfl rfl
theorem ml_L_51 : Cond.methodLink RL 51 yX5_recover ∈ am_all := am_in 531 (by decide +kernel) rfl
theorem mi_X5_recover : Cond.instanceMethod yX5_recover ∈ am_all := am_in 532 (by decide +kernel) rfl
theorem me_X5_recover : Cond.selects RX5 yX5_recover yX5_recover ∈ am_all := am_in 533 (by decide +kernel) rfl
set_option maxRecDepth 100000 in
theorem mc_X5_recover : Cond.code yX5_recover cX5_recover 4 (some .int) ∈ am_all := am_in 534 rfl rfl
theorem ml_X5_139 : Cond.methodLink RX5 139 yX5_recoverMember ∈ am_all := am_in 535 (by decide +kernel) rfl
theorem mi_X5_recoverMember : Cond.instanceMethod yX5_recoverMember ∈ am_all := am_in 537 (by decide +kernel) rfl
set_option maxRecDepth 100000 in
theorem mc_X5_recoverMember : Cond.code yX5_recoverMember cX5_recoverMember 5 (some .int) ∈ am_all := am_in 538 rfl rfl
theorem ml_X5_135 : Cond.methodLink RX5 135 yX5_logged ∈ am_all := am_in 539 (by decide +kernel) rfl
theorem mi_X5_logged : Cond.instanceMethod yX5_logged ∈ am_all := am_in 541 (by decide +kernel) rfl
set_option maxRecDepth 100000 in
theorem mc_X5_logged : Cond.code yX5_logged cX5_logged 5 (some .int) ∈ am_all := am_in 542 rfl rfl
theorem ml_X5_142 : Cond.methodLink RX5 142 yX5_recoverChief ∈ am_all := am_in 543 (by decide +kernel) rfl
theorem mi_X5_recoverChief : Cond.instanceMethod yX5_recoverChief ∈ am_all := am_in 545 (by decide +kernel) rfl
set_option maxRecDepth 100000 in
theorem mc_X5_recoverChief : Cond.code yX5_recoverChief cX5_recoverChief 6 (some .int) ∈ am_all := am_in 546 rfl rfl
theorem ml_L_56 : Cond.methodLink RL 56 yX5_up ∈ am_all := am_in 547 (by decide +kernel) rfl
theorem mi_X5_up : Cond.instanceMethod yX5_up ∈ am_all := am_in 548 (by decide +kernel) rfl
theorem me_X5_up : Cond.selects RX5 yX5_up yX5_up ∈ am_all := am_in 549 (by decide +kernel) rfl
set_option maxRecDepth 100000 in
theorem mc_X5_up : Cond.code yX5_up cX5_up 2 (some .boolean) ∈ am_all := am_in 550 rfl rfl
theorem ml_L_60 : Cond.methodLink RL 60 yX5_stage ∈ am_all := am_in 551 (by decide +kernel) rfl
theorem mi_X5_stage : Cond.instanceMethod yX5_stage ∈ am_all := am_in 552 (by decide +kernel) rfl
theorem me_X5_stage : Cond.selects RX5 yX5_stage yX5_stage ∈ am_all := am_in 553 (by decide +kernel) rfl
set_option maxRecDepth 100000 in
theorem mc_X5_stage : Cond.code yX5_stage cX5_stage 2 (some .int) ∈ am_all := am_in 554 rfl rfl
theorem ml_L_65 : Cond.methodLink RL 65 yX5_nodes ∈ am_all := am_in 555 (by decide +kernel) rfl
theorem mi_X5_nodes : Cond.instanceMethod yX5_nodes ∈ am_all := am_in 556 (by decide +kernel) rfl
theorem me_X5_nodes : Cond.selects RX5 yX5_nodes yX5_nodes ∈ am_all := am_in 557 (by decide +kernel) rfl
set_option maxRecDepth 100000 in
theorem mc_X5_nodes : Cond.code yX5_nodes cX5_nodes 3 (some .int) ∈ am_all := am_in 558 rfl rfl
theorem ml_L_69 : Cond.methodLink RL 69 yX5_state ∈ am_all := am_in 559 (by decide +kernel) rfl
theorem mi_X5_state : Cond.instanceMethod yX5_state ∈ am_all := am_in 560 (by decide +kernel) rfl
theorem me_X5_state : Cond.selects RX5 yX5_state yX5_state ∈ am_all := am_in 561 (by decide +kernel) rfl
set_option maxRecDepth 100000 in
theorem mc_X5_state : Cond.code yX5_state cX5_state 3 (some .int) ∈ am_all := am_in 562 rfl rfl
theorem ml_L_73 : Cond.methodLink RL 73 yX5_holder ∈ am_all := am_in 563 (by decide +kernel) rfl
theorem mi_X5_holder : Cond.instanceMethod yX5_holder ∈ am_all := am_in 564 (by decide +kernel) rfl
theorem me_X5_holder : Cond.selects RX5 yX5_holder yX5_holder ∈ am_all := am_in 565 (by decide +kernel) rfl
set_option maxRecDepth 100000 in
theorem mc_X5_holder : Cond.code yX5_holder cX5_holder 3 (some .int) ∈ am_all := am_in 566 rfl rfl
theorem ml_L_78 : Cond.methodLink RL 78 yX5_records ∈ am_all := am_in 567 (by decide +kernel) rfl
theorem mi_X5_records : Cond.instanceMethod yX5_records ∈ am_all := am_in 568 (by decide +kernel) rfl
theorem me_X5_records : Cond.selects RX5 yX5_records yX5_records ∈ am_all := am_in 569 (by decide +kernel) rfl
set_option maxRecDepth 100000 in
theorem mc_X5_records : Cond.code yX5_records cX5_records 5 (some .int) ∈ am_all := am_in 570 rfl rfl
theorem ml_L_82 : Cond.methodLink RL 82 yX5_entry ∈ am_all := am_in 571 (by decide +kernel) rfl
theorem mi_X5_entry : Cond.instanceMethod yX5_entry ∈ am_all := am_in 572 (by decide +kernel) rfl
theorem me_X5_entry : Cond.selects RX5 yX5_entry yX5_entry ∈ am_all := am_in 573 (by decide +kernel) rfl
set_option maxRecDepth 100000 in
theorem mc_X5_entry : Cond.code yX5_entry cX5_entry 3 (some .int) ∈ am_all := am_in 574 rfl rfl
theorem ml_X5_145 : Cond.methodLink RX5 145 yX5_isRecord ∈ am_all := am_in 575 (by decide +kernel) rfl
theorem mi_X5_isRecord : Cond.instanceMethod yX5_isRecord ∈ am_all := am_in 577 (by decide +kernel) rfl
set_option maxRecDepth 100000 in
theorem mc_X5_isRecord : Cond.code yX5_isRecord cX5_isRecord 3 (some .boolean) ∈ am_all := am_in 578 rfl rfl
theorem ml_L_86 : Cond.methodLink RL 86 yX5_content ∈ am_all := am_in 579 (by decide +kernel) rfl
theorem mi_X5_content : Cond.instanceMethod yX5_content ∈ am_all := am_in 580 (by decide +kernel) rfl
theorem me_X5_content : Cond.selects RX5 yX5_content yX5_content ∈ am_all := am_in 581 (by decide +kernel) rfl
set_option maxRecDepth 100000 in
theorem mc_X5_content : Cond.code yX5_content cX5_content 3 (some .int) ∈ am_all := am_in 582 rfl rfl
theorem ml_L_91 : Cond.methodLink RL 91 yX5_messages ∈ am_all := am_in 583 (by decide +kernel) rfl
theorem mi_X5_messages : Cond.instanceMethod yX5_messages ∈ am_all := am_in 584 (by decide +kernel) rfl
theorem me_X5_messages : Cond.selects RX5 yX5_messages yX5_messages ∈ am_all := am_in 585 (by decide +kernel) rfl
set_option maxRecDepth 100000 in
theorem mc_X5_messages : Cond.code yX5_messages cX5_messages 1 (some .int) ∈ am_all := am_in 586 rfl rfl
theorem ml_L_95 : Cond.methodLink RL 95 yX5_message ∈ am_all := am_in 587 (by decide +kernel) rfl
theorem mi_X5_message : Cond.instanceMethod yX5_message ∈ am_all := am_in 588 (by decide +kernel) rfl
theorem me_X5_message : Cond.selects RX5 yX5_message yX5_message ∈ am_all := am_in 589 (by decide +kernel) rfl
set_option maxRecDepth 100000 in
theorem mc_X5_message : Cond.code yX5_message cX5_message 3 (some .int) ∈ am_all := am_in 590 rfl rfl
theorem ml_L_99 : Cond.methodLink RL 99 yX5_forced ∈ am_all := am_in 591 (by decide +kernel) rfl
theorem mi_X5_forced : Cond.instanceMethod yX5_forced ∈ am_all := am_in 592 (by decide +kernel) rfl
theorem me_X5_forced : Cond.selects RX5 yX5_forced yX5_forced ∈ am_all := am_in 593 (by decide +kernel) rfl
set_option maxRecDepth 100000 in
theorem mc_X5_forced : Cond.code yX5_forced cX5_forced 2 (some .int) ∈ am_all := am_in 594 rfl rfl
theorem me_X0_isTransaction : Cond.selects RX0 yX0_isTransaction yX0_isTransaction ∈ am_all := am_inS 0 (by decide +kernel) rfl
theorem me_X0_giveUp : Cond.selects RX0 yX0_giveUp yX0_giveUp ∈ am_all := am_inS 1 (by decide +kernel) rfl
theorem me_X0_hear : Cond.selects RX0 yX0_hear yX0_hear ∈ am_all := am_inS 2 (by decide +kernel) rfl
theorem me_X3_voteWhenWorking : Cond.selects RX3 yX3_voteWhenWorking yX3_voteWhenWorking ∈ am_all := am_inS 3 (by decide +kernel) rfl
theorem me_X0_hearVote : Cond.selects RX0 yX0_hearVote yX0_hearVote ∈ am_all := am_inS 4 (by decide +kernel) rfl
theorem me_X0_decide : Cond.selects RX0 yX0_decide yX0_decide ∈ am_all := am_inS 5 (by decide +kernel) rfl
theorem me_X0_hearAck : Cond.selects RX0 yX0_hearAck yX0_hearAck ∈ am_all := am_inS 6 (by decide +kernel) rfl
theorem me_X0_hearInquiry : Cond.selects RX0 yX0_hearInquiry yX0_hearInquiry ∈ am_all := am_inS 7 (by decide +kernel) rfl
theorem me_X0_expireAsMember : Cond.selects RX0 yX0_expireAsMember yX0_expireAsMember ∈ am_all := am_inS 8 (by decide +kernel) rfl
theorem me_X0_expireAsCoordinator : Cond.selects RX0 yX0_expireAsCoordinator yX0_expireAsCoordinator ∈ am_all := am_inS 9 (by decide +kernel) rfl
theorem me_X0_restoreCommitting : Cond.selects RX0 yX0_restoreCommitting yX0_restoreCommitting ∈ am_all := am_inS 10 (by decide +kernel) rfl
theorem me_X5_noWork : Cond.selects RX5 yX5_noWork yX5_noWork ∈ am_all := am_inS 11 (by decide +kernel) rfl
theorem me_X5_send : Cond.selects RX5 yX5_send yX5_send ∈ am_all := am_inS 12 (by decide +kernel) rfl
theorem me_X5_forget : Cond.selects RX5 yX5_forget yX5_forget ∈ am_all := am_inS 13 (by decide +kernel) rfl
theorem me_X5_pullBack : Cond.selects RX5 yX5_pullBack yX5_pullBack ∈ am_all := am_inS 14 (by decide +kernel) rfl
theorem me_X5_write : Cond.selects RX5 yX5_write yX5_write ∈ am_all := am_inS 15 (by decide +kernel) rfl
theorem me_X5_take : Cond.selects RX5 yX5_take yX5_take ∈ am_all := am_inS 16 (by decide +kernel) rfl
theorem me_X5_hear : Cond.selects RX5 yX5_hear yX5_hear ∈ am_all := am_inS 17 (by decide +kernel) rfl
theorem me_X5_hearPrepare : Cond.selects RX5 yX5_hearPrepare yX5_hearPrepare ∈ am_all := am_inS 18 (by decide +kernel) rfl
theorem me_X5_giveUp : Cond.selects RX5 yX5_giveUp yX5_giveUp ∈ am_all := am_inS 19 (by decide +kernel) rfl
theorem me_X5_letGo : Cond.selects RX5 yX5_letGo yX5_letGo ∈ am_all := am_inS 20 (by decide +kernel) rfl
theorem me_X5_holding : Cond.selects RX5 yX5_holding yX5_holding ∈ am_all := am_inS 21 (by decide +kernel) rfl
theorem me_X5_force : Cond.selects RX5 yX5_force yX5_force ∈ am_all := am_inS 22 (by decide +kernel) rfl
theorem me_X5_hearVote : Cond.selects RX5 yX5_hearVote yX5_hearVote ∈ am_all := am_inS 23 (by decide +kernel) rfl
theorem me_X5_decide : Cond.selects RX5 yX5_decide yX5_decide ∈ am_all := am_inS 24 (by decide +kernel) rfl
theorem me_X5_bits : Cond.selects RX5 yX5_bits yX5_bits ∈ am_all := am_inS 25 (by decide +kernel) rfl
theorem me_X5_sendDue : Cond.selects RX5 yX5_sendDue yX5_sendDue ∈ am_all := am_inS 26 (by decide +kernel) rfl
theorem me_X5_hearAck : Cond.selects RX5 yX5_hearAck yX5_hearAck ∈ am_all := am_inS 27 (by decide +kernel) rfl
theorem me_X5_recoverMember : Cond.selects RX5 yX5_recoverMember yX5_recoverMember ∈ am_all := am_inS 28 (by decide +kernel) rfl
theorem me_X5_logged : Cond.selects RX5 yX5_logged yX5_logged ∈ am_all := am_inS 29 (by decide +kernel) rfl
theorem me_X5_recoverChief : Cond.selects RX5 yX5_recoverChief yX5_recoverChief ∈ am_all := am_inS 30 (by decide +kernel) rfl
theorem me_X5_isRecord : Cond.selects RX5 yX5_isRecord yX5_isRecord ∈ am_all := am_inS 31 (by decide +kernel) rfl
theorem mu_X0 : ∀ w ∈ u_ws RX0 TX0 4, w ∈ am_all := by
  have h : (u_ws RX0 TX0 4).all (fun w => decide (w ∈ am_all)) = true := by decide +kernel
  exact fun w hw => of_decide_eq_true (List.all_eq_true.mp h w hw)
theorem mu_X1 : ∀ w ∈ u_ws RX1 TX1 5, w ∈ am_all := by
  have h : (u_ws RX1 TX1 5).all (fun w => decide (w ∈ am_all)) = true := by decide +kernel
  exact fun w hw => of_decide_eq_true (List.all_eq_true.mp h w hw)
theorem mu_X2 : ∀ w ∈ u_ws RX2 TX2 2, w ∈ am_all := by
  have h : (u_ws RX2 TX2 2).all (fun w => decide (w ∈ am_all)) = true := by decide +kernel
  exact fun w hw => of_decide_eq_true (List.all_eq_true.mp h w hw)
theorem mu_X3 : ∀ w ∈ u_ws RX3 TX3 4, w ∈ am_all := by
  have h : (u_ws RX3 TX3 4).all (fun w => decide (w ∈ am_all)) = true := by decide +kernel
  exact fun w hw => of_decide_eq_true (List.all_eq_true.mp h w hw)
theorem mu_X4 : ∀ w ∈ u_ws RX4 TX4 6, w ∈ am_all := by
  have h : (u_ws RX4 TX4 6).all (fun w => decide (w ∈ am_all)) = true := by decide +kernel
  exact fun w hw => of_decide_eq_true (List.all_eq_true.mp h w hw)
theorem mu_X5 : ∀ w ∈ u_ws RX5 TX5 21, w ∈ am_all := by
  have h : (u_ws RX5 TX5 21).all (fun w => decide (w ∈ am_all)) = true := by decide +kernel
  exact fun w hw => of_decide_eq_true (List.all_eq_true.mp h w hw)
def wsX0_init : List Cond := Cond.code yX0_init cX0_init 2 none :: am_all
theorem dc_X0_init : yX0_init.cls ≠ "java/lang/invoke/MethodHandle" ∧ yX0_init.cls ≠ "java/lang/invoke/VarHandle" ∧ (parseMethodDescriptor yX0_init.desc).map (fun d => d.parameters.length) = some 0 := by decide +kernel
def wsX3_init : List Cond := Cond.code yX3_init cX3_init 1 none :: am_all
theorem dc_X3_init : yX3_init.cls ≠ "java/lang/invoke/MethodHandle" ∧ yX3_init.cls ≠ "java/lang/invoke/VarHandle" ∧ (parseMethodDescriptor yX3_init.desc).map (fun d => d.parameters.length) = some 0 := by decide +kernel
def wsX1_init : List Cond := Cond.code yX1_init cX1_init 1 none :: am_all
theorem dc_X1_init : yX1_init.cls ≠ "java/lang/invoke/MethodHandle" ∧ yX1_init.cls ≠ "java/lang/invoke/VarHandle" ∧ (parseMethodDescriptor yX1_init.desc).map (fun d => d.parameters.length) = some 0 := by decide +kernel
def wsX4_init : List Cond := Cond.code yX4_init cX4_init 1 none :: am_all
theorem dc_X4_init : yX4_init.cls ≠ "java/lang/invoke/MethodHandle" ∧ yX4_init.cls ≠ "java/lang/invoke/VarHandle" ∧ (parseMethodDescriptor yX4_init.desc).map (fun d => d.parameters.length) = some 0 := by decide +kernel
def wsX2_init : List Cond := Cond.code yX2_init cX2_init 1 none :: am_all
theorem dc_X2_init : yX2_init.cls ≠ "java/lang/invoke/MethodHandle" ∧ yX2_init.cls ≠ "java/lang/invoke/VarHandle" ∧ (parseMethodDescriptor yX2_init.desc).map (fun d => d.parameters.length) = some 0 := by decide +kernel
def wsX0_begin : List Cond := Cond.code yX0_begin cX0_begin 3 (some .int) :: am_all
theorem dc_X0_begin : yX0_begin.cls ≠ "java/lang/invoke/MethodHandle" ∧ yX0_begin.cls ≠ "java/lang/invoke/VarHandle" ∧ (parseMethodDescriptor yX0_begin.desc).map (fun d => d.parameters.length) = some 1 := by decide +kernel
def wsX0_isNode : List Cond := Cond.code yX0_isNode cX0_isNode 1 (some .boolean) :: am_all
theorem dc_X0_isNode : yX0_isNode.cls ≠ "java/lang/invoke/MethodHandle" ∧ yX0_isNode.cls ≠ "java/lang/invoke/VarHandle" ∧ (parseMethodDescriptor yX0_isNode.desc).map (fun d => d.parameters.length) = some 1 := by decide +kernel
def wsX0_work : List Cond := Cond.code yX0_work cX0_work 7 (some .int) :: am_all
theorem dc_X0_work : yX0_work.cls ≠ "java/lang/invoke/MethodHandle" ∧ yX0_work.cls ≠ "java/lang/invoke/VarHandle" ∧ (parseMethodDescriptor yX0_work.desc).map (fun d => d.parameters.length) = some 3 := by decide +kernel
def wsX0_isTransaction : List Cond := Cond.code yX0_isTransaction cX0_isTransaction 2 (some .boolean) :: am_all
theorem dc_X0_isTransaction : yX0_isTransaction.cls ≠ "java/lang/invoke/MethodHandle" ∧ yX0_isTransaction.cls ≠ "java/lang/invoke/VarHandle" ∧ (parseMethodDescriptor yX0_isTransaction.desc).map (fun d => d.parameters.length) = some 1 := by decide +kernel
def wsX0_isResource : List Cond := Cond.code yX0_isResource cX0_isResource 1 (some .boolean) :: am_all
theorem dc_X0_isResource : yX0_isResource.cls ≠ "java/lang/invoke/MethodHandle" ∧ yX0_isResource.cls ≠ "java/lang/invoke/VarHandle" ∧ (parseMethodDescriptor yX0_isResource.desc).map (fun d => d.parameters.length) = some 1 := by decide +kernel
def wsX0_isIn : List Cond := Cond.code yX0_isIn cX0_isIn 2 (some .boolean) :: am_all
theorem dc_X0_isIn : yX0_isIn.cls ≠ "java/lang/invoke/MethodHandle" ∧ yX0_isIn.cls ≠ "java/lang/invoke/VarHandle" ∧ (parseMethodDescriptor yX0_isIn.desc).map (fun d => d.parameters.length) = some 2 := by decide +kernel
def wsX0_only : List Cond := Cond.code yX0_only cX0_only 1 (some .int) :: am_all
theorem dc_X0_only : yX0_only.cls ≠ "java/lang/invoke/MethodHandle" ∧ yX0_only.cls ≠ "java/lang/invoke/VarHandle" ∧ (parseMethodDescriptor yX0_only.desc).map (fun d => d.parameters.length) = some 1 := by decide +kernel
def wsX3_grant : List Cond := Cond.code yX3_grant cX3_grant 4 (some .boolean) :: am_all
theorem dc_X3_grant : yX3_grant.cls ≠ "java/lang/invoke/MethodHandle" ∧ yX3_grant.cls ≠ "java/lang/invoke/VarHandle" ∧ (parseMethodDescriptor yX3_grant.desc).map (fun d => d.parameters.length) = some 2 := by decide +kernel
def wsX3_findOwner : List Cond := Cond.code yX3_findOwner cX3_findOwner 3 (some .int) :: am_all
theorem dc_X3_findOwner : yX3_findOwner.cls ≠ "java/lang/invoke/MethodHandle" ∧ yX3_findOwner.cls ≠ "java/lang/invoke/VarHandle" ∧ (parseMethodDescriptor yX3_findOwner.desc).map (fun d => d.parameters.length) = some 1 := by decide +kernel
def wsX0_commit : List Cond := Cond.code yX0_commit cX0_commit 3 (some .int) :: am_all
theorem dc_X0_commit : yX0_commit.cls ≠ "java/lang/invoke/MethodHandle" ∧ yX0_commit.cls ≠ "java/lang/invoke/VarHandle" ∧ (parseMethodDescriptor yX0_commit.desc).map (fun d => d.parameters.length) = some 1 := by decide +kernel
def wsX4_forget : List Cond := Cond.code yX4_forget cX4_forget 1 none :: am_all
theorem dc_X4_forget : yX4_forget.cls ≠ "java/lang/invoke/MethodHandle" ∧ yX4_forget.cls ≠ "java/lang/invoke/VarHandle" ∧ (parseMethodDescriptor yX4_forget.desc).map (fun d => d.parameters.length) = some 0 := by decide +kernel
def wsX2_sendToEach : List Cond := Cond.code yX2_sendToEach cX2_sendToEach 6 none :: am_all
theorem dc_X2_sendToEach : yX2_sendToEach.cls ≠ "java/lang/invoke/MethodHandle" ∧ yX2_sendToEach.cls ≠ "java/lang/invoke/VarHandle" ∧ (parseMethodDescriptor yX2_sendToEach.desc).map (fun d => d.parameters.length) = some 4 := by decide +kernel
def wsX2_send : List Cond := Cond.code yX2_send cX2_send 5 none :: am_all
theorem dc_X2_send : yX2_send.cls ≠ "java/lang/invoke/MethodHandle" ∧ yX2_send.cls ≠ "java/lang/invoke/VarHandle" ∧ (parseMethodDescriptor yX2_send.desc).map (fun d => d.parameters.length) = some 4 := by decide +kernel
def wsJ6_bitCount : List Cond := Cond.code yJ6_bitCount cJ6_bitCount 1 (some .int) :: am_all
theorem dc_J6_bitCount : yJ6_bitCount.cls ≠ "java/lang/invoke/MethodHandle" ∧ yJ6_bitCount.cls ≠ "java/lang/invoke/VarHandle" ∧ (parseMethodDescriptor yJ6_bitCount.desc).map (fun d => d.parameters.length) = some 1 := by decide +kernel
def wsX0_withdraw : List Cond := Cond.code yX0_withdraw cX0_withdraw 3 (some .int) :: am_all
theorem dc_X0_withdraw : yX0_withdraw.cls ≠ "java/lang/invoke/MethodHandle" ∧ yX0_withdraw.cls ≠ "java/lang/invoke/VarHandle" ∧ (parseMethodDescriptor yX0_withdraw.desc).map (fun d => d.parameters.length) = some 1 := by decide +kernel
def wsX0_giveUp : List Cond := Cond.code yX0_giveUp cX0_giveUp 5 (some .int) :: am_all
theorem dc_X0_giveUp : yX0_giveUp.cls ≠ "java/lang/invoke/MethodHandle" ∧ yX0_giveUp.cls ≠ "java/lang/invoke/VarHandle" ∧ (parseMethodDescriptor yX0_giveUp.desc).map (fun d => d.parameters.length) = some 2 := by decide +kernel
def wsX1_write : List Cond := Cond.code yX1_write cX1_write 4 none :: am_all
theorem dc_X1_write : yX1_write.cls ≠ "java/lang/invoke/MethodHandle" ∧ yX1_write.cls ≠ "java/lang/invoke/VarHandle" ∧ (parseMethodDescriptor yX1_write.desc).map (fun d => d.parameters.length) = some 3 := by decide +kernel
def wsX1_labelOf : List Cond := Cond.code yX1_labelOf cX1_labelOf 2 (some .int) :: am_all
theorem dc_X1_labelOf : yX1_labelOf.cls ≠ "java/lang/invoke/MethodHandle" ∧ yX1_labelOf.cls ≠ "java/lang/invoke/VarHandle" ∧ (parseMethodDescriptor yX1_labelOf.desc).map (fun d => d.parameters.length) = some 2 := by decide +kernel
def wsX0_deliver : List Cond := Cond.code yX0_deliver cX0_deliver 6 (some .int) :: am_all
theorem dc_X0_deliver : yX0_deliver.cls ≠ "java/lang/invoke/MethodHandle" ∧ yX0_deliver.cls ≠ "java/lang/invoke/VarHandle" ∧ (parseMethodDescriptor yX0_deliver.desc).map (fun d => d.parameters.length) = some 1 := by decide +kernel
def wsX2_has : List Cond := Cond.code yX2_has cX2_has 2 (some .boolean) :: am_all
theorem dc_X2_has : yX2_has.cls ≠ "java/lang/invoke/MethodHandle" ∧ yX2_has.cls ≠ "java/lang/invoke/VarHandle" ∧ (parseMethodDescriptor yX2_has.desc).map (fun d => d.parameters.length) = some 1 := by decide +kernel
def wsX2_takeOut : List Cond := Cond.code yX2_takeOut cX2_takeOut 4 none :: am_all
theorem dc_X2_takeOut : yX2_takeOut.cls ≠ "java/lang/invoke/MethodHandle" ∧ yX2_takeOut.cls ≠ "java/lang/invoke/VarHandle" ∧ (parseMethodDescriptor yX2_takeOut.desc).map (fun d => d.parameters.length) = some 1 := by decide +kernel
def wsX0_hear : List Cond := Cond.code yX0_hear cX0_hear 5 none :: am_all
theorem dc_X0_hear : yX0_hear.cls ≠ "java/lang/invoke/MethodHandle" ∧ yX0_hear.cls ≠ "java/lang/invoke/VarHandle" ∧ (parseMethodDescriptor yX0_hear.desc).map (fun d => d.parameters.length) = some 4 := by decide +kernel
def wsX3_voteOn : List Cond := Cond.code yX3_voteOn cX3_voteOn 2 (some .int) :: am_all
theorem dc_X3_voteOn : yX3_voteOn.cls ≠ "java/lang/invoke/MethodHandle" ∧ yX3_voteOn.cls ≠ "java/lang/invoke/VarHandle" ∧ (parseMethodDescriptor yX3_voteOn.desc).map (fun d => d.parameters.length) = some 1 := by decide +kernel
def wsX3_voteWhenWorking : List Cond := Cond.code yX3_voteWhenWorking cX3_voteWhenWorking 2 (some .int) :: am_all
theorem dc_X3_voteWhenWorking : yX3_voteWhenWorking.cls ≠ "java/lang/invoke/MethodHandle" ∧ yX3_voteWhenWorking.cls ≠ "java/lang/invoke/VarHandle" ∧ (parseMethodDescriptor yX3_voteWhenWorking.desc).map (fun d => d.parameters.length) = some 1 := by decide +kernel
def wsX3_letGo : List Cond := Cond.code yX3_letGo cX3_letGo 2 none :: am_all
theorem dc_X3_letGo : yX3_letGo.cls ≠ "java/lang/invoke/MethodHandle" ∧ yX3_letGo.cls ≠ "java/lang/invoke/VarHandle" ∧ (parseMethodDescriptor yX3_letGo.desc).map (fun d => d.parameters.length) = some 1 := by decide +kernel
def wsX1_force : List Cond := Cond.code yX1_force cX1_force 4 none :: am_all
theorem dc_X1_force : yX1_force.cls ≠ "java/lang/invoke/MethodHandle" ∧ yX1_force.cls ≠ "java/lang/invoke/VarHandle" ∧ (parseMethodDescriptor yX1_force.desc).map (fun d => d.parameters.length) = some 3 := by decide +kernel
def wsX3_abort : List Cond := Cond.code yX3_abort cX3_abort 2 none :: am_all
theorem dc_X3_abort : yX3_abort.cls ≠ "java/lang/invoke/MethodHandle" ∧ yX3_abort.cls ≠ "java/lang/invoke/VarHandle" ∧ (parseMethodDescriptor yX3_abort.desc).map (fun d => d.parameters.length) = some 1 := by decide +kernel
def wsX0_hearVote : List Cond := Cond.code yX0_hearVote cX0_hearVote 5 none :: am_all
theorem dc_X0_hearVote : yX0_hearVote.cls ≠ "java/lang/invoke/MethodHandle" ∧ yX0_hearVote.cls ≠ "java/lang/invoke/VarHandle" ∧ (parseMethodDescriptor yX0_hearVote.desc).map (fun d => d.parameters.length) = some 3 := by decide +kernel
def wsX4_hasAllVotes : List Cond := Cond.code yX4_hasAllVotes cX4_hasAllVotes 1 (some .boolean) :: am_all
theorem dc_X4_hasAllVotes : yX4_hasAllVotes.cls ≠ "java/lang/invoke/MethodHandle" ∧ yX4_hasAllVotes.cls ≠ "java/lang/invoke/VarHandle" ∧ (parseMethodDescriptor yX4_hasAllVotes.desc).map (fun d => d.parameters.length) = some 0 := by decide +kernel
def wsX0_decide : List Cond := Cond.code yX0_decide cX0_decide 3 none :: am_all
theorem dc_X0_decide : yX0_decide.cls ≠ "java/lang/invoke/MethodHandle" ∧ yX0_decide.cls ≠ "java/lang/invoke/VarHandle" ∧ (parseMethodDescriptor yX0_decide.desc).map (fun d => d.parameters.length) = some 1 := by decide +kernel
def wsX3_finishCommit : List Cond := Cond.code yX3_finishCommit cX3_finishCommit 2 none :: am_all
theorem dc_X3_finishCommit : yX3_finishCommit.cls ≠ "java/lang/invoke/MethodHandle" ∧ yX3_finishCommit.cls ≠ "java/lang/invoke/VarHandle" ∧ (parseMethodDescriptor yX3_finishCommit.desc).map (fun d => d.parameters.length) = some 1 := by decide +kernel
def wsX0_hearAck : List Cond := Cond.code yX0_hearAck cX0_hearAck 4 none :: am_all
theorem dc_X0_hearAck : yX0_hearAck.cls ≠ "java/lang/invoke/MethodHandle" ∧ yX0_hearAck.cls ≠ "java/lang/invoke/VarHandle" ∧ (parseMethodDescriptor yX0_hearAck.desc).map (fun d => d.parameters.length) = some 2 := by decide +kernel
def wsX0_hearInquiry : List Cond := Cond.code yX0_hearInquiry cX0_hearInquiry 5 none :: am_all
theorem dc_X0_hearInquiry : yX0_hearInquiry.cls ≠ "java/lang/invoke/MethodHandle" ∧ yX0_hearInquiry.cls ≠ "java/lang/invoke/VarHandle" ∧ (parseMethodDescriptor yX0_hearInquiry.desc).map (fun d => d.parameters.length) = some 3 := by decide +kernel
def wsX0_lose : List Cond := Cond.code yX0_lose cX0_lose 3 (some .int) :: am_all
theorem dc_X0_lose : yX0_lose.cls ≠ "java/lang/invoke/MethodHandle" ∧ yX0_lose.cls ≠ "java/lang/invoke/VarHandle" ∧ (parseMethodDescriptor yX0_lose.desc).map (fun d => d.parameters.length) = some 1 := by decide +kernel
def wsX0_expire : List Cond := Cond.code yX0_expire cX0_expire 4 (some .int) :: am_all
theorem dc_X0_expire : yX0_expire.cls ≠ "java/lang/invoke/MethodHandle" ∧ yX0_expire.cls ≠ "java/lang/invoke/VarHandle" ∧ (parseMethodDescriptor yX0_expire.desc).map (fun d => d.parameters.length) = some 3 := by decide +kernel
def wsX0_expireAsMember : List Cond := Cond.code yX0_expireAsMember cX0_expireAsMember 4 (some .int) :: am_all
theorem dc_X0_expireAsMember : yX0_expireAsMember.cls ≠ "java/lang/invoke/MethodHandle" ∧ yX0_expireAsMember.cls ≠ "java/lang/invoke/VarHandle" ∧ (parseMethodDescriptor yX0_expireAsMember.desc).map (fun d => d.parameters.length) = some 2 := by decide +kernel
def wsX0_expireAsCoordinator : List Cond := Cond.code yX0_expireAsCoordinator cX0_expireAsCoordinator 3 (some .int) :: am_all
theorem dc_X0_expireAsCoordinator : yX0_expireAsCoordinator.cls ≠ "java/lang/invoke/MethodHandle" ∧ yX0_expireAsCoordinator.cls ≠ "java/lang/invoke/VarHandle" ∧ (parseMethodDescriptor yX0_expireAsCoordinator.desc).map (fun d => d.parameters.length) = some 1 := by decide +kernel
def wsX0_crash : List Cond := Cond.code yX0_crash cX0_crash 4 (some .int) :: am_all
theorem dc_X0_crash : yX0_crash.cls ≠ "java/lang/invoke/MethodHandle" ∧ yX0_crash.cls ≠ "java/lang/invoke/VarHandle" ∧ (parseMethodDescriptor yX0_crash.desc).map (fun d => d.parameters.length) = some 1 := by decide +kernel
def wsX1_dropUnsafe : List Cond := Cond.code yX1_dropUnsafe cX1_dropUnsafe 2 (some .int) :: am_all
theorem dc_X1_dropUnsafe : yX1_dropUnsafe.cls ≠ "java/lang/invoke/MethodHandle" ∧ yX1_dropUnsafe.cls ≠ "java/lang/invoke/VarHandle" ∧ (parseMethodDescriptor yX1_dropUnsafe.desc).map (fun d => d.parameters.length) = some 0 := by decide +kernel
def wsX0_recover : List Cond := Cond.code yX0_recover cX0_recover 5 (some .int) :: am_all
theorem dc_X0_recover : yX0_recover.cls ≠ "java/lang/invoke/MethodHandle" ∧ yX0_recover.cls ≠ "java/lang/invoke/VarHandle" ∧ (parseMethodDescriptor yX0_recover.desc).map (fun d => d.parameters.length) = some 1 := by decide +kernel
def wsX3_restorePrepared : List Cond := Cond.code yX3_restorePrepared cX3_restorePrepared 3 (some .boolean) :: am_all
theorem dc_X3_restorePrepared : yX3_restorePrepared.cls ≠ "java/lang/invoke/MethodHandle" ∧ yX3_restorePrepared.cls ≠ "java/lang/invoke/VarHandle" ∧ (parseMethodDescriptor yX3_restorePrepared.desc).map (fun d => d.parameters.length) = some 1 := by decide +kernel
def wsX1_find : List Cond := Cond.code yX1_find cX1_find 5 (some .int) :: am_all
theorem dc_X1_find : yX1_find.cls ≠ "java/lang/invoke/MethodHandle" ∧ yX1_find.cls ≠ "java/lang/invoke/VarHandle" ∧ (parseMethodDescriptor yX1_find.desc).map (fun d => d.parameters.length) = some 2 := by decide +kernel
def wsX0_restoreCommitting : List Cond := Cond.code yX0_restoreCommitting cX0_restoreCommitting 7 (some .boolean) :: am_all
theorem dc_X0_restoreCommitting : yX0_restoreCommitting.cls ≠ "java/lang/invoke/MethodHandle" ∧ yX0_restoreCommitting.cls ≠ "java/lang/invoke/VarHandle" ∧ (parseMethodDescriptor yX0_restoreCommitting.desc).map (fun d => d.parameters.length) = some 2 := by decide +kernel
def wsX0_up : List Cond := Cond.code yX0_up cX0_up 2 (some .boolean) :: am_all
theorem dc_X0_up : yX0_up.cls ≠ "java/lang/invoke/MethodHandle" ∧ yX0_up.cls ≠ "java/lang/invoke/VarHandle" ∧ (parseMethodDescriptor yX0_up.desc).map (fun d => d.parameters.length) = some 1 := by decide +kernel
def wsX0_stage : List Cond := Cond.code yX0_stage cX0_stage 2 (some .int) :: am_all
theorem dc_X0_stage : yX0_stage.cls ≠ "java/lang/invoke/MethodHandle" ∧ yX0_stage.cls ≠ "java/lang/invoke/VarHandle" ∧ (parseMethodDescriptor yX0_stage.desc).map (fun d => d.parameters.length) = some 1 := by decide +kernel
def wsX0_nodes : List Cond := Cond.code yX0_nodes cX0_nodes 3 (some .int) :: am_all
theorem dc_X0_nodes : yX0_nodes.cls ≠ "java/lang/invoke/MethodHandle" ∧ yX0_nodes.cls ≠ "java/lang/invoke/VarHandle" ∧ (parseMethodDescriptor yX0_nodes.desc).map (fun d => d.parameters.length) = some 2 := by decide +kernel
def wsX0_state : List Cond := Cond.code yX0_state cX0_state 3 (some .int) :: am_all
theorem dc_X0_state : yX0_state.cls ≠ "java/lang/invoke/MethodHandle" ∧ yX0_state.cls ≠ "java/lang/invoke/VarHandle" ∧ (parseMethodDescriptor yX0_state.desc).map (fun d => d.parameters.length) = some 2 := by decide +kernel
def wsX0_holder : List Cond := Cond.code yX0_holder cX0_holder 3 (some .int) :: am_all
theorem dc_X0_holder : yX0_holder.cls ≠ "java/lang/invoke/MethodHandle" ∧ yX0_holder.cls ≠ "java/lang/invoke/VarHandle" ∧ (parseMethodDescriptor yX0_holder.desc).map (fun d => d.parameters.length) = some 2 := by decide +kernel
def wsX0_records : List Cond := Cond.code yX0_records cX0_records 4 (some .int) :: am_all
theorem dc_X0_records : yX0_records.cls ≠ "java/lang/invoke/MethodHandle" ∧ yX0_records.cls ≠ "java/lang/invoke/VarHandle" ∧ (parseMethodDescriptor yX0_records.desc).map (fun d => d.parameters.length) = some 2 := by decide +kernel
def wsX0_entry : List Cond := Cond.code yX0_entry cX0_entry 4 (some .int) :: am_all
theorem dc_X0_entry : yX0_entry.cls ≠ "java/lang/invoke/MethodHandle" ∧ yX0_entry.cls ≠ "java/lang/invoke/VarHandle" ∧ (parseMethodDescriptor yX0_entry.desc).map (fun d => d.parameters.length) = some 2 := by decide +kernel
def wsX1_has : List Cond := Cond.code yX1_has cX1_has 2 (some .boolean) :: am_all
theorem dc_X1_has : yX1_has.cls ≠ "java/lang/invoke/MethodHandle" ∧ yX1_has.cls ≠ "java/lang/invoke/VarHandle" ∧ (parseMethodDescriptor yX1_has.desc).map (fun d => d.parameters.length) = some 1 := by decide +kernel
def wsX0_content : List Cond := Cond.code yX0_content cX0_content 4 (some .int) :: am_all
theorem dc_X0_content : yX0_content.cls ≠ "java/lang/invoke/MethodHandle" ∧ yX0_content.cls ≠ "java/lang/invoke/VarHandle" ∧ (parseMethodDescriptor yX0_content.desc).map (fun d => d.parameters.length) = some 2 := by decide +kernel
def wsX0_messages : List Cond := Cond.code yX0_messages cX0_messages 1 (some .int) :: am_all
theorem dc_X0_messages : yX0_messages.cls ≠ "java/lang/invoke/MethodHandle" ∧ yX0_messages.cls ≠ "java/lang/invoke/VarHandle" ∧ (parseMethodDescriptor yX0_messages.desc).map (fun d => d.parameters.length) = some 0 := by decide +kernel
def wsX0_message : List Cond := Cond.code yX0_message cX0_message 3 (some .int) :: am_all
theorem dc_X0_message : yX0_message.cls ≠ "java/lang/invoke/MethodHandle" ∧ yX0_message.cls ≠ "java/lang/invoke/VarHandle" ∧ (parseMethodDescriptor yX0_message.desc).map (fun d => d.parameters.length) = some 2 := by decide +kernel
def wsX0_forced : List Cond := Cond.code yX0_forced cX0_forced 2 (some .int) :: am_all
theorem dc_X0_forced : yX0_forced.cls ≠ "java/lang/invoke/MethodHandle" ∧ yX0_forced.cls ≠ "java/lang/invoke/VarHandle" ∧ (parseMethodDescriptor yX0_forced.desc).map (fun d => d.parameters.length) = some 1 := by decide +kernel
def wsX5_init : List Cond := Cond.code yX5_init cX5_init 1 none :: am_all
theorem dc_X5_init : yX5_init.cls ≠ "java/lang/invoke/MethodHandle" ∧ yX5_init.cls ≠ "java/lang/invoke/VarHandle" ∧ (parseMethodDescriptor yX5_init.desc).map (fun d => d.parameters.length) = some 0 := by decide +kernel
def wsX5_begin : List Cond := Cond.code yX5_begin cX5_begin 2 (some .int) :: am_all
theorem dc_X5_begin : yX5_begin.cls ≠ "java/lang/invoke/MethodHandle" ∧ yX5_begin.cls ≠ "java/lang/invoke/VarHandle" ∧ (parseMethodDescriptor yX5_begin.desc).map (fun d => d.parameters.length) = some 1 := by decide +kernel
def wsX5_noNode : List Cond := Cond.code yX5_noNode cX5_noNode 1 (some .boolean) :: am_all
theorem dc_X5_noNode : yX5_noNode.cls ≠ "java/lang/invoke/MethodHandle" ∧ yX5_noNode.cls ≠ "java/lang/invoke/VarHandle" ∧ (parseMethodDescriptor yX5_noNode.desc).map (fun d => d.parameters.length) = some 1 := by decide +kernel
def wsX5_work : List Cond := Cond.code yX5_work cX5_work 6 (some .int) :: am_all
theorem dc_X5_work : yX5_work.cls ≠ "java/lang/invoke/MethodHandle" ∧ yX5_work.cls ≠ "java/lang/invoke/VarHandle" ∧ (parseMethodDescriptor yX5_work.desc).map (fun d => d.parameters.length) = some 3 := by decide +kernel
def wsX5_noWork : List Cond := Cond.code yX5_noWork cX5_noWork 2 (some .boolean) :: am_all
theorem dc_X5_noWork : yX5_noWork.cls ≠ "java/lang/invoke/MethodHandle" ∧ yX5_noWork.cls ≠ "java/lang/invoke/VarHandle" ∧ (parseMethodDescriptor yX5_noWork.desc).map (fun d => d.parameters.length) = some 1 := by decide +kernel
def wsX5_commit : List Cond := Cond.code yX5_commit cX5_commit 4 (some .int) :: am_all
theorem dc_X5_commit : yX5_commit.cls ≠ "java/lang/invoke/MethodHandle" ∧ yX5_commit.cls ≠ "java/lang/invoke/VarHandle" ∧ (parseMethodDescriptor yX5_commit.desc).map (fun d => d.parameters.length) = some 1 := by decide +kernel
def wsX5_send : List Cond := Cond.code yX5_send cX5_send 5 none :: am_all
theorem dc_X5_send : yX5_send.cls ≠ "java/lang/invoke/MethodHandle" ∧ yX5_send.cls ≠ "java/lang/invoke/VarHandle" ∧ (parseMethodDescriptor yX5_send.desc).map (fun d => d.parameters.length) = some 4 := by decide +kernel
def wsX5_forget : List Cond := Cond.code yX5_forget cX5_forget 3 none :: am_all
theorem dc_X5_forget : yX5_forget.cls ≠ "java/lang/invoke/MethodHandle" ∧ yX5_forget.cls ≠ "java/lang/invoke/VarHandle" ∧ (parseMethodDescriptor yX5_forget.desc).map (fun d => d.parameters.length) = some 1 := by decide +kernel
def wsX5_withdraw : List Cond := Cond.code yX5_withdraw cX5_withdraw 2 (some .int) :: am_all
theorem dc_X5_withdraw : yX5_withdraw.cls ≠ "java/lang/invoke/MethodHandle" ∧ yX5_withdraw.cls ≠ "java/lang/invoke/VarHandle" ∧ (parseMethodDescriptor yX5_withdraw.desc).map (fun d => d.parameters.length) = some 1 := by decide +kernel
def wsX5_pullBack : List Cond := Cond.code yX5_pullBack cX5_pullBack 5 (some .int) :: am_all
theorem dc_X5_pullBack : yX5_pullBack.cls ≠ "java/lang/invoke/MethodHandle" ∧ yX5_pullBack.cls ≠ "java/lang/invoke/VarHandle" ∧ (parseMethodDescriptor yX5_pullBack.desc).map (fun d => d.parameters.length) = some 2 := by decide +kernel
def wsX5_write : List Cond := Cond.code yX5_write cX5_write 6 none :: am_all
theorem dc_X5_write : yX5_write.cls ≠ "java/lang/invoke/MethodHandle" ∧ yX5_write.cls ≠ "java/lang/invoke/VarHandle" ∧ (parseMethodDescriptor yX5_write.desc).map (fun d => d.parameters.length) = some 4 := by decide +kernel
def wsX5_deliver : List Cond := Cond.code yX5_deliver cX5_deliver 6 (some .int) :: am_all
theorem dc_X5_deliver : yX5_deliver.cls ≠ "java/lang/invoke/MethodHandle" ∧ yX5_deliver.cls ≠ "java/lang/invoke/VarHandle" ∧ (parseMethodDescriptor yX5_deliver.desc).map (fun d => d.parameters.length) = some 1 := by decide +kernel
def wsX5_take : List Cond := Cond.code yX5_take cX5_take 3 none :: am_all
theorem dc_X5_take : yX5_take.cls ≠ "java/lang/invoke/MethodHandle" ∧ yX5_take.cls ≠ "java/lang/invoke/VarHandle" ∧ (parseMethodDescriptor yX5_take.desc).map (fun d => d.parameters.length) = some 1 := by decide +kernel
def wsX5_hear : List Cond := Cond.code yX5_hear cX5_hear 5 none :: am_all
theorem dc_X5_hear : yX5_hear.cls ≠ "java/lang/invoke/MethodHandle" ∧ yX5_hear.cls ≠ "java/lang/invoke/VarHandle" ∧ (parseMethodDescriptor yX5_hear.desc).map (fun d => d.parameters.length) = some 4 := by decide +kernel
def wsX5_hearPrepare : List Cond := Cond.code yX5_hearPrepare cX5_hearPrepare 6 none :: am_all
theorem dc_X5_hearPrepare : yX5_hearPrepare.cls ≠ "java/lang/invoke/MethodHandle" ∧ yX5_hearPrepare.cls ≠ "java/lang/invoke/VarHandle" ∧ (parseMethodDescriptor yX5_hearPrepare.desc).map (fun d => d.parameters.length) = some 3 := by decide +kernel
def wsX5_giveUp : List Cond := Cond.code yX5_giveUp cX5_giveUp 3 none :: am_all
theorem dc_X5_giveUp : yX5_giveUp.cls ≠ "java/lang/invoke/MethodHandle" ∧ yX5_giveUp.cls ≠ "java/lang/invoke/VarHandle" ∧ (parseMethodDescriptor yX5_giveUp.desc).map (fun d => d.parameters.length) = some 2 := by decide +kernel
def wsX5_letGo : List Cond := Cond.code yX5_letGo cX5_letGo 4 none :: am_all
theorem dc_X5_letGo : yX5_letGo.cls ≠ "java/lang/invoke/MethodHandle" ∧ yX5_letGo.cls ≠ "java/lang/invoke/VarHandle" ∧ (parseMethodDescriptor yX5_letGo.desc).map (fun d => d.parameters.length) = some 2 := by decide +kernel
def wsX5_holding : List Cond := Cond.code yX5_holding cX5_holding 5 (some .int) :: am_all
theorem dc_X5_holding : yX5_holding.cls ≠ "java/lang/invoke/MethodHandle" ∧ yX5_holding.cls ≠ "java/lang/invoke/VarHandle" ∧ (parseMethodDescriptor yX5_holding.desc).map (fun d => d.parameters.length) = some 2 := by decide +kernel
def wsX5_force : List Cond := Cond.code yX5_force cX5_force 6 none :: am_all
theorem dc_X5_force : yX5_force.cls ≠ "java/lang/invoke/MethodHandle" ∧ yX5_force.cls ≠ "java/lang/invoke/VarHandle" ∧ (parseMethodDescriptor yX5_force.desc).map (fun d => d.parameters.length) = some 4 := by decide +kernel
def wsX5_hearVote : List Cond := Cond.code yX5_hearVote cX5_hearVote 5 none :: am_all
theorem dc_X5_hearVote : yX5_hearVote.cls ≠ "java/lang/invoke/MethodHandle" ∧ yX5_hearVote.cls ≠ "java/lang/invoke/VarHandle" ∧ (parseMethodDescriptor yX5_hearVote.desc).map (fun d => d.parameters.length) = some 3 := by decide +kernel
def wsX5_decide : List Cond := Cond.code yX5_decide cX5_decide 4 none :: am_all
theorem dc_X5_decide : yX5_decide.cls ≠ "java/lang/invoke/MethodHandle" ∧ yX5_decide.cls ≠ "java/lang/invoke/VarHandle" ∧ (parseMethodDescriptor yX5_decide.desc).map (fun d => d.parameters.length) = some 1 := by decide +kernel
def wsX5_bits : List Cond := Cond.code yX5_bits cX5_bits 7 (some .int) :: am_all
theorem dc_X5_bits : yX5_bits.cls ≠ "java/lang/invoke/MethodHandle" ∧ yX5_bits.cls ≠ "java/lang/invoke/VarHandle" ∧ (parseMethodDescriptor yX5_bits.desc).map (fun d => d.parameters.length) = some 2 := by decide +kernel
def wsX5_sendDue : List Cond := Cond.code yX5_sendDue cX5_sendDue 3 none :: am_all
theorem dc_X5_sendDue : yX5_sendDue.cls ≠ "java/lang/invoke/MethodHandle" ∧ yX5_sendDue.cls ≠ "java/lang/invoke/VarHandle" ∧ (parseMethodDescriptor yX5_sendDue.desc).map (fun d => d.parameters.length) = some 1 := by decide +kernel
def wsX5_hearAck : List Cond := Cond.code yX5_hearAck cX5_hearAck 3 none :: am_all
theorem dc_X5_hearAck : yX5_hearAck.cls ≠ "java/lang/invoke/MethodHandle" ∧ yX5_hearAck.cls ≠ "java/lang/invoke/VarHandle" ∧ (parseMethodDescriptor yX5_hearAck.desc).map (fun d => d.parameters.length) = some 2 := by decide +kernel
def wsX5_lose : List Cond := Cond.code yX5_lose cX5_lose 3 (some .int) :: am_all
theorem dc_X5_lose : yX5_lose.cls ≠ "java/lang/invoke/MethodHandle" ∧ yX5_lose.cls ≠ "java/lang/invoke/VarHandle" ∧ (parseMethodDescriptor yX5_lose.desc).map (fun d => d.parameters.length) = some 1 := by decide +kernel
def wsX5_expire : List Cond := Cond.code yX5_expire cX5_expire 6 (some .int) :: am_all
theorem dc_X5_expire : yX5_expire.cls ≠ "java/lang/invoke/MethodHandle" ∧ yX5_expire.cls ≠ "java/lang/invoke/VarHandle" ∧ (parseMethodDescriptor yX5_expire.desc).map (fun d => d.parameters.length) = some 3 := by decide +kernel
def wsX5_crash : List Cond := Cond.code yX5_crash cX5_crash 3 (some .int) :: am_all
theorem dc_X5_crash : yX5_crash.cls ≠ "java/lang/invoke/MethodHandle" ∧ yX5_crash.cls ≠ "java/lang/invoke/VarHandle" ∧ (parseMethodDescriptor yX5_crash.desc).map (fun d => d.parameters.length) = some 1 := by decide +kernel
def wsX5_recover : List Cond := Cond.code yX5_recover cX5_recover 4 (some .int) :: am_all
theorem dc_X5_recover : yX5_recover.cls ≠ "java/lang/invoke/MethodHandle" ∧ yX5_recover.cls ≠ "java/lang/invoke/VarHandle" ∧ (parseMethodDescriptor yX5_recover.desc).map (fun d => d.parameters.length) = some 1 := by decide +kernel
def wsX5_recoverMember : List Cond := Cond.code yX5_recoverMember cX5_recoverMember 5 (some .int) :: am_all
theorem dc_X5_recoverMember : yX5_recoverMember.cls ≠ "java/lang/invoke/MethodHandle" ∧ yX5_recoverMember.cls ≠ "java/lang/invoke/VarHandle" ∧ (parseMethodDescriptor yX5_recoverMember.desc).map (fun d => d.parameters.length) = some 2 := by decide +kernel
def wsX5_logged : List Cond := Cond.code yX5_logged cX5_logged 5 (some .int) :: am_all
theorem dc_X5_logged : yX5_logged.cls ≠ "java/lang/invoke/MethodHandle" ∧ yX5_logged.cls ≠ "java/lang/invoke/VarHandle" ∧ (parseMethodDescriptor yX5_logged.desc).map (fun d => d.parameters.length) = some 3 := by decide +kernel
def wsX5_recoverChief : List Cond := Cond.code yX5_recoverChief cX5_recoverChief 6 (some .int) :: am_all
theorem dc_X5_recoverChief : yX5_recoverChief.cls ≠ "java/lang/invoke/MethodHandle" ∧ yX5_recoverChief.cls ≠ "java/lang/invoke/VarHandle" ∧ (parseMethodDescriptor yX5_recoverChief.desc).map (fun d => d.parameters.length) = some 2 := by decide +kernel
def wsX5_up : List Cond := Cond.code yX5_up cX5_up 2 (some .boolean) :: am_all
theorem dc_X5_up : yX5_up.cls ≠ "java/lang/invoke/MethodHandle" ∧ yX5_up.cls ≠ "java/lang/invoke/VarHandle" ∧ (parseMethodDescriptor yX5_up.desc).map (fun d => d.parameters.length) = some 1 := by decide +kernel
def wsX5_stage : List Cond := Cond.code yX5_stage cX5_stage 2 (some .int) :: am_all
theorem dc_X5_stage : yX5_stage.cls ≠ "java/lang/invoke/MethodHandle" ∧ yX5_stage.cls ≠ "java/lang/invoke/VarHandle" ∧ (parseMethodDescriptor yX5_stage.desc).map (fun d => d.parameters.length) = some 1 := by decide +kernel
def wsX5_nodes : List Cond := Cond.code yX5_nodes cX5_nodes 3 (some .int) :: am_all
theorem dc_X5_nodes : yX5_nodes.cls ≠ "java/lang/invoke/MethodHandle" ∧ yX5_nodes.cls ≠ "java/lang/invoke/VarHandle" ∧ (parseMethodDescriptor yX5_nodes.desc).map (fun d => d.parameters.length) = some 2 := by decide +kernel
def wsX5_state : List Cond := Cond.code yX5_state cX5_state 3 (some .int) :: am_all
theorem dc_X5_state : yX5_state.cls ≠ "java/lang/invoke/MethodHandle" ∧ yX5_state.cls ≠ "java/lang/invoke/VarHandle" ∧ (parseMethodDescriptor yX5_state.desc).map (fun d => d.parameters.length) = some 2 := by decide +kernel
def wsX5_holder : List Cond := Cond.code yX5_holder cX5_holder 3 (some .int) :: am_all
theorem dc_X5_holder : yX5_holder.cls ≠ "java/lang/invoke/MethodHandle" ∧ yX5_holder.cls ≠ "java/lang/invoke/VarHandle" ∧ (parseMethodDescriptor yX5_holder.desc).map (fun d => d.parameters.length) = some 2 := by decide +kernel
def wsX5_records : List Cond := Cond.code yX5_records cX5_records 5 (some .int) :: am_all
theorem dc_X5_records : yX5_records.cls ≠ "java/lang/invoke/MethodHandle" ∧ yX5_records.cls ≠ "java/lang/invoke/VarHandle" ∧ (parseMethodDescriptor yX5_records.desc).map (fun d => d.parameters.length) = some 2 := by decide +kernel
def wsX5_entry : List Cond := Cond.code yX5_entry cX5_entry 3 (some .int) :: am_all
theorem dc_X5_entry : yX5_entry.cls ≠ "java/lang/invoke/MethodHandle" ∧ yX5_entry.cls ≠ "java/lang/invoke/VarHandle" ∧ (parseMethodDescriptor yX5_entry.desc).map (fun d => d.parameters.length) = some 2 := by decide +kernel
def wsX5_isRecord : List Cond := Cond.code yX5_isRecord cX5_isRecord 3 (some .boolean) :: am_all
theorem dc_X5_isRecord : yX5_isRecord.cls ≠ "java/lang/invoke/MethodHandle" ∧ yX5_isRecord.cls ≠ "java/lang/invoke/VarHandle" ∧ (parseMethodDescriptor yX5_isRecord.desc).map (fun d => d.parameters.length) = some 2 := by decide +kernel
def wsX5_content : List Cond := Cond.code yX5_content cX5_content 3 (some .int) :: am_all
theorem dc_X5_content : yX5_content.cls ≠ "java/lang/invoke/MethodHandle" ∧ yX5_content.cls ≠ "java/lang/invoke/VarHandle" ∧ (parseMethodDescriptor yX5_content.desc).map (fun d => d.parameters.length) = some 2 := by decide +kernel
def wsX5_messages : List Cond := Cond.code yX5_messages cX5_messages 1 (some .int) :: am_all
theorem dc_X5_messages : yX5_messages.cls ≠ "java/lang/invoke/MethodHandle" ∧ yX5_messages.cls ≠ "java/lang/invoke/VarHandle" ∧ (parseMethodDescriptor yX5_messages.desc).map (fun d => d.parameters.length) = some 0 := by decide +kernel
def wsX5_message : List Cond := Cond.code yX5_message cX5_message 3 (some .int) :: am_all
theorem dc_X5_message : yX5_message.cls ≠ "java/lang/invoke/MethodHandle" ∧ yX5_message.cls ≠ "java/lang/invoke/VarHandle" ∧ (parseMethodDescriptor yX5_message.desc).map (fun d => d.parameters.length) = some 2 := by decide +kernel
def wsX5_forced : List Cond := Cond.code yX5_forced cX5_forced 2 (some .int) :: am_all
theorem dc_X5_forced : yX5_forced.cls ≠ "java/lang/invoke/MethodHandle" ∧ yX5_forced.cls ≠ "java/lang/invoke/VarHandle" ∧ (parseMethodDescriptor yX5_forced.desc).map (fun d => d.parameters.length) = some 1 := by decide +kernel
end
section
/-! the memory: kind, number, place; a world of cells, read off the memory; rows over it -/
abbrev am_N : Type := Nat → Nat → Nat → Nat
abbrev am_M : Type := am_N × am_N
def am_u (x : am_N) (a b k v : Nat) : am_N := fun a' b' k' => if a' = a ∧ b' = b ∧ k' = k then v else x a' b' k'
abbrev am_c1 (M : am_M) (a b k v : Nat) : am_M := (am_u M.1 a b k v, M.2)
abbrev am_c2 (M : am_M) (a b k v : Nat) : am_M := (M.1, am_u M.2 a b k v)
abbrev am_Sh : Type := (ClassId × Nat) ⊕ (ClassId × Nat × (Nat → Nat)) ⊕ (Nat × List (Option Nat))
def am_fv (ad : Nat → Nat) (x : Nat) (o : Option Nat) : Value := match o with
  | none => .int (nI x)
  | some j => .ref (ad j)
def am_fl (ad : Nat → Nat) (r : Nat → Nat) : Nat → List (Option Nat) → List Value
  | _, [] => []
  | k, o :: l => am_fv ad (r k) o :: am_fl ad r (k + 1) l
theorem am_fl_get (ad : Nat → Nat) (r : Nat → Nat) : ∀ (fs : List (Option Nat)) (k j : Nat), (am_fl ad r k fs)[j]? = (fs[j]?).map (fun o => am_fv ad (r (k + j)) o)
  | [], k, j => by simp [am_fl]
  | o :: l, k, 0 => by simp [am_fl]
  | o :: l, k, j + 1 => by
    show (am_fl ad r (k + 1) l)[j]? = (l[j]?).map _
    rw [am_fl_get ad r l (k + 1) j, show k + 1 + j = k + (j + 1) by omega]
theorem am_fl_len (ad : Nat → Nat) (r : Nat → Nat) : ∀ (fs : List (Option Nat)) (k : Nat), (am_fl ad r k fs).length = fs.length
  | [], _ => rfl
  | _ :: l, k => by
    show (am_fl ad r (k + 1) l).length + 1 = l.length + 1
    rw [am_fl_len ad r l (k + 1)]
theorem am_fvi {ad : Nat → Nat} {r : Nat → Nat} {fs : List (Option Nat)} {k : Nat} (h : fs[k]? = some none) : (am_fl ad r 0 fs)[k]? = some (.int (nI (r k))) := by
  rw [am_fl_get, h, Nat.zero_add]; rfl
theorem am_fvr {ad : Nat → Nat} {r : Nat → Nat} {fs : List (Option Nat)} {k j : Nat} (h : fs[k]? = some (some j)) : (am_fl ad r 0 fs)[k]? = some (.ref (ad j)) := by
  rw [am_fl_get, h]; rfl
theorem am_us {x : am_N} {a b k v : Nat} : am_u x a b k v a b = fun j => if j = k then v else x a b j := by
  funext j; simp [am_u]
theorem am_un {x : am_N} {a b k v a' b' : Nat} (h : ¬ (a' = a ∧ b' = b)) : am_u x a b k v a' b' = x a' b' := by
  funext j
  exact if_neg (fun q => h ⟨q.1, q.2.1⟩)
theorem am_fl_set {ad : Nat → Nat} {r : Nat → Nat} {fs : List (Option Nat)} {j v : Nat} (h : fs[j]? = some none) : (am_fl ad r 0 fs).set j (.int (nI v)) = am_fl ad (fun q => if q = j then v else r q) 0 fs := by
  apply List.ext_getElem?
  intro q
  rw [am_fl_get, List.getElem?_set]
  by_cases hq : j = q
  · subst hq
    rw [if_pos rfl, am_fl_len, if_pos (List.getElem?_eq_some_iff.mp h).1, h]
    simp [am_fv]
  · rw [if_neg hq, am_fl_get, if_neg (show ¬ 0 + q = j by omega)]
def am_c (ad : Nat → Nat) (r : Nat → Nat) (sh : am_Sh) : va_E := match sh with
  | .inl a => .inl (a.1, a.2, .inl (fun k => nI (r k)))
  | .inr (.inl a) => .inl (a.1, a.2.1, .inr (.inr (.inr (.inr (fun k => some (ad (a.2.2 k)))))))
  | .inr (.inr o) => .inr (o.1, am_fl ad r 0 o.2)
/-- which row of the memory a cell holds -/
def am_kb (i : Nat) : Nat × Nat :=
  if i = 0 then (0, 0) else if i = 1 then (10, 0) else if i = 2 then (11, 0) else if i = 3 then (1, 0) else if i = 4 then (12, 0)
  else if i < 9 then (2, i - 5)
  else if i < 33 then (3 + (i - 9) % 6, (i - 9) / 6)
  else if i < 43 then (9, i - 33)
  else if i = 43 then (20, 0)
  else (i - 23, 0)
theorem am_kb_inj : ∀ i, i < 63 → ∀ j, j < 63 → am_kb i = am_kb j → i = j := by decide +kernel
def am_rw (M : am_M) (i : Nat) : Nat → Nat := if i < 43 then M.1 (am_kb i).1 (am_kb i).2 else M.2 (am_kb i).1 (am_kb i).2
def am_pu (M : am_M) (i k v : Nat) : am_M := if i < 43 then am_c1 M (am_kb i).1 (am_kb i).2 k v else am_c2 M (am_kb i).1 (am_kb i).2 k v
theorem am_pus {M : am_M} {i k v : Nat} : am_rw (am_pu M i k v) i = fun j => if j = k then v else am_rw M i j := by
  unfold am_rw am_pu
  by_cases h : i < 43
  · simp only [if_pos h]
    exact am_us
  · simp only [if_neg h]
    exact am_us
theorem am_pun {M : am_M} {i j k v : Nat} (hi : i < 63) (hj : j < 63) (h : i ≠ j) : am_rw (am_pu M i k v) j = am_rw M j := by
  have hne : ¬ ((am_kb j).1 = (am_kb i).1 ∧ (am_kb j).2 = (am_kb i).2) := fun q => h (am_kb_inj i hi j hj (Prod.ext q.1.symm q.2.symm))
  unfold am_rw am_pu
  by_cases h1 : i < 43 <;> by_cases h2 : j < 43
  · simp only [if_pos h1, if_pos h2]
    exact am_un hne
  · simp only [if_pos h1, if_neg h2]
  · simp only [if_neg h1, if_pos h2]
  · simp only [if_neg h1, if_neg h2]
    exact am_un hne
def am_w (ad : Nat → Nat) (sh : Nat → am_Sh) (N : Nat) (M : am_M) : va_W := (List.range N).map (fun i => (ad i, am_c ad (am_rw M i) (sh i)))
theorem am_wg {ad : Nat → Nat} {sh : Nat → am_Sh} {N : Nat} {M : am_M} {i : Nat} (hi : i < N) : (am_w ad sh N M)[i]? = some (ad i, am_c ad (am_rw M i) (sh i)) := by
  rw [am_w, List.getElem?_map, List.getElem?_range hi]; rfl
theorem am_wl {ad : Nat → Nat} {sh : Nat → am_Sh} {N : Nat} {M : am_M} : (am_w ad sh N M).length = N := by simp [am_w]
theorem am_wset {ad : Nat → Nat} {sh : Nat → am_Sh} {M : am_M} {i k v : Nat} {e : va_E} (hi : i < 63) (he : e = am_c ad (fun j => if j = k then v else am_rw M i j) (sh i)) : (am_w ad sh 63 M).set i (ad i, e) = am_w ad sh 63 (am_pu M i k v) := by
  apply List.ext_getElem?
  intro q
  rw [List.getElem?_set]
  by_cases hq : i = q
  · subst hq
    rw [if_pos rfl, am_wl, if_pos hi, am_wg hi, he, am_pus]
  · rw [if_neg hq]
    by_cases hN : q < 63
    · rw [am_wg hN, am_wg hN, am_pun hi hN hq]
    · rw [List.getElem?_eq_none (by rw [am_wl]; omega), List.getElem?_eq_none (by rw [am_wl]; omega)]
def am_A (ad : Nat → Nat) (N : Nat) : Nat → Prop := fun q => ∃ i, i < N ∧ q = ad i
abbrev am_inj (ad : Nat → Nat) : Prop := ∀ i j, i < 63 → j < 63 → ad i = ad j → i = j
theorem am_wi {ad : Nat → Nat} {sh : Nat → am_Sh} {N : Nat} {M : am_M} {k : Nat} {q : Nat × va_E} (h : (am_w ad sh N M)[k]? = some q) : k < N ∧ q.1 = ad k := by
  have hk : k < N := by
    have h1 := (List.getElem?_eq_some_iff.mp h).1
    rw [am_wl] at h1
    exact h1
  rw [am_wg hk] at h
  exact ⟨hk, by rw [← Option.some.inj h]⟩
theorem am_D {ad : Nat → Nat} {sh : Nat → am_Sh} {M : am_M} (hI : am_inj ad) : va_D (am_A ad 63) (am_w ad sh 63 M) := by
  refine ⟨fun i j p q hi hj h => ?_, fun k q hk => ?_⟩
  · obtain ⟨h1, h2⟩ := am_wi hi
    obtain ⟨h3, h4⟩ := am_wi hj
    exact hI i j h1 h3 (by rw [← h2, ← h4]; exact h)
  · obtain ⟨h1, h2⟩ := am_wi hk
    exact ⟨k, h1, h2⟩
/-- what is known of a cell: its shape, its row of the memory, and the memory when it is written -/
abbrev am_is (ca : Nat → ClassId) (sh : (Nat → ClassId) → Nat → am_Sh) (i : Nat) (z : am_Sh) (r : am_M → Nat → Nat) (w : am_M → Nat → Nat → am_M) : Prop := sh ca i = z ∧ (∀ M, am_rw M i = r M) ∧ ∀ M k v, am_pu M i k v = w M k v
theorem am_wo {ad : Nat → Nat} {ca : Nat → ClassId} {sh : (Nat → ClassId) → Nat → am_Sh} {N : Nat} {M : am_M} {i ci : Nat} {r : am_M → Nat → Nat} {w : am_M → Nat → Nat → am_M} {fs : List (Option Nat)} (hi : i < N) (hs : am_is ca sh i (.inr (.inr (ci, fs))) r w) : (am_w ad (sh ca) N M)[i]? = some (ad i, .inr (ci, am_fl ad (r M) 0 fs)) := by
  rw [am_wg hi, hs.1, hs.2.1]; rfl
theorem am_wa {ad : Nat → Nat} {ca : Nat → ClassId} {sh : (Nat → ClassId) → Nat → am_Sh} {N : Nat} {M : am_M} {i n : Nat} {r : am_M → Nat → Nat} {w : am_M → Nat → Nat → am_M} {cA : ClassId} (hi : i < N) (hs : am_is ca sh i (.inl (cA, n)) r w) : (am_w ad (sh ca) N M)[i]? = some (ad i, .inl (cA, n, .inl (fun k => nI (r M k)))) := by
  rw [am_wg hi, hs.1, hs.2.1]; rfl
theorem am_wr {ad : Nat → Nat} {sh : Nat → am_Sh} {N : Nat} {M : am_M} {i n : Nat} {f : Nat → Nat} {cA : ClassId} (hi : i < N) (hs : sh i = .inr (.inl (cA, n, f))) : (am_w ad sh N M)[i]? = some (ad i, .inl (cA, n, .inr (.inr (.inr (.inr (fun k => some (ad (f k)))))))) := by
  rw [am_wg hi, hs]; rfl
abbrev am_let (x : Int32) (P : Int32 → Prop) : Prop := P x
abbrev am_ix (x : Int32) (n : Nat) (P : Nat → Prop) : Prop := ∃ k, k < n ∧ x = nI k ∧ P k
abbrev am_sa (w : Nat → Nat → am_M) (n : Nat) (x y : Int32) (P : am_M → Prop) : Prop := ∃ k v, k < n ∧ x = nI k ∧ y = nI v ∧ P (w k v)
abbrev am_sz (w : Nat → Nat → am_M) (n : Nat) (x y : Int32) (P : am_M → Prop) : Prop := ∃ k v, k < n ∧ x = nI k ∧ y = nI v ∧ v < 2 ∧ P (w k v)
abbrev am_sf (w : Nat → am_M) (y : Int32) (P : am_M → Prop) : Prop := ∃ v, y = nI v ∧ P (w v)
abbrev am_sfz (w : Nat → am_M) (y : Int32) (P : am_M → Prop) : Prop := ∃ v, y = nI v ∧ v < 2 ∧ P (w v)
end
section
/-! rows over the world: one an instruction -/
abbrev am_ty (ca : Nat → ClassId) : List (ClassId × FieldType) := [(ca 0, .int), (ca 1, .boolean), (ca 2, .object RX3), (ca 3, .object RX4), (ca 4, .array .int)]
def am_sh (ca : Nat → ClassId) (i : Nat) : am_Sh :=
  if i = 0 then .inr (.inr (0, [some 1, some 2, some 3, none]))
  else if i = 1 then .inr (.inl (ca 2, 4, fun k => 9 + 6 * k))
  else if i = 2 then .inr (.inl (ca 3, 10, fun k => 33 + k))
  else if i = 3 then .inr (.inr (2, [some 4, none]))
  else if i = 4 then .inr (.inl (ca 4, 4, fun k => 5 + k))
  else if i < 9 then .inl (ca 0, 40)
  else if i < 33 then
    (if (i - 9) % 6 = 0 then .inr (.inr (3, [none, some (i + 1), some (i + 2), some (i + 3)]))
    else if (i - 9) % 6 = 1 then .inl (ca 0, 10)
    else if (i - 9) % 6 = 2 then .inl (ca 0, 10)
    else if (i - 9) % 6 = 3 then .inr (.inr (1, [some (i + 1), some (i + 2), none, none, none]))
    else .inl (ca 0, 60))
  else if i < 43 then .inr (.inr (4, [none, none, none, none, none, none]))
  else if i = 43 then .inr (.inr (5, [some 44, some 45, none, some 46, some 47, some 48, some 49, some 50, some 51, some 52, some 53, some 54, some 55, some 56, some 57, some 58, none, some 59, some 60, some 61, some 62]))
  else if i = 44 then .inl (ca 1, 4)
  else if i = 45 then .inl (ca 0, 4)
  else if i < 48 then .inl (ca 0, 10)
  else if i < 52 then .inl (ca 1, 40)
  else if i = 52 then .inl (ca 0, 40)
  else if i = 53 then .inl (ca 0, 32)
  else if i = 54 then .inl (ca 0, 4)
  else if i < 58 then .inl (ca 0, 256)
  else if i = 58 then .inl (ca 1, 256)
  else .inl (ca 0, 40)
theorem am_4 {P : Nat → Prop} {n : Nat} (hn : n < 4) (h0 : P 0) (h1 : P 1) (h2 : P 2) (h3 : P 3) : P n := by
  have h : n = 0 ∨ n = 1 ∨ n = 2 ∨ n = 3 := by omega
  rcases h with rfl | rfl | rfl | rfl
  · exact h0
  · exact h1
  · exact h2
  · exact h3
theorem am_10 {P : Nat → Prop} {n : Nat} (hn : n < 10) (h0 : P 0) (h1 : P 1) (h2 : P 2) (h3 : P 3) (h4 : P 4) (h5 : P 5) (h6 : P 6) (h7 : P 7) (h8 : P 8) (h9 : P 9) : P n := by
  have h : n = 0 ∨ n = 1 ∨ n = 2 ∨ n = 3 ∨ n = 4 ∨ n = 5 ∨ n = 6 ∨ n = 7 ∨ n = 8 ∨ n = 9 := by omega
  rcases h with rfl | rfl | rfl | rfl | rfl | rfl | rfl | rfl | rfl | rfl <;> assumption
theorem am_s_outer (ca : Nat → ClassId) : am_is ca am_sh 0 (.inr (.inr (0, [some 1, some 2, some 3, none]))) (fun M => M.1 0 0) (fun M => am_c1 M 0 0) := ⟨rfl, fun _ => rfl, fun _ _ _ => rfl⟩
theorem am_s_nodes (ca : Nat → ClassId) : am_sh ca 1 = .inr (.inl (ca 2, 4, fun k => 9 + 6 * k)) := rfl
theorem am_s_trans (ca : Nat → ClassId) : am_sh ca 2 = .inr (.inl (ca 3, 10, fun k => 33 + k)) := rfl
theorem am_s_row (ca : Nat → ClassId) : am_is ca am_sh 3 (.inr (.inr (2, [some 4, none]))) (fun M => M.1 1 0) (fun M => am_c1 M 1 0) := ⟨rfl, fun _ => rfl, fun _ _ _ => rfl⟩
theorem am_s_parts (ca : Nat → ClassId) : am_sh ca 4 = .inr (.inl (ca 4, 4, fun k => 5 + k)) := rfl
theorem am_s_part (ca : Nat → ClassId) {n : Nat} (hn : n < 4) : am_is ca am_sh (5 + n) (.inl (ca 0, 40)) (fun M => M.1 2 n) (fun M => am_c1 M 2 n) := am_4 (P := fun n => am_is ca am_sh (5 + n) (.inl (ca 0, 40)) (fun M => M.1 2 n) (fun M => am_c1 M 2 n)) hn ⟨rfl, fun _ => rfl, fun _ _ _ => rfl⟩ ⟨rfl, fun _ => rfl, fun _ _ _ => rfl⟩ ⟨rfl, fun _ => rfl, fun _ _ _ => rfl⟩ ⟨rfl, fun _ => rfl, fun _ _ _ => rfl⟩
theorem am_s_node (ca : Nat → ClassId) {n : Nat} (hn : n < 4) : am_is ca am_sh (9 + 6 * n) (.inr (.inr (3, [none, some (10 + 6 * n), some (11 + 6 * n), some (12 + 6 * n)]))) (fun M => M.1 3 n) (fun M => am_c1 M 3 n) := am_4 (P := fun n => am_is ca am_sh (9 + 6 * n) (.inr (.inr (3, [none, some (10 + 6 * n), some (11 + 6 * n), some (12 + 6 * n)]))) (fun M => M.1 3 n) (fun M => am_c1 M 3 n)) hn ⟨rfl, fun _ => rfl, fun _ _ _ => rfl⟩ ⟨rfl, fun _ => rfl, fun _ _ _ => rfl⟩ ⟨rfl, fun _ => rfl, fun _ _ _ => rfl⟩ ⟨rfl, fun _ => rfl, fun _ _ _ => rfl⟩
theorem am_s_states (ca : Nat → ClassId) {n : Nat} (hn : n < 4) : am_is ca am_sh (10 + 6 * n) (.inl (ca 0, 10)) (fun M => M.1 4 n) (fun M => am_c1 M 4 n) := am_4 (P := fun n => am_is ca am_sh (10 + 6 * n) (.inl (ca 0, 10)) (fun M => M.1 4 n) (fun M => am_c1 M 4 n)) hn ⟨rfl, fun _ => rfl, fun _ _ _ => rfl⟩ ⟨rfl, fun _ => rfl, fun _ _ _ => rfl⟩ ⟨rfl, fun _ => rfl, fun _ _ _ => rfl⟩ ⟨rfl, fun _ => rfl, fun _ _ _ => rfl⟩
theorem am_s_held (ca : Nat → ClassId) {n : Nat} (hn : n < 4) : am_is ca am_sh (11 + 6 * n) (.inl (ca 0, 10)) (fun M => M.1 5 n) (fun M => am_c1 M 5 n) := am_4 (P := fun n => am_is ca am_sh (11 + 6 * n) (.inl (ca 0, 10)) (fun M => M.1 5 n) (fun M => am_c1 M 5 n)) hn ⟨rfl, fun _ => rfl, fun _ _ _ => rfl⟩ ⟨rfl, fun _ => rfl, fun _ _ _ => rfl⟩ ⟨rfl, fun _ => rfl, fun _ _ _ => rfl⟩ ⟨rfl, fun _ => rfl, fun _ _ _ => rfl⟩
theorem am_s_log (ca : Nat → ClassId) {n : Nat} (hn : n < 4) : am_is ca am_sh (12 + 6 * n) (.inr (.inr (1, [some (13 + 6 * n), some (14 + 6 * n), none, none, none]))) (fun M => M.1 6 n) (fun M => am_c1 M 6 n) := am_4 (P := fun n => am_is ca am_sh (12 + 6 * n) (.inr (.inr (1, [some (13 + 6 * n), some (14 + 6 * n), none, none, none]))) (fun M => M.1 6 n) (fun M => am_c1 M 6 n)) hn ⟨rfl, fun _ => rfl, fun _ _ _ => rfl⟩ ⟨rfl, fun _ => rfl, fun _ _ _ => rfl⟩ ⟨rfl, fun _ => rfl, fun _ _ _ => rfl⟩ ⟨rfl, fun _ => rfl, fun _ _ _ => rfl⟩
theorem am_s_labels (ca : Nat → ClassId) {n : Nat} (hn : n < 4) : am_is ca am_sh (13 + 6 * n) (.inl (ca 0, 60)) (fun M => M.1 7 n) (fun M => am_c1 M 7 n) := am_4 (P := fun n => am_is ca am_sh (13 + 6 * n) (.inl (ca 0, 60)) (fun M => M.1 7 n) (fun M => am_c1 M 7 n)) hn ⟨rfl, fun _ => rfl, fun _ _ _ => rfl⟩ ⟨rfl, fun _ => rfl, fun _ _ _ => rfl⟩ ⟨rfl, fun _ => rfl, fun _ _ _ => rfl⟩ ⟨rfl, fun _ => rfl, fun _ _ _ => rfl⟩
theorem am_s_contents (ca : Nat → ClassId) {n : Nat} (hn : n < 4) : am_is ca am_sh (14 + 6 * n) (.inl (ca 0, 60)) (fun M => M.1 8 n) (fun M => am_c1 M 8 n) := am_4 (P := fun n => am_is ca am_sh (14 + 6 * n) (.inl (ca 0, 60)) (fun M => M.1 8 n) (fun M => am_c1 M 8 n)) hn ⟨rfl, fun _ => rfl, fun _ _ _ => rfl⟩ ⟨rfl, fun _ => rfl, fun _ _ _ => rfl⟩ ⟨rfl, fun _ => rfl, fun _ _ _ => rfl⟩ ⟨rfl, fun _ => rfl, fun _ _ _ => rfl⟩
theorem am_s_tx (ca : Nat → ClassId) {n : Nat} (hn : n < 10) : am_is ca am_sh (33 + n) (.inr (.inr (4, [none, none, none, none, none, none]))) (fun M => M.1 9 n) (fun M => am_c1 M 9 n) := am_10 (P := fun n => am_is ca am_sh (33 + n) (.inr (.inr (4, [none, none, none, none, none, none]))) (fun M => M.1 9 n) (fun M => am_c1 M 9 n)) hn ⟨rfl, fun _ => rfl, fun _ _ _ => rfl⟩ ⟨rfl, fun _ => rfl, fun _ _ _ => rfl⟩ ⟨rfl, fun _ => rfl, fun _ _ _ => rfl⟩ ⟨rfl, fun _ => rfl, fun _ _ _ => rfl⟩ ⟨rfl, fun _ => rfl, fun _ _ _ => rfl⟩ ⟨rfl, fun _ => rfl, fun _ _ _ => rfl⟩ ⟨rfl, fun _ => rfl, fun _ _ _ => rfl⟩ ⟨rfl, fun _ => rfl, fun _ _ _ => rfl⟩ ⟨rfl, fun _ => rfl, fun _ _ _ => rfl⟩ ⟨rfl, fun _ => rfl, fun _ _ _ => rfl⟩
theorem am_s_model (ca : Nat → ClassId) : am_is ca am_sh 43 (.inr (.inr (5, [some 44, some 45, none, some 46, some 47, some 48, some 49, some 50, some 51, some 52, some 53, some 54, some 55, some 56, some 57, some 58, none, some 59, some 60, some 61, some 62]))) (fun M => M.2 20 0) (fun M => am_c2 M 20 0) := ⟨rfl, fun _ => rfl, fun _ _ _ => rfl⟩
theorem am_s_m_down (ca : Nat → ClassId) : am_is ca am_sh 44 (.inl (ca 1, 4)) (fun M => M.2 21 0) (fun M => am_c2 M 21 0) := ⟨rfl, fun _ => rfl, fun _ _ _ => rfl⟩
theorem am_s_m_forces (ca : Nat → ClassId) : am_is ca am_sh 45 (.inl (ca 0, 4)) (fun M => M.2 22 0) (fun M => am_c2 M 22 0) := ⟨rfl, fun _ => rfl, fun _ _ _ => rfl⟩
theorem am_s_m_chief (ca : Nat → ClassId) : am_is ca am_sh 46 (.inl (ca 0, 10)) (fun M => M.2 23 0) (fun M => am_c2 M 23 0) := ⟨rfl, fun _ => rfl, fun _ _ _ => rfl⟩
theorem am_s_m_stages (ca : Nat → ClassId) : am_is ca am_sh 47 (.inl (ca 0, 10)) (fun M => M.2 24 0) (fun M => am_c2 M 24 0) := ⟨rfl, fun _ => rfl, fun _ _ _ => rfl⟩
theorem am_s_m_member (ca : Nat → ClassId) : am_is ca am_sh 48 (.inl (ca 1, 40)) (fun M => M.2 25 0) (fun M => am_c2 M 25 0) := ⟨rfl, fun _ => rfl, fun _ _ _ => rfl⟩
theorem am_s_m_yes (ca : Nat → ClassId) : am_is ca am_sh 49 (.inl (ca 1, 40)) (fun M => M.2 26 0) (fun M => am_c2 M 26 0) := ⟨rfl, fun _ => rfl, fun _ _ _ => rfl⟩
theorem am_s_m_read (ca : Nat → ClassId) : am_is ca am_sh 50 (.inl (ca 1, 40)) (fun M => M.2 27 0) (fun M => am_c2 M 27 0) := ⟨rfl, fun _ => rfl, fun _ _ _ => rfl⟩
theorem am_s_m_due (ca : Nat → ClassId) : am_is ca am_sh 51 (.inl (ca 1, 40)) (fun M => M.2 28 0) (fun M => am_c2 M 28 0) := ⟨rfl, fun _ => rfl, fun _ _ _ => rfl⟩
theorem am_s_m_states (ca : Nat → ClassId) : am_is ca am_sh 52 (.inl (ca 0, 40)) (fun M => M.2 29 0) (fun M => am_c2 M 29 0) := ⟨rfl, fun _ => rfl, fun _ _ _ => rfl⟩
theorem am_s_m_held (ca : Nat → ClassId) : am_is ca am_sh 53 (.inl (ca 0, 32)) (fun M => M.2 30 0) (fun M => am_c2 M 30 0) := ⟨rfl, fun _ => rfl, fun _ _ _ => rfl⟩
theorem am_s_m_length (ca : Nat → ClassId) : am_is ca am_sh 54 (.inl (ca 0, 4)) (fun M => M.2 31 0) (fun M => am_c2 M 31 0) := ⟨rfl, fun _ => rfl, fun _ _ _ => rfl⟩
theorem am_s_m_logOf (ca : Nat → ClassId) : am_is ca am_sh 55 (.inl (ca 0, 256)) (fun M => M.2 32 0) (fun M => am_c2 M 32 0) := ⟨rfl, fun _ => rfl, fun _ _ _ => rfl⟩
theorem am_s_m_logKind (ca : Nat → ClassId) : am_is ca am_sh 56 (.inl (ca 0, 256)) (fun M => M.2 33 0) (fun M => am_c2 M 33 0) := ⟨rfl, fun _ => rfl, fun _ _ _ => rfl⟩
theorem am_s_m_logWhat (ca : Nat → ClassId) : am_is ca am_sh 57 (.inl (ca 0, 256)) (fun M => M.2 34 0) (fun M => am_c2 M 34 0) := ⟨rfl, fun _ => rfl, fun _ _ _ => rfl⟩
theorem am_s_m_logSafe (ca : Nat → ClassId) : am_is ca am_sh 58 (.inl (ca 1, 256)) (fun M => M.2 35 0) (fun M => am_c2 M 35 0) := ⟨rfl, fun _ => rfl, fun _ _ _ => rfl⟩
theorem am_s_m_kinds (ca : Nat → ClassId) : am_is ca am_sh 59 (.inl (ca 0, 40)) (fun M => M.2 36 0) (fun M => am_c2 M 36 0) := ⟨rfl, fun _ => rfl, fun _ _ _ => rfl⟩
theorem am_s_m_from (ca : Nat → ClassId) : am_is ca am_sh 60 (.inl (ca 0, 40)) (fun M => M.2 37 0) (fun M => am_c2 M 37 0) := ⟨rfl, fun _ => rfl, fun _ _ _ => rfl⟩
theorem am_s_m_to (ca : Nat → ClassId) : am_is ca am_sh 61 (.inl (ca 0, 40)) (fun M => M.2 38 0) (fun M => am_c2 M 38 0) := ⟨rfl, fun _ => rfl, fun _ _ _ => rfl⟩
theorem am_s_m_about (ca : Nat → ClassId) : am_is ca am_sh 62 (.inl (ca 0, 40)) (fun M => M.2 39 0) (fun M => am_c2 M 39 0) := ⟨rfl, fun _ => rfl, fun _ _ _ => rfl⟩
def am_Nw (t : State) : Prop := va_Nw (.methodLinkNest RX3 29 yX0_isIn RX0) t ∧ va_Nw (.methodLinkNest RX3 37 yX0_only RX0) t ∧ va_Nw (.methodLinkNest RX2 20 yX0_isIn RX0) t
theorem am_Nw.warm {s t : State} (hW : s.WarmedH t.vm) (h : am_Nw s) : am_Nw t := ⟨va_Nw.warmM hW h.1, va_Nw.warmM hW h.2.1, va_Nw.warmM hW h.2.2⟩
theorem am_Nw.same {s t : State} (hv : s.vm = t.vm) (h : am_Nw s) : am_Nw t := ⟨va_Nw.same rfl hv h.1, va_Nw.same rfl hv h.2.1, va_Nw.same rfl hv h.2.2⟩
abbrev am_B (dC : Nat → ClassId) (dI : Nat → Nat → Nat) (ca : Nat → ClassId) (ad : Nat → Nat) (M : am_M) (t : State) : Prop := va_P (dC, dI) vwCl (am_w ad (am_sh ca) 63 M) t.heap ∧ va_K (dC, dI) vwCl (am_ty ca) t ∧ am_Nw t
abbrev am_Qi (dC : Nat → ClassId) (dI : Nat → Nat → Nat) (ca : Nat → ClassId) (ad : Nat → Nat) (Q : Int32 → am_M → Prop) : Array Value → State → Outcome → State → Prop := va_Qi Q (am_B dC dI ca ad) (am_A ad 63)
abbrev am_Qv (dC : Nat → ClassId) (dI : Nat → Nat → Nat) (ca : Nat → ClassId) (ad : Nat → Nat) (Q : am_M → Prop) : Array Value → State → Outcome → State → Prop := va_Qv Q (am_B dC dI ca ad) (am_A ad 63)
abbrev am_Wi (p : Program) (l : Launch) (e : Env) (ws : List Cond) (rm : Room) (s : State) (m : MethodId) (args : Array Value) (below : List Frame) (meth : Method) (c : Code) (H : Heap) (locs : List Loc) (dC : Nat → ClassId) (dI : Nat → Nat → Nat) (ca : Nat → ClassId) (ad : Nat → Nat) (Q : Int32 → am_M → Prop) (g : JFrame) : Prop := W p l e (headSpec ws rm).room s m args below meth c H locs 0 0 (MQ below (am_Qi dC dI ca ad Q) args s 0 0 (am_A ad 63)) g
abbrev am_Wv (p : Program) (l : Launch) (e : Env) (ws : List Cond) (rm : Room) (s : State) (m : MethodId) (args : Array Value) (below : List Frame) (meth : Method) (c : Code) (H : Heap) (locs : List Loc) (dC : Nat → ClassId) (dI : Nat → Nat → Nat) (ca : Nat → ClassId) (ad : Nat → Nat) (Q : am_M → Prop) (g : JFrame) : Prop := W p l e (headSpec ws rm).room s m args below meth c H locs 0 0 (MQ below (am_Qv dC dI ca ad Q) args s 0 0 (am_A ad 63)) g
section AMR
variable {p : Program} {l : Launch} {e : Env} {R : Room} {s : State} {m : MethodId} {args : Array Value} {below : List Frame} {meth : Method} {c : Code} {H : Heap} {locs : List Loc} {cells slots : Nat} {Q : State → Prop}
variable {cc : ByteArray} {pc : Nat} {ls : Array Slot} {rest : List Value} {dC : Nat → ClassId} {dI : Nat → Nat → Nat} {ca : Nat → ClassId} {ad : Nat → Nat} {M : am_M}
theorem am_enter {A : Nat → Prop} {D : va_G} {cl : List vw_C} {ws : va_W} {g : JFrame} (hP : va_P D cl ws s.heap) (kk : ∀ (H : Heap) (locs : List Loc), va_P D cl ws H → va_S A s.heap H locs → W p l e R s m args below meth c H locs cells slots Q g) : W p l e R s m args below meth c s.heap [] cells slots Q g := kk _ _ hP va_S.rf
theorem am_topi {x : Int32} {P : Int32 → Prop} (h : am_let x P) (k : ∀ y : Int32, P y → W p l e R s m args below meth c H locs cells slots Q (F0 m pc ls (.int y :: rest))) : W p l e R s m args below meth c H locs cells slots Q (F0 m pc ls (.int x :: rest)) := k x h
theorem am_iinc {i nL k : Nat} {n : Int} {d x : Int32} {lv : List (Nat × Value)} {P : Int32 → Prop} (hx : p.tables.exec = Jvm.exec) (hb : c.code = cc) (hdg : decode cc pc = .ok (.iinc i n, 3)) (hl : lv_has ls nL lv) (hk : lv[k]? = some (i, .int x)) (hd : Int32.ofInt n = d) (hn : i < nL) (h : am_let (x + d) P)
    (kk : ∀ (y : Int32) (ls' : Array Slot), P y → lv_has ls' nL ((i, Value.int y) :: lv.filter (fun q => !(q.1 == i) && !(q.1 + 1 == i && q.2.category == 2))) → W p l e R s m args below meth c H locs cells slots Q (F0 m (pc + 3) ls' rest)) : W p l e R s m args below meth c H locs cells slots Q (F0 m pc ls rest) :=
  lv_iinc hx hb hdg hl hk (v := x + d) (by rw [hd]) hn rfl (fun ls' hl' => kk _ ls' h hl')
theorem am_iald (hx : p.tables.exec = Jvm.exec) (hb : c.code = cc) (hK : va_K (dC, dI) vwCl (am_ty ca) s) (hP : va_P (dC, dI) vwCl (am_w ad (am_sh ca) 63 M) H) {i n : Nat} {r : am_M → Nat → Nat} {w : am_M → Nat → Nat → am_M} (hi : i < 63) (hs : am_is ca am_sh i (.inl (ca 0, n)) r w) {x : Int32} {P : Nat → Prop} (h : am_ix x n P) (hdg : decode cc pc = .ok (.iaload, 1))
    (kk : ∀ k, k < n → P k → W p l e R s m args below meth c H locs cells slots Q (F0 m (pc + 1) ls (.int (nI (r M k)) :: rest))) (hn : n < 1000 := by decide) : W p l e R s m args below meth c H locs cells slots Q (F0 m pc ls (.int x :: .ref (ad i) :: rest)) := by
  obtain ⟨k, hk, rfl, h⟩ := h
  refine va_iald hx hb hK hP i 0 (am_wa hi hs) rfl (vp_in_nI hk (by omega)) hdg ?_
  rw [nI_clamp (by omega)]
  exact kk k hk h
theorem am_zald (hx : p.tables.exec = Jvm.exec) (hb : c.code = cc) (hK : va_K (dC, dI) vwCl (am_ty ca) s) (hP : va_P (dC, dI) vwCl (am_w ad (am_sh ca) 63 M) H) {i n : Nat} {r : am_M → Nat → Nat} {w : am_M → Nat → Nat → am_M} (hi : i < 63) (hs : am_is ca am_sh i (.inl (ca 1, n)) r w) {x : Int32} {P : Nat → Prop} (h : am_ix x n P) (hdg : decode cc pc = .ok (.baload, 1))
    (kk : ∀ k, k < n → P k → W p l e R s m args below meth c H locs cells slots Q (F0 m (pc + 1) ls (.int (nI (r M k)) :: rest))) (hn : n < 1000 := by decide) : W p l e R s m args below meth c H locs cells slots Q (F0 m pc ls (.int x :: .ref (ad i) :: rest)) := by
  obtain ⟨k, hk, rfl, h⟩ := h
  refine va_zald hx hb hK hP i 1 (am_wa hi hs) rfl (vp_in_nI hk (by omega)) hdg ?_
  rw [nI_clamp (by omega)]
  exact kk k hk h
theorem am_upd {r : Nat → Nat} {k v : Nat} : upd (fun j => nI (r j)) k (nI v) = fun j => nI (if j = k then v else r j) := by
  funext j
  by_cases hj : j = k
  · subst hj; simp [upd]
  · simp [upd, hj]
theorem am_aald (hx : p.tables.exec = Jvm.exec) (hb : c.code = cc) (hK : va_K (dC, dI) vwCl (am_ty ca) s) (hP : va_P (dC, dI) vwCl (am_w ad (am_sh ca) 63 M) H) {i n t0 : Nat} {f : Nat → Nat} {ty : FieldType} {cA : ClassId} (hi : i < 63) (hs : am_sh ca i = .inr (.inl (cA, n, f))) (ht : (am_ty ca)[t0]? = some (cA, ty)) {x : Int32} {P : Nat → Prop} (h : am_ix x n P) (hdg : decode cc pc = .ok (.aaload, 1))
    (kk : ∀ k, k < n → P k → W p l e R s m args below meth c H locs cells slots Q (F0 m (pc + 1) ls (.ref (ad (f k)) :: rest))) (hn : n < 1000 := by decide) (hty : ty.isReference = true := by rfl) : W p l e R s m args below meth c H locs cells slots Q (F0 m pc ls (.int x :: .ref (ad i) :: rest)) := by
  obtain ⟨k, hk, rfl, h⟩ := h
  have hin : vp_in (nI k) n := vp_in_nI hk (by omega)
  have hlt : (nI k).toNatClampNeg < n := by rw [nI_clamp (by omega)]; exact hk
  refine W.aald (v := .ref (ad (f k))) (ty := ty) hx hb (hP i _ (am_wr hi hs)) ((hK.2 t0 _ ht).1 n (fun j => va_rf (some (ad (f j))))) hty (fun q => by cases q) (by show ¬ (nI k < 0 ∨ (arrV _ _ _).slots.size ≤ _); rw [arrV_size]; exact hin) (by show (arrV _ _ _).slots[_]? = _; rw [arrV_read _ _ hlt, nI_clamp (by omega)]; rfl) rfl rfl hdg ?_
  exact kk k hk h
theorem am_iast (hx : p.tables.exec = Jvm.exec) (hb : c.code = cc) (hK : va_K (dC, dI) vwCl (am_ty ca) s) (hP : va_P (dC, dI) vwCl (am_w ad (am_sh ca) 63 M) H) (hI : am_inj ad) {H0 : Heap} (hS : va_S (am_A ad 63) H0 H locs) {i n : Nat} {r : am_M → Nat → Nat} {w : am_M → Nat → Nat → am_M} (hi : i < 63) (hs : am_is ca am_sh i (.inl (ca 0, n)) r w) {x y : Int32} {P : am_M → Prop} (h : am_sa (w M) n x y P) (hdg : decode cc pc = .ok (.iastore, 1))
    (kk : ∀ (M1 : am_M) (H1 : Heap) (locs1 : List Loc), va_P (dC, dI) vwCl (am_w ad (am_sh ca) 63 M1) H1 → va_S (am_A ad 63) H0 H1 locs1 → P M1 → W p l e R s m args below meth c H1 locs1 cells slots Q (F0 m (pc + 1) ls rest)) (hn : n < 1000 := by decide) : W p l e R s m args below meth c H locs cells slots Q (F0 m pc ls (.int y :: .int x :: .ref (ad i) :: rest)) := by
  obtain ⟨k, v, hk, rfl, rfl, h⟩ := h
  refine va_iast hx hb hK hP (am_D hI) hS i 0 (am_wa hi hs) rfl (vp_in_nI hk (by omega)) hdg (fun H1 locs1 hP1 _ hS1 => ?_)
  rw [nI_clamp (by omega), am_upd, am_wset (k := k) (v := v) hi (by rw [hs.1, hs.2.1]; rfl), hs.2.2] at hP1
  exact kk _ H1 locs1 hP1 hS1 h
theorem am_zast (hx : p.tables.exec = Jvm.exec) (hb : c.code = cc) (hK : va_K (dC, dI) vwCl (am_ty ca) s) (hP : va_P (dC, dI) vwCl (am_w ad (am_sh ca) 63 M) H) (hI : am_inj ad) {H0 : Heap} (hS : va_S (am_A ad 63) H0 H locs) {i n : Nat} {r : am_M → Nat → Nat} {w : am_M → Nat → Nat → am_M} (hi : i < 63) (hs : am_is ca am_sh i (.inl (ca 1, n)) r w) {x y : Int32} {P : am_M → Prop} (h : am_sz (w M) n x y P) (hdg : decode cc pc = .ok (.bastore, 1))
    (kk : ∀ (M1 : am_M) (H1 : Heap) (locs1 : List Loc), va_P (dC, dI) vwCl (am_w ad (am_sh ca) 63 M1) H1 → va_S (am_A ad 63) H0 H1 locs1 → P M1 → W p l e R s m args below meth c H1 locs1 cells slots Q (F0 m (pc + 1) ls rest)) (hn : n < 1000 := by decide) : W p l e R s m args below meth c H locs cells slots Q (F0 m pc ls (.int y :: .int x :: .ref (ad i) :: rest)) := by
  obtain ⟨k, v, hk, rfl, rfl, hv, h⟩ := h
  refine va_zast hx hb hK hP (am_D hI) hS i 1 (am_wa hi hs) rfl (vp_in_nI hk (by omega)) hdg (fun H1 locs1 hP1 _ hS1 => ?_)
  have hz : vp_nar .boolean (nI v) = nI v := by
    have h2 : v = 0 ∨ v = 1 := by omega
    rcases h2 with rfl | rfl <;> rfl
  rw [hz, nI_clamp (by omega), am_upd, am_wset (k := k) (v := v) hi (by rw [hs.1, hs.2.1]; rfl), hs.2.2] at hP1
  exact kk _ H1 locs1 hP1 hS1 h
theorem am_iret {ws : List Cond} {rm : Room} {Q : Int32 → am_M → Prop} {r : Int32} (hx : p.tables.exec = Jvm.exec) (hb : c.code = cc) (hr : meth.sig.returnType = some .int) (hK : va_K (dC, dI) vwCl (am_ty ca) s) (hN : am_Nw s) (hP : va_P (dC, dI) vwCl (am_w ad (am_sh ca) 63 M) H) (hS : va_S (am_A ad 63) s.heap H locs) (h : Q r M) (hlocks : meth.locks = false) (hdg : decode cc pc = .ok (.ireturn, 1)) : am_Wi p l e ws rm s m args below meth c H locs dC dI ca ad Q (F0 m pc ls [.int r]) :=
  W.iret (v := r) hx hb hr (fun t ht hW => ⟨⟨r, M, rfl, h, by rw [ht]; exact hP, va_K.moved hW.alike hK, hN.warm hW⟩, hS.F ht⟩) hS.2.2 hdg hlocks
theorem am_zret {ws : List Cond} {rm : Room} {Q : Int32 → am_M → Prop} {r : Int32} (hx : p.tables.exec = Jvm.exec) (hb : c.code = cc) (hr : meth.sig.returnType = some .boolean) (hz : narrow .boolean (.int r) = .int r) (hK : va_K (dC, dI) vwCl (am_ty ca) s) (hN : am_Nw s) (hP : va_P (dC, dI) vwCl (am_w ad (am_sh ca) 63 M) H) (hS : va_S (am_A ad 63) s.heap H locs) (h : Q r M) (hlocks : meth.locks = false) (hdg : decode cc pc = .ok (.ireturn, 1)) : am_Wi p l e ws rm s m args below meth c H locs dC dI ca ad Q (F0 m pc ls [.int r]) :=
  W.zret (v := r) hx hb hr hz (fun t ht hW => ⟨⟨r, M, rfl, h, by rw [ht]; exact hP, va_K.moved hW.alike hK, hN.warm hW⟩, hS.F ht⟩) hS.2.2 hdg hlocks
theorem am_vret {ws : List Cond} {rm : Room} {Q : am_M → Prop} (hx : p.tables.exec = Jvm.exec) (hb : c.code = cc) (hr : meth.sig.returnType = none) (hK : va_K (dC, dI) vwCl (am_ty ca) s) (hN : am_Nw s) (hP : va_P (dC, dI) vwCl (am_w ad (am_sh ca) 63 M) H) (hS : va_S (am_A ad 63) s.heap H locs) (h : Q M) (hlocks : meth.locks = false) (hdg : decode cc pc = .ok (.return_, 1)) : am_Wv p l e ws rm s m args below meth c H locs dC dI ca ad Q (F0 m pc ls []) :=
  W.vret hx hb hr (fun t ht hW => ⟨⟨M, rfl, h, by rw [ht]; exact hP, va_K.moved hW.alike hK, hN.warm hW⟩, hS.F ht⟩) hS.2.2 hdg hlocks
theorem am_calli {P : Int32 → am_M → Prop} {a : Array Value} {st0 : List Value} {H0 : Heap} (hr : va_Run p l e R s m args below meth c H locs cells slots 0 0 (F0 m pc ls st0) rest (am_Qi dC dI ca ad P a) (am_A ad 63)) (hS : va_S (am_A ad 63) H0 H locs)
    (kk : ∀ (r : Int32) (M1 : am_M) (H1 : Heap) (locs1 : List Loc), va_P (dC, dI) vwCl (am_w ad (am_sh ca) 63 M1) H1 → va_S (am_A ad 63) H0 H1 locs1 → P r M1 → W p l e R s m args below meth c H1 locs1 cells slots Q (F0 m (pc + 3) ls (.int r :: rest))) : W p l e R s m args below meth c H locs cells slots Q (F0 m pc ls st0) := by
  refine va_calli hr hS (fun q _ h => h) (fun q h => h) (fun r u t H1 locs1 ht _ hp hB _ _ hS1 => ?_)
  have hP1 := hB.1
  rw [ht] at hP1
  exact kk r u H1 locs1 hP1 hS1 hp
theorem am_callv {P : am_M → Prop} {a : Array Value} {st0 : List Value} {H0 : Heap} (hr : va_Run p l e R s m args below meth c H locs cells slots 0 0 (F0 m pc ls st0) rest (am_Qv dC dI ca ad P a) (am_A ad 63)) (hS : va_S (am_A ad 63) H0 H locs)
    (kk : ∀ (M1 : am_M) (H1 : Heap) (locs1 : List Loc), va_P (dC, dI) vwCl (am_w ad (am_sh ca) 63 M1) H1 → va_S (am_A ad 63) H0 H1 locs1 → P M1 → W p l e R s m args below meth c H1 locs1 cells slots Q (F0 m (pc + 3) ls rest)) : W p l e R s m args below meth c H locs cells slots Q (F0 m pc ls st0) := by
  refine va_callv hr hS (fun q _ h => h) (fun q h => h) (fun u t H1 locs1 ht _ hp hB _ _ hS1 => ?_)
  have hP1 := hB.1
  rw [ht] at hP1
  exact kk u H1 locs1 hP1 hS1 hp
theorem am_bl {av : List Value} {M : am_M} : FrameBlind (va_Pc av (am_B dC dI ca ad M)) := fun a U g mk q => by
  obtain ⟨q0, qP, qK, qN⟩ := q
  exact ⟨q0, qP, va_K.moved (u := U) (U := U.calling g mk a) (Vm.Alike.refl U.vm) qK, qN.same rfl⟩
theorem am_preS {As : List Value} (hK : va_K (dC, dI) vwCl (am_ty ca) s) (hN : am_Nw s) (hP : va_P (dC, dI) vwCl (am_w ad (am_sh ca) 63 M) H) : PreS s H (va_Pc As (am_B dC dI ca ad M)) As :=
  ⟨am_bl, fun U hU hW => ⟨rfl, by rw [hU]; exact hP, va_K.moved hW.alike hK, hN.warm hW⟩⟩
theorem am_preV {As : List Value} {i ci : Nat} {r : am_M → Nat → Nat} {w : am_M → Nat → Nat → am_M} {q : vw_C} {fs : List (Option Nat)} (hK : va_K (dC, dI) vwCl (am_ty ca) s) (hN : am_Nw s) (hP : va_P (dC, dI) vwCl (am_w ad (am_sh ca) 63 M) H) (hc : vwCl[ci]? = some q) (hi : i < 63) (hs : am_is ca am_sh i (.inr (.inr (ci, fs))) r w) : PreV s H q.1 (ad i) (va_Pc (.ref (ad i) :: As) (am_B dC dI ca ad M)) As :=
  ⟨am_bl, va_recv hK hP hc (am_wo hi hs), fun U hU hW => ⟨rfl, by rw [hU]; exact hP, va_K.moved hW.alike hK, hN.warm hW⟩⟩
end AMR
section AMF
variable {p : Program} {l : Launch} {e : Env} {R : Room} {s : State} {m : MethodId} {args : Array Value} {below : List Frame} {meth : Method} {c : Code} {H : Heap} {locs : List Loc} {cells slots : Nat} {Q : State → Prop}
variable {cc : ByteArray} {pc : Nat} {ls : Array Slot} {rest : List Value} {dC : Nat → ClassId} {dI : Nat → Nat → Nat} {ca : Nat → ClassId} {ad : Nat → Nat} {M : am_M}

theorem gf_X0_11 {tys : List (ClassId × FieldType)} {ws : va_W} {q0 a : Nat} {fs : List Value} {v : Value} (hx : p.tables.exec = Jvm.exec) (hb : c.code = cc) (hta : ∀ w ∈ am_all, w.before args s = true) (hown : s.vm.findClass RX0 = some m.cls) (hK : va_K (dC, dI) vwCl tys s) (hP : va_P (dC, dI) vwCl ws H) (he : ws[q0]? = some (a, .inr (0, fs))) (hv : fs[0]? = some v) (hdg : decode cc pc = .ok (.getfield 11, 3)) (kk : W p l e R s m args below meth c H locs cells slots Q (F0 m (pc + 3) ls (v :: rest))) : W p l e R s m args below meth c H locs cells slots Q (F0 m pc ls (.ref a :: rest)) :=
  va_get (D := (dC, dI)) (ci := 0) (v := v) (C := RX0) (T := TX0) (N := 4) hx hb hta mu_X0 hown hK hP q0 he rfl 0 (by decide) (hta _ mf_X0_11) (fun _ h9 => h9) hv hdg kk
theorem gf_X0_18 {tys : List (ClassId × FieldType)} {ws : va_W} {q0 a : Nat} {fs : List Value} {v : Value} (hx : p.tables.exec = Jvm.exec) (hb : c.code = cc) (hta : ∀ w ∈ am_all, w.before args s = true) (hown : s.vm.findClass RX0 = some m.cls) (hK : va_K (dC, dI) vwCl tys s) (hP : va_P (dC, dI) vwCl ws H) (he : ws[q0]? = some (a, .inr (0, fs))) (hv : fs[1]? = some v) (hdg : decode cc pc = .ok (.getfield 18, 3)) (kk : W p l e R s m args below meth c H locs cells slots Q (F0 m (pc + 3) ls (v :: rest))) : W p l e R s m args below meth c H locs cells slots Q (F0 m pc ls (.ref a :: rest)) :=
  va_get (D := (dC, dI)) (ci := 0) (v := v) (C := RX0) (T := TX0) (N := 4) hx hb hta mu_X0 hown hK hP q0 he rfl 1 (by decide) (hta _ mf_X0_18) (fun _ h9 => h9) hv hdg kk
theorem gf_X0_26 {tys : List (ClassId × FieldType)} {ws : va_W} {q0 a : Nat} {fs : List Value} {v : Value} (hx : p.tables.exec = Jvm.exec) (hb : c.code = cc) (hta : ∀ w ∈ am_all, w.before args s = true) (hown : s.vm.findClass RX0 = some m.cls) (hK : va_K (dC, dI) vwCl tys s) (hP : va_P (dC, dI) vwCl ws H) (he : ws[q0]? = some (a, .inr (0, fs))) (hv : fs[2]? = some v) (hdg : decode cc pc = .ok (.getfield 26, 3)) (kk : W p l e R s m args below meth c H locs cells slots Q (F0 m (pc + 3) ls (v :: rest))) : W p l e R s m args below meth c H locs cells slots Q (F0 m pc ls (.ref a :: rest)) :=
  va_get (D := (dC, dI)) (ci := 0) (v := v) (C := RX0) (T := TX0) (N := 4) hx hb hta mu_X0 hown hK hP q0 he rfl 2 (by decide) (hta _ mf_X0_26) (fun _ h9 => h9) hv hdg kk
theorem gf_X0_30 {tys : List (ClassId × FieldType)} {ws : va_W} {q0 a : Nat} {fs : List Value} {v : Value} (hx : p.tables.exec = Jvm.exec) (hb : c.code = cc) (hta : ∀ w ∈ am_all, w.before args s = true) (hown : s.vm.findClass RX0 = some m.cls) (hK : va_K (dC, dI) vwCl tys s) (hP : va_P (dC, dI) vwCl ws H) (he : ws[q0]? = some (a, .inr (0, fs))) (hv : fs[3]? = some v) (hdg : decode cc pc = .ok (.getfield 30, 3)) (kk : W p l e R s m args below meth c H locs cells slots Q (F0 m (pc + 3) ls (v :: rest))) : W p l e R s m args below meth c H locs cells slots Q (F0 m pc ls (.ref a :: rest)) :=
  va_get (D := (dC, dI)) (ci := 0) (v := v) (C := RX0) (T := TX0) (N := 4) hx hb hta mu_X0 hown hK hP q0 he rfl 3 (by decide) (hta _ mf_X0_30) (fun _ h9 => h9) hv hdg kk
theorem pf_X0_30 {H0 : Heap} (hx : p.tables.exec = Jvm.exec) (hb : c.code = cc) (hta : ∀ w ∈ am_all, w.before args s = true) (hown : s.vm.findClass RX0 = some m.cls) (hK : va_K (dC, dI) vwCl (am_ty ca) s) (hP : va_P (dC, dI) vwCl (am_w ad (am_sh ca) 63 M) H) (hI : am_inj ad) (hS : va_S (am_A ad 63) H0 H locs) {i : Nat} {fs : List (Option Nat)} {r : am_M → Nat → Nat} {w : am_M → Nat → Nat → am_M} (hi : i < 63) (hs : am_is ca am_sh i (.inr (.inr (0, fs))) r w) {x : Int32} {P : am_M → Prop} (h : am_sf (w M 3) x P) (hdg : decode cc pc = .ok (.putfield 30, 3)) (kk : ∀ (M1 : am_M) (H1 : Heap) (locs1 : List Loc), va_P (dC, dI) vwCl (am_w ad (am_sh ca) 63 M1) H1 → va_S (am_A ad 63) H0 H1 locs1 → P M1 → W p l e R s m args below meth c H1 locs1 cells slots Q (F0 m (pc + 3) ls rest)) (hf : fs[3]? = some none := by rfl) : W p l e R s m args below meth c H locs cells slots Q (F0 m pc ls (.int x :: .ref (ad i) :: rest)) := by
  obtain ⟨v, rfl, h⟩ := h
  refine va_put (D := (dC, dI)) (ci := 0) (v := .int (nI v)) (ty := .int) (C := RX0) (T := TX0) (N := 4) hx hb hta mu_X0 tyX0 tyX0_ok nmX0 hown hK hP (am_D hI) hS i (am_wo hi hs) rfl 3 (by decide) (hta _ mf_X0_30) (fun _ h9 => h9) rfl (by decide +kernel) rfl rfl (by rw [am_fl_len]; exact (List.getElem?_eq_some_iff.mp hf).1) hdg (fun H1 locs1 hP1 _ hS1 => ?_)
  rw [am_fl_set hf, am_wset (k := 3) (v := v) hi (by rw [hs.1, hs.2.1]; rfl), hs.2.2] at hP1
  exact kk _ H1 locs1 hP1 hS1 h
theorem gf_X0_38 {tys : List (ClassId × FieldType)} {ws : va_W} {q0 a : Nat} {fs : List Value} {v : Value} (hx : p.tables.exec = Jvm.exec) (hb : c.code = cc) (hta : ∀ w ∈ am_all, w.before args s = true) (hown : s.vm.findClass RX0 = some m.cls) (hK : va_K (dC, dI) vwCl tys s) (hP : va_P (dC, dI) vwCl ws H) (he : ws[q0]? = some (a, .inr (3, fs))) (hv : fs[0]? = some v) (hdg : decode cc pc = .ok (.getfield 38, 3)) (kk : W p l e R s m args below meth c H locs cells slots Q (F0 m (pc + 3) ls (v :: rest))) : W p l e R s m args below meth c H locs cells slots Q (F0 m pc ls (.ref a :: rest)) :=
  va_get (D := (dC, dI)) (ci := 3) (v := v) (C := RX3) (T := TX3) (N := 4) hx hb hta mu_X3 hown hK hP q0 he rfl 0 (by decide) (hta _ mf_X0_38) (fun _ h9 => h9) hv hdg kk
theorem pf_X0_38 {H0 : Heap} (hx : p.tables.exec = Jvm.exec) (hb : c.code = cc) (hta : ∀ w ∈ am_all, w.before args s = true) (hown : s.vm.findClass RX0 = some m.cls) (hK : va_K (dC, dI) vwCl (am_ty ca) s) (hP : va_P (dC, dI) vwCl (am_w ad (am_sh ca) 63 M) H) (hI : am_inj ad) (hS : va_S (am_A ad 63) H0 H locs) {i : Nat} {fs : List (Option Nat)} {r : am_M → Nat → Nat} {w : am_M → Nat → Nat → am_M} (hi : i < 63) (hs : am_is ca am_sh i (.inr (.inr (3, fs))) r w) {x : Int32} {P : am_M → Prop} (h : am_sfz (w M 0) x P) (hdg : decode cc pc = .ok (.putfield 38, 3)) (kk : ∀ (M1 : am_M) (H1 : Heap) (locs1 : List Loc), va_P (dC, dI) vwCl (am_w ad (am_sh ca) 63 M1) H1 → va_S (am_A ad 63) H0 H1 locs1 → P M1 → W p l e R s m args below meth c H1 locs1 cells slots Q (F0 m (pc + 3) ls rest)) (hf : fs[0]? = some none := by rfl) : W p l e R s m args below meth c H locs cells slots Q (F0 m pc ls (.int x :: .ref (ad i) :: rest)) := by
  obtain ⟨v, rfl, hv, h⟩ := h
  have hz : narrow .boolean (.int (nI v)) = .int (nI v) ∧ fits .boolean (.int (nI v)) = true := by
    have h2 : v = 0 ∨ v = 1 := by omega
    rcases h2 with rfl | rfl <;> exact ⟨rfl, rfl⟩
  refine va_put (D := (dC, dI)) (ci := 3) (v := .int (nI v)) (ty := .boolean) (C := RX3) (T := TX3) (N := 4) hx hb hta mu_X3 tyX3 tyX3_ok nmX3 hown hK hP (am_D hI) hS i (am_wo hi hs) rfl 0 (by decide) (hta _ mf_X0_38) (fun _ h9 => h9) rfl (by decide +kernel) hz.1 hz.2 (by rw [am_fl_len]; exact (List.getElem?_eq_some_iff.mp hf).1) hdg (fun H1 locs1 hP1 _ hS1 => ?_)
  rw [am_fl_set hf, am_wset (k := 0) (v := v) hi (by rw [hs.1, hs.2.1]; rfl), hs.2.2] at hP1
  exact kk _ H1 locs1 hP1 hS1 h
theorem gf_X0_42 {tys : List (ClassId × FieldType)} {ws : va_W} {q0 a : Nat} {fs : List Value} {v : Value} (hx : p.tables.exec = Jvm.exec) (hb : c.code = cc) (hta : ∀ w ∈ am_all, w.before args s = true) (hown : s.vm.findClass RX0 = some m.cls) (hK : va_K (dC, dI) vwCl tys s) (hP : va_P (dC, dI) vwCl ws H) (he : ws[q0]? = some (a, .inr (4, fs))) (hv : fs[0]? = some v) (hdg : decode cc pc = .ok (.getfield 42, 3)) (kk : W p l e R s m args below meth c H locs cells slots Q (F0 m (pc + 3) ls (v :: rest))) : W p l e R s m args below meth c H locs cells slots Q (F0 m pc ls (.ref a :: rest)) :=
  va_get (D := (dC, dI)) (ci := 4) (v := v) (C := RX4) (T := TX4) (N := 6) hx hb hta mu_X4 hown hK hP q0 he rfl 0 (by decide) (hta _ mf_X0_42) (fun _ h9 => h9) hv hdg kk
theorem pf_X0_42 {H0 : Heap} (hx : p.tables.exec = Jvm.exec) (hb : c.code = cc) (hta : ∀ w ∈ am_all, w.before args s = true) (hown : s.vm.findClass RX0 = some m.cls) (hK : va_K (dC, dI) vwCl (am_ty ca) s) (hP : va_P (dC, dI) vwCl (am_w ad (am_sh ca) 63 M) H) (hI : am_inj ad) (hS : va_S (am_A ad 63) H0 H locs) {i : Nat} {fs : List (Option Nat)} {r : am_M → Nat → Nat} {w : am_M → Nat → Nat → am_M} (hi : i < 63) (hs : am_is ca am_sh i (.inr (.inr (4, fs))) r w) {x : Int32} {P : am_M → Prop} (h : am_sf (w M 0) x P) (hdg : decode cc pc = .ok (.putfield 42, 3)) (kk : ∀ (M1 : am_M) (H1 : Heap) (locs1 : List Loc), va_P (dC, dI) vwCl (am_w ad (am_sh ca) 63 M1) H1 → va_S (am_A ad 63) H0 H1 locs1 → P M1 → W p l e R s m args below meth c H1 locs1 cells slots Q (F0 m (pc + 3) ls rest)) (hf : fs[0]? = some none := by rfl) : W p l e R s m args below meth c H locs cells slots Q (F0 m pc ls (.int x :: .ref (ad i) :: rest)) := by
  obtain ⟨v, rfl, h⟩ := h
  refine va_put (D := (dC, dI)) (ci := 4) (v := .int (nI v)) (ty := .int) (C := RX4) (T := TX4) (N := 6) hx hb hta mu_X4 tyX4 tyX4_ok nmX4 hown hK hP (am_D hI) hS i (am_wo hi hs) rfl 0 (by decide) (hta _ mf_X0_42) (fun _ h9 => h9) rfl (by decide +kernel) rfl rfl (by rw [am_fl_len]; exact (List.getElem?_eq_some_iff.mp hf).1) hdg (fun H1 locs1 hP1 _ hS1 => ?_)
  rw [am_fl_set hf, am_wset (k := 0) (v := v) hi (by rw [hs.1, hs.2.1]; rfl), hs.2.2] at hP1
  exact kk _ H1 locs1 hP1 hS1 h
theorem gf_X0_45 {tys : List (ClassId × FieldType)} {ws : va_W} {q0 a : Nat} {fs : List Value} {v : Value} (hx : p.tables.exec = Jvm.exec) (hb : c.code = cc) (hta : ∀ w ∈ am_all, w.before args s = true) (hown : s.vm.findClass RX0 = some m.cls) (hK : va_K (dC, dI) vwCl tys s) (hP : va_P (dC, dI) vwCl ws H) (he : ws[q0]? = some (a, .inr (4, fs))) (hv : fs[1]? = some v) (hdg : decode cc pc = .ok (.getfield 45, 3)) (kk : W p l e R s m args below meth c H locs cells slots Q (F0 m (pc + 3) ls (v :: rest))) : W p l e R s m args below meth c H locs cells slots Q (F0 m pc ls (.ref a :: rest)) :=
  va_get (D := (dC, dI)) (ci := 4) (v := v) (C := RX4) (T := TX4) (N := 6) hx hb hta mu_X4 hown hK hP q0 he rfl 1 (by decide) (hta _ mf_X0_45) (fun _ h9 => h9) hv hdg kk
theorem pf_X0_45 {H0 : Heap} (hx : p.tables.exec = Jvm.exec) (hb : c.code = cc) (hta : ∀ w ∈ am_all, w.before args s = true) (hown : s.vm.findClass RX0 = some m.cls) (hK : va_K (dC, dI) vwCl (am_ty ca) s) (hP : va_P (dC, dI) vwCl (am_w ad (am_sh ca) 63 M) H) (hI : am_inj ad) (hS : va_S (am_A ad 63) H0 H locs) {i : Nat} {fs : List (Option Nat)} {r : am_M → Nat → Nat} {w : am_M → Nat → Nat → am_M} (hi : i < 63) (hs : am_is ca am_sh i (.inr (.inr (4, fs))) r w) {x : Int32} {P : am_M → Prop} (h : am_sf (w M 1) x P) (hdg : decode cc pc = .ok (.putfield 45, 3)) (kk : ∀ (M1 : am_M) (H1 : Heap) (locs1 : List Loc), va_P (dC, dI) vwCl (am_w ad (am_sh ca) 63 M1) H1 → va_S (am_A ad 63) H0 H1 locs1 → P M1 → W p l e R s m args below meth c H1 locs1 cells slots Q (F0 m (pc + 3) ls rest)) (hf : fs[1]? = some none := by rfl) : W p l e R s m args below meth c H locs cells slots Q (F0 m pc ls (.int x :: .ref (ad i) :: rest)) := by
  obtain ⟨v, rfl, h⟩ := h
  refine va_put (D := (dC, dI)) (ci := 4) (v := .int (nI v)) (ty := .int) (C := RX4) (T := TX4) (N := 6) hx hb hta mu_X4 tyX4 tyX4_ok nmX4 hown hK hP (am_D hI) hS i (am_wo hi hs) rfl 1 (by decide) (hta _ mf_X0_45) (fun _ h9 => h9) rfl (by decide +kernel) rfl rfl (by rw [am_fl_len]; exact (List.getElem?_eq_some_iff.mp hf).1) hdg (fun H1 locs1 hP1 _ hS1 => ?_)
  rw [am_fl_set hf, am_wset (k := 1) (v := v) hi (by rw [hs.1, hs.2.1]; rfl), hs.2.2] at hP1
  exact kk _ H1 locs1 hP1 hS1 h
theorem gf_X0_54 {tys : List (ClassId × FieldType)} {ws : va_W} {q0 a : Nat} {fs : List Value} {v : Value} (hx : p.tables.exec = Jvm.exec) (hb : c.code = cc) (hta : ∀ w ∈ am_all, w.before args s = true) (hown : s.vm.findClass RX0 = some m.cls) (hK : va_K (dC, dI) vwCl tys s) (hP : va_P (dC, dI) vwCl ws H) (he : ws[q0]? = some (a, .inr (4, fs))) (hv : fs[2]? = some v) (hdg : decode cc pc = .ok (.getfield 54, 3)) (kk : W p l e R s m args below meth c H locs cells slots Q (F0 m (pc + 3) ls (v :: rest))) : W p l e R s m args below meth c H locs cells slots Q (F0 m pc ls (.ref a :: rest)) :=
  va_get (D := (dC, dI)) (ci := 4) (v := v) (C := RX4) (T := TX4) (N := 6) hx hb hta mu_X4 hown hK hP q0 he rfl 2 (by decide) (hta _ mf_X0_54) (fun _ h9 => h9) hv hdg kk
theorem pf_X0_54 {H0 : Heap} (hx : p.tables.exec = Jvm.exec) (hb : c.code = cc) (hta : ∀ w ∈ am_all, w.before args s = true) (hown : s.vm.findClass RX0 = some m.cls) (hK : va_K (dC, dI) vwCl (am_ty ca) s) (hP : va_P (dC, dI) vwCl (am_w ad (am_sh ca) 63 M) H) (hI : am_inj ad) (hS : va_S (am_A ad 63) H0 H locs) {i : Nat} {fs : List (Option Nat)} {r : am_M → Nat → Nat} {w : am_M → Nat → Nat → am_M} (hi : i < 63) (hs : am_is ca am_sh i (.inr (.inr (4, fs))) r w) {x : Int32} {P : am_M → Prop} (h : am_sf (w M 2) x P) (hdg : decode cc pc = .ok (.putfield 54, 3)) (kk : ∀ (M1 : am_M) (H1 : Heap) (locs1 : List Loc), va_P (dC, dI) vwCl (am_w ad (am_sh ca) 63 M1) H1 → va_S (am_A ad 63) H0 H1 locs1 → P M1 → W p l e R s m args below meth c H1 locs1 cells slots Q (F0 m (pc + 3) ls rest)) (hf : fs[2]? = some none := by rfl) : W p l e R s m args below meth c H locs cells slots Q (F0 m pc ls (.int x :: .ref (ad i) :: rest)) := by
  obtain ⟨v, rfl, h⟩ := h
  refine va_put (D := (dC, dI)) (ci := 4) (v := .int (nI v)) (ty := .int) (C := RX4) (T := TX4) (N := 6) hx hb hta mu_X4 tyX4 tyX4_ok nmX4 hown hK hP (am_D hI) hS i (am_wo hi hs) rfl 2 (by decide) (hta _ mf_X0_54) (fun _ h9 => h9) rfl (by decide +kernel) rfl rfl (by rw [am_fl_len]; exact (List.getElem?_eq_some_iff.mp hf).1) hdg (fun H1 locs1 hP1 _ hS1 => ?_)
  rw [am_fl_set hf, am_wset (k := 2) (v := v) hi (by rw [hs.1, hs.2.1]; rfl), hs.2.2] at hP1
  exact kk _ H1 locs1 hP1 hS1 h
theorem gf_X0_61 {tys : List (ClassId × FieldType)} {ws : va_W} {q0 a : Nat} {fs : List Value} {v : Value} (hx : p.tables.exec = Jvm.exec) (hb : c.code = cc) (hta : ∀ w ∈ am_all, w.before args s = true) (hown : s.vm.findClass RX0 = some m.cls) (hK : va_K (dC, dI) vwCl tys s) (hP : va_P (dC, dI) vwCl ws H) (he : ws[q0]? = some (a, .inr (3, fs))) (hv : fs[1]? = some v) (hdg : decode cc pc = .ok (.getfield 61, 3)) (kk : W p l e R s m args below meth c H locs cells slots Q (F0 m (pc + 3) ls (v :: rest))) : W p l e R s m args below meth c H locs cells slots Q (F0 m pc ls (.ref a :: rest)) :=
  va_get (D := (dC, dI)) (ci := 3) (v := v) (C := RX3) (T := TX3) (N := 4) hx hb hta mu_X3 hown hK hP q0 he rfl 1 (by decide) (hta _ mf_X0_61) (fun _ h9 => h9) hv hdg kk
theorem gf_X0_91 {tys : List (ClassId × FieldType)} {ws : va_W} {q0 a : Nat} {fs : List Value} {v : Value} (hx : p.tables.exec = Jvm.exec) (hb : c.code = cc) (hta : ∀ w ∈ am_all, w.before args s = true) (hown : s.vm.findClass RX0 = some m.cls) (hK : va_K (dC, dI) vwCl tys s) (hP : va_P (dC, dI) vwCl ws H) (he : ws[q0]? = some (a, .inr (2, fs))) (hv : fs[0]? = some v) (hdg : decode cc pc = .ok (.getfield 91, 3)) (kk : W p l e R s m args below meth c H locs cells slots Q (F0 m (pc + 3) ls (v :: rest))) : W p l e R s m args below meth c H locs cells slots Q (F0 m pc ls (.ref a :: rest)) :=
  va_get (D := (dC, dI)) (ci := 2) (v := v) (C := RX2) (T := TX2) (N := 2) hx hb hta mu_X2 hown hK hP q0 he rfl 0 (by decide) (hta _ mf_X0_91) (fun _ h9 => h9) hv hdg kk
theorem gf_X0_111 {tys : List (ClassId × FieldType)} {ws : va_W} {q0 a : Nat} {fs : List Value} {v : Value} (hx : p.tables.exec = Jvm.exec) (hb : c.code = cc) (hta : ∀ w ∈ am_all, w.before args s = true) (hown : s.vm.findClass RX0 = some m.cls) (hK : va_K (dC, dI) vwCl tys s) (hP : va_P (dC, dI) vwCl ws H) (he : ws[q0]? = some (a, .inr (3, fs))) (hv : fs[3]? = some v) (hdg : decode cc pc = .ok (.getfield 111, 3)) (kk : W p l e R s m args below meth c H locs cells slots Q (F0 m (pc + 3) ls (v :: rest))) : W p l e R s m args below meth c H locs cells slots Q (F0 m pc ls (.ref a :: rest)) :=
  va_get (D := (dC, dI)) (ci := 3) (v := v) (C := RX3) (T := TX3) (N := 4) hx hb hta mu_X3 hown hK hP q0 he rfl 3 (by decide) (hta _ mf_X0_111) (fun _ h9 => h9) hv hdg kk
theorem gf_X0_127 {tys : List (ClassId × FieldType)} {ws : va_W} {q0 a : Nat} {fs : List Value} {v : Value} (hx : p.tables.exec = Jvm.exec) (hb : c.code = cc) (hta : ∀ w ∈ am_all, w.before args s = true) (hown : s.vm.findClass RX0 = some m.cls) (hK : va_K (dC, dI) vwCl tys s) (hP : va_P (dC, dI) vwCl ws H) (he : ws[q0]? = some (a, .inr (4, fs))) (hv : fs[3]? = some v) (hdg : decode cc pc = .ok (.getfield 127, 3)) (kk : W p l e R s m args below meth c H locs cells slots Q (F0 m (pc + 3) ls (v :: rest))) : W p l e R s m args below meth c H locs cells slots Q (F0 m pc ls (.ref a :: rest)) :=
  va_get (D := (dC, dI)) (ci := 4) (v := v) (C := RX4) (T := TX4) (N := 6) hx hb hta mu_X4 hown hK hP q0 he rfl 3 (by decide) (hta _ mf_X0_127) (fun _ h9 => h9) hv hdg kk
theorem pf_X0_127 {H0 : Heap} (hx : p.tables.exec = Jvm.exec) (hb : c.code = cc) (hta : ∀ w ∈ am_all, w.before args s = true) (hown : s.vm.findClass RX0 = some m.cls) (hK : va_K (dC, dI) vwCl (am_ty ca) s) (hP : va_P (dC, dI) vwCl (am_w ad (am_sh ca) 63 M) H) (hI : am_inj ad) (hS : va_S (am_A ad 63) H0 H locs) {i : Nat} {fs : List (Option Nat)} {r : am_M → Nat → Nat} {w : am_M → Nat → Nat → am_M} (hi : i < 63) (hs : am_is ca am_sh i (.inr (.inr (4, fs))) r w) {x : Int32} {P : am_M → Prop} (h : am_sf (w M 3) x P) (hdg : decode cc pc = .ok (.putfield 127, 3)) (kk : ∀ (M1 : am_M) (H1 : Heap) (locs1 : List Loc), va_P (dC, dI) vwCl (am_w ad (am_sh ca) 63 M1) H1 → va_S (am_A ad 63) H0 H1 locs1 → P M1 → W p l e R s m args below meth c H1 locs1 cells slots Q (F0 m (pc + 3) ls rest)) (hf : fs[3]? = some none := by rfl) : W p l e R s m args below meth c H locs cells slots Q (F0 m pc ls (.int x :: .ref (ad i) :: rest)) := by
  obtain ⟨v, rfl, h⟩ := h
  refine va_put (D := (dC, dI)) (ci := 4) (v := .int (nI v)) (ty := .int) (C := RX4) (T := TX4) (N := 6) hx hb hta mu_X4 tyX4 tyX4_ok nmX4 hown hK hP (am_D hI) hS i (am_wo hi hs) rfl 3 (by decide) (hta _ mf_X0_127) (fun _ h9 => h9) rfl (by decide +kernel) rfl rfl (by rw [am_fl_len]; exact (List.getElem?_eq_some_iff.mp hf).1) hdg (fun H1 locs1 hP1 _ hS1 => ?_)
  rw [am_fl_set hf, am_wset (k := 3) (v := v) hi (by rw [hs.1, hs.2.1]; rfl), hs.2.2] at hP1
  exact kk _ H1 locs1 hP1 hS1 h
theorem gf_X0_130 {tys : List (ClassId × FieldType)} {ws : va_W} {q0 a : Nat} {fs : List Value} {v : Value} (hx : p.tables.exec = Jvm.exec) (hb : c.code = cc) (hta : ∀ w ∈ am_all, w.before args s = true) (hown : s.vm.findClass RX0 = some m.cls) (hK : va_K (dC, dI) vwCl tys s) (hP : va_P (dC, dI) vwCl ws H) (he : ws[q0]? = some (a, .inr (4, fs))) (hv : fs[4]? = some v) (hdg : decode cc pc = .ok (.getfield 130, 3)) (kk : W p l e R s m args below meth c H locs cells slots Q (F0 m (pc + 3) ls (v :: rest))) : W p l e R s m args below meth c H locs cells slots Q (F0 m pc ls (.ref a :: rest)) :=
  va_get (D := (dC, dI)) (ci := 4) (v := v) (C := RX4) (T := TX4) (N := 6) hx hb hta mu_X4 hown hK hP q0 he rfl 4 (by decide) (hta _ mf_X0_130) (fun _ h9 => h9) hv hdg kk
theorem pf_X0_130 {H0 : Heap} (hx : p.tables.exec = Jvm.exec) (hb : c.code = cc) (hta : ∀ w ∈ am_all, w.before args s = true) (hown : s.vm.findClass RX0 = some m.cls) (hK : va_K (dC, dI) vwCl (am_ty ca) s) (hP : va_P (dC, dI) vwCl (am_w ad (am_sh ca) 63 M) H) (hI : am_inj ad) (hS : va_S (am_A ad 63) H0 H locs) {i : Nat} {fs : List (Option Nat)} {r : am_M → Nat → Nat} {w : am_M → Nat → Nat → am_M} (hi : i < 63) (hs : am_is ca am_sh i (.inr (.inr (4, fs))) r w) {x : Int32} {P : am_M → Prop} (h : am_sf (w M 4) x P) (hdg : decode cc pc = .ok (.putfield 130, 3)) (kk : ∀ (M1 : am_M) (H1 : Heap) (locs1 : List Loc), va_P (dC, dI) vwCl (am_w ad (am_sh ca) 63 M1) H1 → va_S (am_A ad 63) H0 H1 locs1 → P M1 → W p l e R s m args below meth c H1 locs1 cells slots Q (F0 m (pc + 3) ls rest)) (hf : fs[4]? = some none := by rfl) : W p l e R s m args below meth c H locs cells slots Q (F0 m pc ls (.int x :: .ref (ad i) :: rest)) := by
  obtain ⟨v, rfl, h⟩ := h
  refine va_put (D := (dC, dI)) (ci := 4) (v := .int (nI v)) (ty := .int) (C := RX4) (T := TX4) (N := 6) hx hb hta mu_X4 tyX4 tyX4_ok nmX4 hown hK hP (am_D hI) hS i (am_wo hi hs) rfl 4 (by decide) (hta _ mf_X0_130) (fun _ h9 => h9) rfl (by decide +kernel) rfl rfl (by rw [am_fl_len]; exact (List.getElem?_eq_some_iff.mp hf).1) hdg (fun H1 locs1 hP1 _ hS1 => ?_)
  rw [am_fl_set hf, am_wset (k := 4) (v := v) hi (by rw [hs.1, hs.2.1]; rfl), hs.2.2] at hP1
  exact kk _ H1 locs1 hP1 hS1 h
theorem gf_X0_133 {tys : List (ClassId × FieldType)} {ws : va_W} {q0 a : Nat} {fs : List Value} {v : Value} (hx : p.tables.exec = Jvm.exec) (hb : c.code = cc) (hta : ∀ w ∈ am_all, w.before args s = true) (hown : s.vm.findClass RX0 = some m.cls) (hK : va_K (dC, dI) vwCl tys s) (hP : va_P (dC, dI) vwCl ws H) (he : ws[q0]? = some (a, .inr (4, fs))) (hv : fs[5]? = some v) (hdg : decode cc pc = .ok (.getfield 133, 3)) (kk : W p l e R s m args below meth c H locs cells slots Q (F0 m (pc + 3) ls (v :: rest))) : W p l e R s m args below meth c H locs cells slots Q (F0 m pc ls (.ref a :: rest)) :=
  va_get (D := (dC, dI)) (ci := 4) (v := v) (C := RX4) (T := TX4) (N := 6) hx hb hta mu_X4 hown hK hP q0 he rfl 5 (by decide) (hta _ mf_X0_133) (fun _ h9 => h9) hv hdg kk
theorem pf_X0_133 {H0 : Heap} (hx : p.tables.exec = Jvm.exec) (hb : c.code = cc) (hta : ∀ w ∈ am_all, w.before args s = true) (hown : s.vm.findClass RX0 = some m.cls) (hK : va_K (dC, dI) vwCl (am_ty ca) s) (hP : va_P (dC, dI) vwCl (am_w ad (am_sh ca) 63 M) H) (hI : am_inj ad) (hS : va_S (am_A ad 63) H0 H locs) {i : Nat} {fs : List (Option Nat)} {r : am_M → Nat → Nat} {w : am_M → Nat → Nat → am_M} (hi : i < 63) (hs : am_is ca am_sh i (.inr (.inr (4, fs))) r w) {x : Int32} {P : am_M → Prop} (h : am_sf (w M 5) x P) (hdg : decode cc pc = .ok (.putfield 133, 3)) (kk : ∀ (M1 : am_M) (H1 : Heap) (locs1 : List Loc), va_P (dC, dI) vwCl (am_w ad (am_sh ca) 63 M1) H1 → va_S (am_A ad 63) H0 H1 locs1 → P M1 → W p l e R s m args below meth c H1 locs1 cells slots Q (F0 m (pc + 3) ls rest)) (hf : fs[5]? = some none := by rfl) : W p l e R s m args below meth c H locs cells slots Q (F0 m pc ls (.int x :: .ref (ad i) :: rest)) := by
  obtain ⟨v, rfl, h⟩ := h
  refine va_put (D := (dC, dI)) (ci := 4) (v := .int (nI v)) (ty := .int) (C := RX4) (T := TX4) (N := 6) hx hb hta mu_X4 tyX4 tyX4_ok nmX4 hown hK hP (am_D hI) hS i (am_wo hi hs) rfl 5 (by decide) (hta _ mf_X0_133) (fun _ h9 => h9) rfl (by decide +kernel) rfl rfl (by rw [am_fl_len]; exact (List.getElem?_eq_some_iff.mp hf).1) hdg (fun H1 locs1 hP1 _ hS1 => ?_)
  rw [am_fl_set hf, am_wset (k := 5) (v := v) hi (by rw [hs.1, hs.2.1]; rfl), hs.2.2] at hP1
  exact kk _ H1 locs1 hP1 hS1 h
theorem gf_X0_139 {tys : List (ClassId × FieldType)} {ws : va_W} {q0 a : Nat} {fs : List Value} {v : Value} (hx : p.tables.exec = Jvm.exec) (hb : c.code = cc) (hta : ∀ w ∈ am_all, w.before args s = true) (hown : s.vm.findClass RX0 = some m.cls) (hK : va_K (dC, dI) vwCl tys s) (hP : va_P (dC, dI) vwCl ws H) (he : ws[q0]? = some (a, .inr (1, fs))) (hv : fs[3]? = some v) (hdg : decode cc pc = .ok (.getfield 139, 3)) (kk : W p l e R s m args below meth c H locs cells slots Q (F0 m (pc + 3) ls (v :: rest))) : W p l e R s m args below meth c H locs cells slots Q (F0 m pc ls (.ref a :: rest)) :=
  va_get (D := (dC, dI)) (ci := 1) (v := v) (C := RX1) (T := TX1) (N := 5) hx hb hta mu_X1 hown hK hP q0 he rfl 3 (by decide) (hta _ mf_X0_139) (fun _ h9 => h9) hv hdg kk
theorem gf_X0_142 {tys : List (ClassId × FieldType)} {ws : va_W} {q0 a : Nat} {fs : List Value} {v : Value} (hx : p.tables.exec = Jvm.exec) (hb : c.code = cc) (hta : ∀ w ∈ am_all, w.before args s = true) (hown : s.vm.findClass RX0 = some m.cls) (hK : va_K (dC, dI) vwCl tys s) (hP : va_P (dC, dI) vwCl ws H) (he : ws[q0]? = some (a, .inr (1, fs))) (hv : fs[2]? = some v) (hdg : decode cc pc = .ok (.getfield 142, 3)) (kk : W p l e R s m args below meth c H locs cells slots Q (F0 m (pc + 3) ls (v :: rest))) : W p l e R s m args below meth c H locs cells slots Q (F0 m pc ls (.ref a :: rest)) :=
  va_get (D := (dC, dI)) (ci := 1) (v := v) (C := RX1) (T := TX1) (N := 5) hx hb hta mu_X1 hown hK hP q0 he rfl 2 (by decide) (hta _ mf_X0_142) (fun _ h9 => h9) hv hdg kk
theorem gf_X0_146 {tys : List (ClassId × FieldType)} {ws : va_W} {q0 a : Nat} {fs : List Value} {v : Value} (hx : p.tables.exec = Jvm.exec) (hb : c.code = cc) (hta : ∀ w ∈ am_all, w.before args s = true) (hown : s.vm.findClass RX0 = some m.cls) (hK : va_K (dC, dI) vwCl tys s) (hP : va_P (dC, dI) vwCl ws H) (he : ws[q0]? = some (a, .inr (1, fs))) (hv : fs[0]? = some v) (hdg : decode cc pc = .ok (.getfield 146, 3)) (kk : W p l e R s m args below meth c H locs cells slots Q (F0 m (pc + 3) ls (v :: rest))) : W p l e R s m args below meth c H locs cells slots Q (F0 m pc ls (.ref a :: rest)) :=
  va_get (D := (dC, dI)) (ci := 1) (v := v) (C := RX1) (T := TX1) (N := 5) hx hb hta mu_X1 hown hK hP q0 he rfl 0 (by decide) (hta _ mf_X0_146) (fun _ h9 => h9) hv hdg kk
theorem gf_X0_149 {tys : List (ClassId × FieldType)} {ws : va_W} {q0 a : Nat} {fs : List Value} {v : Value} (hx : p.tables.exec = Jvm.exec) (hb : c.code = cc) (hta : ∀ w ∈ am_all, w.before args s = true) (hown : s.vm.findClass RX0 = some m.cls) (hK : va_K (dC, dI) vwCl tys s) (hP : va_P (dC, dI) vwCl ws H) (he : ws[q0]? = some (a, .inr (1, fs))) (hv : fs[1]? = some v) (hdg : decode cc pc = .ok (.getfield 149, 3)) (kk : W p l e R s m args below meth c H locs cells slots Q (F0 m (pc + 3) ls (v :: rest))) : W p l e R s m args below meth c H locs cells slots Q (F0 m pc ls (.ref a :: rest)) :=
  va_get (D := (dC, dI)) (ci := 1) (v := v) (C := RX1) (T := TX1) (N := 5) hx hb hta mu_X1 hown hK hP q0 he rfl 1 (by decide) (hta _ mf_X0_149) (fun _ h9 => h9) hv hdg kk
theorem gf_X0_152 {tys : List (ClassId × FieldType)} {ws : va_W} {q0 a : Nat} {fs : List Value} {v : Value} (hx : p.tables.exec = Jvm.exec) (hb : c.code = cc) (hta : ∀ w ∈ am_all, w.before args s = true) (hown : s.vm.findClass RX0 = some m.cls) (hK : va_K (dC, dI) vwCl tys s) (hP : va_P (dC, dI) vwCl ws H) (he : ws[q0]? = some (a, .inr (2, fs))) (hv : fs[1]? = some v) (hdg : decode cc pc = .ok (.getfield 152, 3)) (kk : W p l e R s m args below meth c H locs cells slots Q (F0 m (pc + 3) ls (v :: rest))) : W p l e R s m args below meth c H locs cells slots Q (F0 m pc ls (.ref a :: rest)) :=
  va_get (D := (dC, dI)) (ci := 2) (v := v) (C := RX2) (T := TX2) (N := 2) hx hb hta mu_X2 hown hK hP q0 he rfl 1 (by decide) (hta _ mf_X0_152) (fun _ h9 => h9) hv hdg kk
theorem gf_X0_153 {tys : List (ClassId × FieldType)} {ws : va_W} {q0 a : Nat} {fs : List Value} {v : Value} (hx : p.tables.exec = Jvm.exec) (hb : c.code = cc) (hta : ∀ w ∈ am_all, w.before args s = true) (hown : s.vm.findClass RX0 = some m.cls) (hK : va_K (dC, dI) vwCl tys s) (hP : va_P (dC, dI) vwCl ws H) (he : ws[q0]? = some (a, .inr (1, fs))) (hv : fs[4]? = some v) (hdg : decode cc pc = .ok (.getfield 153, 3)) (kk : W p l e R s m args below meth c H locs cells slots Q (F0 m (pc + 3) ls (v :: rest))) : W p l e R s m args below meth c H locs cells slots Q (F0 m pc ls (.ref a :: rest)) :=
  va_get (D := (dC, dI)) (ci := 1) (v := v) (C := RX1) (T := TX1) (N := 5) hx hb hta mu_X1 hown hK hP q0 he rfl 4 (by decide) (hta _ mf_X0_153) (fun _ h9 => h9) hv hdg kk
theorem gf_X1_9 {tys : List (ClassId × FieldType)} {ws : va_W} {q0 a : Nat} {fs : List Value} {v : Value} (hx : p.tables.exec = Jvm.exec) (hb : c.code = cc) (hta : ∀ w ∈ am_all, w.before args s = true) (hown : s.vm.findClass RX1 = some m.cls) (hK : va_K (dC, dI) vwCl tys s) (hP : va_P (dC, dI) vwCl ws H) (he : ws[q0]? = some (a, .inr (1, fs))) (hv : fs[0]? = some v) (hdg : decode cc pc = .ok (.getfield 9, 3)) (kk : W p l e R s m args below meth c H locs cells slots Q (F0 m (pc + 3) ls (v :: rest))) : W p l e R s m args below meth c H locs cells slots Q (F0 m pc ls (.ref a :: rest)) :=
  va_get (D := (dC, dI)) (ci := 1) (v := v) (C := RX1) (T := TX1) (N := 5) hx hb hta mu_X1 hown hK hP q0 he rfl 0 (by decide) (hta _ mf_X1_9) (fun _ h9 => h9) hv hdg kk
theorem gf_X1_15 {tys : List (ClassId × FieldType)} {ws : va_W} {q0 a : Nat} {fs : List Value} {v : Value} (hx : p.tables.exec = Jvm.exec) (hb : c.code = cc) (hta : ∀ w ∈ am_all, w.before args s = true) (hown : s.vm.findClass RX1 = some m.cls) (hK : va_K (dC, dI) vwCl tys s) (hP : va_P (dC, dI) vwCl ws H) (he : ws[q0]? = some (a, .inr (1, fs))) (hv : fs[1]? = some v) (hdg : decode cc pc = .ok (.getfield 15, 3)) (kk : W p l e R s m args below meth c H locs cells slots Q (F0 m (pc + 3) ls (v :: rest))) : W p l e R s m args below meth c H locs cells slots Q (F0 m pc ls (.ref a :: rest)) :=
  va_get (D := (dC, dI)) (ci := 1) (v := v) (C := RX1) (T := TX1) (N := 5) hx hb hta mu_X1 hown hK hP q0 he rfl 1 (by decide) (hta _ mf_X1_15) (fun _ h9 => h9) hv hdg kk
theorem gf_X1_18 {tys : List (ClassId × FieldType)} {ws : va_W} {q0 a : Nat} {fs : List Value} {v : Value} (hx : p.tables.exec = Jvm.exec) (hb : c.code = cc) (hta : ∀ w ∈ am_all, w.before args s = true) (hown : s.vm.findClass RX1 = some m.cls) (hK : va_K (dC, dI) vwCl tys s) (hP : va_P (dC, dI) vwCl ws H) (he : ws[q0]? = some (a, .inr (1, fs))) (hv : fs[2]? = some v) (hdg : decode cc pc = .ok (.getfield 18, 3)) (kk : W p l e R s m args below meth c H locs cells slots Q (F0 m (pc + 3) ls (v :: rest))) : W p l e R s m args below meth c H locs cells slots Q (F0 m pc ls (.ref a :: rest)) :=
  va_get (D := (dC, dI)) (ci := 1) (v := v) (C := RX1) (T := TX1) (N := 5) hx hb hta mu_X1 hown hK hP q0 he rfl 2 (by decide) (hta _ mf_X1_18) (fun _ h9 => h9) hv hdg kk
theorem pf_X1_18 {H0 : Heap} (hx : p.tables.exec = Jvm.exec) (hb : c.code = cc) (hta : ∀ w ∈ am_all, w.before args s = true) (hown : s.vm.findClass RX1 = some m.cls) (hK : va_K (dC, dI) vwCl (am_ty ca) s) (hP : va_P (dC, dI) vwCl (am_w ad (am_sh ca) 63 M) H) (hI : am_inj ad) (hS : va_S (am_A ad 63) H0 H locs) {i : Nat} {fs : List (Option Nat)} {r : am_M → Nat → Nat} {w : am_M → Nat → Nat → am_M} (hi : i < 63) (hs : am_is ca am_sh i (.inr (.inr (1, fs))) r w) {x : Int32} {P : am_M → Prop} (h : am_sf (w M 2) x P) (hdg : decode cc pc = .ok (.putfield 18, 3)) (kk : ∀ (M1 : am_M) (H1 : Heap) (locs1 : List Loc), va_P (dC, dI) vwCl (am_w ad (am_sh ca) 63 M1) H1 → va_S (am_A ad 63) H0 H1 locs1 → P M1 → W p l e R s m args below meth c H1 locs1 cells slots Q (F0 m (pc + 3) ls rest)) (hf : fs[2]? = some none := by rfl) : W p l e R s m args below meth c H locs cells slots Q (F0 m pc ls (.int x :: .ref (ad i) :: rest)) := by
  obtain ⟨v, rfl, h⟩ := h
  refine va_put (D := (dC, dI)) (ci := 1) (v := .int (nI v)) (ty := .int) (C := RX1) (T := TX1) (N := 5) hx hb hta mu_X1 tyX1 tyX1_ok nmX1 hown hK hP (am_D hI) hS i (am_wo hi hs) rfl 2 (by decide) (hta _ mf_X1_18) (fun _ h9 => h9) rfl (by decide +kernel) rfl rfl (by rw [am_fl_len]; exact (List.getElem?_eq_some_iff.mp hf).1) hdg (fun H1 locs1 hP1 _ hS1 => ?_)
  rw [am_fl_set hf, am_wset (k := 2) (v := v) hi (by rw [hs.1, hs.2.1]; rfl), hs.2.2] at hP1
  exact kk _ H1 locs1 hP1 hS1 h
theorem gf_X1_30 {tys : List (ClassId × FieldType)} {ws : va_W} {q0 a : Nat} {fs : List Value} {v : Value} (hx : p.tables.exec = Jvm.exec) (hb : c.code = cc) (hta : ∀ w ∈ am_all, w.before args s = true) (hown : s.vm.findClass RX1 = some m.cls) (hK : va_K (dC, dI) vwCl tys s) (hP : va_P (dC, dI) vwCl ws H) (he : ws[q0]? = some (a, .inr (1, fs))) (hv : fs[3]? = some v) (hdg : decode cc pc = .ok (.getfield 30, 3)) (kk : W p l e R s m args below meth c H locs cells slots Q (F0 m (pc + 3) ls (v :: rest))) : W p l e R s m args below meth c H locs cells slots Q (F0 m pc ls (.ref a :: rest)) :=
  va_get (D := (dC, dI)) (ci := 1) (v := v) (C := RX1) (T := TX1) (N := 5) hx hb hta mu_X1 hown hK hP q0 he rfl 3 (by decide) (hta _ mf_X1_30) (fun _ h9 => h9) hv hdg kk
theorem pf_X1_30 {H0 : Heap} (hx : p.tables.exec = Jvm.exec) (hb : c.code = cc) (hta : ∀ w ∈ am_all, w.before args s = true) (hown : s.vm.findClass RX1 = some m.cls) (hK : va_K (dC, dI) vwCl (am_ty ca) s) (hP : va_P (dC, dI) vwCl (am_w ad (am_sh ca) 63 M) H) (hI : am_inj ad) (hS : va_S (am_A ad 63) H0 H locs) {i : Nat} {fs : List (Option Nat)} {r : am_M → Nat → Nat} {w : am_M → Nat → Nat → am_M} (hi : i < 63) (hs : am_is ca am_sh i (.inr (.inr (1, fs))) r w) {x : Int32} {P : am_M → Prop} (h : am_sf (w M 3) x P) (hdg : decode cc pc = .ok (.putfield 30, 3)) (kk : ∀ (M1 : am_M) (H1 : Heap) (locs1 : List Loc), va_P (dC, dI) vwCl (am_w ad (am_sh ca) 63 M1) H1 → va_S (am_A ad 63) H0 H1 locs1 → P M1 → W p l e R s m args below meth c H1 locs1 cells slots Q (F0 m (pc + 3) ls rest)) (hf : fs[3]? = some none := by rfl) : W p l e R s m args below meth c H locs cells slots Q (F0 m pc ls (.int x :: .ref (ad i) :: rest)) := by
  obtain ⟨v, rfl, h⟩ := h
  refine va_put (D := (dC, dI)) (ci := 1) (v := .int (nI v)) (ty := .int) (C := RX1) (T := TX1) (N := 5) hx hb hta mu_X1 tyX1 tyX1_ok nmX1 hown hK hP (am_D hI) hS i (am_wo hi hs) rfl 3 (by decide) (hta _ mf_X1_30) (fun _ h9 => h9) rfl (by decide +kernel) rfl rfl (by rw [am_fl_len]; exact (List.getElem?_eq_some_iff.mp hf).1) hdg (fun H1 locs1 hP1 _ hS1 => ?_)
  rw [am_fl_set hf, am_wset (k := 3) (v := v) hi (by rw [hs.1, hs.2.1]; rfl), hs.2.2] at hP1
  exact kk _ H1 locs1 hP1 hS1 h
theorem gf_X1_33 {tys : List (ClassId × FieldType)} {ws : va_W} {q0 a : Nat} {fs : List Value} {v : Value} (hx : p.tables.exec = Jvm.exec) (hb : c.code = cc) (hta : ∀ w ∈ am_all, w.before args s = true) (hown : s.vm.findClass RX1 = some m.cls) (hK : va_K (dC, dI) vwCl tys s) (hP : va_P (dC, dI) vwCl ws H) (he : ws[q0]? = some (a, .inr (1, fs))) (hv : fs[4]? = some v) (hdg : decode cc pc = .ok (.getfield 33, 3)) (kk : W p l e R s m args below meth c H locs cells slots Q (F0 m (pc + 3) ls (v :: rest))) : W p l e R s m args below meth c H locs cells slots Q (F0 m pc ls (.ref a :: rest)) :=
  va_get (D := (dC, dI)) (ci := 1) (v := v) (C := RX1) (T := TX1) (N := 5) hx hb hta mu_X1 hown hK hP q0 he rfl 4 (by decide) (hta _ mf_X1_33) (fun _ h9 => h9) hv hdg kk
theorem pf_X1_33 {H0 : Heap} (hx : p.tables.exec = Jvm.exec) (hb : c.code = cc) (hta : ∀ w ∈ am_all, w.before args s = true) (hown : s.vm.findClass RX1 = some m.cls) (hK : va_K (dC, dI) vwCl (am_ty ca) s) (hP : va_P (dC, dI) vwCl (am_w ad (am_sh ca) 63 M) H) (hI : am_inj ad) (hS : va_S (am_A ad 63) H0 H locs) {i : Nat} {fs : List (Option Nat)} {r : am_M → Nat → Nat} {w : am_M → Nat → Nat → am_M} (hi : i < 63) (hs : am_is ca am_sh i (.inr (.inr (1, fs))) r w) {x : Int32} {P : am_M → Prop} (h : am_sf (w M 4) x P) (hdg : decode cc pc = .ok (.putfield 33, 3)) (kk : ∀ (M1 : am_M) (H1 : Heap) (locs1 : List Loc), va_P (dC, dI) vwCl (am_w ad (am_sh ca) 63 M1) H1 → va_S (am_A ad 63) H0 H1 locs1 → P M1 → W p l e R s m args below meth c H1 locs1 cells slots Q (F0 m (pc + 3) ls rest)) (hf : fs[4]? = some none := by rfl) : W p l e R s m args below meth c H locs cells slots Q (F0 m pc ls (.int x :: .ref (ad i) :: rest)) := by
  obtain ⟨v, rfl, h⟩ := h
  refine va_put (D := (dC, dI)) (ci := 1) (v := .int (nI v)) (ty := .int) (C := RX1) (T := TX1) (N := 5) hx hb hta mu_X1 tyX1 tyX1_ok nmX1 hown hK hP (am_D hI) hS i (am_wo hi hs) rfl 4 (by decide) (hta _ mf_X1_33) (fun _ h9 => h9) rfl (by decide +kernel) rfl rfl (by rw [am_fl_len]; exact (List.getElem?_eq_some_iff.mp hf).1) hdg (fun H1 locs1 hP1 _ hS1 => ?_)
  rw [am_fl_set hf, am_wset (k := 4) (v := v) hi (by rw [hs.1, hs.2.1]; rfl), hs.2.2] at hP1
  exact kk _ H1 locs1 hP1 hS1 h
theorem gf_X2_11 {tys : List (ClassId × FieldType)} {ws : va_W} {q0 a : Nat} {fs : List Value} {v : Value} (hx : p.tables.exec = Jvm.exec) (hb : c.code = cc) (hta : ∀ w ∈ am_all, w.before args s = true) (hown : s.vm.findClass RX2 = some m.cls) (hK : va_K (dC, dI) vwCl tys s) (hP : va_P (dC, dI) vwCl ws H) (he : ws[q0]? = some (a, .inr (2, fs))) (hv : fs[0]? = some v) (hdg : decode cc pc = .ok (.getfield 11, 3)) (kk : W p l e R s m args below meth c H locs cells slots Q (F0 m (pc + 3) ls (v :: rest))) : W p l e R s m args below meth c H locs cells slots Q (F0 m pc ls (.ref a :: rest)) :=
  va_get (D := (dC, dI)) (ci := 2) (v := v) (C := RX2) (T := TX2) (N := 2) hx hb hta mu_X2 hown hK hP q0 he rfl 0 (by decide) (hta _ mf_X2_11) (fun _ h9 => h9) hv hdg kk
theorem gf_X2_16 {tys : List (ClassId × FieldType)} {ws : va_W} {q0 a : Nat} {fs : List Value} {v : Value} (hx : p.tables.exec = Jvm.exec) (hb : c.code = cc) (hta : ∀ w ∈ am_all, w.before args s = true) (hown : s.vm.findClass RX2 = some m.cls) (hK : va_K (dC, dI) vwCl tys s) (hP : va_P (dC, dI) vwCl ws H) (he : ws[q0]? = some (a, .inr (2, fs))) (hv : fs[1]? = some v) (hdg : decode cc pc = .ok (.getfield 16, 3)) (kk : W p l e R s m args below meth c H locs cells slots Q (F0 m (pc + 3) ls (v :: rest))) : W p l e R s m args below meth c H locs cells slots Q (F0 m pc ls (.ref a :: rest)) :=
  va_get (D := (dC, dI)) (ci := 2) (v := v) (C := RX2) (T := TX2) (N := 2) hx hb hta mu_X2 hown hK hP q0 he rfl 1 (by decide) (hta _ mf_X2_16) (fun _ h9 => h9) hv hdg kk
theorem pf_X2_16 {H0 : Heap} (hx : p.tables.exec = Jvm.exec) (hb : c.code = cc) (hta : ∀ w ∈ am_all, w.before args s = true) (hown : s.vm.findClass RX2 = some m.cls) (hK : va_K (dC, dI) vwCl (am_ty ca) s) (hP : va_P (dC, dI) vwCl (am_w ad (am_sh ca) 63 M) H) (hI : am_inj ad) (hS : va_S (am_A ad 63) H0 H locs) {i : Nat} {fs : List (Option Nat)} {r : am_M → Nat → Nat} {w : am_M → Nat → Nat → am_M} (hi : i < 63) (hs : am_is ca am_sh i (.inr (.inr (2, fs))) r w) {x : Int32} {P : am_M → Prop} (h : am_sf (w M 1) x P) (hdg : decode cc pc = .ok (.putfield 16, 3)) (kk : ∀ (M1 : am_M) (H1 : Heap) (locs1 : List Loc), va_P (dC, dI) vwCl (am_w ad (am_sh ca) 63 M1) H1 → va_S (am_A ad 63) H0 H1 locs1 → P M1 → W p l e R s m args below meth c H1 locs1 cells slots Q (F0 m (pc + 3) ls rest)) (hf : fs[1]? = some none := by rfl) : W p l e R s m args below meth c H locs cells slots Q (F0 m pc ls (.int x :: .ref (ad i) :: rest)) := by
  obtain ⟨v, rfl, h⟩ := h
  refine va_put (D := (dC, dI)) (ci := 2) (v := .int (nI v)) (ty := .int) (C := RX2) (T := TX2) (N := 2) hx hb hta mu_X2 tyX2 tyX2_ok nmX2 hown hK hP (am_D hI) hS i (am_wo hi hs) rfl 1 (by decide) (hta _ mf_X2_16) (fun _ h9 => h9) rfl (by decide +kernel) rfl rfl (by rw [am_fl_len]; exact (List.getElem?_eq_some_iff.mp hf).1) hdg (fun H1 locs1 hP1 _ hS1 => ?_)
  rw [am_fl_set hf, am_wset (k := 1) (v := v) hi (by rw [hs.1, hs.2.1]; rfl), hs.2.2] at hP1
  exact kk _ H1 locs1 hP1 hS1 h
theorem gf_X3_15 {tys : List (ClassId × FieldType)} {ws : va_W} {q0 a : Nat} {fs : List Value} {v : Value} (hx : p.tables.exec = Jvm.exec) (hb : c.code = cc) (hta : ∀ w ∈ am_all, w.before args s = true) (hown : s.vm.findClass RX3 = some m.cls) (hK : va_K (dC, dI) vwCl tys s) (hP : va_P (dC, dI) vwCl ws H) (he : ws[q0]? = some (a, .inr (3, fs))) (hv : fs[1]? = some v) (hdg : decode cc pc = .ok (.getfield 15, 3)) (kk : W p l e R s m args below meth c H locs cells slots Q (F0 m (pc + 3) ls (v :: rest))) : W p l e R s m args below meth c H locs cells slots Q (F0 m pc ls (.ref a :: rest)) :=
  va_get (D := (dC, dI)) (ci := 3) (v := v) (C := RX3) (T := TX3) (N := 4) hx hb hta mu_X3 hown hK hP q0 he rfl 1 (by decide) (hta _ mf_X3_15) (fun _ h9 => h9) hv hdg kk
theorem gf_X3_19 {tys : List (ClassId × FieldType)} {ws : va_W} {q0 a : Nat} {fs : List Value} {v : Value} (hx : p.tables.exec = Jvm.exec) (hb : c.code = cc) (hta : ∀ w ∈ am_all, w.before args s = true) (hown : s.vm.findClass RX3 = some m.cls) (hK : va_K (dC, dI) vwCl tys s) (hP : va_P (dC, dI) vwCl ws H) (he : ws[q0]? = some (a, .inr (3, fs))) (hv : fs[2]? = some v) (hdg : decode cc pc = .ok (.getfield 19, 3)) (kk : W p l e R s m args below meth c H locs cells slots Q (F0 m (pc + 3) ls (v :: rest))) : W p l e R s m args below meth c H locs cells slots Q (F0 m pc ls (.ref a :: rest)) :=
  va_get (D := (dC, dI)) (ci := 3) (v := v) (C := RX3) (T := TX3) (N := 4) hx hb hta mu_X3 hown hK hP q0 he rfl 2 (by decide) (hta _ mf_X3_19) (fun _ h9 => h9) hv hdg kk
theorem gf_X3_25 {tys : List (ClassId × FieldType)} {ws : va_W} {q0 a : Nat} {fs : List Value} {v : Value} (hx : p.tables.exec = Jvm.exec) (hb : c.code = cc) (hta : ∀ w ∈ am_all, w.before args s = true) (hown : s.vm.findClass RX3 = some m.cls) (hK : va_K (dC, dI) vwCl tys s) (hP : va_P (dC, dI) vwCl ws H) (he : ws[q0]? = some (a, .inr (3, fs))) (hv : fs[3]? = some v) (hdg : decode cc pc = .ok (.getfield 25, 3)) (kk : W p l e R s m args below meth c H locs cells slots Q (F0 m (pc + 3) ls (v :: rest))) : W p l e R s m args below meth c H locs cells slots Q (F0 m pc ls (.ref a :: rest)) :=
  va_get (D := (dC, dI)) (ci := 3) (v := v) (C := RX3) (T := TX3) (N := 4) hx hb hta mu_X3 hown hK hP q0 he rfl 3 (by decide) (hta _ mf_X3_25) (fun _ h9 => h9) hv hdg kk
theorem gf_X3_61 {tys : List (ClassId × FieldType)} {ws : va_W} {q0 a : Nat} {fs : List Value} {v : Value} (hx : p.tables.exec = Jvm.exec) (hb : c.code = cc) (hta : ∀ w ∈ am_all, w.before args s = true) (hown : s.vm.findClass RX3 = some m.cls) (hK : va_K (dC, dI) vwCl tys s) (hP : va_P (dC, dI) vwCl ws H) (he : ws[q0]? = some (a, .inr (1, fs))) (hv : fs[1]? = some v) (hdg : decode cc pc = .ok (.getfield 61, 3)) (kk : W p l e R s m args below meth c H locs cells slots Q (F0 m (pc + 3) ls (v :: rest))) : W p l e R s m args below meth c H locs cells slots Q (F0 m pc ls (.ref a :: rest)) :=
  va_get (D := (dC, dI)) (ci := 1) (v := v) (C := RX1) (T := TX1) (N := 5) hx hb hta mu_X1 hown hK hP q0 he rfl 1 (by decide) (hta _ mf_X3_61) (fun _ h9 => h9) hv hdg kk
theorem gf_X4_9 {tys : List (ClassId × FieldType)} {ws : va_W} {q0 a : Nat} {fs : List Value} {v : Value} (hx : p.tables.exec = Jvm.exec) (hb : c.code = cc) (hta : ∀ w ∈ am_all, w.before args s = true) (hown : s.vm.findClass RX4 = some m.cls) (hK : va_K (dC, dI) vwCl tys s) (hP : va_P (dC, dI) vwCl ws H) (he : ws[q0]? = some (a, .inr (4, fs))) (hv : fs[2]? = some v) (hdg : decode cc pc = .ok (.getfield 9, 3)) (kk : W p l e R s m args below meth c H locs cells slots Q (F0 m (pc + 3) ls (v :: rest))) : W p l e R s m args below meth c H locs cells slots Q (F0 m pc ls (.ref a :: rest)) :=
  va_get (D := (dC, dI)) (ci := 4) (v := v) (C := RX4) (T := TX4) (N := 6) hx hb hta mu_X4 hown hK hP q0 he rfl 2 (by decide) (hta _ mf_X4_9) (fun _ h9 => h9) hv hdg kk
theorem pf_X4_9 {H0 : Heap} (hx : p.tables.exec = Jvm.exec) (hb : c.code = cc) (hta : ∀ w ∈ am_all, w.before args s = true) (hown : s.vm.findClass RX4 = some m.cls) (hK : va_K (dC, dI) vwCl (am_ty ca) s) (hP : va_P (dC, dI) vwCl (am_w ad (am_sh ca) 63 M) H) (hI : am_inj ad) (hS : va_S (am_A ad 63) H0 H locs) {i : Nat} {fs : List (Option Nat)} {r : am_M → Nat → Nat} {w : am_M → Nat → Nat → am_M} (hi : i < 63) (hs : am_is ca am_sh i (.inr (.inr (4, fs))) r w) {x : Int32} {P : am_M → Prop} (h : am_sf (w M 2) x P) (hdg : decode cc pc = .ok (.putfield 9, 3)) (kk : ∀ (M1 : am_M) (H1 : Heap) (locs1 : List Loc), va_P (dC, dI) vwCl (am_w ad (am_sh ca) 63 M1) H1 → va_S (am_A ad 63) H0 H1 locs1 → P M1 → W p l e R s m args below meth c H1 locs1 cells slots Q (F0 m (pc + 3) ls rest)) (hf : fs[2]? = some none := by rfl) : W p l e R s m args below meth c H locs cells slots Q (F0 m pc ls (.int x :: .ref (ad i) :: rest)) := by
  obtain ⟨v, rfl, h⟩ := h
  refine va_put (D := (dC, dI)) (ci := 4) (v := .int (nI v)) (ty := .int) (C := RX4) (T := TX4) (N := 6) hx hb hta mu_X4 tyX4 tyX4_ok nmX4 hown hK hP (am_D hI) hS i (am_wo hi hs) rfl 2 (by decide) (hta _ mf_X4_9) (fun _ h9 => h9) rfl (by decide +kernel) rfl rfl (by rw [am_fl_len]; exact (List.getElem?_eq_some_iff.mp hf).1) hdg (fun H1 locs1 hP1 _ hS1 => ?_)
  rw [am_fl_set hf, am_wset (k := 2) (v := v) hi (by rw [hs.1, hs.2.1]; rfl), hs.2.2] at hP1
  exact kk _ H1 locs1 hP1 hS1 h
theorem gf_X4_15 {tys : List (ClassId × FieldType)} {ws : va_W} {q0 a : Nat} {fs : List Value} {v : Value} (hx : p.tables.exec = Jvm.exec) (hb : c.code = cc) (hta : ∀ w ∈ am_all, w.before args s = true) (hown : s.vm.findClass RX4 = some m.cls) (hK : va_K (dC, dI) vwCl tys s) (hP : va_P (dC, dI) vwCl ws H) (he : ws[q0]? = some (a, .inr (4, fs))) (hv : fs[3]? = some v) (hdg : decode cc pc = .ok (.getfield 15, 3)) (kk : W p l e R s m args below meth c H locs cells slots Q (F0 m (pc + 3) ls (v :: rest))) : W p l e R s m args below meth c H locs cells slots Q (F0 m pc ls (.ref a :: rest)) :=
  va_get (D := (dC, dI)) (ci := 4) (v := v) (C := RX4) (T := TX4) (N := 6) hx hb hta mu_X4 hown hK hP q0 he rfl 3 (by decide) (hta _ mf_X4_15) (fun _ h9 => h9) hv hdg kk
theorem pf_X4_15 {H0 : Heap} (hx : p.tables.exec = Jvm.exec) (hb : c.code = cc) (hta : ∀ w ∈ am_all, w.before args s = true) (hown : s.vm.findClass RX4 = some m.cls) (hK : va_K (dC, dI) vwCl (am_ty ca) s) (hP : va_P (dC, dI) vwCl (am_w ad (am_sh ca) 63 M) H) (hI : am_inj ad) (hS : va_S (am_A ad 63) H0 H locs) {i : Nat} {fs : List (Option Nat)} {r : am_M → Nat → Nat} {w : am_M → Nat → Nat → am_M} (hi : i < 63) (hs : am_is ca am_sh i (.inr (.inr (4, fs))) r w) {x : Int32} {P : am_M → Prop} (h : am_sf (w M 3) x P) (hdg : decode cc pc = .ok (.putfield 15, 3)) (kk : ∀ (M1 : am_M) (H1 : Heap) (locs1 : List Loc), va_P (dC, dI) vwCl (am_w ad (am_sh ca) 63 M1) H1 → va_S (am_A ad 63) H0 H1 locs1 → P M1 → W p l e R s m args below meth c H1 locs1 cells slots Q (F0 m (pc + 3) ls rest)) (hf : fs[3]? = some none := by rfl) : W p l e R s m args below meth c H locs cells slots Q (F0 m pc ls (.int x :: .ref (ad i) :: rest)) := by
  obtain ⟨v, rfl, h⟩ := h
  refine va_put (D := (dC, dI)) (ci := 4) (v := .int (nI v)) (ty := .int) (C := RX4) (T := TX4) (N := 6) hx hb hta mu_X4 tyX4 tyX4_ok nmX4 hown hK hP (am_D hI) hS i (am_wo hi hs) rfl 3 (by decide) (hta _ mf_X4_15) (fun _ h9 => h9) rfl (by decide +kernel) rfl rfl (by rw [am_fl_len]; exact (List.getElem?_eq_some_iff.mp hf).1) hdg (fun H1 locs1 hP1 _ hS1 => ?_)
  rw [am_fl_set hf, am_wset (k := 3) (v := v) hi (by rw [hs.1, hs.2.1]; rfl), hs.2.2] at hP1
  exact kk _ H1 locs1 hP1 hS1 h
theorem gf_X4_18 {tys : List (ClassId × FieldType)} {ws : va_W} {q0 a : Nat} {fs : List Value} {v : Value} (hx : p.tables.exec = Jvm.exec) (hb : c.code = cc) (hta : ∀ w ∈ am_all, w.before args s = true) (hown : s.vm.findClass RX4 = some m.cls) (hK : va_K (dC, dI) vwCl tys s) (hP : va_P (dC, dI) vwCl ws H) (he : ws[q0]? = some (a, .inr (4, fs))) (hv : fs[4]? = some v) (hdg : decode cc pc = .ok (.getfield 18, 3)) (kk : W p l e R s m args below meth c H locs cells slots Q (F0 m (pc + 3) ls (v :: rest))) : W p l e R s m args below meth c H locs cells slots Q (F0 m pc ls (.ref a :: rest)) :=
  va_get (D := (dC, dI)) (ci := 4) (v := v) (C := RX4) (T := TX4) (N := 6) hx hb hta mu_X4 hown hK hP q0 he rfl 4 (by decide) (hta _ mf_X4_18) (fun _ h9 => h9) hv hdg kk
theorem pf_X4_18 {H0 : Heap} (hx : p.tables.exec = Jvm.exec) (hb : c.code = cc) (hta : ∀ w ∈ am_all, w.before args s = true) (hown : s.vm.findClass RX4 = some m.cls) (hK : va_K (dC, dI) vwCl (am_ty ca) s) (hP : va_P (dC, dI) vwCl (am_w ad (am_sh ca) 63 M) H) (hI : am_inj ad) (hS : va_S (am_A ad 63) H0 H locs) {i : Nat} {fs : List (Option Nat)} {r : am_M → Nat → Nat} {w : am_M → Nat → Nat → am_M} (hi : i < 63) (hs : am_is ca am_sh i (.inr (.inr (4, fs))) r w) {x : Int32} {P : am_M → Prop} (h : am_sf (w M 4) x P) (hdg : decode cc pc = .ok (.putfield 18, 3)) (kk : ∀ (M1 : am_M) (H1 : Heap) (locs1 : List Loc), va_P (dC, dI) vwCl (am_w ad (am_sh ca) 63 M1) H1 → va_S (am_A ad 63) H0 H1 locs1 → P M1 → W p l e R s m args below meth c H1 locs1 cells slots Q (F0 m (pc + 3) ls rest)) (hf : fs[4]? = some none := by rfl) : W p l e R s m args below meth c H locs cells slots Q (F0 m pc ls (.int x :: .ref (ad i) :: rest)) := by
  obtain ⟨v, rfl, h⟩ := h
  refine va_put (D := (dC, dI)) (ci := 4) (v := .int (nI v)) (ty := .int) (C := RX4) (T := TX4) (N := 6) hx hb hta mu_X4 tyX4 tyX4_ok nmX4 hown hK hP (am_D hI) hS i (am_wo hi hs) rfl 4 (by decide) (hta _ mf_X4_18) (fun _ h9 => h9) rfl (by decide +kernel) rfl rfl (by rw [am_fl_len]; exact (List.getElem?_eq_some_iff.mp hf).1) hdg (fun H1 locs1 hP1 _ hS1 => ?_)
  rw [am_fl_set hf, am_wset (k := 4) (v := v) hi (by rw [hs.1, hs.2.1]; rfl), hs.2.2] at hP1
  exact kk _ H1 locs1 hP1 hS1 h
theorem pf_X4_21 {H0 : Heap} (hx : p.tables.exec = Jvm.exec) (hb : c.code = cc) (hta : ∀ w ∈ am_all, w.before args s = true) (hown : s.vm.findClass RX4 = some m.cls) (hK : va_K (dC, dI) vwCl (am_ty ca) s) (hP : va_P (dC, dI) vwCl (am_w ad (am_sh ca) 63 M) H) (hI : am_inj ad) (hS : va_S (am_A ad 63) H0 H locs) {i : Nat} {fs : List (Option Nat)} {r : am_M → Nat → Nat} {w : am_M → Nat → Nat → am_M} (hi : i < 63) (hs : am_is ca am_sh i (.inr (.inr (4, fs))) r w) {x : Int32} {P : am_M → Prop} (h : am_sf (w M 1) x P) (hdg : decode cc pc = .ok (.putfield 21, 3)) (kk : ∀ (M1 : am_M) (H1 : Heap) (locs1 : List Loc), va_P (dC, dI) vwCl (am_w ad (am_sh ca) 63 M1) H1 → va_S (am_A ad 63) H0 H1 locs1 → P M1 → W p l e R s m args below meth c H1 locs1 cells slots Q (F0 m (pc + 3) ls rest)) (hf : fs[1]? = some none := by rfl) : W p l e R s m args below meth c H locs cells slots Q (F0 m pc ls (.int x :: .ref (ad i) :: rest)) := by
  obtain ⟨v, rfl, h⟩ := h
  refine va_put (D := (dC, dI)) (ci := 4) (v := .int (nI v)) (ty := .int) (C := RX4) (T := TX4) (N := 6) hx hb hta mu_X4 tyX4 tyX4_ok nmX4 hown hK hP (am_D hI) hS i (am_wo hi hs) rfl 1 (by decide) (hta _ mf_X4_21) (fun _ h9 => h9) rfl (by decide +kernel) rfl rfl (by rw [am_fl_len]; exact (List.getElem?_eq_some_iff.mp hf).1) hdg (fun H1 locs1 hP1 _ hS1 => ?_)
  rw [am_fl_set hf, am_wset (k := 1) (v := v) hi (by rw [hs.1, hs.2.1]; rfl), hs.2.2] at hP1
  exact kk _ H1 locs1 hP1 hS1 h
theorem pf_X4_24 {H0 : Heap} (hx : p.tables.exec = Jvm.exec) (hb : c.code = cc) (hta : ∀ w ∈ am_all, w.before args s = true) (hown : s.vm.findClass RX4 = some m.cls) (hK : va_K (dC, dI) vwCl (am_ty ca) s) (hP : va_P (dC, dI) vwCl (am_w ad (am_sh ca) 63 M) H) (hI : am_inj ad) (hS : va_S (am_A ad 63) H0 H locs) {i : Nat} {fs : List (Option Nat)} {r : am_M → Nat → Nat} {w : am_M → Nat → Nat → am_M} (hi : i < 63) (hs : am_is ca am_sh i (.inr (.inr (4, fs))) r w) {x : Int32} {P : am_M → Prop} (h : am_sf (w M 5) x P) (hdg : decode cc pc = .ok (.putfield 24, 3)) (kk : ∀ (M1 : am_M) (H1 : Heap) (locs1 : List Loc), va_P (dC, dI) vwCl (am_w ad (am_sh ca) 63 M1) H1 → va_S (am_A ad 63) H0 H1 locs1 → P M1 → W p l e R s m args below meth c H1 locs1 cells slots Q (F0 m (pc + 3) ls rest)) (hf : fs[5]? = some none := by rfl) : W p l e R s m args below meth c H locs cells slots Q (F0 m pc ls (.int x :: .ref (ad i) :: rest)) := by
  obtain ⟨v, rfl, h⟩ := h
  refine va_put (D := (dC, dI)) (ci := 4) (v := .int (nI v)) (ty := .int) (C := RX4) (T := TX4) (N := 6) hx hb hta mu_X4 tyX4 tyX4_ok nmX4 hown hK hP (am_D hI) hS i (am_wo hi hs) rfl 5 (by decide) (hta _ mf_X4_24) (fun _ h9 => h9) rfl (by decide +kernel) rfl rfl (by rw [am_fl_len]; exact (List.getElem?_eq_some_iff.mp hf).1) hdg (fun H1 locs1 hP1 _ hS1 => ?_)
  rw [am_fl_set hf, am_wset (k := 5) (v := v) hi (by rw [hs.1, hs.2.1]; rfl), hs.2.2] at hP1
  exact kk _ H1 locs1 hP1 hS1 h
theorem gf_X5_7 {tys : List (ClassId × FieldType)} {ws : va_W} {q0 a : Nat} {fs : List Value} {v : Value} (hx : p.tables.exec = Jvm.exec) (hb : c.code = cc) (hta : ∀ w ∈ am_all, w.before args s = true) (hown : s.vm.findClass RX5 = some m.cls) (hK : va_K (dC, dI) vwCl tys s) (hP : va_P (dC, dI) vwCl ws H) (he : ws[q0]? = some (a, .inr (5, fs))) (hv : fs[0]? = some v) (hdg : decode cc pc = .ok (.getfield 7, 3)) (kk : W p l e R s m args below meth c H locs cells slots Q (F0 m (pc + 3) ls (v :: rest))) : W p l e R s m args below meth c H locs cells slots Q (F0 m pc ls (.ref a :: rest)) :=
  va_get (D := (dC, dI)) (ci := 5) (v := v) (C := RX5) (T := TX5) (N := 21) hx hb hta mu_X5 hown hK hP q0 he rfl 0 (by decide) (hta _ mf_X5_7) (fun _ h9 => h9) hv hdg kk
theorem gf_X5_13 {tys : List (ClassId × FieldType)} {ws : va_W} {q0 a : Nat} {fs : List Value} {v : Value} (hx : p.tables.exec = Jvm.exec) (hb : c.code = cc) (hta : ∀ w ∈ am_all, w.before args s = true) (hown : s.vm.findClass RX5 = some m.cls) (hK : va_K (dC, dI) vwCl tys s) (hP : va_P (dC, dI) vwCl ws H) (he : ws[q0]? = some (a, .inr (5, fs))) (hv : fs[1]? = some v) (hdg : decode cc pc = .ok (.getfield 13, 3)) (kk : W p l e R s m args below meth c H locs cells slots Q (F0 m (pc + 3) ls (v :: rest))) : W p l e R s m args below meth c H locs cells slots Q (F0 m pc ls (.ref a :: rest)) :=
  va_get (D := (dC, dI)) (ci := 5) (v := v) (C := RX5) (T := TX5) (N := 21) hx hb hta mu_X5 hown hK hP q0 he rfl 1 (by decide) (hta _ mf_X5_13) (fun _ h9 => h9) hv hdg kk
theorem gf_X5_17 {tys : List (ClassId × FieldType)} {ws : va_W} {q0 a : Nat} {fs : List Value} {v : Value} (hx : p.tables.exec = Jvm.exec) (hb : c.code = cc) (hta : ∀ w ∈ am_all, w.before args s = true) (hown : s.vm.findClass RX5 = some m.cls) (hK : va_K (dC, dI) vwCl tys s) (hP : va_P (dC, dI) vwCl ws H) (he : ws[q0]? = some (a, .inr (5, fs))) (hv : fs[3]? = some v) (hdg : decode cc pc = .ok (.getfield 17, 3)) (kk : W p l e R s m args below meth c H locs cells slots Q (F0 m (pc + 3) ls (v :: rest))) : W p l e R s m args below meth c H locs cells slots Q (F0 m pc ls (.ref a :: rest)) :=
  va_get (D := (dC, dI)) (ci := 5) (v := v) (C := RX5) (T := TX5) (N := 21) hx hb hta mu_X5 hown hK hP q0 he rfl 3 (by decide) (hta _ mf_X5_17) (fun _ h9 => h9) hv hdg kk
theorem gf_X5_20 {tys : List (ClassId × FieldType)} {ws : va_W} {q0 a : Nat} {fs : List Value} {v : Value} (hx : p.tables.exec = Jvm.exec) (hb : c.code = cc) (hta : ∀ w ∈ am_all, w.before args s = true) (hown : s.vm.findClass RX5 = some m.cls) (hK : va_K (dC, dI) vwCl tys s) (hP : va_P (dC, dI) vwCl ws H) (he : ws[q0]? = some (a, .inr (5, fs))) (hv : fs[4]? = some v) (hdg : decode cc pc = .ok (.getfield 20, 3)) (kk : W p l e R s m args below meth c H locs cells slots Q (F0 m (pc + 3) ls (v :: rest))) : W p l e R s m args below meth c H locs cells slots Q (F0 m pc ls (.ref a :: rest)) :=
  va_get (D := (dC, dI)) (ci := 5) (v := v) (C := RX5) (T := TX5) (N := 21) hx hb hta mu_X5 hown hK hP q0 he rfl 4 (by decide) (hta _ mf_X5_20) (fun _ h9 => h9) hv hdg kk
theorem gf_X5_23 {tys : List (ClassId × FieldType)} {ws : va_W} {q0 a : Nat} {fs : List Value} {v : Value} (hx : p.tables.exec = Jvm.exec) (hb : c.code = cc) (hta : ∀ w ∈ am_all, w.before args s = true) (hown : s.vm.findClass RX5 = some m.cls) (hK : va_K (dC, dI) vwCl tys s) (hP : va_P (dC, dI) vwCl ws H) (he : ws[q0]? = some (a, .inr (5, fs))) (hv : fs[5]? = some v) (hdg : decode cc pc = .ok (.getfield 23, 3)) (kk : W p l e R s m args below meth c H locs cells slots Q (F0 m (pc + 3) ls (v :: rest))) : W p l e R s m args below meth c H locs cells slots Q (F0 m pc ls (.ref a :: rest)) :=
  va_get (D := (dC, dI)) (ci := 5) (v := v) (C := RX5) (T := TX5) (N := 21) hx hb hta mu_X5 hown hK hP q0 he rfl 5 (by decide) (hta _ mf_X5_23) (fun _ h9 => h9) hv hdg kk
theorem gf_X5_26 {tys : List (ClassId × FieldType)} {ws : va_W} {q0 a : Nat} {fs : List Value} {v : Value} (hx : p.tables.exec = Jvm.exec) (hb : c.code = cc) (hta : ∀ w ∈ am_all, w.before args s = true) (hown : s.vm.findClass RX5 = some m.cls) (hK : va_K (dC, dI) vwCl tys s) (hP : va_P (dC, dI) vwCl ws H) (he : ws[q0]? = some (a, .inr (5, fs))) (hv : fs[6]? = some v) (hdg : decode cc pc = .ok (.getfield 26, 3)) (kk : W p l e R s m args below meth c H locs cells slots Q (F0 m (pc + 3) ls (v :: rest))) : W p l e R s m args below meth c H locs cells slots Q (F0 m pc ls (.ref a :: rest)) :=
  va_get (D := (dC, dI)) (ci := 5) (v := v) (C := RX5) (T := TX5) (N := 21) hx hb hta mu_X5 hown hK hP q0 he rfl 6 (by decide) (hta _ mf_X5_26) (fun _ h9 => h9) hv hdg kk
theorem gf_X5_29 {tys : List (ClassId × FieldType)} {ws : va_W} {q0 a : Nat} {fs : List Value} {v : Value} (hx : p.tables.exec = Jvm.exec) (hb : c.code = cc) (hta : ∀ w ∈ am_all, w.before args s = true) (hown : s.vm.findClass RX5 = some m.cls) (hK : va_K (dC, dI) vwCl tys s) (hP : va_P (dC, dI) vwCl ws H) (he : ws[q0]? = some (a, .inr (5, fs))) (hv : fs[7]? = some v) (hdg : decode cc pc = .ok (.getfield 29, 3)) (kk : W p l e R s m args below meth c H locs cells slots Q (F0 m (pc + 3) ls (v :: rest))) : W p l e R s m args below meth c H locs cells slots Q (F0 m pc ls (.ref a :: rest)) :=
  va_get (D := (dC, dI)) (ci := 5) (v := v) (C := RX5) (T := TX5) (N := 21) hx hb hta mu_X5 hown hK hP q0 he rfl 7 (by decide) (hta _ mf_X5_29) (fun _ h9 => h9) hv hdg kk
theorem gf_X5_32 {tys : List (ClassId × FieldType)} {ws : va_W} {q0 a : Nat} {fs : List Value} {v : Value} (hx : p.tables.exec = Jvm.exec) (hb : c.code = cc) (hta : ∀ w ∈ am_all, w.before args s = true) (hown : s.vm.findClass RX5 = some m.cls) (hK : va_K (dC, dI) vwCl tys s) (hP : va_P (dC, dI) vwCl ws H) (he : ws[q0]? = some (a, .inr (5, fs))) (hv : fs[8]? = some v) (hdg : decode cc pc = .ok (.getfield 32, 3)) (kk : W p l e R s m args below meth c H locs cells slots Q (F0 m (pc + 3) ls (v :: rest))) : W p l e R s m args below meth c H locs cells slots Q (F0 m pc ls (.ref a :: rest)) :=
  va_get (D := (dC, dI)) (ci := 5) (v := v) (C := RX5) (T := TX5) (N := 21) hx hb hta mu_X5 hown hK hP q0 he rfl 8 (by decide) (hta _ mf_X5_32) (fun _ h9 => h9) hv hdg kk
theorem gf_X5_35 {tys : List (ClassId × FieldType)} {ws : va_W} {q0 a : Nat} {fs : List Value} {v : Value} (hx : p.tables.exec = Jvm.exec) (hb : c.code = cc) (hta : ∀ w ∈ am_all, w.before args s = true) (hown : s.vm.findClass RX5 = some m.cls) (hK : va_K (dC, dI) vwCl tys s) (hP : va_P (dC, dI) vwCl ws H) (he : ws[q0]? = some (a, .inr (5, fs))) (hv : fs[9]? = some v) (hdg : decode cc pc = .ok (.getfield 35, 3)) (kk : W p l e R s m args below meth c H locs cells slots Q (F0 m (pc + 3) ls (v :: rest))) : W p l e R s m args below meth c H locs cells slots Q (F0 m pc ls (.ref a :: rest)) :=
  va_get (D := (dC, dI)) (ci := 5) (v := v) (C := RX5) (T := TX5) (N := 21) hx hb hta mu_X5 hown hK hP q0 he rfl 9 (by decide) (hta _ mf_X5_35) (fun _ h9 => h9) hv hdg kk
theorem gf_X5_38 {tys : List (ClassId × FieldType)} {ws : va_W} {q0 a : Nat} {fs : List Value} {v : Value} (hx : p.tables.exec = Jvm.exec) (hb : c.code = cc) (hta : ∀ w ∈ am_all, w.before args s = true) (hown : s.vm.findClass RX5 = some m.cls) (hK : va_K (dC, dI) vwCl tys s) (hP : va_P (dC, dI) vwCl ws H) (he : ws[q0]? = some (a, .inr (5, fs))) (hv : fs[10]? = some v) (hdg : decode cc pc = .ok (.getfield 38, 3)) (kk : W p l e R s m args below meth c H locs cells slots Q (F0 m (pc + 3) ls (v :: rest))) : W p l e R s m args below meth c H locs cells slots Q (F0 m pc ls (.ref a :: rest)) :=
  va_get (D := (dC, dI)) (ci := 5) (v := v) (C := RX5) (T := TX5) (N := 21) hx hb hta mu_X5 hown hK hP q0 he rfl 10 (by decide) (hta _ mf_X5_38) (fun _ h9 => h9) hv hdg kk
theorem gf_X5_41 {tys : List (ClassId × FieldType)} {ws : va_W} {q0 a : Nat} {fs : List Value} {v : Value} (hx : p.tables.exec = Jvm.exec) (hb : c.code = cc) (hta : ∀ w ∈ am_all, w.before args s = true) (hown : s.vm.findClass RX5 = some m.cls) (hK : va_K (dC, dI) vwCl tys s) (hP : va_P (dC, dI) vwCl ws H) (he : ws[q0]? = some (a, .inr (5, fs))) (hv : fs[11]? = some v) (hdg : decode cc pc = .ok (.getfield 41, 3)) (kk : W p l e R s m args below meth c H locs cells slots Q (F0 m (pc + 3) ls (v :: rest))) : W p l e R s m args below meth c H locs cells slots Q (F0 m pc ls (.ref a :: rest)) :=
  va_get (D := (dC, dI)) (ci := 5) (v := v) (C := RX5) (T := TX5) (N := 21) hx hb hta mu_X5 hown hK hP q0 he rfl 11 (by decide) (hta _ mf_X5_41) (fun _ h9 => h9) hv hdg kk
theorem gf_X5_44 {tys : List (ClassId × FieldType)} {ws : va_W} {q0 a : Nat} {fs : List Value} {v : Value} (hx : p.tables.exec = Jvm.exec) (hb : c.code = cc) (hta : ∀ w ∈ am_all, w.before args s = true) (hown : s.vm.findClass RX5 = some m.cls) (hK : va_K (dC, dI) vwCl tys s) (hP : va_P (dC, dI) vwCl ws H) (he : ws[q0]? = some (a, .inr (5, fs))) (hv : fs[12]? = some v) (hdg : decode cc pc = .ok (.getfield 44, 3)) (kk : W p l e R s m args below meth c H locs cells slots Q (F0 m (pc + 3) ls (v :: rest))) : W p l e R s m args below meth c H locs cells slots Q (F0 m pc ls (.ref a :: rest)) :=
  va_get (D := (dC, dI)) (ci := 5) (v := v) (C := RX5) (T := TX5) (N := 21) hx hb hta mu_X5 hown hK hP q0 he rfl 12 (by decide) (hta _ mf_X5_44) (fun _ h9 => h9) hv hdg kk
theorem gf_X5_47 {tys : List (ClassId × FieldType)} {ws : va_W} {q0 a : Nat} {fs : List Value} {v : Value} (hx : p.tables.exec = Jvm.exec) (hb : c.code = cc) (hta : ∀ w ∈ am_all, w.before args s = true) (hown : s.vm.findClass RX5 = some m.cls) (hK : va_K (dC, dI) vwCl tys s) (hP : va_P (dC, dI) vwCl ws H) (he : ws[q0]? = some (a, .inr (5, fs))) (hv : fs[13]? = some v) (hdg : decode cc pc = .ok (.getfield 47, 3)) (kk : W p l e R s m args below meth c H locs cells slots Q (F0 m (pc + 3) ls (v :: rest))) : W p l e R s m args below meth c H locs cells slots Q (F0 m pc ls (.ref a :: rest)) :=
  va_get (D := (dC, dI)) (ci := 5) (v := v) (C := RX5) (T := TX5) (N := 21) hx hb hta mu_X5 hown hK hP q0 he rfl 13 (by decide) (hta _ mf_X5_47) (fun _ h9 => h9) hv hdg kk
theorem gf_X5_50 {tys : List (ClassId × FieldType)} {ws : va_W} {q0 a : Nat} {fs : List Value} {v : Value} (hx : p.tables.exec = Jvm.exec) (hb : c.code = cc) (hta : ∀ w ∈ am_all, w.before args s = true) (hown : s.vm.findClass RX5 = some m.cls) (hK : va_K (dC, dI) vwCl tys s) (hP : va_P (dC, dI) vwCl ws H) (he : ws[q0]? = some (a, .inr (5, fs))) (hv : fs[14]? = some v) (hdg : decode cc pc = .ok (.getfield 50, 3)) (kk : W p l e R s m args below meth c H locs cells slots Q (F0 m (pc + 3) ls (v :: rest))) : W p l e R s m args below meth c H locs cells slots Q (F0 m pc ls (.ref a :: rest)) :=
  va_get (D := (dC, dI)) (ci := 5) (v := v) (C := RX5) (T := TX5) (N := 21) hx hb hta mu_X5 hown hK hP q0 he rfl 14 (by decide) (hta _ mf_X5_50) (fun _ h9 => h9) hv hdg kk
theorem gf_X5_53 {tys : List (ClassId × FieldType)} {ws : va_W} {q0 a : Nat} {fs : List Value} {v : Value} (hx : p.tables.exec = Jvm.exec) (hb : c.code = cc) (hta : ∀ w ∈ am_all, w.before args s = true) (hown : s.vm.findClass RX5 = some m.cls) (hK : va_K (dC, dI) vwCl tys s) (hP : va_P (dC, dI) vwCl ws H) (he : ws[q0]? = some (a, .inr (5, fs))) (hv : fs[15]? = some v) (hdg : decode cc pc = .ok (.getfield 53, 3)) (kk : W p l e R s m args below meth c H locs cells slots Q (F0 m (pc + 3) ls (v :: rest))) : W p l e R s m args below meth c H locs cells slots Q (F0 m pc ls (.ref a :: rest)) :=
  va_get (D := (dC, dI)) (ci := 5) (v := v) (C := RX5) (T := TX5) (N := 21) hx hb hta mu_X5 hown hK hP q0 he rfl 15 (by decide) (hta _ mf_X5_53) (fun _ h9 => h9) hv hdg kk
theorem gf_X5_56 {tys : List (ClassId × FieldType)} {ws : va_W} {q0 a : Nat} {fs : List Value} {v : Value} (hx : p.tables.exec = Jvm.exec) (hb : c.code = cc) (hta : ∀ w ∈ am_all, w.before args s = true) (hown : s.vm.findClass RX5 = some m.cls) (hK : va_K (dC, dI) vwCl tys s) (hP : va_P (dC, dI) vwCl ws H) (he : ws[q0]? = some (a, .inr (5, fs))) (hv : fs[17]? = some v) (hdg : decode cc pc = .ok (.getfield 56, 3)) (kk : W p l e R s m args below meth c H locs cells slots Q (F0 m (pc + 3) ls (v :: rest))) : W p l e R s m args below meth c H locs cells slots Q (F0 m pc ls (.ref a :: rest)) :=
  va_get (D := (dC, dI)) (ci := 5) (v := v) (C := RX5) (T := TX5) (N := 21) hx hb hta mu_X5 hown hK hP q0 he rfl 17 (by decide) (hta _ mf_X5_56) (fun _ h9 => h9) hv hdg kk
theorem gf_X5_59 {tys : List (ClassId × FieldType)} {ws : va_W} {q0 a : Nat} {fs : List Value} {v : Value} (hx : p.tables.exec = Jvm.exec) (hb : c.code = cc) (hta : ∀ w ∈ am_all, w.before args s = true) (hown : s.vm.findClass RX5 = some m.cls) (hK : va_K (dC, dI) vwCl tys s) (hP : va_P (dC, dI) vwCl ws H) (he : ws[q0]? = some (a, .inr (5, fs))) (hv : fs[18]? = some v) (hdg : decode cc pc = .ok (.getfield 59, 3)) (kk : W p l e R s m args below meth c H locs cells slots Q (F0 m (pc + 3) ls (v :: rest))) : W p l e R s m args below meth c H locs cells slots Q (F0 m pc ls (.ref a :: rest)) :=
  va_get (D := (dC, dI)) (ci := 5) (v := v) (C := RX5) (T := TX5) (N := 21) hx hb hta mu_X5 hown hK hP q0 he rfl 18 (by decide) (hta _ mf_X5_59) (fun _ h9 => h9) hv hdg kk
theorem gf_X5_62 {tys : List (ClassId × FieldType)} {ws : va_W} {q0 a : Nat} {fs : List Value} {v : Value} (hx : p.tables.exec = Jvm.exec) (hb : c.code = cc) (hta : ∀ w ∈ am_all, w.before args s = true) (hown : s.vm.findClass RX5 = some m.cls) (hK : va_K (dC, dI) vwCl tys s) (hP : va_P (dC, dI) vwCl ws H) (he : ws[q0]? = some (a, .inr (5, fs))) (hv : fs[19]? = some v) (hdg : decode cc pc = .ok (.getfield 62, 3)) (kk : W p l e R s m args below meth c H locs cells slots Q (F0 m (pc + 3) ls (v :: rest))) : W p l e R s m args below meth c H locs cells slots Q (F0 m pc ls (.ref a :: rest)) :=
  va_get (D := (dC, dI)) (ci := 5) (v := v) (C := RX5) (T := TX5) (N := 21) hx hb hta mu_X5 hown hK hP q0 he rfl 19 (by decide) (hta _ mf_X5_62) (fun _ h9 => h9) hv hdg kk
theorem gf_X5_65 {tys : List (ClassId × FieldType)} {ws : va_W} {q0 a : Nat} {fs : List Value} {v : Value} (hx : p.tables.exec = Jvm.exec) (hb : c.code = cc) (hta : ∀ w ∈ am_all, w.before args s = true) (hown : s.vm.findClass RX5 = some m.cls) (hK : va_K (dC, dI) vwCl tys s) (hP : va_P (dC, dI) vwCl ws H) (he : ws[q0]? = some (a, .inr (5, fs))) (hv : fs[20]? = some v) (hdg : decode cc pc = .ok (.getfield 65, 3)) (kk : W p l e R s m args below meth c H locs cells slots Q (F0 m (pc + 3) ls (v :: rest))) : W p l e R s m args below meth c H locs cells slots Q (F0 m pc ls (.ref a :: rest)) :=
  va_get (D := (dC, dI)) (ci := 5) (v := v) (C := RX5) (T := TX5) (N := 21) hx hb hta mu_X5 hown hK hP q0 he rfl 20 (by decide) (hta _ mf_X5_65) (fun _ h9 => h9) hv hdg kk
theorem gf_X5_68 {tys : List (ClassId × FieldType)} {ws : va_W} {q0 a : Nat} {fs : List Value} {v : Value} (hx : p.tables.exec = Jvm.exec) (hb : c.code = cc) (hta : ∀ w ∈ am_all, w.before args s = true) (hown : s.vm.findClass RX5 = some m.cls) (hK : va_K (dC, dI) vwCl tys s) (hP : va_P (dC, dI) vwCl ws H) (he : ws[q0]? = some (a, .inr (5, fs))) (hv : fs[2]? = some v) (hdg : decode cc pc = .ok (.getfield 68, 3)) (kk : W p l e R s m args below meth c H locs cells slots Q (F0 m (pc + 3) ls (v :: rest))) : W p l e R s m args below meth c H locs cells slots Q (F0 m pc ls (.ref a :: rest)) :=
  va_get (D := (dC, dI)) (ci := 5) (v := v) (C := RX5) (T := TX5) (N := 21) hx hb hta mu_X5 hown hK hP q0 he rfl 2 (by decide) (hta _ mf_X5_68) (fun _ h9 => h9) hv hdg kk
theorem pf_X5_68 {H0 : Heap} (hx : p.tables.exec = Jvm.exec) (hb : c.code = cc) (hta : ∀ w ∈ am_all, w.before args s = true) (hown : s.vm.findClass RX5 = some m.cls) (hK : va_K (dC, dI) vwCl (am_ty ca) s) (hP : va_P (dC, dI) vwCl (am_w ad (am_sh ca) 63 M) H) (hI : am_inj ad) (hS : va_S (am_A ad 63) H0 H locs) {i : Nat} {fs : List (Option Nat)} {r : am_M → Nat → Nat} {w : am_M → Nat → Nat → am_M} (hi : i < 63) (hs : am_is ca am_sh i (.inr (.inr (5, fs))) r w) {x : Int32} {P : am_M → Prop} (h : am_sf (w M 2) x P) (hdg : decode cc pc = .ok (.putfield 68, 3)) (kk : ∀ (M1 : am_M) (H1 : Heap) (locs1 : List Loc), va_P (dC, dI) vwCl (am_w ad (am_sh ca) 63 M1) H1 → va_S (am_A ad 63) H0 H1 locs1 → P M1 → W p l e R s m args below meth c H1 locs1 cells slots Q (F0 m (pc + 3) ls rest)) (hf : fs[2]? = some none := by rfl) : W p l e R s m args below meth c H locs cells slots Q (F0 m pc ls (.int x :: .ref (ad i) :: rest)) := by
  obtain ⟨v, rfl, h⟩ := h
  refine va_put (D := (dC, dI)) (ci := 5) (v := .int (nI v)) (ty := .int) (C := RX5) (T := TX5) (N := 21) hx hb hta mu_X5 tyX5 tyX5_ok nmX5 hown hK hP (am_D hI) hS i (am_wo hi hs) rfl 2 (by decide) (hta _ mf_X5_68) (fun _ h9 => h9) rfl (by decide +kernel) rfl rfl (by rw [am_fl_len]; exact (List.getElem?_eq_some_iff.mp hf).1) hdg (fun H1 locs1 hP1 _ hS1 => ?_)
  rw [am_fl_set hf, am_wset (k := 2) (v := v) hi (by rw [hs.1, hs.2.1]; rfl), hs.2.2] at hP1
  exact kk _ H1 locs1 hP1 hS1 h
theorem gf_X5_72 {tys : List (ClassId × FieldType)} {ws : va_W} {q0 a : Nat} {fs : List Value} {v : Value} (hx : p.tables.exec = Jvm.exec) (hb : c.code = cc) (hta : ∀ w ∈ am_all, w.before args s = true) (hown : s.vm.findClass RX5 = some m.cls) (hK : va_K (dC, dI) vwCl tys s) (hP : va_P (dC, dI) vwCl ws H) (he : ws[q0]? = some (a, .inr (5, fs))) (hv : fs[16]? = some v) (hdg : decode cc pc = .ok (.getfield 72, 3)) (kk : W p l e R s m args below meth c H locs cells slots Q (F0 m (pc + 3) ls (v :: rest))) : W p l e R s m args below meth c H locs cells slots Q (F0 m pc ls (.ref a :: rest)) :=
  va_get (D := (dC, dI)) (ci := 5) (v := v) (C := RX5) (T := TX5) (N := 21) hx hb hta mu_X5 hown hK hP q0 he rfl 16 (by decide) (hta _ mf_X5_72) (fun _ h9 => h9) hv hdg kk
theorem pf_X5_72 {H0 : Heap} (hx : p.tables.exec = Jvm.exec) (hb : c.code = cc) (hta : ∀ w ∈ am_all, w.before args s = true) (hown : s.vm.findClass RX5 = some m.cls) (hK : va_K (dC, dI) vwCl (am_ty ca) s) (hP : va_P (dC, dI) vwCl (am_w ad (am_sh ca) 63 M) H) (hI : am_inj ad) (hS : va_S (am_A ad 63) H0 H locs) {i : Nat} {fs : List (Option Nat)} {r : am_M → Nat → Nat} {w : am_M → Nat → Nat → am_M} (hi : i < 63) (hs : am_is ca am_sh i (.inr (.inr (5, fs))) r w) {x : Int32} {P : am_M → Prop} (h : am_sf (w M 16) x P) (hdg : decode cc pc = .ok (.putfield 72, 3)) (kk : ∀ (M1 : am_M) (H1 : Heap) (locs1 : List Loc), va_P (dC, dI) vwCl (am_w ad (am_sh ca) 63 M1) H1 → va_S (am_A ad 63) H0 H1 locs1 → P M1 → W p l e R s m args below meth c H1 locs1 cells slots Q (F0 m (pc + 3) ls rest)) (hf : fs[16]? = some none := by rfl) : W p l e R s m args below meth c H locs cells slots Q (F0 m pc ls (.int x :: .ref (ad i) :: rest)) := by
  obtain ⟨v, rfl, h⟩ := h
  refine va_put (D := (dC, dI)) (ci := 5) (v := .int (nI v)) (ty := .int) (C := RX5) (T := TX5) (N := 21) hx hb hta mu_X5 tyX5 tyX5_ok nmX5 hown hK hP (am_D hI) hS i (am_wo hi hs) rfl 16 (by decide) (hta _ mf_X5_72) (fun _ h9 => h9) rfl (by decide +kernel) rfl rfl (by rw [am_fl_len]; exact (List.getElem?_eq_some_iff.mp hf).1) hdg (fun H1 locs1 hP1 _ hS1 => ?_)
  rw [am_fl_set hf, am_wset (k := 16) (v := v) hi (by rw [hs.1, hs.2.1]; rfl), hs.2.2] at hP1
  exact kk _ H1 locs1 hP1 hS1 h
end AMF
end
