-- ===== PART A: goes FIRST, ahead of the names: the tables' words, and 'selects' of the private methods out of them =====
/-- a private method of a class that the tables say can be made, by its rows of tables_1 -/
def lw_okq (q : MethodName × Nat) : Prop := (q.1.cls ≠ "java/lang/invoke/MethodHandle" ∧ q.1.cls ≠ "java/lang/invoke/VarHandle") ∧ Cond.instantiable q.1.cls q.2 ∈ tables_1 ∧ Cond.privateMethod q.1 ∈ tables_1 ∧ Cond.instanceMethod q.1 ∈ tables_1
theorem lw_p0 : lw_okq (⟨"TopSpeaks$RuleText", "takesReplier", "(I)Z"⟩, 5) := ⟨⟨by decide +kernel, by decide +kernel⟩, List.mem_of_getElem? (i := 38) (by decide +kernel), List.mem_of_getElem? (i := 293) (by decide +kernel), List.mem_of_getElem? (i := 294) (by decide +kernel)⟩
theorem lw_p1 : lw_okq (⟨"TopSpeaks$RuleText", "takesReplied", "(I)Z"⟩, 5) := ⟨⟨by decide +kernel, by decide +kernel⟩, List.mem_of_getElem? (i := 38) (by decide +kernel), List.mem_of_getElem? (i := 298) (by decide +kernel), List.mem_of_getElem? (i := 299) (by decide +kernel)⟩
theorem lw_p2 : lw_okq (⟨"TopSpeaks$RuleText", "takesMark", "(I)Z"⟩, 5) := ⟨⟨by decide +kernel, by decide +kernel⟩, List.mem_of_getElem? (i := 38) (by decide +kernel), List.mem_of_getElem? (i := 302) (by decide +kernel), List.mem_of_getElem? (i := 303) (by decide +kernel)⟩
theorem lw_p3 : lw_okq (⟨"TopSpeaks$RuleText", "takesLimit", "(I)Z"⟩, 5) := ⟨⟨by decide +kernel, by decide +kernel⟩, List.mem_of_getElem? (i := 38) (by decide +kernel), List.mem_of_getElem? (i := 306) (by decide +kernel), List.mem_of_getElem? (i := 307) (by decide +kernel)⟩
theorem lw_p4 : lw_okq (⟨"TopSpeaks", "debateRow", "()I"⟩, 10) := ⟨⟨by decide +kernel, by decide +kernel⟩, List.mem_of_getElem? (i := 16) (by decide +kernel), List.mem_of_getElem? (i := 503) (by decide +kernel), List.mem_of_getElem? (i := 504) (by decide +kernel)⟩
theorem lw_p5 : lw_okq (⟨"TopSpeaks", "isSet", "(I)Z"⟩, 10) := ⟨⟨by decide +kernel, by decide +kernel⟩, List.mem_of_getElem? (i := 16) (by decide +kernel), List.mem_of_getElem? (i := 540) (by decide +kernel), List.mem_of_getElem? (i := 541) (by decide +kernel)⟩
theorem lw_p6 : lw_okq (⟨"TopSpeaksModel", "ruleFault", "()I"⟩, 37) := ⟨⟨by decide +kernel, by decide +kernel⟩, List.mem_of_getElem? (i := 664) (by decide +kernel), List.mem_of_getElem? (i := 796) (by decide +kernel), List.mem_of_getElem? (i := 797) (by decide +kernel)⟩
theorem lw_p7 : lw_okq (⟨"TopSpeaksModel", "goRule", "(I)Z"⟩, 37) := ⟨⟨by decide +kernel, by decide +kernel⟩, List.mem_of_getElem? (i := 664) (by decide +kernel), List.mem_of_getElem? (i := 800) (by decide +kernel), List.mem_of_getElem? (i := 801) (by decide +kernel)⟩
theorem lw_p8 : lw_okq (⟨"TopSpeaksModel", "debateFault", "()I"⟩, 37) := ⟨⟨by decide +kernel, by decide +kernel⟩, List.mem_of_getElem? (i := 664) (by decide +kernel), List.mem_of_getElem? (i := 809) (by decide +kernel), List.mem_of_getElem? (i := 810) (by decide +kernel)⟩
theorem lw_p9 : lw_okq (⟨"TopSpeaksModel", "isMember", "(I)Z"⟩, 37) := ⟨⟨by decide +kernel, by decide +kernel⟩, List.mem_of_getElem? (i := 664) (by decide +kernel), List.mem_of_getElem? (i := 834) (by decide +kernel), List.mem_of_getElem? (i := 835) (by decide +kernel)⟩
theorem lw_p10 : lw_okq (⟨"TopSpeaksModel", "tell", "(II)I"⟩, 37) := ⟨⟨by decide +kernel, by decide +kernel⟩, List.mem_of_getElem? (i := 664) (by decide +kernel), List.mem_of_getElem? (i := 842) (by decide +kernel), List.mem_of_getElem? (i := 843) (by decide +kernel)⟩
theorem lw_p11 : lw_okq (⟨"TopSpeaksModel", "heightOf", "(I)I"⟩, 37) := ⟨⟨by decide +kernel, by decide +kernel⟩, List.mem_of_getElem? (i := 664) (by decide +kernel), List.mem_of_getElem? (i := 846) (by decide +kernel), List.mem_of_getElem? (i := 847) (by decide +kernel)⟩
theorem lw_p12 : lw_okq (⟨"TopSpeaksModel", "weighs", "(I)I"⟩, 37) := ⟨⟨by decide +kernel, by decide +kernel⟩, List.mem_of_getElem? (i := 664) (by decide +kernel), List.mem_of_getElem? (i := 850) (by decide +kernel), List.mem_of_getElem? (i := 851) (by decide +kernel)⟩
theorem lw_p13 : lw_okq (⟨"TopSpeaksModel", "canBear", "(I)I"⟩, 37) := ⟨⟨by decide +kernel, by decide +kernel⟩, List.mem_of_getElem? (i := 664) (by decide +kernel), List.mem_of_getElem? (i := 854) (by decide +kernel), List.mem_of_getElem? (i := 855) (by decide +kernel)⟩
theorem lw_p14 : lw_okq (⟨"TopSpeaksModel", "bears", "([III)I"⟩, 37) := ⟨⟨by decide +kernel, by decide +kernel⟩, List.mem_of_getElem? (i := 664) (by decide +kernel), List.mem_of_getElem? (i := 858) (by decide +kernel), List.mem_of_getElem? (i := 859) (by decide +kernel)⟩
theorem lw_p15 : lw_okq (⟨"TopSpeaksModel", "mayRise", "(I[II)Z"⟩, 37) := ⟨⟨by decide +kernel, by decide +kernel⟩, List.mem_of_getElem? (i := 664) (by decide +kernel), List.mem_of_getElem? (i := 874) (by decide +kernel), List.mem_of_getElem? (i := 875) (by decide +kernel)⟩
def lw_privs_1 : List (MethodName × Nat) := [(⟨"TopSpeaks$RuleText", "takesReplier", "(I)Z"⟩, 5), (⟨"TopSpeaks$RuleText", "takesReplied", "(I)Z"⟩, 5), (⟨"TopSpeaks$RuleText", "takesMark", "(I)Z"⟩, 5), (⟨"TopSpeaks$RuleText", "takesLimit", "(I)Z"⟩, 5), (⟨"TopSpeaks", "debateRow", "()I"⟩, 10), (⟨"TopSpeaks", "isSet", "(I)Z"⟩, 10), (⟨"TopSpeaksModel", "ruleFault", "()I"⟩, 37), (⟨"TopSpeaksModel", "goRule", "(I)Z"⟩, 37), (⟨"TopSpeaksModel", "debateFault", "()I"⟩, 37), (⟨"TopSpeaksModel", "isMember", "(I)Z"⟩, 37), (⟨"TopSpeaksModel", "tell", "(II)I"⟩, 37), (⟨"TopSpeaksModel", "heightOf", "(I)I"⟩, 37), (⟨"TopSpeaksModel", "weighs", "(I)I"⟩, 37), (⟨"TopSpeaksModel", "canBear", "(I)I"⟩, 37), (⟨"TopSpeaksModel", "bears", "([III)I"⟩, 37), (⟨"TopSpeaksModel", "mayRise", "(I[II)Z"⟩, 37)]
theorem lw_r1 : ∀ q ∈ lw_privs_1, lw_okq q := List.forall_mem_cons.mpr ⟨lw_p0, List.forall_mem_cons.mpr ⟨lw_p1, List.forall_mem_cons.mpr ⟨lw_p2, List.forall_mem_cons.mpr ⟨lw_p3, List.forall_mem_cons.mpr ⟨lw_p4, List.forall_mem_cons.mpr ⟨lw_p5, List.forall_mem_cons.mpr ⟨lw_p6, List.forall_mem_cons.mpr ⟨lw_p7, List.forall_mem_cons.mpr ⟨lw_p8, List.forall_mem_cons.mpr ⟨lw_p9, List.forall_mem_cons.mpr ⟨lw_p10, List.forall_mem_cons.mpr ⟨lw_p11, List.forall_mem_cons.mpr ⟨lw_p12, List.forall_mem_cons.mpr ⟨lw_p13, List.forall_mem_cons.mpr ⟨lw_p14, List.forall_mem_cons.mpr ⟨lw_p15, fun _ h => absurd h List.not_mem_nil⟩⟩⟩⟩⟩⟩⟩⟩⟩⟩⟩⟩⟩⟩⟩⟩
theorem lw_p16 : lw_okq (⟨"TopSpeaksModel", "holds", "([II)Z"⟩, 37) := ⟨⟨by decide +kernel, by decide +kernel⟩, List.mem_of_getElem? (i := 664) (by decide +kernel), List.mem_of_getElem? (i := 885) (by decide +kernel), List.mem_of_getElem? (i := 886) (by decide +kernel)⟩
theorem lw_p17 : lw_okq (⟨"TopSpeaksModel", "leansOf", "([II)I"⟩, 37) := ⟨⟨by decide +kernel, by decide +kernel⟩, List.mem_of_getElem? (i := 664) (by decide +kernel), List.mem_of_getElem? (i := 889) (by decide +kernel), List.mem_of_getElem? (i := 890) (by decide +kernel)⟩
theorem lw_p18 : lw_okq (⟨"TopSpeaksModel", "leans", "(I)I"⟩, 37) := ⟨⟨by decide +kernel, by decide +kernel⟩, List.mem_of_getElem? (i := 664) (by decide +kernel), List.mem_of_getElem? (i := 893) (by decide +kernel), List.mem_of_getElem? (i := 894) (by decide +kernel)⟩
theorem lw_p19 : lw_okq (⟨"TopSpeaksModel", "billOf", "([II)I"⟩, 37) := ⟨⟨by decide +kernel, by decide +kernel⟩, List.mem_of_getElem? (i := 664) (by decide +kernel), List.mem_of_getElem? (i := 909) (by decide +kernel), List.mem_of_getElem? (i := 910) (by decide +kernel)⟩
theorem lw_p20 : lw_okq (⟨"TopSpeaksModel", "isDebate", "()Z"⟩, 37) := ⟨⟨by decide +kernel, by decide +kernel⟩, List.mem_of_getElem? (i := 664) (by decide +kernel), List.mem_of_getElem? (i := 917) (by decide +kernel), List.mem_of_getElem? (i := 918) (by decide +kernel)⟩
theorem lw_p21 : lw_okq (⟨"TopSpeaksModel", "rises", "(I)Z"⟩, 37) := ⟨⟨by decide +kernel, by decide +kernel⟩, List.mem_of_getElem? (i := 664) (by decide +kernel), List.mem_of_getElem? (i := 921) (by decide +kernel), List.mem_of_getElem? (i := 922) (by decide +kernel)⟩
theorem lw_p22 : lw_okq (⟨"TopSpeaksModel", "isSet", "(I)Z"⟩, 37) := ⟨⟨by decide +kernel, by decide +kernel⟩, List.mem_of_getElem? (i := 664) (by decide +kernel), List.mem_of_getElem? (i := 937) (by decide +kernel), List.mem_of_getElem? (i := 938) (by decide +kernel)⟩
theorem lw_p23 : lw_okq (⟨"TopSpeaksModel", "layRows", "(I)V"⟩, 37) := ⟨⟨by decide +kernel, by decide +kernel⟩, List.mem_of_getElem? (i := 664) (by decide +kernel), List.mem_of_getElem? (i := 941) (by decide +kernel), List.mem_of_getElem? (i := 942) (by decide +kernel)⟩
theorem lw_p24 : lw_okq (⟨"TopSpeaksModel", "layFound", "(I)V"⟩, 37) := ⟨⟨by decide +kernel, by decide +kernel⟩, List.mem_of_getElem? (i := 664) (by decide +kernel), List.mem_of_getElem? (i := 948) (by decide +kernel), List.mem_of_getElem? (i := 949) (by decide +kernel)⟩
theorem lw_p25 : lw_okq (⟨"TopSpeaksModel", "changedOf", "()I"⟩, 37) := ⟨⟨by decide +kernel, by decide +kernel⟩, List.mem_of_getElem? (i := 664) (by decide +kernel), List.mem_of_getElem? (i := 960) (by decide +kernel), List.mem_of_getElem? (i := 961) (by decide +kernel)⟩
theorem lw_p26 : lw_okq (⟨"TopSpeaksModel", "nextGets", "()Z"⟩, 37) := ⟨⟨by decide +kernel, by decide +kernel⟩, List.mem_of_getElem? (i := 664) (by decide +kernel), List.mem_of_getElem? (i := 966) (by decide +kernel), List.mem_of_getElem? (i := 967) (by decide +kernel)⟩
theorem lw_p27 : lw_okq (⟨"TopSpeaksModel", "midnightOf", "(I)I"⟩, 37) := ⟨⟨by decide +kernel, by decide +kernel⟩, List.mem_of_getElem? (i := 664) (by decide +kernel), List.mem_of_getElem? (i := 977) (by decide +kernel), List.mem_of_getElem? (i := 978) (by decide +kernel)⟩
theorem lw_p28 : lw_okq (⟨"TopSpeaksModel", "saveAt", "(I)V"⟩, 37) := ⟨⟨by decide +kernel, by decide +kernel⟩, List.mem_of_getElem? (i := 664) (by decide +kernel), List.mem_of_getElem? (i := 981) (by decide +kernel), List.mem_of_getElem? (i := 982) (by decide +kernel)⟩
theorem lw_p29 : lw_okq (⟨"TopSpeaksModel", "backTo", "(I)V"⟩, 37) := ⟨⟨by decide +kernel, by decide +kernel⟩, List.mem_of_getElem? (i := 664) (by decide +kernel), List.mem_of_getElem? (i := 985) (by decide +kernel), List.mem_of_getElem? (i := 986) (by decide +kernel)⟩
theorem lw_p30 : lw_okq (⟨"TopSpeaksModel", "nextOne", "(II)I"⟩, 37) := ⟨⟨by decide +kernel, by decide +kernel⟩, List.mem_of_getElem? (i := 664) (by decide +kernel), List.mem_of_getElem? (i := 989) (by decide +kernel), List.mem_of_getElem? (i := 990) (by decide +kernel)⟩
theorem lw_p31 : lw_okq (⟨"TopSpeaksModel", "keep", "(II)V"⟩, 37) := ⟨⟨by decide +kernel, by decide +kernel⟩, List.mem_of_getElem? (i := 664) (by decide +kernel), List.mem_of_getElem? (i := 993) (by decide +kernel), List.mem_of_getElem? (i := 994) (by decide +kernel)⟩
def lw_privs_2 : List (MethodName × Nat) := [(⟨"TopSpeaksModel", "holds", "([II)Z"⟩, 37), (⟨"TopSpeaksModel", "leansOf", "([II)I"⟩, 37), (⟨"TopSpeaksModel", "leans", "(I)I"⟩, 37), (⟨"TopSpeaksModel", "billOf", "([II)I"⟩, 37), (⟨"TopSpeaksModel", "isDebate", "()Z"⟩, 37), (⟨"TopSpeaksModel", "rises", "(I)Z"⟩, 37), (⟨"TopSpeaksModel", "isSet", "(I)Z"⟩, 37), (⟨"TopSpeaksModel", "layRows", "(I)V"⟩, 37), (⟨"TopSpeaksModel", "layFound", "(I)V"⟩, 37), (⟨"TopSpeaksModel", "changedOf", "()I"⟩, 37), (⟨"TopSpeaksModel", "nextGets", "()Z"⟩, 37), (⟨"TopSpeaksModel", "midnightOf", "(I)I"⟩, 37), (⟨"TopSpeaksModel", "saveAt", "(I)V"⟩, 37), (⟨"TopSpeaksModel", "backTo", "(I)V"⟩, 37), (⟨"TopSpeaksModel", "nextOne", "(II)I"⟩, 37), (⟨"TopSpeaksModel", "keep", "(II)V"⟩, 37)]
theorem lw_r2 : ∀ q ∈ lw_privs_2, lw_okq q := List.forall_mem_cons.mpr ⟨lw_p16, List.forall_mem_cons.mpr ⟨lw_p17, List.forall_mem_cons.mpr ⟨lw_p18, List.forall_mem_cons.mpr ⟨lw_p19, List.forall_mem_cons.mpr ⟨lw_p20, List.forall_mem_cons.mpr ⟨lw_p21, List.forall_mem_cons.mpr ⟨lw_p22, List.forall_mem_cons.mpr ⟨lw_p23, List.forall_mem_cons.mpr ⟨lw_p24, List.forall_mem_cons.mpr ⟨lw_p25, List.forall_mem_cons.mpr ⟨lw_p26, List.forall_mem_cons.mpr ⟨lw_p27, List.forall_mem_cons.mpr ⟨lw_p28, List.forall_mem_cons.mpr ⟨lw_p29, List.forall_mem_cons.mpr ⟨lw_p30, List.forall_mem_cons.mpr ⟨lw_p31, fun _ h => absurd h List.not_mem_nil⟩⟩⟩⟩⟩⟩⟩⟩⟩⟩⟩⟩⟩⟩⟩⟩
theorem lw_p32 : lw_okq (⟨"TopSpeaksModel", "onTop", "()I"⟩, 37) := ⟨⟨by decide +kernel, by decide +kernel⟩, List.mem_of_getElem? (i := 664) (by decide +kernel), List.mem_of_getElem? (i := 997) (by decide +kernel), List.mem_of_getElem? (i := 998) (by decide +kernel)⟩
theorem lw_p33 : lw_okq (⟨"TopSpeaksModel", "draw", "(I)I"⟩, 37) := ⟨⟨by decide +kernel, by decide +kernel⟩, List.mem_of_getElem? (i := 664) (by decide +kernel), List.mem_of_getElem? (i := 1006) (by decide +kernel), List.mem_of_getElem? (i := 1007) (by decide +kernel)⟩
theorem lw_p34 : lw_okq (⟨"TopSpeaksModel", "countOf", "(I)I"⟩, 37) := ⟨⟨by decide +kernel, by decide +kernel⟩, List.mem_of_getElem? (i := 664) (by decide +kernel), List.mem_of_getElem? (i := 1026) (by decide +kernel), List.mem_of_getElem? (i := 1027) (by decide +kernel)⟩
theorem lw_p35 : lw_okq (⟨"TopSpeaksModel", "say", "(J)V"⟩, 37) := ⟨⟨by decide +kernel, by decide +kernel⟩, List.mem_of_getElem? (i := 664) (by decide +kernel), List.mem_of_getElem? (i := 1035) (by decide +kernel), List.mem_of_getElem? (i := 1036) (by decide +kernel)⟩
def lw_privs_3 : List (MethodName × Nat) := [(⟨"TopSpeaksModel", "onTop", "()I"⟩, 37), (⟨"TopSpeaksModel", "draw", "(I)I"⟩, 37), (⟨"TopSpeaksModel", "countOf", "(I)I"⟩, 37), (⟨"TopSpeaksModel", "say", "(J)V"⟩, 37)]
theorem lw_r3 : ∀ q ∈ lw_privs_3, lw_okq q := List.forall_mem_cons.mpr ⟨lw_p32, List.forall_mem_cons.mpr ⟨lw_p33, List.forall_mem_cons.mpr ⟨lw_p34, List.forall_mem_cons.mpr ⟨lw_p35, fun _ h => absurd h List.not_mem_nil⟩⟩⟩⟩
def lw_privs : List (MethodName × Nat) := lw_privs_1 ++ (lw_privs_2 ++ (lw_privs_3))
def lw_tbl : List Cond := k2_sels lw_privs ++ tables_1
theorem lw_privs_ok : ∀ q ∈ lw_privs, lw_okq q := by
  show ∀ q ∈ lw_privs_1 ++ (lw_privs_2 ++ (lw_privs_3)), lw_okq q
  exact List.forall_mem_append.mpr ⟨lw_r1, List.forall_mem_append.mpr ⟨lw_r2, lw_r3⟩⟩

/-! ===== BEGIN words of one list among another's, by their places ===== -/
theorem goodIn_r {big : List Cond} (ws : List Cond) (ps : List Nat) (hp : ws = ps.filterMap (fun i => big[i]?)) (h : ws.all goodWord = true) : GoodIn big ws := by
  intro w hw
  have h1 := List.all_eq_true.mp h w hw
  rw [hp] at hw
  obtain ⟨i, -, hi⟩ := List.mem_filterMap.mp hw
  have hm : w ∈ big := by first | exact List.mem_of_getElem? hi | exact List.getElem?_mem hi
  exact ⟨hm, good_of_word h1⟩
theorem goodIn_app {big a b : List Cond} (ha : GoodIn big a) (hb : GoodIn big b) : GoodIn big (a ++ b) := fun w h => (List.mem_append.mp h).elim (ha w) (hb w)
theorem goodIn_ca {big a b : List Cond} {c : Cond} (ha : GoodIn big (c :: a)) (hb : GoodIn big b) : GoodIn big (c :: (a ++ b)) := fun w h => (List.mem_cons.mp h).elim (fun e => ha w (List.mem_cons.mpr (Or.inl e))) (fun h => (List.mem_append.mp h).elim (fun h => ha w (List.mem_cons.mpr (Or.inr h))) (hb w))
theorem goodIn_sub {big ws : List Cond} (hm : ∀ w ∈ ws, w ∈ big) (h : ws.all goodWord = true) : GoodIn big ws := fun w hw => ⟨hm w hw, good_of_word (List.all_eq_true.mp h w hw)⟩
/-! ===== END ===== -/

/-! ===== BEGIN printed: names, fields, word lists, decode rows ===== -/
def RX0 : String := "TopSpeaks$Bills"
def TX0 : u_T := fun k => match k with
  | _ => ("TopSpeaks$Bills", "words", "[J", true)
def tyX0 : Nat → FieldType := fun k => match k with
  | _ => .array .long
abbrev wsX00 : List Cond := u_ws RX0 TX0 1
theorem nmX0 : ∀ a, a < 1 → ∀ b, b < 1 → a ≠ b → (TX0 a).2.1 ≠ (TX0 b).2.1 := by decide +kernel
theorem tyX0_ok : ∀ k, k < 1 → parseFieldDescriptor (TX0 k).2.2.1 = some (tyX0 k) := by decide +kernel
abbrev cX0_init : ByteArray := prog_2_method_1_code
def yX0_init : MethodName := ⟨RX0, "<init>", "()V"⟩
abbrev cX0_clear : ByteArray := prog_2_method_2_code
def yX0_clear : MethodName := ⟨RX0, "clear", "()V"⟩
abbrev cX0_add : ByteArray := prog_2_method_3_code
def yX0_add : MethodName := ⟨RX0, "add", "(I)V"⟩
abbrev cX0_howMany : ByteArray := prog_2_method_4_code
def yX0_howMany : MethodName := ⟨RX0, "howMany", "()I"⟩
abbrev cX0_greatest : ByteArray := prog_2_method_5_code
def yX0_greatest : MethodName := ⟨RX0, "greatest", "()I"⟩
def RX1 : String := "TopSpeaks$Chamber"
def TX1 : u_T := fun k => match k with
  | 0 => ("TopSpeaks$Chamber", "members", "[LTopSpeaks$Member;", true)
  | 1 => ("TopSpeaks$Chamber", "nobody", "LTopSpeaks$Member;", true)
  | 2 => ("TopSpeaks$Chamber", "strengths", "[I", true)
  | 3 => ("TopSpeaks$Chamber", "needs", "[I", true)
  | 4 => ("TopSpeaks$Chamber", "size", "I", false)
  | 5 => ("TopSpeaks$Chamber", "told", "J", false)
  | 6 => ("TopSpeaks$Chamber", "pairs", "I", false)
  | _ => ("TopSpeaks$Chamber", "limit", "I", false)
def tyX1 : Nat → FieldType := fun k => match k with
  | 0 => .array (.object "TopSpeaks$Member")
  | 1 => .object "TopSpeaks$Member"
  | 2 => .array .int
  | 3 => .array .int
  | 4 => .int
  | 5 => .long
  | 6 => .int
  | _ => .int
abbrev wsX10 : List Cond := u_ws RX1 TX1 8
theorem nmX1 : ∀ a, a < 8 → ∀ b, b < 8 → a ≠ b → (TX1 a).2.1 ≠ (TX1 b).2.1 := by decide +kernel
theorem tyX1_ok : ∀ k, k < 8 → parseFieldDescriptor (TX1 k).2.2.1 = some (tyX1 k) := by decide +kernel
abbrev cX1_init : ByteArray := prog_3_method_1_code
def yX1_init : MethodName := ⟨RX1, "<init>", "()V"⟩
abbrev cX1_size : ByteArray := prog_3_method_2_code
def yX1_size : MethodName := ⟨RX1, "size", "()I"⟩
abbrev cX1_pairs : ByteArray := prog_3_method_3_code
def yX1_pairs : MethodName := ⟨RX1, "pairs", "()I"⟩
abbrev cX1_limit : ByteArray := prog_3_method_4_code
def yX1_limit : MethodName := ⟨RX1, "limit", "()I"⟩
abbrev cX1_has : ByteArray := prog_3_method_5_code
def yX1_has : MethodName := ⟨RX1, "has", "(I)Z"⟩
abbrev cX1_who : ByteArray := prog_3_method_6_code
def yX1_who : MethodName := ⟨RX1, "who", "(I)LTopSpeaks$Member;"⟩
abbrev cX1_seatNext : ByteArray := prog_3_method_7_code
def yX1_seatNext : MethodName := ⟨RX1, "seatNext", "()LTopSpeaks$Member;"⟩
abbrev cX1_adopt : ByteArray := prog_3_method_8_code
def yX1_adopt : MethodName := ⟨RX1, "adopt", "(LTopSpeaks$RuleText;)V"⟩
abbrev cX1_repliesOf : ByteArray := prog_3_method_9_code
def yX1_repliesOf : MethodName := ⟨RX1, "repliesOf", "(I)I"⟩
abbrev cX1_canRise : ByteArray := prog_3_method_10_code
def yX1_canRise : MethodName := ⟨RX1, "canRise", "(II)Z"⟩
abbrev cX1_risen : ByteArray := prog_3_method_11_code
def yX1_risen : MethodName := ⟨RX1, "risen", "(II)I"⟩
abbrev cX1_holds : ByteArray := prog_3_method_12_code
def yX1_holds : MethodName := ⟨RX1, "holds", "(I)Z"⟩
abbrev cX1_leansTooMuch : ByteArray := prog_3_method_13_code
def yX1_leansTooMuch : MethodName := ⟨RX1, "leansTooMuch", "(I)Z"⟩
abbrev cX1_nailsFor : ByteArray := prog_3_method_14_code
def yX1_nailsFor : MethodName := ⟨RX1, "nailsFor", "(I)I"⟩
abbrev cX1_loadOn : ByteArray := prog_3_method_15_code
def yX1_loadOn : MethodName := ⟨RX1, "loadOn", "(II)I"⟩
abbrev cX1_billOf : ByteArray := prog_3_method_16_code
def yX1_billOf : MethodName := ⟨RX1, "billOf", "(I)I"⟩
abbrev cX1_bestSpare : ByteArray := prog_3_method_17_code
def yX1_bestSpare : MethodName := ⟨RX1, "bestSpare", "(I)I"⟩
abbrev cX1_insert : ByteArray := prog_3_method_18_code
def yX1_insert : MethodName := ⟨RX1, "insert", "([III)V"⟩
abbrev cX1_sideOnTop : ByteArray := prog_3_method_19_code
def yX1_sideOnTop : MethodName := ⟨RX1, "sideOnTop", "(I)I"⟩
abbrev cX1_bruise : ByteArray := prog_3_method_20_code
def yX1_bruise : MethodName := ⟨RX1, "bruise", "(I)V"⟩
def RX2 : String := "TopSpeaks$DebateText"
def TX2 : u_T := fun k => match k with
  | 0 => ("TopSpeaks$DebateText", "said", "I", false)
  | _ => ("TopSpeaks$DebateText", "row", "I", false)
def tyX2 : Nat → FieldType := fun k => match k with
  | 0 => .int
  | _ => .int
abbrev wsX20 : List Cond := u_ws RX2 TX2 2
theorem nmX2 : ∀ a, a < 2 → ∀ b, b < 2 → a ≠ b → (TX2 a).2.1 ≠ (TX2 b).2.1 := by decide +kernel
theorem tyX2_ok : ∀ k, k < 2 → parseFieldDescriptor (TX2 k).2.2.1 = some (tyX2 k) := by decide +kernel
abbrev cX2_init : ByteArray := prog_4_method_1_code
def yX2_init : MethodName := ⟨RX2, "<init>", "()V"⟩
abbrev cX2_begin : ByteArray := prog_4_method_2_code
def yX2_begin : MethodName := ⟨RX2, "begin", "()V"⟩
abbrev cX2_takes : ByteArray := prog_4_method_3_code
def yX2_takes : MethodName := ⟨RX2, "takes", "(I)Z"⟩
abbrev cX2_canEnd : ByteArray := prog_4_method_4_code
def yX2_canEnd : MethodName := ⟨RX2, "canEnd", "()Z"⟩
abbrev cX2_said : ByteArray := prog_4_method_5_code
def yX2_said : MethodName := ⟨RX2, "said", "()I"⟩
abbrev cX2_row : ByteArray := prog_4_method_6_code
def yX2_row : MethodName := ⟨RX2, "row", "()I"⟩
def RX3 : String := "TopSpeaks$Image"
def TX3 : u_T := fun k => match k with
  | 0 => ("TopSpeaks$Image", "strengths", "[I", true)
  | 1 => ("TopSpeaks$Image", "bruises", "[I", true)
  | 2 => ("TopSpeaks$Image", "tower", "I", false)
  | _ => ("TopSpeaks$Image", "size", "I", false)
def tyX3 : Nat → FieldType := fun k => match k with
  | 0 => .array .int
  | 1 => .array .int
  | 2 => .int
  | _ => .int
abbrev wsX30 : List Cond := u_ws RX3 TX3 4
theorem nmX3 : ∀ a, a < 4 → ∀ b, b < 4 → a ≠ b → (TX3 a).2.1 ≠ (TX3 b).2.1 := by decide +kernel
theorem tyX3_ok : ∀ k, k < 4 → parseFieldDescriptor (TX3 k).2.2.1 = some (tyX3 k) := by decide +kernel
abbrev cX3_init : ByteArray := prog_5_method_1_code
def yX3_init : MethodName := ⟨RX3, "<init>", "()V"⟩
abbrev cX3_keep : ByteArray := prog_5_method_2_code
def yX3_keep : MethodName := ⟨RX3, "keep", "(LTopSpeaks$Chamber;I)V"⟩
abbrev cX3_fits : ByteArray := prog_5_method_3_code
def yX3_fits : MethodName := ⟨RX3, "fits", "(LTopSpeaks$Chamber;)Z"⟩
abbrev cX3_giveBack : ByteArray := prog_5_method_4_code
def yX3_giveBack : MethodName := ⟨RX3, "giveBack", "(LTopSpeaks$Chamber;)I"⟩
def RX4 : String := "TopSpeaks$Member"
def TX4 : u_T := fun k => match k with
  | 0 => ("TopSpeaks$Member", "kind", "I", false)
  | 1 => ("TopSpeaks$Member", "weight", "I", false)
  | 2 => ("TopSpeaks$Member", "lean", "I", false)
  | 3 => ("TopSpeaks$Member", "party", "I", false)
  | 4 => ("TopSpeaks$Member", "strength", "I", false)
  | 5 => ("TopSpeaks$Member", "sort", "I", false)
  | 6 => ("TopSpeaks$Member", "number", "I", false)
  | 7 => ("TopSpeaks$Member", "bruises", "I", false)
  | 8 => ("TopSpeaks$Member", "fat", "Z", false)
  | 9 => ("TopSpeaks$Member", "weighs", "I", false)
  | 10 => ("TopSpeaks$Member", "joined", "I", false)
  | _ => ("TopSpeaks$Member", "leans", "I", false)
def tyX4 : Nat → FieldType := fun k => match k with
  | 0 => .int
  | 1 => .int
  | 2 => .int
  | 3 => .int
  | 4 => .int
  | 5 => .int
  | 6 => .int
  | 7 => .int
  | 8 => .boolean
  | 9 => .int
  | 10 => .int
  | _ => .int
abbrev wsX40 : List Cond := u_ws RX4 TX4 12
theorem nmX4 : ∀ a, a < 12 → ∀ b, b < 12 → a ≠ b → (TX4 a).2.1 ≠ (TX4 b).2.1 := by decide +kernel
theorem tyX4_ok : ∀ k, k < 12 → parseFieldDescriptor (TX4 k).2.2.1 = some (tyX4 k) := by decide +kernel
abbrev cX4_init : ByteArray := prog_6_method_1_code
def yX4_init : MethodName := ⟨RX4, "<init>", "()V"⟩
abbrev cX4_become : ByteArray := prog_6_method_2_code
def yX4_become : MethodName := ⟨RX4, "become", "(III)V"⟩
abbrev cX4_isA : ByteArray := prog_6_method_3_code
def yX4_isA : MethodName := ⟨RX4, "isA", "(I)Z"⟩
abbrev cX4_canBear : ByteArray := prog_6_method_4_code
def yX4_canBear : MethodName := ⟨RX4, "canBear", "()I"⟩
abbrev cX4_loadUnder : ByteArray := prog_6_method_5_code
def yX4_loadUnder : MethodName := ⟨RX4, "loadUnder", "(I)I"⟩
abbrev cX4_speak : ByteArray := prog_6_method_6_code
def yX4_speak : MethodName := ⟨RX4, "speak", "(I)I"⟩
def RX5 : String := "TopSpeaks$Page"
def TX5 : u_T := fun k => match k with
  | 0 => ("TopSpeaks$Page", "codes", "[I", true)
  | _ => ("TopSpeaks$Page", "length", "I", false)
def tyX5 : Nat → FieldType := fun k => match k with
  | 0 => .array .int
  | _ => .int
abbrev wsX50 : List Cond := u_ws RX5 TX5 2
theorem nmX5 : ∀ a, a < 2 → ∀ b, b < 2 → a ≠ b → (TX5 a).2.1 ≠ (TX5 b).2.1 := by decide +kernel
theorem tyX5_ok : ∀ k, k < 2 → parseFieldDescriptor (TX5 k).2.2.1 = some (tyX5 k) := by decide +kernel
abbrev cX5_init : ByteArray := prog_7_method_1_code
def yX5_init : MethodName := ⟨RX5, "<init>", "()V"⟩
abbrev cX5_lettersIn : ByteArray := prog_7_method_2_code
def yX5_lettersIn : MethodName := ⟨RX5, "lettersIn", "(J)I"⟩
abbrev cX5_codeIn : ByteArray := prog_7_method_3_code
def yX5_codeIn : MethodName := ⟨RX5, "codeIn", "(JI)I"⟩
abbrev cX5_hasRoomFor : ByteArray := prog_7_method_4_code
def yX5_hasRoomFor : MethodName := ⟨RX5, "hasRoomFor", "(I)Z"⟩
abbrev cX5_add : ByteArray := prog_7_method_5_code
def yX5_add : MethodName := ⟨RX5, "add", "(JI)V"⟩
abbrev cX5_clear : ByteArray := prog_7_method_6_code
def yX5_clear : MethodName := ⟨RX5, "clear", "()V"⟩
abbrev cX5_length : ByteArray := prog_7_method_7_code
def yX5_length : MethodName := ⟨RX5, "length", "()I"⟩
abbrev cX5_letter : ByteArray := prog_7_method_8_code
def yX5_letter : MethodName := ⟨RX5, "letter", "(I)I"⟩
abbrev cX5_faultOf : ByteArray := prog_7_method_9_code
def yX5_faultOf : MethodName := ⟨RX5, "faultOf", "(LTopSpeaks$Text;)I"⟩
abbrev cX5_isWhole : ByteArray := prog_7_method_10_code
def yX5_isWhole : MethodName := ⟨RX5, "isWhole", "(LTopSpeaks$Text;)Z"⟩
def RX6 : String := "TopSpeaks$Row"
def TX6 : u_T := fun k => match k with
  | _ => ("", "", "", false)
def tyX6 : Nat → FieldType := fun k => match k with
  | _ => .int
abbrev wsX60 : List Cond := u_ws RX6 TX6 0
theorem nmX6 : ∀ a, a < 0 → ∀ b, b < 0 → a ≠ b → (TX6 a).2.1 ≠ (TX6 b).2.1 := by decide +kernel
theorem tyX6_ok : ∀ k, k < 0 → parseFieldDescriptor (TX6 k).2.2.1 = some (tyX6 k) := by decide +kernel
abbrev cX6_with : ByteArray := prog_8_method_2_code
def yX6_with : MethodName := ⟨RX6, "with", "(II)I"⟩
abbrev cX6_top : ByteArray := prog_8_method_3_code
def yX6_top : MethodName := ⟨RX6, "top", "(I)I"⟩
abbrev cX6_belowTop : ByteArray := prog_8_method_4_code
def yX6_belowTop : MethodName := ⟨RX6, "belowTop", "(I)I"⟩
abbrev cX6_size : ByteArray := prog_8_method_5_code
def yX6_size : MethodName := ⟨RX6, "size", "(I)I"⟩
abbrev cX6_memberAt : ByteArray := prog_8_method_6_code
def yX6_memberAt : MethodName := ⟨RX6, "memberAt", "(II)I"⟩
abbrev cX6_heightOf : ByteArray := prog_8_method_7_code
def yX6_heightOf : MethodName := ⟨RX6, "heightOf", "(II)I"⟩
abbrev cX6_members : ByteArray := prog_8_method_8_code
def yX6_members : MethodName := ⟨RX6, "members", "(I)I"⟩
abbrev cX6_turned : ByteArray := prog_8_method_9_code
def yX6_turned : MethodName := ⟨RX6, "turned", "(I)I"⟩
abbrev cX6_without : ByteArray := prog_8_method_10_code
def yX6_without : MethodName := ⟨RX6, "without", "(II)I"⟩
def RX7 : String := "TopSpeaks$RuleText"
def TX7 : u_T := fun k => match k with
  | 0 => ("TopSpeaks$RuleText", "due", "I", false)
  | 1 => ("TopSpeaks$RuleText", "replier", "I", false)
  | 2 => ("TopSpeaks$RuleText", "told", "J", false)
  | 3 => ("TopSpeaks$RuleText", "pairs", "I", false)
  | _ => ("TopSpeaks$RuleText", "limit", "I", false)
def tyX7 : Nat → FieldType := fun k => match k with
  | 0 => .int
  | 1 => .int
  | 2 => .long
  | 3 => .int
  | _ => .int
abbrev wsX70 : List Cond := u_ws RX7 TX7 5
theorem nmX7 : ∀ a, a < 5 → ∀ b, b < 5 → a ≠ b → (TX7 a).2.1 ≠ (TX7 b).2.1 := by decide +kernel
theorem tyX7_ok : ∀ k, k < 5 → parseFieldDescriptor (TX7 k).2.2.1 = some (tyX7 k) := by decide +kernel
abbrev cX7_init : ByteArray := prog_9_method_1_code
def yX7_init : MethodName := ⟨RX7, "<init>", "()V"⟩
abbrev cX7_begin : ByteArray := prog_9_method_2_code
def yX7_begin : MethodName := ⟨RX7, "begin", "()V"⟩
abbrev cX7_takes : ByteArray := prog_9_method_3_code
def yX7_takes : MethodName := ⟨RX7, "takes", "(I)Z"⟩
abbrev cX7_canEnd : ByteArray := prog_9_method_4_code
def yX7_canEnd : MethodName := ⟨RX7, "canEnd", "()Z"⟩
abbrev cX7_takesReplier : ByteArray := prog_9_method_5_code
def yX7_takesReplier : MethodName := ⟨RX7, "takesReplier", "(I)Z"⟩
abbrev cX7_takesReplied : ByteArray := prog_9_method_6_code
def yX7_takesReplied : MethodName := ⟨RX7, "takesReplied", "(I)Z"⟩
abbrev cX7_takesMark : ByteArray := prog_9_method_7_code
def yX7_takesMark : MethodName := ⟨RX7, "takesMark", "(I)Z"⟩
abbrev cX7_takesLimit : ByteArray := prog_9_method_8_code
def yX7_takesLimit : MethodName := ⟨RX7, "takesLimit", "(I)Z"⟩
abbrev cX7_told : ByteArray := prog_9_method_9_code
def yX7_told : MethodName := ⟨RX7, "told", "()J"⟩
abbrev cX7_pairs : ByteArray := prog_9_method_10_code
def yX7_pairs : MethodName := ⟨RX7, "pairs", "()I"⟩
abbrev cX7_limit : ByteArray := prog_9_method_11_code
def yX7_limit : MethodName := ⟨RX7, "limit", "()I"⟩
def RX8 : String := "TopSpeaks$Text"
def TX8 : u_T := fun k => match k with
  | _ => ("", "", "", false)
def tyX8 : Nat → FieldType := fun k => match k with
  | _ => .int
abbrev wsX80 : List Cond := u_ws RX8 TX8 0
theorem nmX8 : ∀ a, a < 0 → ∀ b, b < 0 → a ≠ b → (TX8 a).2.1 ≠ (TX8 b).2.1 := by decide +kernel
theorem tyX8_ok : ∀ k, k < 0 → parseFieldDescriptor (TX8 k).2.2.1 = some (tyX8 k) := by decide +kernel
abbrev cX8_init : ByteArray := prog_10_method_1_code
def yX8_init : MethodName := ⟨RX8, "<init>", "()V"⟩
def RX9 : String := "TopSpeaks"
def TX9 : u_T := fun k => match k with
  | 0 => ("TopSpeaks", "page", "LTopSpeaks$Page;", true)
  | 1 => ("TopSpeaks", "ruleText", "LTopSpeaks$RuleText;", true)
  | 2 => ("TopSpeaks", "debateText", "LTopSpeaks$DebateText;", true)
  | 3 => ("TopSpeaks", "chamber", "LTopSpeaks$Chamber;", true)
  | 4 => ("TopSpeaks", "kept", "LTopSpeaks$Image;", true)
  | 5 => ("TopSpeaks", "heardBills", "LTopSpeaks$Bills;", true)
  | 6 => ("TopSpeaks", "tower", "I", false)
  | 7 => ("TopSpeaks", "falls", "I", false)
  | 8 => ("TopSpeaks", "rowSearches", "I", false)
  | _ => ("TopSpeaks", "midnights", "I", false)
def tyX9 : Nat → FieldType := fun k => match k with
  | 0 => .object "TopSpeaks$Page"
  | 1 => .object "TopSpeaks$RuleText"
  | 2 => .object "TopSpeaks$DebateText"
  | 3 => .object "TopSpeaks$Chamber"
  | 4 => .object "TopSpeaks$Image"
  | 5 => .object "TopSpeaks$Bills"
  | 6 => .int
  | 7 => .int
  | 8 => .int
  | _ => .int
abbrev wsX90 : List Cond := u_ws RX9 TX9 10
theorem nmX9 : ∀ a, a < 10 → ∀ b, b < 10 → a ≠ b → (TX9 a).2.1 ≠ (TX9 b).2.1 := by decide +kernel
theorem tyX9_ok : ∀ k, k < 10 → parseFieldDescriptor (TX9 k).2.2.1 = some (tyX9 k) := by decide +kernel
abbrev cX9_init : ByteArray := prog_1_method_1_code
def yX9_init : MethodName := ⟨RX9, "<init>", "()V"⟩
abbrev cX9_letters : ByteArray := prog_1_method_2_code
def yX9_letters : MethodName := ⟨RX9, "letters", "(J)I"⟩
abbrev cX9_blank : ByteArray := prog_1_method_3_code
def yX9_blank : MethodName := ⟨RX9, "blank", "()I"⟩
abbrev cX9_fault : ByteArray := prog_1_method_4_code
def yX9_fault : MethodName := ⟨RX9, "fault", "(I)I"⟩
abbrev cX9_rule : ByteArray := prog_1_method_5_code
def yX9_rule : MethodName := ⟨RX9, "rule", "()I"⟩
abbrev cX9_replies : ByteArray := prog_1_method_6_code
def yX9_replies : MethodName := ⟨RX9, "replies", "(II)I"⟩
abbrev cX9_member : ByteArray := prog_1_method_7_code
def yX9_member : MethodName := ⟨RX9, "member", "(IIIII)I"⟩
abbrev cX9_speech : ByteArray := prog_1_method_8_code
def yX9_speech : MethodName := ⟨RX9, "speech", "(III)I"⟩
abbrev cX9_about : ByteArray := prog_1_method_9_code
def yX9_about : MethodName := ⟨RX9, "about", "(II)I"⟩
abbrev cX9_as : ByteArray := prog_1_method_10_code
def yX9_as : MethodName := ⟨RX9, "as", "(II)I"⟩
abbrev cX9_chair : ByteArray := prog_1_method_11_code
def yX9_chair : MethodName := ⟨RX9, "chair", "(II)I"⟩
abbrev cX9_may : ByteArray := prog_1_method_12_code
def yX9_may : MethodName := ⟨RX9, "may", "(I)I"⟩
abbrev cX9_rise : ByteArray := prog_1_method_13_code
def yX9_rise : MethodName := ⟨RX9, "rise", "(I)I"⟩
abbrev cX9_down : ByteArray := prog_1_method_14_code
def yX9_down : MethodName := ⟨RX9, "down", "()I"⟩
abbrev cX9_at : ByteArray := prog_1_method_15_code
def yX9_at : MethodName := ⟨RX9, "at", "(I)I"⟩
abbrev cX9_bill : ByteArray := prog_1_method_16_code
def yX9_bill : MethodName := ⟨RX9, "bill", "()I"⟩
abbrev cX9_debate : ByteArray := prog_1_method_17_code
def yX9_debate : MethodName := ⟨RX9, "debate", "(I)I"⟩
abbrev cX9_nails : ByteArray := prog_1_method_18_code
def yX9_nails : MethodName := ⟨RX9, "nails", "()I"⟩
abbrev cX9_shook : ByteArray := prog_1_method_19_code
def yX9_shook : MethodName := ⟨RX9, "shook", "()I"⟩
abbrev cX9_debateRow : ByteArray := prog_1_method_20_code
def yX9_debateRow : MethodName := ⟨RX9, "debateRow", "()I"⟩
abbrev cX9_order : ByteArray := prog_1_method_21_code
def yX9_order : MethodName := ⟨RX9, "order", "(II)I"⟩
abbrev cX9_laws : ByteArray := prog_1_method_22_code
def yX9_laws : MethodName := ⟨RX9, "laws", "(II)I"⟩
abbrev cX9_changed : ByteArray := prog_1_method_23_code
def yX9_changed : MethodName := ⟨RX9, "changed", "()I"⟩
abbrev cX9_midnight : ByteArray := prog_1_method_24_code
def yX9_midnight : MethodName := ⟨RX9, "midnight", "(I)I"⟩
abbrev cX9_sessions : ByteArray := prog_1_method_25_code
def yX9_sessions : MethodName := ⟨RX9, "sessions", "(III)I"⟩
abbrev cX9_isSet : ByteArray := prog_1_method_26_code
def yX9_isSet : MethodName := ⟨RX9, "isSet", "(I)Z"⟩
abbrev cX9_firstTower : ByteArray := prog_1_method_27_code
def yX9_firstTower : MethodName := ⟨RX9, "firstTower", "(LTopSpeaks$Chamber;III)I"⟩
abbrev cX9_hearBills : ByteArray := prog_1_method_28_code
def yX9_hearBills : MethodName := ⟨RX9, "hearBills", "(LTopSpeaks$Chamber;IIIILTopSpeaks$Bills;)V"⟩
abbrev cX9_bestEnd : ByteArray := prog_1_method_29_code
def yX9_bestEnd : MethodName := ⟨RX9, "bestEnd", "(LTopSpeaks$Chamber;III)I"⟩
abbrev cX9_image : ByteArray := prog_1_method_30_code
def yX9_image : MethodName := ⟨RX9, "image", "()I"⟩
abbrev cX9_restore : ByteArray := prog_1_method_31_code
def yX9_restore : MethodName := ⟨RX9, "restore", "()I"⟩
abbrev cX9_count : ByteArray := prog_1_method_32_code
def yX9_count : MethodName := ⟨RX9, "count", "(I)I"⟩
abbrev cX9_digest : ByteArray := prog_1_method_33_code
def yX9_digest : MethodName := ⟨RX9, "digest", "()J"⟩
abbrev cX9_isBetween : ByteArray := prog_1_method_34_code
def yX9_isBetween : MethodName := ⟨RX9, "isBetween", "(III)Z"⟩
def RX10 : String := "TopSpeaksModel"
def TX10 : u_T := fun k => match k with
  | 0 => ("TopSpeaksModel", "page", "[I", true)
  | 1 => ("TopSpeaksModel", "pageMany", "I", false)
  | 2 => ("TopSpeaksModel", "replyRows", "[I", true)
  | 3 => ("TopSpeaksModel", "pairs", "I", false)
  | 4 => ("TopSpeaksModel", "limit", "I", false)
  | 5 => ("TopSpeaksModel", "readReplies", "[I", true)
  | 6 => ("TopSpeaksModel", "readPairs", "I", false)
  | 7 => ("TopSpeaksModel", "readLimit", "I", false)
  | 8 => ("TopSpeaksModel", "readFirst", "I", false)
  | 9 => ("TopSpeaksModel", "state", "I", false)
  | 10 => ("TopSpeaksModel", "row", "[I", true)
  | 11 => ("TopSpeaksModel", "rowMany", "I", false)
  | 12 => ("TopSpeaksModel", "members", "I", false)
  | 13 => ("TopSpeaksModel", "rows", "[I", true)
  | 14 => ("TopSpeaksModel", "high", "I", false)
  | 15 => ("TopSpeaksModel", "tower", "[I", true)
  | 16 => ("TopSpeaksModel", "fellAll", "I", false)
  | 17 => ("TopSpeaksModel", "would", "[I", true)
  | 18 => ("TopSpeaksModel", "wouldHigh", "I", false)
  | 19 => ("TopSpeaksModel", "done", "I", false)
  | 20 => ("TopSpeaksModel", "found", "[I", true)
  | 21 => ("TopSpeaksModel", "foundMany", "I", false)
  | 22 => ("TopSpeaksModel", "bills", "[Z", true)
  | 23 => ("TopSpeaksModel", "next", "[I", true)
  | 24 => ("TopSpeaksModel", "gets", "[I", true)
  | 25 => ("TopSpeaksModel", "nights", "I", false)
  | 26 => ("TopSpeaksModel", "tries", "[I", true)
  | 27 => ("TopSpeaksModel", "bests", "[I", true)
  | 28 => ("TopSpeaksModel", "towers", "[I", true)
  | 29 => ("TopSpeaksModel", "highs", "[I", true)
  | 30 => ("TopSpeaksModel", "seedNow", "I", false)
  | 31 => ("TopSpeaksModel", "keptHigh", "I", false)
  | 32 => ("TopSpeaksModel", "keptMembers", "I", false)
  | 33 => ("TopSpeaksModel", "keptTower", "[I", true)
  | 34 => ("TopSpeaksModel", "keptBruises", "[I", true)
  | 35 => ("TopSpeaksModel", "keptChairs", "[I", true)
  | _ => ("TopSpeaksModel", "hash", "J", false)
def tyX10 : Nat → FieldType := fun k => match k with
  | 0 => .array .int
  | 1 => .int
  | 2 => .array .int
  | 3 => .int
  | 4 => .int
  | 5 => .array .int
  | 6 => .int
  | 7 => .int
  | 8 => .int
  | 9 => .int
  | 10 => .array .int
  | 11 => .int
  | 12 => .int
  | 13 => .array .int
  | 14 => .int
  | 15 => .array .int
  | 16 => .int
  | 17 => .array .int
  | 18 => .int
  | 19 => .int
  | 20 => .array .int
  | 21 => .int
  | 22 => .array .boolean
  | 23 => .array .int
  | 24 => .array .int
  | 25 => .int
  | 26 => .array .int
  | 27 => .array .int
  | 28 => .array .int
  | 29 => .array .int
  | 30 => .int
  | 31 => .int
  | 32 => .int
  | 33 => .array .int
  | 34 => .array .int
  | 35 => .array .int
  | _ => .long
abbrev wsX100 : List Cond := u_ws RX10 TX10 37
theorem nmX10 : ∀ a, a < 37 → ∀ b, b < 37 → a ≠ b → (TX10 a).2.1 ≠ (TX10 b).2.1 := by decide +kernel
theorem tyX10_ok : ∀ k, k < 37 → parseFieldDescriptor (TX10 k).2.2.1 = some (tyX10 k) := by decide +kernel
abbrev cX10_init : ByteArray := prog_12_method_1_code
def yX10_init : MethodName := ⟨RX10, "<init>", "()V"⟩
abbrev cX10_in : ByteArray := prog_12_method_2_code
def yX10_in : MethodName := ⟨RX10, "in", "(JJJ)Z"⟩
abbrev cX10_letters : ByteArray := prog_12_method_3_code
def yX10_letters : MethodName := ⟨RX10, "letters", "(J)I"⟩
abbrev cX10_blank : ByteArray := prog_12_method_4_code
def yX10_blank : MethodName := ⟨RX10, "blank", "()I"⟩
abbrev cX10_goRule : ByteArray := prog_12_method_5_code
def yX10_goRule : MethodName := ⟨RX10, "goRule", "(I)Z"⟩
abbrev cX10_ruleFault : ByteArray := prog_12_method_6_code
def yX10_ruleFault : MethodName := ⟨RX10, "ruleFault", "()I"⟩
abbrev cX10_debateFault : ByteArray := prog_12_method_7_code
def yX10_debateFault : MethodName := ⟨RX10, "debateFault", "()I"⟩
abbrev cX10_fault : ByteArray := prog_12_method_8_code
def yX10_fault : MethodName := ⟨RX10, "fault", "(I)I"⟩
abbrev cX10_rule : ByteArray := prog_12_method_9_code
def yX10_rule : MethodName := ⟨RX10, "rule", "()I"⟩
abbrev cX10_replies : ByteArray := prog_12_method_10_code
def yX10_replies : MethodName := ⟨RX10, "replies", "(II)I"⟩
abbrev cX10_isMember : ByteArray := prog_12_method_11_code
def yX10_isMember : MethodName := ⟨RX10, "isMember", "(I)Z"⟩
abbrev cX10_member : ByteArray := prog_12_method_12_code
def yX10_member : MethodName := ⟨RX10, "member", "(IIIII)I"⟩
abbrev cX10_speech : ByteArray := prog_12_method_13_code
def yX10_speech : MethodName := ⟨RX10, "speech", "(III)I"⟩
abbrev cX10_weighs : ByteArray := prog_12_method_14_code
def yX10_weighs : MethodName := ⟨RX10, "weighs", "(I)I"⟩
abbrev cX10_canBear : ByteArray := prog_12_method_15_code
def yX10_canBear : MethodName := ⟨RX10, "canBear", "(I)I"⟩
abbrev cX10_leans : ByteArray := prog_12_method_16_code
def yX10_leans : MethodName := ⟨RX10, "leans", "(I)I"⟩
abbrev cX10_bears : ByteArray := prog_12_method_17_code
def yX10_bears : MethodName := ⟨RX10, "bears", "([III)I"⟩
abbrev cX10_leansOf : ByteArray := prog_12_method_18_code
def yX10_leansOf : MethodName := ⟨RX10, "leansOf", "([II)I"⟩
abbrev cX10_holds : ByteArray := prog_12_method_19_code
def yX10_holds : MethodName := ⟨RX10, "holds", "([II)Z"⟩
abbrev cX10_billOf : ByteArray := prog_12_method_20_code
def yX10_billOf : MethodName := ⟨RX10, "billOf", "([II)I"⟩
abbrev cX10_setOf : ByteArray := prog_12_method_21_code
def yX10_setOf : MethodName := ⟨RX10, "setOf", "([II)I"⟩
abbrev cX10_mayRise : ByteArray := prog_12_method_22_code
def yX10_mayRise : MethodName := ⟨RX10, "mayRise", "(I[II)Z"⟩
abbrev cX10_heightOf : ByteArray := prog_12_method_23_code
def yX10_heightOf : MethodName := ⟨RX10, "heightOf", "(I)I"⟩
abbrev cX10_tell : ByteArray := prog_12_method_24_code
def yX10_tell : MethodName := ⟨RX10, "tell", "(II)I"⟩
abbrev cX10_about : ByteArray := prog_12_method_25_code
def yX10_about : MethodName := ⟨RX10, "about", "(II)I"⟩
abbrev cX10_as : ByteArray := prog_12_method_26_code
def yX10_as : MethodName := ⟨RX10, "as", "(II)I"⟩
abbrev cX10_chair : ByteArray := prog_12_method_27_code
def yX10_chair : MethodName := ⟨RX10, "chair", "(II)I"⟩
abbrev cX10_may : ByteArray := prog_12_method_28_code
def yX10_may : MethodName := ⟨RX10, "may", "(I)I"⟩
abbrev cX10_rise : ByteArray := prog_12_method_29_code
def yX10_rise : MethodName := ⟨RX10, "rise", "(I)I"⟩
abbrev cX10_down : ByteArray := prog_12_method_30_code
def yX10_down : MethodName := ⟨RX10, "down", "()I"⟩
abbrev cX10_at : ByteArray := prog_12_method_31_code
def yX10_at : MethodName := ⟨RX10, "at", "(I)I"⟩
abbrev cX10_bill : ByteArray := prog_12_method_32_code
def yX10_bill : MethodName := ⟨RX10, "bill", "()I"⟩
abbrev cX10_isDebate : ByteArray := prog_12_method_33_code
def yX10_isDebate : MethodName := ⟨RX10, "isDebate", "()Z"⟩
abbrev cX10_rises : ByteArray := prog_12_method_34_code
def yX10_rises : MethodName := ⟨RX10, "rises", "(I)Z"⟩
abbrev cX10_debate : ByteArray := prog_12_method_35_code
def yX10_debate : MethodName := ⟨RX10, "debate", "(I)I"⟩
abbrev cX10_nails : ByteArray := prog_12_method_36_code
def yX10_nails : MethodName := ⟨RX10, "nails", "()I"⟩
abbrev cX10_shook : ByteArray := prog_12_method_37_code
def yX10_shook : MethodName := ⟨RX10, "shook", "()I"⟩
abbrev cX10_ones : ByteArray := prog_12_method_38_code
def yX10_ones : MethodName := ⟨RX10, "ones", "(I)I"⟩
abbrev cX10_layRows : ByteArray := prog_12_method_39_code
def yX10_layRows : MethodName := ⟨RX10, "layRows", "(I)V"⟩
abbrev cX10_layFound : ByteArray := prog_12_method_40_code
def yX10_layFound : MethodName := ⟨RX10, "layFound", "(I)V"⟩
abbrev cX10_isSet : ByteArray := prog_12_method_41_code
def yX10_isSet : MethodName := ⟨RX10, "isSet", "(I)Z"⟩
abbrev cX10_order : ByteArray := prog_12_method_42_code
def yX10_order : MethodName := ⟨RX10, "order", "(II)I"⟩
abbrev cX10_laws : ByteArray := prog_12_method_43_code
def yX10_laws : MethodName := ⟨RX10, "laws", "(II)I"⟩
abbrev cX10_nextGets : ByteArray := prog_12_method_44_code
def yX10_nextGets : MethodName := ⟨RX10, "nextGets", "()Z"⟩
abbrev cX10_changedOf : ByteArray := prog_12_method_45_code
def yX10_changedOf : MethodName := ⟨RX10, "changedOf", "()I"⟩
abbrev cX10_changed : ByteArray := prog_12_method_46_code
def yX10_changed : MethodName := ⟨RX10, "changed", "()I"⟩
abbrev cX10_onTop : ByteArray := prog_12_method_47_code
def yX10_onTop : MethodName := ⟨RX10, "onTop", "()I"⟩
abbrev cX10_saveAt : ByteArray := prog_12_method_48_code
def yX10_saveAt : MethodName := ⟨RX10, "saveAt", "(I)V"⟩
abbrev cX10_backTo : ByteArray := prog_12_method_49_code
def yX10_backTo : MethodName := ⟨RX10, "backTo", "(I)V"⟩
abbrev cX10_nextOne : ByteArray := prog_12_method_50_code
def yX10_nextOne : MethodName := ⟨RX10, "nextOne", "(II)I"⟩
abbrev cX10_midnightOf : ByteArray := prog_12_method_51_code
def yX10_midnightOf : MethodName := ⟨RX10, "midnightOf", "(I)I"⟩
abbrev cX10_keep : ByteArray := prog_12_method_52_code
def yX10_keep : MethodName := ⟨RX10, "keep", "(II)V"⟩
abbrev cX10_midnight : ByteArray := prog_12_method_53_code
def yX10_midnight : MethodName := ⟨RX10, "midnight", "(I)I"⟩
abbrev cX10_draw : ByteArray := prog_12_method_54_code
def yX10_draw : MethodName := ⟨RX10, "draw", "(I)I"⟩
abbrev cX10_sessions : ByteArray := prog_12_method_55_code
def yX10_sessions : MethodName := ⟨RX10, "sessions", "(III)I"⟩
abbrev cX10_image : ByteArray := prog_12_method_56_code
def yX10_image : MethodName := ⟨RX10, "image", "()I"⟩
abbrev cX10_restore : ByteArray := prog_12_method_57_code
def yX10_restore : MethodName := ⟨RX10, "restore", "()I"⟩
abbrev cX10_countOf : ByteArray := prog_12_method_58_code
def yX10_countOf : MethodName := ⟨RX10, "countOf", "(I)I"⟩
abbrev cX10_count : ByteArray := prog_12_method_59_code
def yX10_count : MethodName := ⟨RX10, "count", "(I)I"⟩
abbrev cX10_say : ByteArray := prog_12_method_60_code
def yX10_say : MethodName := ⟨RX10, "say", "(J)V"⟩
abbrev cX10_digest : ByteArray := prog_12_method_61_code
def yX10_digest : MethodName := ⟨RX10, "digest", "()J"⟩
def RJ6 : String := "java/lang/Integer"
def TJ6 : u_T := fun k => match k with
  | _ => ("", "", "", false)
def tyJ6 : Nat → FieldType := fun k => match k with
  | _ => .int
abbrev wsJ60 : List Cond := u_ws RJ6 TJ6 0
theorem nmJ6 : ∀ a, a < 0 → ∀ b, b < 0 → a ≠ b → (TJ6 a).2.1 ≠ (TJ6 b).2.1 := by decide +kernel
theorem tyJ6_ok : ∀ k, k < 0 → parseFieldDescriptor (TJ6 k).2.2.1 = some (tyJ6 k) := by decide +kernel
abbrev cJ6_numberOfLeadingZeros_0f7a4 : ByteArray := prog_13_method_47_code
def yJ6_numberOfLeadingZeros_0f7a4 : MethodName := ⟨RJ6, "numberOfLeadingZeros", "(I)I"⟩
def RJ13 : String := "java/lang/Long"
def TJ13 : u_T := fun k => match k with
  | _ => ("", "", "", false)
def tyJ13 : Nat → FieldType := fun k => match k with
  | _ => .int
abbrev wsJ130 : List Cond := u_ws RJ13 TJ13 0
theorem nmJ13 : ∀ a, a < 0 → ∀ b, b < 0 → a ≠ b → (TJ13 a).2.1 ≠ (TJ13 b).2.1 := by decide +kernel
theorem tyJ13_ok : ∀ k, k < 0 → parseFieldDescriptor (TJ13 k).2.2.1 = some (tyJ13 k) := by decide +kernel
abbrev cJ13_numberOfLeadingZeros_95d88 : ByteArray := prog_14_method_48_code
def yJ13_numberOfLeadingZeros_95d88 : MethodName := ⟨RJ13, "numberOfLeadingZeros", "(J)I"⟩
abbrev cJ13_bitCount_95d88 : ByteArray := prog_14_method_50_code
def yJ13_bitCount_95d88 : MethodName := ⟨RJ13, "bitCount", "(J)I"⟩
def RJ9 : String := "java/lang/Math"
def TJ9 : u_T := fun k => match k with
  | _ => ("", "", "", false)
def tyJ9 : Nat → FieldType := fun k => match k with
  | _ => .int
abbrev wsJ90 : List Cond := u_ws RJ9 TJ9 0
theorem nmJ9 : ∀ a, a < 0 → ∀ b, b < 0 → a ≠ b → (TJ9 a).2.1 ≠ (TJ9 b).2.1 := by decide +kernel
theorem tyJ9_ok : ∀ k, k < 0 → parseFieldDescriptor (TJ9 k).2.2.1 = some (tyJ9 k) := by decide +kernel
abbrev cJ9_abs_0f7a4 : ByteArray := prog_15_method_59_code
def yJ9_abs_0f7a4 : MethodName := ⟨RJ9, "abs", "(I)I"⟩
abbrev cJ9_max_7cf53 : ByteArray := prog_15_method_65_code
def yJ9_max_7cf53 : MethodName := ⟨RJ9, "max", "(II)I"⟩
abbrev cJ9_min_7cf53 : ByteArray := prog_15_method_69_code
def yJ9_min_7cf53 : MethodName := ⟨RJ9, "min", "(II)I"⟩
def RL : String := "TopSpeaksLaw"
abbrev cL_law : ByteArray := code
def yL_law : MethodName := ⟨RL, "law", "([I)Z"⟩
def wsL_law_r1 : List Cond := [Cond.classLink RL 7 RX9, Cond.instantiable RX9 10, Cond.initialized RX9, Cond.classLink RL 10 RX10, Cond.instantiable RX10 37, Cond.initialized RX10, Cond.constantLong RL 13 (4294967295), Cond.methodLink RL 9 yX9_init, Cond.instanceMethod yX9_init, Cond.code yX9_init cX9_init 1 none, Cond.methodLink RX9 1 objectInit, Cond.instanceMethod objectInit, Cond.code objectInit ⟨#[0xb1]⟩ 1 none, Cond.classLink RX9 7 RX5, Cond.instantiable RX5 2, Cond.initialized RX5, Cond.fieldLink RX9 10 "TopSpeaks" "page" "LTopSpeaks$Page;", Cond.classLink RX9 16 RX7, Cond.instantiable RX7 5, Cond.initialized RX7, Cond.fieldLink RX9 19 "TopSpeaks" "ruleText" "LTopSpeaks$RuleText;", Cond.classLink RX9 23 RX2, Cond.instantiable RX2 2, Cond.initialized RX2]
def wsL_law_r2 : List Cond := [Cond.fieldLink RX9 26 "TopSpeaks" "debateText" "LTopSpeaks$DebateText;", Cond.classLink RX9 30 RX1, Cond.instantiable RX1 8, Cond.initialized RX1, Cond.fieldLink RX9 33 "TopSpeaks" "chamber" "LTopSpeaks$Chamber;", Cond.classLink RX9 37 RX3, Cond.instantiable RX3 4, Cond.initialized RX3, Cond.fieldLink RX9 40 "TopSpeaks" "kept" "LTopSpeaks$Image;", Cond.classLink RX9 44 RX0, Cond.instantiable RX0 1, Cond.initialized RX0, Cond.fieldLink RX9 47 "TopSpeaks" "heardBills" "LTopSpeaks$Bills;", Cond.methodLink RX9 9 yX5_init, Cond.instanceMethod yX5_init, Cond.code yX5_init cX5_init 1 none, Cond.methodLink RX5 3 objectInit, Cond.arrayClass .int, Cond.fieldLink RX5 11 "TopSpeaks$Page" "codes" "[I", Cond.instanceMethod yX7_init, Cond.code yX7_init cX7_init 1 none, Cond.instanceMethod yX8_init, Cond.initialized RX8, Cond.code yX8_init cX8_init 1 none]
def wsL_law_r3 : List Cond := [Cond.methodLink RX8 1 objectInit, Cond.instanceMethod yX2_init, Cond.code yX2_init cX2_init 1 none, Cond.methodLink RX9 32 yX1_init, Cond.instanceMethod yX1_init, Cond.code yX1_init cX1_init 2 none, Cond.methodLink RX1 3 objectInit, Cond.classLink RX1 9 RX4, Cond.fieldLink RX1 11 "TopSpeaks$Chamber" "members" "[LTopSpeaks$Member;", Cond.instantiable RX4 12, Cond.initialized RX4, Cond.fieldLink RX1 18 "TopSpeaks$Chamber" "nobody" "LTopSpeaks$Member;", Cond.fieldLink RX1 22 "TopSpeaks$Chamber" "strengths" "[I", Cond.fieldLink RX1 26 "TopSpeaks$Chamber" "needs" "[I", Cond.fieldLink RX1 29 "TopSpeaks$Chamber" "limit" "I", Cond.instanceMethod yX4_init, Cond.code yX4_init cX4_init 1 none, Cond.methodLink RX4 3 objectInit, Cond.methodLink RX9 39 yX3_init, Cond.instanceMethod yX3_init, Cond.code yX3_init cX3_init 1 none, Cond.methodLink RX3 3 objectInit, Cond.fieldLink RX3 9 "TopSpeaks$Image" "strengths" "[I", Cond.fieldLink RX3 15 "TopSpeaks$Image" "bruises" "[I"]
def wsL_law_r4 : List Cond := [Cond.fieldLink RX3 18 "TopSpeaks$Image" "size" "I", Cond.methodLink RX9 46 yX0_init, Cond.instanceMethod yX0_init, Cond.code yX0_init cX0_init 1 none, Cond.methodLink RX0 3 objectInit, Cond.arrayClass .long, Cond.fieldLink RX0 11 "TopSpeaks$Bills" "words" "[J", Cond.methodLink RL 12 yX10_init, Cond.instanceMethod yX10_init, Cond.code yX10_init cX10_init 1 none, Cond.methodLink RX10 1 objectInit, Cond.fieldLink RX10 7 "TopSpeaksModel" "page" "[I", Cond.fieldLink RX10 13 "TopSpeaksModel" "replyRows" "[I", Cond.fieldLink RX10 16 "TopSpeaksModel" "readReplies" "[I", Cond.fieldLink RX10 19 "TopSpeaksModel" "row" "[I", Cond.fieldLink RX10 22 "TopSpeaksModel" "rows" "[I", Cond.fieldLink RX10 25 "TopSpeaksModel" "tower" "[I", Cond.fieldLink RX10 28 "TopSpeaksModel" "would" "[I", Cond.fieldLink RX10 31 "TopSpeaksModel" "found" "[I", Cond.arrayClass .boolean, Cond.fieldLink RX10 34 "TopSpeaksModel" "bills" "[Z", Cond.fieldLink RX10 38 "TopSpeaksModel" "next" "[I", Cond.fieldLink RX10 41 "TopSpeaksModel" "gets" "[I", Cond.fieldLink RX10 44 "TopSpeaksModel" "tries" "[I"]
def wsL_law_r5 : List Cond := [Cond.fieldLink RX10 47 "TopSpeaksModel" "bests" "[I", Cond.fieldLink RX10 50 "TopSpeaksModel" "towers" "[I", Cond.fieldLink RX10 53 "TopSpeaksModel" "highs" "[I", Cond.fieldLink RX10 56 "TopSpeaksModel" "keptTower" "[I", Cond.fieldLink RX10 59 "TopSpeaksModel" "keptBruises" "[I", Cond.fieldLink RX10 62 "TopSpeaksModel" "keptChairs" "[I", Cond.fieldLink RX10 65 "TopSpeaksModel" "keptHigh" "I", Cond.fieldLink RX10 69 "TopSpeaksModel" "limit" "I", Cond.methodLink RL 15 yX9_letters, Cond.instanceMethod yX9_letters, Cond.selects RX9 yX9_letters yX9_letters, Cond.code yX9_letters cX9_letters 4 (some .int), Cond.methodLink RX9 51 yX5_lettersIn, Cond.static yX5_lettersIn, Cond.code yX5_lettersIn cX5_lettersIn 6 (some .int), Cond.methodLink RX5 15 yX5_codeIn, Cond.static yX5_codeIn, Cond.code yX5_codeIn cX5_codeIn 3 (some .int), Cond.methodLink RX9 55 yX5_hasRoomFor, Cond.instanceMethod yX5_hasRoomFor, Cond.selects RX5 yX5_hasRoomFor yX5_hasRoomFor, Cond.code yX5_hasRoomFor cX5_hasRoomFor 2 (some .boolean), Cond.fieldLink RX5 19 "TopSpeaks$Page" "length" "I", Cond.methodLink RX9 59 yX5_add]
def wsL_law_r6 : List Cond := [Cond.instanceMethod yX5_add, Cond.selects RX5 yX5_add yX5_add, Cond.code yX5_add cX5_add 5 none, Cond.methodLink RX9 63 yX5_length, Cond.instanceMethod yX5_length, Cond.selects RX5 yX5_length yX5_length, Cond.code yX5_length cX5_length 1 (some .int), Cond.methodLink RL 19 yX10_letters, Cond.instanceMethod yX10_letters, Cond.selects RX10 yX10_letters yX10_letters, Cond.code yX10_letters cX10_letters 9 (some .int), Cond.constantLong RX10 72 (255), Cond.fieldLink RX10 74 "TopSpeaksModel" "pageMany" "I", Cond.methodLink RL 20 yX9_blank, Cond.instanceMethod yX9_blank, Cond.selects RX9 yX9_blank yX9_blank, Cond.code yX9_blank cX9_blank 2 (some .int), Cond.methodLink RX9 67 yX5_clear, Cond.instanceMethod yX5_clear, Cond.selects RX5 yX5_clear yX5_clear, Cond.code yX5_clear cX5_clear 1 none, Cond.methodLink RL 24 yX10_blank, Cond.instanceMethod yX10_blank, Cond.selects RX10 yX10_blank yX10_blank]
def wsL_law_r7 : List Cond := [Cond.code yX10_blank cX10_blank 2 (some .int), Cond.methodLink RL 25 yX9_fault, Cond.instanceMethod yX9_fault, Cond.selects RX9 yX9_fault yX9_fault, Cond.code yX9_fault cX9_fault 2 (some .int), Cond.methodLink RX9 70 yX5_faultOf, Cond.instanceMethod yX5_faultOf, Cond.selects RX5 yX5_faultOf yX5_faultOf, Cond.code yX5_faultOf cX5_faultOf 3 (some .int), Cond.methodLink RX5 23 ⟨"TopSpeaks$Text", "begin", "()V"⟩, Cond.sameMethod "TopSpeaks$Text" "TopSpeaks$Text" "begin" "()V", Cond.selects RX2 ⟨"TopSpeaks$Text", "begin", "()V"⟩ yX2_begin, Cond.instanceMethod yX2_begin, Cond.code yX2_begin cX2_begin 1 none, Cond.fieldLink RX2 9 "TopSpeaks$DebateText" "said" "I", Cond.fieldLink RX2 17 "TopSpeaks$DebateText" "row" "I", Cond.selects RX7 ⟨"TopSpeaks$Text", "begin", "()V"⟩ yX7_begin, Cond.instanceMethod yX7_begin, Cond.code yX7_begin cX7_begin 1 none, Cond.fieldLink RX7 11 "TopSpeaks$RuleText" "due" "I", Cond.fieldLink RX7 15 "TopSpeaks$RuleText" "replier" "I", Cond.fieldLink RX7 18 "TopSpeaks$RuleText" "told" "J", Cond.fieldLink RX7 22 "TopSpeaks$RuleText" "pairs" "I", Cond.fieldLink RX7 25 "TopSpeaks$RuleText" "limit" "I"]
def wsL_law_r8 : List Cond := [Cond.methodLink RX5 28 yX5_letter, Cond.instanceMethod yX5_letter, Cond.selects RX5 yX5_letter yX5_letter, Cond.code yX5_letter cX5_letter 2 (some .int), Cond.methodLink RX5 32 ⟨"TopSpeaks$Text", "takes", "(I)Z"⟩, Cond.sameMethod "TopSpeaks$Text" "TopSpeaks$Text" "takes" "(I)Z", Cond.selects RX2 ⟨"TopSpeaks$Text", "takes", "(I)Z"⟩ yX2_takes, Cond.instanceMethod yX2_takes, Cond.code yX2_takes cX2_takes 3 (some .boolean), Cond.static yX9_isBetween, Cond.code yX9_isBetween cX9_isBetween 3 (some .boolean), Cond.methodLink RX2 24 yX6_with, Cond.static yX6_with, Cond.initialized RX6, Cond.code yX6_with cX6_with 2 (some .int), Cond.selects RX7 ⟨"TopSpeaks$Text", "takes", "(I)Z"⟩ yX7_takes, Cond.instanceMethod yX7_takes, Cond.code yX7_takes cX7_takes 2 (some .boolean), Cond.methodLink RX7 28 yX7_takesReplier, Cond.instanceMethod yX7_takesReplier, Cond.selects RX7 yX7_takesReplier yX7_takesReplier, Cond.code yX7_takesReplier cX7_takesReplier 2 (some .boolean), Cond.methodLink RX7 32 yX7_takesReplied, Cond.instanceMethod yX7_takesReplied]
def wsL_law_r9 : List Cond := [Cond.selects RX7 yX7_takesReplied yX7_takesReplied, Cond.code yX7_takesReplied cX7_takesReplied 4 (some .boolean), Cond.methodLink RX7 35 yX7_takesMark, Cond.instanceMethod yX7_takesMark, Cond.selects RX7 yX7_takesMark yX7_takesMark, Cond.code yX7_takesMark cX7_takesMark 2 (some .boolean), Cond.methodLink RX7 38 yX7_takesLimit, Cond.instanceMethod yX7_takesLimit, Cond.selects RX7 yX7_takesLimit yX7_takesLimit, Cond.code yX7_takesLimit cX7_takesLimit 2 (some .boolean), Cond.methodLink RL 29 yX10_fault, Cond.instanceMethod yX10_fault, Cond.selects RX10 yX10_fault yX10_fault, Cond.code yX10_fault cX10_fault 2 (some .int), Cond.methodLink RX10 104 yX10_ruleFault, Cond.instanceMethod yX10_ruleFault, Cond.selects RX10 yX10_ruleFault yX10_ruleFault, Cond.code yX10_ruleFault cX10_ruleFault 2 (some .int), Cond.fieldLink RX10 89 "TopSpeaksModel" "readPairs" "I", Cond.fieldLink RX10 92 "TopSpeaksModel" "readLimit" "I", Cond.fieldLink RX10 77 "TopSpeaksModel" "state" "I", Cond.methodLink RX10 97 yX10_goRule, Cond.instanceMethod yX10_goRule, Cond.selects RX10 yX10_goRule yX10_goRule]
def wsL_law_r10 : List Cond := [Cond.code yX10_goRule cX10_goRule 4 (some .boolean), Cond.fieldLink RX10 80 "TopSpeaksModel" "readFirst" "I", Cond.constantLong RX10 83 (6), Cond.constantLong RX10 95 (9), Cond.methodLink RX10 85 yX10_in, Cond.static yX10_in, Cond.code yX10_in cX10_in 6 (some .boolean), Cond.methodLink RX10 108 yX10_debateFault, Cond.instanceMethod yX10_debateFault, Cond.selects RX10 yX10_debateFault yX10_debateFault, Cond.code yX10_debateFault cX10_debateFault 3 (some .int), Cond.fieldLink RX10 101 "TopSpeaksModel" "rowMany" "I", Cond.methodLink RL 30 yX9_rule, Cond.instanceMethod yX9_rule, Cond.selects RX9 yX9_rule yX9_rule, Cond.code yX9_rule cX9_rule 1 (some .int), Cond.methodLink RX9 74 yX5_isWhole, Cond.instanceMethod yX5_isWhole, Cond.selects RX5 yX5_isWhole yX5_isWhole, Cond.code yX5_isWhole cX5_isWhole 2 (some .boolean), Cond.methodLink RX5 36 yX5_faultOf, Cond.methodLink RX5 40 ⟨"TopSpeaks$Text", "canEnd", "()Z"⟩, Cond.sameMethod "TopSpeaks$Text" "TopSpeaks$Text" "canEnd" "()Z", Cond.selects RX2 ⟨"TopSpeaks$Text", "canEnd", "()Z"⟩ yX2_canEnd]
def wsL_law_r11 : List Cond := [Cond.instanceMethod yX2_canEnd, Cond.code yX2_canEnd cX2_canEnd 1 (some .boolean), Cond.selects RX7 ⟨"TopSpeaks$Text", "canEnd", "()Z"⟩ yX7_canEnd, Cond.instanceMethod yX7_canEnd, Cond.code yX7_canEnd cX7_canEnd 1 (some .boolean), Cond.methodLink RX9 78 yX1_adopt, Cond.instanceMethod yX1_adopt, Cond.selects RX1 yX1_adopt yX1_adopt, Cond.code yX1_adopt cX1_adopt 2 none, Cond.fieldLink RX1 55 "TopSpeaks$Chamber" "told" "J", Cond.fieldLink RX1 36 "TopSpeaks$Chamber" "pairs" "I", Cond.methodLink RX1 49 yX7_told, Cond.instanceMethod yX7_told, Cond.selects RX7 yX7_told yX7_told, Cond.code yX7_told cX7_told 1 (some .long), Cond.methodLink RX1 58 yX7_pairs, Cond.instanceMethod yX7_pairs, Cond.selects RX7 yX7_pairs yX7_pairs, Cond.code yX7_pairs cX7_pairs 1 (some .int), Cond.methodLink RX1 61 yX7_limit, Cond.instanceMethod yX7_limit, Cond.selects RX7 yX7_limit yX7_limit, Cond.code yX7_limit cX7_limit 1 (some .int), Cond.methodLink RX9 82 yX1_pairs]
def wsL_law_r12 : List Cond := [Cond.instanceMethod yX1_pairs, Cond.selects RX1 yX1_pairs yX1_pairs, Cond.code yX1_pairs cX1_pairs 1 (some .int), Cond.methodLink RL 33 yX10_rule, Cond.instanceMethod yX10_rule, Cond.selects RX10 yX10_rule yX10_rule, Cond.code yX10_rule cX10_rule 2 (some .int), Cond.fieldLink RX10 111 "TopSpeaksModel" "pairs" "I", Cond.methodLink RL 34 yX9_replies, Cond.instanceMethod yX9_replies, Cond.selects RX9 yX9_replies yX9_replies, Cond.code yX9_replies cX9_replies 3 (some .int), Cond.methodLink RX9 85 yX9_isBetween, Cond.methodLink RX9 89 yX1_repliesOf, Cond.instanceMethod yX1_repliesOf, Cond.selects RX1 yX1_repliesOf yX1_repliesOf, Cond.code yX1_repliesOf cX1_repliesOf 2 (some .int), Cond.methodLink RL 38 yX10_replies, Cond.instanceMethod yX10_replies, Cond.selects RX10 yX10_replies yX10_replies, Cond.code yX10_replies cX10_replies 3 (some .int), Cond.methodLink RL 39 yX9_member, Cond.instanceMethod yX9_member, Cond.selects RX9 yX9_member yX9_member]
def wsL_law_r13 : List Cond := [Cond.code yX9_member cX9_member 7 (some .int), Cond.methodLink RX9 95 yX1_size, Cond.instanceMethod yX1_size, Cond.selects RX1 yX1_size yX1_size, Cond.code yX1_size cX1_size 1 (some .int), Cond.fieldLink RX1 33 "TopSpeaks$Chamber" "size" "I", Cond.methodLink RX9 98 yX1_seatNext, Cond.instanceMethod yX1_seatNext, Cond.selects RX1 yX1_seatNext yX1_seatNext, Cond.code yX1_seatNext cX1_seatNext 2 (some (.object "TopSpeaks$Member")), Cond.methodLink RX1 43 Lib.Math.min.name, Cond.static Lib.Math.min.name, Cond.initialized "java/lang/Math", Cond.code Lib.Math.min.name Lib.Math.min.code 2 (some .int), Cond.methodLink RX1 39 yX1_who, Cond.instanceMethod yX1_who, Cond.selects RX1 yX1_who yX1_who, Cond.code yX1_who cX1_who 2 (some (.object "TopSpeaks$Member")), Cond.methodLink RX9 102 yX4_become, Cond.instanceMethod yX4_become, Cond.selects RX4 yX4_become yX4_become, Cond.code yX4_become cX4_become 4 none, Cond.fieldLink RX4 9 "TopSpeaks$Member" "kind" "I", Cond.fieldLink RX4 15 "TopSpeaks$Member" "weight" "I"]
def wsL_law_r14 : List Cond := [Cond.fieldLink RX4 18 "TopSpeaks$Member" "lean" "I", Cond.fieldLink RX4 25 "TopSpeaks$Member" "fat" "Z", Cond.fieldLink RX4 29 "TopSpeaks$Member" "weighs" "I", Cond.fieldLink RX4 32 "TopSpeaks$Member" "joined" "I", Cond.fieldLink RX4 35 "TopSpeaks$Member" "leans" "I", Cond.methodLink RX4 21 yX4_isA, Cond.instanceMethod yX4_isA, Cond.selects RX4 yX4_isA yX4_isA, Cond.code yX4_isA cX4_isA 2 (some .boolean), Cond.methodLink RL 43 yX10_member, Cond.instanceMethod yX10_member, Cond.selects RX10 yX10_member yX10_member, Cond.code yX10_member cX10_member 7 (some .int), Cond.constantLong RX10 117 (4), Cond.constantLong RX10 119 (-3), Cond.constantLong RX10 121 (3), Cond.constantLong RX10 123 (2), Cond.constantLong RX10 125 (99), Cond.fieldLink RX10 114 "TopSpeaksModel" "members" "I", Cond.methodLink RL 44 yX9_speech, Cond.instanceMethod yX9_speech, Cond.selects RX9 yX9_speech yX9_speech, Cond.code yX9_speech cX9_speech 6 (some .int), Cond.methodLink RX9 113 yX1_has]
def wsL_law_r15 : List Cond := [Cond.instanceMethod yX1_has, Cond.selects RX1 yX1_has yX1_has, Cond.code yX1_has cX1_has 2 (some .boolean), Cond.methodLink RX9 116 yX1_who, Cond.methodLink RL 48 yX10_speech, Cond.instanceMethod yX10_speech, Cond.selects RX10 yX10_speech yX10_speech, Cond.code yX10_speech cX10_speech 5 (some .int), Cond.methodLink RX10 127 yX10_isMember, Cond.instanceMethod yX10_isMember, Cond.selects RX10 yX10_isMember yX10_isMember, Cond.code yX10_isMember cX10_isMember 2 (some .boolean), Cond.methodLink RL 49 yX9_about, Cond.instanceMethod yX9_about, Cond.selects RX9 yX9_about yX9_about, Cond.code yX9_about cX9_about 4 (some .int), Cond.fieldLink RX9 135 "TopSpeaks" "tower" "I", Cond.methodLink RX9 138 yX6_heightOf, Cond.static yX6_heightOf, Cond.code yX6_heightOf cX6_heightOf 4 (some .int), Cond.methodLink RX6 9 yX6_size, Cond.static yX6_size, Cond.code yX6_size cX6_size 2 (some .int), Cond.methodLink RX6 15 yX6_top]
def wsL_law_r16 : List Cond := [Cond.static yX6_top, Cond.code yX6_top cX6_top 1 (some .int), Cond.methodLink RX6 18 yX6_belowTop, Cond.static yX6_belowTop, Cond.code yX6_belowTop cX6_belowTop 1 (some .int), Cond.methodLink RX9 150 yX4_canBear, Cond.instanceMethod yX4_canBear, Cond.selects RX4 yX4_canBear yX4_canBear, Cond.code yX4_canBear cX4_canBear 1 (some .int), Cond.fieldLink RX4 38 "TopSpeaks$Member" "strength" "I", Cond.methodLink RX9 153 yX1_loadOn, Cond.instanceMethod yX1_loadOn, Cond.selects RX1 yX1_loadOn yX1_loadOn, Cond.code yX1_loadOn cX1_loadOn 7 (some .int), Cond.methodLink RX1 81 yX6_top, Cond.methodLink RX1 84 yX4_loadUnder, Cond.instanceMethod yX4_loadUnder, Cond.selects RX4 yX4_loadUnder yX4_loadUnder, Cond.code yX4_loadUnder cX4_loadUnder 2 (some .int), Cond.methodLink RX1 96 yX6_belowTop, Cond.methodLink RL 52 yX10_about, Cond.instanceMethod yX10_about, Cond.selects RX10 yX10_about yX10_about, Cond.code yX10_about cX10_about 3 (some .int)]
def wsL_law_r17 : List Cond := [Cond.methodLink RX10 157 yX10_tell, Cond.instanceMethod yX10_tell, Cond.selects RX10 yX10_tell yX10_tell, Cond.code yX10_tell cX10_tell 3 (some .int), Cond.fieldLink RX10 151 "TopSpeaksModel" "high" "I", Cond.methodLink RX10 154 yX10_heightOf, Cond.instanceMethod yX10_heightOf, Cond.selects RX10 yX10_heightOf yX10_heightOf, Cond.code yX10_heightOf cX10_heightOf 3 (some .int), Cond.methodLink RX10 130 yX10_weighs, Cond.instanceMethod yX10_weighs, Cond.selects RX10 yX10_weighs yX10_weighs, Cond.code yX10_weighs cX10_weighs 2 (some .int), Cond.methodLink RX10 145 yX10_canBear, Cond.instanceMethod yX10_canBear, Cond.selects RX10 yX10_canBear yX10_canBear, Cond.code yX10_canBear cX10_canBear 3 (some .int), Cond.methodLink RX10 141 yX10_bears, Cond.instanceMethod yX10_bears, Cond.selects RX10 yX10_bears yX10_bears, Cond.code yX10_bears cX10_bears 6 (some .int), Cond.methodLink RL 53 yX9_as, Cond.instanceMethod yX9_as, Cond.selects RX9 yX9_as yX9_as]
def wsL_law_r18 : List Cond := [Cond.code yX9_as cX9_as 3 (some .int), Cond.methodLink RX9 156 yX4_isA, Cond.methodLink RL 56 yX10_as, Cond.instanceMethod yX10_as, Cond.selects RX10 yX10_as yX10_as, Cond.code yX10_as cX10_as 5 (some .int), Cond.methodLink RL 57 yX9_chair, Cond.instanceMethod yX9_chair, Cond.selects RX9 yX9_chair yX9_chair, Cond.code yX9_chair cX9_chair 5 (some .int), Cond.methodLink RL 60 yX10_chair, Cond.instanceMethod yX10_chair, Cond.selects RX10 yX10_chair yX10_chair, Cond.code yX10_chair cX10_chair 4 (some .int), Cond.methodLink RL 61 yX9_may, Cond.instanceMethod yX9_may, Cond.selects RX9 yX9_may yX9_may, Cond.code yX9_may cX9_may 2 (some .int), Cond.methodLink RX9 159 yX1_canRise, Cond.instanceMethod yX1_canRise, Cond.selects RX1 yX1_canRise yX1_canRise, Cond.code yX1_canRise cX1_canRise 5 (some .boolean), Cond.methodLink RX1 63 yX1_has, Cond.methodLink RX1 67 yX6_members]
def wsL_law_r19 : List Cond := [Cond.static yX6_members, Cond.code yX6_members cX6_members 4 (some .int), Cond.methodLink RX1 72 yX1_repliesOf, Cond.methodLink RL 64 yX10_may, Cond.instanceMethod yX10_may, Cond.selects RX10 yX10_may yX10_may, Cond.code yX10_may cX10_may 2 (some .int), Cond.methodLink RX10 161 yX10_mayRise, Cond.instanceMethod yX10_mayRise, Cond.selects RX10 yX10_mayRise yX10_mayRise, Cond.code yX10_mayRise cX10_mayRise 5 (some .boolean), Cond.methodLink RX10 148 yX10_setOf, Cond.static yX10_setOf, Cond.code yX10_setOf cX10_setOf 4 (some .int), Cond.methodLink RL 65 yX9_rise, Cond.instanceMethod yX9_rise, Cond.selects RX9 yX9_rise yX9_rise, Cond.code yX9_rise cX9_rise 3 (some .int), Cond.fieldLink RX9 166 "TopSpeaks" "falls" "I", Cond.methodLink RX9 163 yX1_risen, Cond.instanceMethod yX1_risen, Cond.selects RX1 yX1_risen yX1_risen, Cond.code yX1_risen cX1_risen 4 (some .int), Cond.methodLink RX1 75 yX6_with]
def wsL_law_r20 : List Cond := [Cond.methodLink RX1 78 yX1_holds, Cond.instanceMethod yX1_holds, Cond.selects RX1 yX1_holds yX1_holds, Cond.code yX1_holds cX1_holds 7 (some .boolean), Cond.methodLink RX1 99 Lib.Math.abs.name, Cond.static Lib.Math.abs.name, Cond.code Lib.Math.abs.name Lib.Math.abs.code 1 (some .int), Cond.methodLink RX1 87 yX4_canBear, Cond.methodLink RX9 169 yX6_with, Cond.methodLink RX9 172 yX1_bruise, Cond.instanceMethod yX1_bruise, Cond.selects RX1 yX1_bruise yX1_bruise, Cond.code yX1_bruise cX1_bruise 4 none, Cond.methodLink RX9 176 yX6_size, Cond.methodLink RL 68 yX10_rise, Cond.instanceMethod yX10_rise, Cond.selects RX10 yX10_rise yX10_rise, Cond.code yX10_rise cX10_rise 3 (some .int), Cond.fieldLink RX10 169 "TopSpeaksModel" "fellAll" "I", Cond.methodLink RX10 165 yX10_holds, Cond.instanceMethod yX10_holds, Cond.selects RX10 yX10_holds yX10_holds, Cond.code yX10_holds cX10_holds 5 (some .boolean), Cond.methodLink RX10 137 yX10_leansOf]
def wsL_law_r21 : List Cond := [Cond.instanceMethod yX10_leansOf, Cond.selects RX10 yX10_leansOf yX10_leansOf, Cond.code yX10_leansOf cX10_leansOf 5 (some .int), Cond.methodLink RX10 134 yX10_leans, Cond.instanceMethod yX10_leans, Cond.selects RX10 yX10_leans yX10_leans, Cond.code yX10_leans cX10_leans 2 (some .int), Cond.methodLink RL 69 yX9_down, Cond.instanceMethod yX9_down, Cond.selects RX9 yX9_down yX9_down, Cond.code yX9_down cX9_down 2 (some .int), Cond.methodLink RL 72 yX10_down, Cond.instanceMethod yX10_down, Cond.selects RX10 yX10_down yX10_down, Cond.code yX10_down cX10_down 2 (some .int), Cond.methodLink RL 73 yX9_at, Cond.instanceMethod yX9_at, Cond.selects RX9 yX9_at yX9_at, Cond.code yX9_at cX9_at 3 (some .int), Cond.methodLink RX9 178 yX6_memberAt, Cond.static yX6_memberAt, Cond.code yX6_memberAt cX6_memberAt 3 (some .int), Cond.methodLink RL 76 yX10_at, Cond.instanceMethod yX10_at]
def wsL_law_r22 : List Cond := [Cond.selects RX10 yX10_at yX10_at, Cond.code yX10_at cX10_at 2 (some .int), Cond.methodLink RL 77 yX9_bill, Cond.instanceMethod yX9_bill, Cond.selects RX9 yX9_bill yX9_bill, Cond.code yX9_bill cX9_bill 1 (some .int), Cond.methodLink RX9 181 yX1_billOf, Cond.instanceMethod yX1_billOf, Cond.selects RX1 yX1_billOf yX1_billOf, Cond.code yX1_billOf cX1_billOf 5 (some .int), Cond.methodLink RX1 102 yX6_turned, Cond.static yX6_turned, Cond.code yX6_turned cX6_turned 4 (some .int), Cond.methodLink RX6 21 yX6_with, Cond.methodLink RX1 105 yX4_speak, Cond.instanceMethod yX4_speak, Cond.selects RX4 yX4_speak yX4_speak, Cond.code yX4_speak cX4_speak 3 (some .int), Cond.fieldLink RX4 41 "TopSpeaks$Member" "sort" "I", Cond.fieldLink RX4 44 "TopSpeaks$Member" "number" "I", Cond.methodLink RX4 47 Lib.Math.min.name, Cond.methodLink RX4 53 Lib.Math.max.name, Cond.static Lib.Math.max.name, Cond.code Lib.Math.max.name Lib.Math.max.code 2 (some .int)]
def wsL_law_r23 : List Cond := [Cond.methodLink RL 80 yX10_bill, Cond.instanceMethod yX10_bill, Cond.selects RX10 yX10_bill yX10_bill, Cond.code yX10_bill cX10_bill 1 (some .int), Cond.methodLink RX10 172 yX10_billOf, Cond.instanceMethod yX10_billOf, Cond.selects RX10 yX10_billOf yX10_billOf, Cond.code yX10_billOf cX10_billOf 7 (some .int), Cond.methodLink RL 81 yX9_debate, Cond.instanceMethod yX9_debate, Cond.selects RX9 yX9_debate yX9_debate, Cond.code yX9_debate cX9_debate 6 (some .int), Cond.methodLink RX9 184 yX9_debateRow, Cond.instanceMethod yX9_debateRow, Cond.selects RX9 yX9_debateRow yX9_debateRow, Cond.code yX9_debateRow cX9_debateRow 2 (some .int), Cond.methodLink RX9 199 yX2_said, Cond.instanceMethod yX2_said, Cond.selects RX2 yX2_said yX2_said, Cond.code yX2_said cX2_said 1 (some .int), Cond.methodLink RX9 202 yX2_row, Cond.instanceMethod yX2_row, Cond.selects RX2 yX2_row yX2_row, Cond.code yX2_row cX2_row 1 (some .int)]
def wsL_law_r24 : List Cond := [Cond.methodLink RL 84 yX10_debate, Cond.instanceMethod yX10_debate, Cond.selects RX10 yX10_debate yX10_debate, Cond.code yX10_debate cX10_debate 5 (some .int), Cond.fieldLink RX10 175 "TopSpeaksModel" "wouldHigh" "I", Cond.methodLink RX10 178 yX10_isDebate, Cond.instanceMethod yX10_isDebate, Cond.selects RX10 yX10_isDebate yX10_isDebate, Cond.code yX10_isDebate cX10_isDebate 3 (some .boolean), Cond.methodLink RX10 182 yX10_rises, Cond.instanceMethod yX10_rises, Cond.selects RX10 yX10_rises yX10_rises, Cond.code yX10_rises cX10_rises 3 (some .boolean), Cond.methodLink RL 85 yX9_nails, Cond.instanceMethod yX9_nails, Cond.selects RX9 yX9_nails yX9_nails, Cond.code yX9_nails cX9_nails 2 (some .int), Cond.methodLink RX9 187 yX1_leansTooMuch, Cond.instanceMethod yX1_leansTooMuch, Cond.selects RX1 yX1_leansTooMuch yX1_leansTooMuch, Cond.code yX1_leansTooMuch cX1_leansTooMuch 5 (some .boolean), Cond.methodLink RX9 190 yX1_nailsFor, Cond.instanceMethod yX1_nailsFor, Cond.selects RX1 yX1_nailsFor yX1_nailsFor]
def wsL_law_r25 : List Cond := [Cond.code yX1_nailsFor cX1_nailsFor 8 (some .int), Cond.methodLink RL 88 yX10_nails, Cond.instanceMethod yX10_nails, Cond.selects RX10 yX10_nails yX10_nails, Cond.code yX10_nails cX10_nails 4 (some .int), Cond.methodLink RL 89 yX9_shook, Cond.instanceMethod yX9_shook, Cond.selects RX9 yX9_shook yX9_shook, Cond.code yX9_shook cX9_shook 4 (some .int), Cond.methodLink RX9 193 yX1_holds, Cond.methodLink RX9 196 yX6_without, Cond.static yX6_without, Cond.code yX6_without cX6_without 6 (some .int), Cond.methodLink RX6 25 yX6_memberAt, Cond.methodLink RL 92 yX10_shook, Cond.instanceMethod yX10_shook, Cond.selects RX10 yX10_shook yX10_shook, Cond.code yX10_shook cX10_shook 4 (some .int), Cond.methodLink RL 93 yX9_order, Cond.instanceMethod yX9_order, Cond.selects RX9 yX9_order yX9_order, Cond.code yX9_order cX9_order 4 (some .int), Cond.fieldLink RX9 208 "TopSpeaks" "rowSearches" "I", Cond.methodLink RX9 205 yX9_isSet]
def wsL_law_r26 : List Cond := [Cond.instanceMethod yX9_isSet, Cond.selects RX9 yX9_isSet yX9_isSet, Cond.code yX9_isSet cX9_isSet 2 (some .boolean), Cond.methodLink RX9 211 yX9_firstTower, Cond.static yX9_firstTower, Cond.code yX9_firstTower cX9_firstTower 7 (some .int), Cond.methodLink RL 96 yX10_order, Cond.instanceMethod yX10_order, Cond.selects RX10 yX10_order yX10_order, Cond.code yX10_order cX10_order 3 (some .int), Cond.fieldLink RX10 198 "TopSpeaksModel" "done" "I", Cond.fieldLink RX10 185 "TopSpeaksModel" "foundMany" "I", Cond.methodLink RX10 195 yX10_isSet, Cond.instanceMethod yX10_isSet, Cond.selects RX10 yX10_isSet yX10_isSet, Cond.code yX10_isSet cX10_isSet 2 (some .boolean), Cond.methodLink RX10 201 yX10_layRows, Cond.instanceMethod yX10_layRows, Cond.selects RX10 yX10_layRows yX10_layRows, Cond.code yX10_layRows cX10_layRows 5 none, Cond.methodLink RX10 188 yX10_ones, Cond.static yX10_ones, Cond.code yX10_ones cX10_ones 3 (some .int), Cond.methodLink RX10 191 yX10_layFound]
def wsL_law_r27 : List Cond := [Cond.instanceMethod yX10_layFound, Cond.selects RX10 yX10_layFound yX10_layFound, Cond.code yX10_layFound cX10_layFound 3 none, Cond.methodLink RL 97 yX9_laws, Cond.instanceMethod yX9_laws, Cond.selects RX9 yX9_laws yX9_laws, Cond.code yX9_laws cX9_laws 3 (some .int), Cond.methodLink RX9 215 yX0_clear, Cond.instanceMethod yX0_clear, Cond.selects RX0 yX0_clear yX0_clear, Cond.code yX0_clear cX0_clear 2 none, Cond.methodLink RX9 216 yX9_hearBills, Cond.static yX9_hearBills, Cond.code yX9_hearBills cX9_hearBills 9 none, Cond.methodLink RX9 245 yX0_add, Cond.instanceMethod yX0_add, Cond.selects RX0 yX0_add yX0_add, Cond.code yX0_add cX0_add 2 none, Cond.methodLink RX9 247 yX4_speak, Cond.methodLink RX9 220 yX0_howMany, Cond.instanceMethod yX0_howMany, Cond.selects RX0 yX0_howMany yX0_howMany, Cond.code yX0_howMany cX0_howMany 3 (some .int), Cond.methodLink RX0 15 yJ13_bitCount_95d88]
def wsL_law_r28 : List Cond := [Cond.static yJ13_bitCount_95d88, Cond.initialized RJ13, Cond.code yJ13_bitCount_95d88 cJ13_bitCount_95d88 2 (some .int), Cond.constantLong RJ13 314 (6148914691236517205), Cond.constantLong RJ13 316 (3689348814741910323), Cond.constantLong RJ13 318 (1085102592571150095), Cond.methodLink RX9 223 yX0_greatest, Cond.instanceMethod yX0_greatest, Cond.selects RX0 yX0_greatest yX0_greatest, Cond.code yX0_greatest cX0_greatest 2 (some .int), Cond.methodLink RX0 21 yJ13_numberOfLeadingZeros_95d88, Cond.static yJ13_numberOfLeadingZeros_95d88, Cond.code yJ13_numberOfLeadingZeros_95d88 cJ13_numberOfLeadingZeros_95d88 3 (some .int), Cond.methodLink RJ13 308 yJ6_numberOfLeadingZeros_0f7a4, Cond.static yJ6_numberOfLeadingZeros_0f7a4, Cond.initialized RJ6, Cond.code yJ6_numberOfLeadingZeros_0f7a4 cJ6_numberOfLeadingZeros_0f7a4 2 (some .int), Cond.constant RJ6 264 (65536), Cond.methodLink RL 100 yX10_laws, Cond.instanceMethod yX10_laws, Cond.selects RX10 yX10_laws yX10_laws, Cond.code yX10_laws cX10_laws 6 (some .int), Cond.methodLink RL 101 yX9_changed, Cond.instanceMethod yX9_changed]
def wsL_law_r29 : List Cond := [Cond.selects RX9 yX9_changed yX9_changed, Cond.code yX9_changed cX9_changed 1 (some .int), Cond.methodLink RX9 226 yX1_bestSpare, Cond.instanceMethod yX1_bestSpare, Cond.selects RX1 yX1_bestSpare yX1_bestSpare, Cond.code yX1_bestSpare cX1_bestSpare 6 (some .int), Cond.methodLink RX1 108 yX6_size, Cond.methodLink RX1 110 yX6_memberAt, Cond.methodLink RX1 116 yX1_insert, Cond.static yX1_insert, Cond.code yX1_insert cX1_insert 4 none, Cond.methodLink RX1 120 yX1_loadOn, Cond.methodLink RL 104 yX10_changed, Cond.instanceMethod yX10_changed, Cond.selects RX10 yX10_changed yX10_changed, Cond.code yX10_changed cX10_changed 1 (some .int), Cond.methodLink RX10 209 yX10_changedOf, Cond.instanceMethod yX10_changedOf, Cond.selects RX10 yX10_changedOf yX10_changedOf, Cond.code yX10_changedOf cX10_changedOf 7 (some .int), Cond.constant RX10 204 (-100000), Cond.constant RX10 205 (100000), Cond.methodLink RX10 206 yX10_nextGets, Cond.instanceMethod yX10_nextGets]
def wsL_law_r30 : List Cond := [Cond.selects RX10 yX10_nextGets yX10_nextGets, Cond.code yX10_nextGets cX10_nextGets 6 (some .boolean), Cond.methodLink RL 105 yX9_midnight, Cond.instanceMethod yX9_midnight, Cond.selects RX9 yX9_midnight yX9_midnight, Cond.code yX9_midnight cX9_midnight 2 (some .int), Cond.constant RX9 229 (-100102), Cond.fieldLink RX9 230 "TopSpeaks" "midnights" "I", Cond.constant RX9 233 (-100103), Cond.methodLink RX9 234 yX9_bestEnd, Cond.static yX9_bestEnd, Cond.code yX9_bestEnd cX9_bestEnd 8 (some .int), Cond.methodLink RX9 253 Lib.Math.max.name, Cond.methodLink RX9 250 yX1_sideOnTop, Cond.instanceMethod yX1_sideOnTop, Cond.selects RX1 yX1_sideOnTop yX1_sideOnTop, Cond.code yX1_sideOnTop cX1_sideOnTop 3 (some .int), Cond.methodLink RL 108 yX10_midnight, Cond.instanceMethod yX10_midnight, Cond.selects RX10 yX10_midnight yX10_midnight, Cond.code yX10_midnight cX10_midnight 2 (some .int), Cond.constantLong RX10 228 (5), Cond.constant RX10 230 (-100102), Cond.fieldLink RX10 231 "TopSpeaksModel" "nights" "I"]
def wsL_law_r31 : List Cond := [Cond.constant RX10 234 (-100103), Cond.methodLink RX10 235 yX10_midnightOf, Cond.instanceMethod yX10_midnightOf, Cond.selects RX10 yX10_midnightOf yX10_midnightOf, Cond.code yX10_midnightOf cX10_midnightOf 8 (some .int), Cond.methodLink RX10 212 yX10_saveAt, Cond.instanceMethod yX10_saveAt, Cond.selects RX10 yX10_saveAt yX10_saveAt, Cond.code yX10_saveAt cX10_saveAt 3 none, Cond.methodLink RX10 215 yX10_backTo, Cond.instanceMethod yX10_backTo, Cond.selects RX10 yX10_backTo yX10_backTo, Cond.code yX10_backTo cX10_backTo 3 none, Cond.methodLink RX10 218 yX10_nextOne, Cond.instanceMethod yX10_nextOne, Cond.selects RX10 yX10_nextOne yX10_nextOne, Cond.code yX10_nextOne cX10_nextOne 4 (some .int), Cond.methodLink RX10 221 yX10_keep, Cond.instanceMethod yX10_keep, Cond.selects RX10 yX10_keep yX10_keep, Cond.code yX10_keep cX10_keep 4 none, Cond.methodLink RX10 225 yX10_onTop, Cond.instanceMethod yX10_onTop, Cond.selects RX10 yX10_onTop yX10_onTop]
def wsL_law_r32 : List Cond := [Cond.code yX10_onTop cX10_onTop 2 (some .int), Cond.methodLink RL 109 yX9_sessions, Cond.instanceMethod yX9_sessions, Cond.selects RX9 yX9_sessions yX9_sessions, Cond.code yX9_sessions cX9_sessions 11 (some .int), Cond.constantLong RX9 237 (1103515245), Cond.constantLong RX9 239 (12345), Cond.constantLong RX9 241 (2147483648), Cond.constantLong RX9 243 (65536), Cond.methodLink RL 112 yX10_sessions, Cond.instanceMethod yX10_sessions, Cond.selects RX10 yX10_sessions yX10_sessions, Cond.code yX10_sessions cX10_sessions 7 (some .int), Cond.constantLong RX10 248 (60), Cond.fieldLink RX10 240 "TopSpeaksModel" "seedNow" "I", Cond.methodLink RX10 250 yX10_draw, Cond.instanceMethod yX10_draw, Cond.selects RX10 yX10_draw yX10_draw, Cond.code yX10_draw cX10_draw 2 (some .int), Cond.constantLong RX10 238 (1103515245), Cond.constantLong RX10 243 (12345), Cond.constantLong RX10 245 (2147483647), Cond.constant RX10 247 (65536), Cond.methodLink RL 113 yX9_image]
def wsL_law_r33 : List Cond := [Cond.instanceMethod yX9_image, Cond.selects RX9 yX9_image yX9_image, Cond.code yX9_image cX9_image 1 (some .int), Cond.methodLink RX9 258 yX3_keep, Cond.instanceMethod yX3_keep, Cond.selects RX3 yX3_keep yX3_keep, Cond.code yX3_keep cX3_keep 4 none, Cond.fieldLink RX3 22 "TopSpeaks$Image" "tower" "I", Cond.methodLink RX3 25 yX1_size, Cond.methodLink RX3 30 yX1_who, Cond.methodLink RL 116 yX10_image, Cond.instanceMethod yX10_image, Cond.selects RX10 yX10_image yX10_image, Cond.code yX10_image cX10_image 2 (some .int), Cond.fieldLink RX10 253 "TopSpeaksModel" "keptMembers" "I", Cond.methodLink RL 117 yX9_restore, Cond.instanceMethod yX9_restore, Cond.selects RX9 yX9_restore yX9_restore, Cond.code yX9_restore cX9_restore 1 (some .int), Cond.methodLink RX9 262 yX3_fits, Cond.instanceMethod yX3_fits, Cond.selects RX3 yX3_fits yX3_fits, Cond.code yX3_fits cX3_fits 2 (some .boolean), Cond.methodLink RX9 266 yX3_giveBack]
def wsL_law_r34 : List Cond := [Cond.instanceMethod yX3_giveBack, Cond.selects RX3 yX3_giveBack yX3_giveBack, Cond.code yX3_giveBack cX3_giveBack 3 (some .int), Cond.methodLink RL 120 yX10_restore, Cond.instanceMethod yX10_restore, Cond.selects RX10 yX10_restore yX10_restore, Cond.code yX10_restore cX10_restore 2 (some .int), Cond.methodLink RL 121 yX9_count, Cond.instanceMethod yX9_count, Cond.selects RX9 yX9_count yX9_count, Cond.code yX9_count cX9_count 2 (some .int), Cond.methodLink RX9 270 yX1_limit, Cond.instanceMethod yX1_limit, Cond.selects RX1 yX1_limit yX1_limit, Cond.code yX1_limit cX1_limit 1 (some .int), Cond.methodLink RL 124 yX10_count, Cond.instanceMethod yX10_count, Cond.selects RX10 yX10_count yX10_count, Cond.code yX10_count cX10_count 2 (some .int), Cond.methodLink RX10 256 yX10_countOf, Cond.instanceMethod yX10_countOf, Cond.selects RX10 yX10_countOf yX10_countOf, Cond.code yX10_countOf cX10_countOf 2 (some .int), Cond.methodLink RL 125 yX9_digest]
def wsL_law_r35 : List Cond := [Cond.instanceMethod yX9_digest, Cond.selects RX9 yX9_digest yX9_digest, Cond.code yX9_digest cX9_digest 5 (some .long), Cond.constantLong RX9 273 (653), Cond.constantLong RX9 275 (31), Cond.methodLink RX9 277 yX9_replies, Cond.methodLink RX9 280 yX9_about, Cond.methodLink RX9 283 yX9_may, Cond.methodLink RX9 286 yX9_at, Cond.methodLink RX9 289 yX9_bill, Cond.methodLink RX9 292 yX9_changed, Cond.methodLink RX9 295 yX5_letter, Cond.methodLink RX9 298 yX9_count, Cond.methodLink RL 129 yX10_digest, Cond.instanceMethod yX10_digest, Cond.selects RX10 yX10_digest yX10_digest, Cond.code yX10_digest cX10_digest 3 (some .long), Cond.constantLong RX10 265 (653), Cond.fieldLink RX10 261 "TopSpeaksModel" "hash" "J", Cond.methodLink RX10 267 yX10_say, Cond.instanceMethod yX10_say, Cond.selects RX10 yX10_say yX10_say, Cond.code yX10_say cX10_say 3 none, Cond.constantLong RX10 259 (31)]
def wsL_law : List Cond := (wsL_law_r1 ++ (wsL_law_r2 ++ (wsL_law_r3 ++ (wsL_law_r4 ++ (wsL_law_r5 ++ (wsL_law_r6 ++ (wsL_law_r7 ++ (wsL_law_r8 ++ (wsL_law_r9 ++ (wsL_law_r10 ++ (wsL_law_r11 ++ (wsL_law_r12 ++ (wsL_law_r13 ++ (wsL_law_r14 ++ (wsL_law_r15 ++ (wsL_law_r16 ++ (wsL_law_r17 ++ (wsL_law_r18 ++ (wsL_law_r19 ++ (wsL_law_r20 ++ (wsL_law_r21 ++ (wsL_law_r22 ++ (wsL_law_r23 ++ (wsL_law_r24 ++ (wsL_law_r25 ++ (wsL_law_r26 ++ (wsL_law_r27 ++ (wsL_law_r28 ++ (wsL_law_r29 ++ (wsL_law_r30 ++ (wsL_law_r31 ++ (wsL_law_r32 ++ (wsL_law_r33 ++ (wsL_law_r34 ++ wsL_law_r35)))))))))))))))))))))))))))))))))) ++ wsX90 ++ wsX100 ++ wsX50 ++ wsX70 ++ wsX20 ++ wsX10 ++ wsX30 ++ wsX00 ++ wsX40 ++ ([] : List Cond)
set_option maxRecDepth 20000 in
theorem inlX0 : ∀ w ∈ wsX00, w ∈ wsL_law := fun _ h => List.mem_append_left _ (List.mem_append_left _ (List.mem_append_right _ h))
theorem inlX1 : ∀ w ∈ wsX10, w ∈ wsL_law := fun _ h => List.mem_append_left _ (List.mem_append_left _ (List.mem_append_left _ (List.mem_append_left _ (List.mem_append_right _ h))))
theorem inlX2 : ∀ w ∈ wsX20, w ∈ wsL_law := fun _ h => List.mem_append_left _ (List.mem_append_left _ (List.mem_append_left _ (List.mem_append_left _ (List.mem_append_left _ (List.mem_append_right _ h)))))
theorem inlX3 : ∀ w ∈ wsX30, w ∈ wsL_law := fun _ h => List.mem_append_left _ (List.mem_append_left _ (List.mem_append_left _ (List.mem_append_right _ h)))
theorem inlX4 : ∀ w ∈ wsX40, w ∈ wsL_law := fun _ h => List.mem_append_left _ (List.mem_append_right _ h)
theorem inlX5 : ∀ w ∈ wsX50, w ∈ wsL_law := fun _ h => List.mem_append_left _ (List.mem_append_left _ (List.mem_append_left _ (List.mem_append_left _ (List.mem_append_left _ (List.mem_append_left _ (List.mem_append_left _ (List.mem_append_right _ h)))))))
theorem inlX7 : ∀ w ∈ wsX70, w ∈ wsL_law := fun _ h => List.mem_append_left _ (List.mem_append_left _ (List.mem_append_left _ (List.mem_append_left _ (List.mem_append_left _ (List.mem_append_left _ (List.mem_append_right _ h))))))
theorem inlX9 : ∀ w ∈ wsX90, w ∈ wsL_law := fun _ h => List.mem_append_left _ (List.mem_append_left _ (List.mem_append_left _ (List.mem_append_left _ (List.mem_append_left _ (List.mem_append_left _ (List.mem_append_left _ (List.mem_append_left _ (List.mem_append_left _ (List.mem_append_right _ h)))))))))
theorem inlX10 : ∀ w ∈ wsX100, w ∈ wsL_law := fun _ h => List.mem_append_left _ (List.mem_append_left _ (List.mem_append_left _ (List.mem_append_left _ (List.mem_append_left _ (List.mem_append_left _ (List.mem_append_left _ (List.mem_append_left _ (List.mem_append_right _ h))))))))
theorem inJ6 : ∀ w ∈ wsJ60, w ∈ lw_tbl := by decide +kernel
theorem inJ13 : ∀ w ∈ wsJ130, w ∈ lw_tbl := by decide +kernel
theorem inJ9 : ∀ w ∈ wsJ90, w ∈ lw_tbl := by decide +kernel
theorem dX0_init_0 : decode cX0_init 0 = .ok (.aload_n 0, 1) := by decide +kernel
theorem dX0_init_1 : decode cX0_init 1 = .ok (.invokespecial 3, 3) := by decide +kernel
theorem dX0_init_4 : decode cX0_init 4 = .ok (.aload_n 0, 1) := by decide +kernel
theorem dX0_init_5 : decode cX0_init 5 = .ok (.bipush 16, 2) := by decide +kernel
theorem dX0_init_7 : decode cX0_init 7 = .ok (.newarray .long, 2) := by decide +kernel
theorem dX0_init_9 : decode cX0_init 9 = .ok (.putfield 11, 3) := by decide +kernel
theorem dX0_init_12 : decode cX0_init 12 = .ok (.return_, 1) := by decide +kernel
theorem dX0_clear_0 : decode cX0_clear 0 = .ok (.iconst 0, 1) := by decide +kernel
theorem dX0_clear_1 : decode cX0_clear 1 = .ok (.istore_n 1, 1) := by decide +kernel
theorem dX0_clear_2 : decode cX0_clear 2 = .ok (.iload_n 1, 1) := by decide +kernel
theorem dX0_clear_3 : decode cX0_clear 3 = .ok (.aload_n 0, 1) := by decide +kernel
theorem dX0_clear_4 : decode cX0_clear 4 = .ok (.getfield 11, 3) := by decide +kernel
theorem dX0_clear_7 : decode cX0_clear 7 = .ok (.arraylength, 1) := by decide +kernel
theorem dX0_clear_8 : decode cX0_clear 8 = .ok (.if_icmp .ge 16, 3) := by decide +kernel
theorem dX0_clear_11 : decode cX0_clear 11 = .ok (.aload_n 0, 1) := by decide +kernel
theorem dX0_clear_12 : decode cX0_clear 12 = .ok (.getfield 11, 3) := by decide +kernel
theorem dX0_clear_15 : decode cX0_clear 15 = .ok (.iload_n 1, 1) := by decide +kernel
theorem dX0_clear_16 : decode cX0_clear 16 = .ok (.lconst 0, 1) := by decide +kernel
theorem dX0_clear_17 : decode cX0_clear 17 = .ok (.lastore, 1) := by decide +kernel
theorem dX0_clear_18 : decode cX0_clear 18 = .ok (.iinc 1 1, 3) := by decide +kernel
theorem dX0_clear_21 : decode cX0_clear 21 = .ok (.goto (-19), 3) := by decide +kernel
theorem dX0_clear_24 : decode cX0_clear 24 = .ok (.return_, 1) := by decide +kernel
theorem dX0_add_0 : decode cX0_add 0 = .ok (.iload_n 1, 1) := by decide +kernel
theorem dX0_add_1 : decode cX0_add 1 = .ok (.ifCond .lt 33, 3) := by decide +kernel
theorem dX0_add_4 : decode cX0_add 4 = .ok (.iload_n 1, 1) := by decide +kernel
theorem dX0_add_5 : decode cX0_add 5 = .ok (.bipush 64, 2) := by decide +kernel
theorem dX0_add_7 : decode cX0_add 7 = .ok (.idiv, 1) := by decide +kernel
theorem dX0_add_8 : decode cX0_add 8 = .ok (.aload_n 0, 1) := by decide +kernel
theorem dX0_add_9 : decode cX0_add 9 = .ok (.getfield 11, 3) := by decide +kernel
theorem dX0_add_12 : decode cX0_add 12 = .ok (.arraylength, 1) := by decide +kernel
theorem dX0_add_13 : decode cX0_add 13 = .ok (.if_icmp .ge 21, 3) := by decide +kernel
theorem dX0_add_16 : decode cX0_add 16 = .ok (.aload_n 0, 1) := by decide +kernel
theorem dX0_add_17 : decode cX0_add 17 = .ok (.getfield 11, 3) := by decide +kernel
theorem dX0_add_20 : decode cX0_add 20 = .ok (.iload_n 1, 1) := by decide +kernel
theorem dX0_add_21 : decode cX0_add 21 = .ok (.bipush 64, 2) := by decide +kernel
theorem dX0_add_23 : decode cX0_add 23 = .ok (.idiv, 1) := by decide +kernel
theorem dX0_add_24 : decode cX0_add 24 = .ok (.dup2, 1) := by decide +kernel
theorem dX0_add_25 : decode cX0_add 25 = .ok (.laload, 1) := by decide +kernel
theorem dX0_add_26 : decode cX0_add 26 = .ok (.lconst 1, 1) := by decide +kernel
theorem dX0_add_27 : decode cX0_add 27 = .ok (.iload_n 1, 1) := by decide +kernel
theorem dX0_add_28 : decode cX0_add 28 = .ok (.bipush 64, 2) := by decide +kernel
theorem dX0_add_30 : decode cX0_add 30 = .ok (.irem, 1) := by decide +kernel
theorem dX0_add_31 : decode cX0_add 31 = .ok (.lshl, 1) := by decide +kernel
theorem dX0_add_32 : decode cX0_add 32 = .ok (.lor, 1) := by decide +kernel
theorem dX0_add_33 : decode cX0_add 33 = .ok (.lastore, 1) := by decide +kernel
theorem dX0_add_34 : decode cX0_add 34 = .ok (.return_, 1) := by decide +kernel
theorem dX0_howMany_0 : decode cX0_howMany 0 = .ok (.iconst 0, 1) := by decide +kernel
theorem dX0_howMany_1 : decode cX0_howMany 1 = .ok (.istore_n 1, 1) := by decide +kernel
theorem dX0_howMany_2 : decode cX0_howMany 2 = .ok (.iconst 0, 1) := by decide +kernel
theorem dX0_howMany_3 : decode cX0_howMany 3 = .ok (.istore_n 2, 1) := by decide +kernel
theorem dX0_howMany_4 : decode cX0_howMany 4 = .ok (.iload_n 2, 1) := by decide +kernel
theorem dX0_howMany_5 : decode cX0_howMany 5 = .ok (.aload_n 0, 1) := by decide +kernel
theorem dX0_howMany_6 : decode cX0_howMany 6 = .ok (.getfield 11, 3) := by decide +kernel
theorem dX0_howMany_9 : decode cX0_howMany 9 = .ok (.arraylength, 1) := by decide +kernel
theorem dX0_howMany_10 : decode cX0_howMany 10 = .ok (.if_icmp .ge 21, 3) := by decide +kernel
theorem dX0_howMany_13 : decode cX0_howMany 13 = .ok (.iload_n 1, 1) := by decide +kernel
theorem dX0_howMany_14 : decode cX0_howMany 14 = .ok (.aload_n 0, 1) := by decide +kernel
theorem dX0_howMany_15 : decode cX0_howMany 15 = .ok (.getfield 11, 3) := by decide +kernel
theorem dX0_howMany_18 : decode cX0_howMany 18 = .ok (.iload_n 2, 1) := by decide +kernel
theorem dX0_howMany_19 : decode cX0_howMany 19 = .ok (.laload, 1) := by decide +kernel
theorem dX0_howMany_20 : decode cX0_howMany 20 = .ok (.invokestatic 15, 3) := by decide +kernel
theorem dX0_howMany_23 : decode cX0_howMany 23 = .ok (.iadd, 1) := by decide +kernel
theorem dX0_howMany_24 : decode cX0_howMany 24 = .ok (.istore_n 1, 1) := by decide +kernel
theorem dX0_howMany_25 : decode cX0_howMany 25 = .ok (.iinc 2 1, 3) := by decide +kernel
theorem dX0_howMany_28 : decode cX0_howMany 28 = .ok (.goto (-24), 3) := by decide +kernel
theorem dX0_howMany_31 : decode cX0_howMany 31 = .ok (.iload_n 1, 1) := by decide +kernel
theorem dX0_howMany_32 : decode cX0_howMany 32 = .ok (.ireturn, 1) := by decide +kernel
theorem dX0_greatest_0 : decode cX0_greatest 0 = .ok (.aload_n 0, 1) := by decide +kernel
theorem dX0_greatest_1 : decode cX0_greatest 1 = .ok (.getfield 11, 3) := by decide +kernel
theorem dX0_greatest_4 : decode cX0_greatest 4 = .ok (.arraylength, 1) := by decide +kernel
theorem dX0_greatest_5 : decode cX0_greatest 5 = .ok (.iconst 1, 1) := by decide +kernel
theorem dX0_greatest_6 : decode cX0_greatest 6 = .ok (.isub, 1) := by decide +kernel
theorem dX0_greatest_7 : decode cX0_greatest 7 = .ok (.istore_n 1, 1) := by decide +kernel
theorem dX0_greatest_8 : decode cX0_greatest 8 = .ok (.iload_n 1, 1) := by decide +kernel
theorem dX0_greatest_9 : decode cX0_greatest 9 = .ok (.ifCond .lt 39, 3) := by decide +kernel
theorem dX0_greatest_12 : decode cX0_greatest 12 = .ok (.aload_n 0, 1) := by decide +kernel
theorem dX0_greatest_13 : decode cX0_greatest 13 = .ok (.getfield 11, 3) := by decide +kernel
theorem dX0_greatest_16 : decode cX0_greatest 16 = .ok (.iload_n 1, 1) := by decide +kernel
theorem dX0_greatest_17 : decode cX0_greatest 17 = .ok (.laload, 1) := by decide +kernel
theorem dX0_greatest_18 : decode cX0_greatest 18 = .ok (.lconst 0, 1) := by decide +kernel
theorem dX0_greatest_19 : decode cX0_greatest 19 = .ok (.lcmp, 1) := by decide +kernel
theorem dX0_greatest_20 : decode cX0_greatest 20 = .ok (.ifCond .eq 22, 3) := by decide +kernel
theorem dX0_greatest_23 : decode cX0_greatest 23 = .ok (.iload_n 1, 1) := by decide +kernel
theorem dX0_greatest_24 : decode cX0_greatest 24 = .ok (.iconst 1, 1) := by decide +kernel
theorem dX0_greatest_25 : decode cX0_greatest 25 = .ok (.iadd, 1) := by decide +kernel
theorem dX0_greatest_26 : decode cX0_greatest 26 = .ok (.bipush 64, 2) := by decide +kernel
theorem dX0_greatest_28 : decode cX0_greatest 28 = .ok (.imul, 1) := by decide +kernel
theorem dX0_greatest_29 : decode cX0_greatest 29 = .ok (.iconst 1, 1) := by decide +kernel
theorem dX0_greatest_30 : decode cX0_greatest 30 = .ok (.isub, 1) := by decide +kernel
theorem dX0_greatest_31 : decode cX0_greatest 31 = .ok (.aload_n 0, 1) := by decide +kernel
theorem dX0_greatest_32 : decode cX0_greatest 32 = .ok (.getfield 11, 3) := by decide +kernel
theorem dX0_greatest_35 : decode cX0_greatest 35 = .ok (.iload_n 1, 1) := by decide +kernel
theorem dX0_greatest_36 : decode cX0_greatest 36 = .ok (.laload, 1) := by decide +kernel
theorem dX0_greatest_37 : decode cX0_greatest 37 = .ok (.invokestatic 21, 3) := by decide +kernel
theorem dX0_greatest_40 : decode cX0_greatest 40 = .ok (.isub, 1) := by decide +kernel
theorem dX0_greatest_41 : decode cX0_greatest 41 = .ok (.ireturn, 1) := by decide +kernel
theorem dX0_greatest_42 : decode cX0_greatest 42 = .ok (.iinc 1 (-1), 3) := by decide +kernel
theorem dX0_greatest_45 : decode cX0_greatest 45 = .ok (.goto (-37), 3) := by decide +kernel
theorem dX0_greatest_48 : decode cX0_greatest 48 = .ok (.iconst (-1), 1) := by decide +kernel
theorem dX0_greatest_49 : decode cX0_greatest 49 = .ok (.ireturn, 1) := by decide +kernel
theorem dX1_init_0 : decode cX1_init 0 = .ok (.aload_n 0, 1) := by decide +kernel
theorem dX1_init_1 : decode cX1_init 1 = .ok (.invokespecial 3, 3) := by decide +kernel
theorem dX1_init_4 : decode cX1_init 4 = .ok (.aload_n 0, 1) := by decide +kernel
theorem dX1_init_5 : decode cX1_init 5 = .ok (.bipush 7, 2) := by decide +kernel
theorem dX1_init_7 : decode cX1_init 7 = .ok (.anewarray 9, 3) := by decide +kernel
theorem dX1_init_10 : decode cX1_init 10 = .ok (.putfield 11, 3) := by decide +kernel
theorem dX1_init_13 : decode cX1_init 13 = .ok (.iconst 0, 1) := by decide +kernel
theorem dX1_init_14 : decode cX1_init 14 = .ok (.istore_n 1, 1) := by decide +kernel
theorem dX1_init_15 : decode cX1_init 15 = .ok (.iload_n 1, 1) := by decide +kernel
theorem dX1_init_16 : decode cX1_init 16 = .ok (.aload_n 0, 1) := by decide +kernel
theorem dX1_init_17 : decode cX1_init 17 = .ok (.getfield 11, 3) := by decide +kernel
theorem dX1_init_20 : decode cX1_init 20 = .ok (.arraylength, 1) := by decide +kernel
theorem dX1_init_21 : decode cX1_init 21 = .ok (.if_icmp .ge 22, 3) := by decide +kernel
theorem dX1_init_24 : decode cX1_init 24 = .ok (.aload_n 0, 1) := by decide +kernel
theorem dX1_init_25 : decode cX1_init 25 = .ok (.getfield 11, 3) := by decide +kernel
theorem dX1_init_28 : decode cX1_init 28 = .ok (.iload_n 1, 1) := by decide +kernel
theorem dX1_init_29 : decode cX1_init 29 = .ok (.new 9, 3) := by decide +kernel
theorem dX1_init_32 : decode cX1_init 32 = .ok (.dup, 1) := by decide +kernel
theorem dX1_init_33 : decode cX1_init 33 = .ok (.invokespecial 17, 3) := by decide +kernel
theorem dX1_init_36 : decode cX1_init 36 = .ok (.aastore, 1) := by decide +kernel
theorem dX1_init_37 : decode cX1_init 37 = .ok (.iinc 1 1, 3) := by decide +kernel
theorem dX1_init_40 : decode cX1_init 40 = .ok (.goto (-25), 3) := by decide +kernel
theorem dX1_init_43 : decode cX1_init 43 = .ok (.aload_n 0, 1) := by decide +kernel
theorem dX1_init_44 : decode cX1_init 44 = .ok (.new 9, 3) := by decide +kernel
theorem dX1_init_47 : decode cX1_init 47 = .ok (.dup, 1) := by decide +kernel
theorem dX1_init_48 : decode cX1_init 48 = .ok (.invokespecial 17, 3) := by decide +kernel
theorem dX1_init_51 : decode cX1_init 51 = .ok (.putfield 18, 3) := by decide +kernel
theorem dX1_init_54 : decode cX1_init 54 = .ok (.aload_n 0, 1) := by decide +kernel
theorem dX1_init_55 : decode cX1_init 55 = .ok (.bipush 7, 2) := by decide +kernel
theorem dX1_init_57 : decode cX1_init 57 = .ok (.newarray .int, 2) := by decide +kernel
theorem dX1_init_59 : decode cX1_init 59 = .ok (.putfield 22, 3) := by decide +kernel
theorem dX1_init_62 : decode cX1_init 62 = .ok (.aload_n 0, 1) := by decide +kernel
theorem dX1_init_63 : decode cX1_init 63 = .ok (.bipush 7, 2) := by decide +kernel
theorem dX1_init_65 : decode cX1_init 65 = .ok (.newarray .int, 2) := by decide +kernel
theorem dX1_init_67 : decode cX1_init 67 = .ok (.putfield 26, 3) := by decide +kernel
theorem dX1_init_70 : decode cX1_init 70 = .ok (.aload_n 0, 1) := by decide +kernel
theorem dX1_init_71 : decode cX1_init 71 = .ok (.iconst 3, 1) := by decide +kernel
theorem dX1_init_72 : decode cX1_init 72 = .ok (.putfield 29, 3) := by decide +kernel
theorem dX1_init_75 : decode cX1_init 75 = .ok (.return_, 1) := by decide +kernel
theorem dX1_size_0 : decode cX1_size 0 = .ok (.aload_n 0, 1) := by decide +kernel
theorem dX1_size_1 : decode cX1_size 1 = .ok (.getfield 33, 3) := by decide +kernel
theorem dX1_size_4 : decode cX1_size 4 = .ok (.ireturn, 1) := by decide +kernel
theorem dX1_pairs_0 : decode cX1_pairs 0 = .ok (.aload_n 0, 1) := by decide +kernel
theorem dX1_pairs_1 : decode cX1_pairs 1 = .ok (.getfield 36, 3) := by decide +kernel
theorem dX1_pairs_4 : decode cX1_pairs 4 = .ok (.ireturn, 1) := by decide +kernel
theorem dX1_limit_0 : decode cX1_limit 0 = .ok (.aload_n 0, 1) := by decide +kernel
theorem dX1_limit_1 : decode cX1_limit 1 = .ok (.getfield 29, 3) := by decide +kernel
theorem dX1_limit_4 : decode cX1_limit 4 = .ok (.ireturn, 1) := by decide +kernel
theorem dX1_has_0 : decode cX1_has 0 = .ok (.iload_n 1, 1) := by decide +kernel
theorem dX1_has_1 : decode cX1_has 1 = .ok (.ifCond .lt 15, 3) := by decide +kernel
theorem dX1_has_4 : decode cX1_has 4 = .ok (.iload_n 1, 1) := by decide +kernel
theorem dX1_has_5 : decode cX1_has 5 = .ok (.aload_n 0, 1) := by decide +kernel
theorem dX1_has_6 : decode cX1_has 6 = .ok (.getfield 33, 3) := by decide +kernel
theorem dX1_has_9 : decode cX1_has 9 = .ok (.if_icmp .ge 7, 3) := by decide +kernel
theorem dX1_has_12 : decode cX1_has 12 = .ok (.iconst 1, 1) := by decide +kernel
theorem dX1_has_13 : decode cX1_has 13 = .ok (.goto 4, 3) := by decide +kernel
theorem dX1_has_16 : decode cX1_has 16 = .ok (.iconst 0, 1) := by decide +kernel
theorem dX1_has_17 : decode cX1_has 17 = .ok (.ireturn, 1) := by decide +kernel
theorem dX1_who_0 : decode cX1_who 0 = .ok (.iload_n 1, 1) := by decide +kernel
theorem dX1_who_1 : decode cX1_who 1 = .ok (.ifCond .lt 21, 3) := by decide +kernel
theorem dX1_who_4 : decode cX1_who 4 = .ok (.iload_n 1, 1) := by decide +kernel
theorem dX1_who_5 : decode cX1_who 5 = .ok (.aload_n 0, 1) := by decide +kernel
theorem dX1_who_6 : decode cX1_who 6 = .ok (.getfield 11, 3) := by decide +kernel
theorem dX1_who_9 : decode cX1_who 9 = .ok (.arraylength, 1) := by decide +kernel
theorem dX1_who_10 : decode cX1_who 10 = .ok (.if_icmp .ge 12, 3) := by decide +kernel
theorem dX1_who_13 : decode cX1_who 13 = .ok (.aload_n 0, 1) := by decide +kernel
theorem dX1_who_14 : decode cX1_who 14 = .ok (.getfield 11, 3) := by decide +kernel
theorem dX1_who_17 : decode cX1_who 17 = .ok (.iload_n 1, 1) := by decide +kernel
theorem dX1_who_18 : decode cX1_who 18 = .ok (.aaload, 1) := by decide +kernel
theorem dX1_who_19 : decode cX1_who 19 = .ok (.ifnonnull 8, 3) := by decide +kernel
theorem dX1_who_22 : decode cX1_who 22 = .ok (.aload_n 0, 1) := by decide +kernel
theorem dX1_who_23 : decode cX1_who 23 = .ok (.getfield 18, 3) := by decide +kernel
theorem dX1_who_26 : decode cX1_who 26 = .ok (.areturn, 1) := by decide +kernel
theorem dX1_who_27 : decode cX1_who 27 = .ok (.aload_n 0, 1) := by decide +kernel
theorem dX1_who_28 : decode cX1_who 28 = .ok (.getfield 11, 3) := by decide +kernel
theorem dX1_who_31 : decode cX1_who 31 = .ok (.iload_n 1, 1) := by decide +kernel
theorem dX1_who_32 : decode cX1_who 32 = .ok (.aaload, 1) := by decide +kernel
theorem dX1_who_33 : decode cX1_who 33 = .ok (.areturn, 1) := by decide +kernel
theorem dX1_seatNext_0 : decode cX1_seatNext 0 = .ok (.aload_n 0, 1) := by decide +kernel
theorem dX1_seatNext_1 : decode cX1_seatNext 1 = .ok (.aload_n 0, 1) := by decide +kernel
theorem dX1_seatNext_2 : decode cX1_seatNext 2 = .ok (.getfield 33, 3) := by decide +kernel
theorem dX1_seatNext_5 : decode cX1_seatNext 5 = .ok (.invokevirtual 39, 3) := by decide +kernel
theorem dX1_seatNext_8 : decode cX1_seatNext 8 = .ok (.astore_n 1, 1) := by decide +kernel
theorem dX1_seatNext_9 : decode cX1_seatNext 9 = .ok (.aload_n 0, 1) := by decide +kernel
theorem dX1_seatNext_10 : decode cX1_seatNext 10 = .ok (.aload_n 0, 1) := by decide +kernel
theorem dX1_seatNext_11 : decode cX1_seatNext 11 = .ok (.getfield 33, 3) := by decide +kernel
theorem dX1_seatNext_14 : decode cX1_seatNext 14 = .ok (.iconst 1, 1) := by decide +kernel
theorem dX1_seatNext_15 : decode cX1_seatNext 15 = .ok (.iadd, 1) := by decide +kernel
theorem dX1_seatNext_16 : decode cX1_seatNext 16 = .ok (.bipush 7, 2) := by decide +kernel
theorem dX1_seatNext_18 : decode cX1_seatNext 18 = .ok (.invokestatic 43, 3) := by decide +kernel
theorem dX1_seatNext_21 : decode cX1_seatNext 21 = .ok (.putfield 33, 3) := by decide +kernel
theorem dX1_seatNext_24 : decode cX1_seatNext 24 = .ok (.aload_n 1, 1) := by decide +kernel
theorem dX1_seatNext_25 : decode cX1_seatNext 25 = .ok (.areturn, 1) := by decide +kernel
theorem dX1_adopt_0 : decode cX1_adopt 0 = .ok (.aload_n 0, 1) := by decide +kernel
theorem dX1_adopt_1 : decode cX1_adopt 1 = .ok (.aload_n 1, 1) := by decide +kernel
theorem dX1_adopt_2 : decode cX1_adopt 2 = .ok (.invokevirtual 49, 3) := by decide +kernel
theorem dX1_adopt_5 : decode cX1_adopt 5 = .ok (.putfield 55, 3) := by decide +kernel
theorem dX1_adopt_8 : decode cX1_adopt 8 = .ok (.aload_n 0, 1) := by decide +kernel
theorem dX1_adopt_9 : decode cX1_adopt 9 = .ok (.aload_n 1, 1) := by decide +kernel
theorem dX1_adopt_10 : decode cX1_adopt 10 = .ok (.invokevirtual 58, 3) := by decide +kernel
theorem dX1_adopt_13 : decode cX1_adopt 13 = .ok (.putfield 36, 3) := by decide +kernel
theorem dX1_adopt_16 : decode cX1_adopt 16 = .ok (.aload_n 0, 1) := by decide +kernel
theorem dX1_adopt_17 : decode cX1_adopt 17 = .ok (.aload_n 1, 1) := by decide +kernel
theorem dX1_adopt_18 : decode cX1_adopt 18 = .ok (.invokevirtual 61, 3) := by decide +kernel
theorem dX1_adopt_21 : decode cX1_adopt 21 = .ok (.putfield 29, 3) := by decide +kernel
theorem dX1_adopt_24 : decode cX1_adopt 24 = .ok (.return_, 1) := by decide +kernel
theorem dX1_repliesOf_0 : decode cX1_repliesOf 0 = .ok (.aload_n 0, 1) := by decide +kernel
theorem dX1_repliesOf_1 : decode cX1_repliesOf 1 = .ok (.getfield 55, 3) := by decide +kernel
theorem dX1_repliesOf_4 : decode cX1_repliesOf 4 = .ok (.bipush 7, 2) := by decide +kernel
theorem dX1_repliesOf_6 : decode cX1_repliesOf 6 = .ok (.iload_n 1, 1) := by decide +kernel
theorem dX1_repliesOf_7 : decode cX1_repliesOf 7 = .ok (.imul, 1) := by decide +kernel
theorem dX1_repliesOf_8 : decode cX1_repliesOf 8 = .ok (.lushr, 1) := by decide +kernel
theorem dX1_repliesOf_9 : decode cX1_repliesOf 9 = .ok (.l2i, 1) := by decide +kernel
theorem dX1_repliesOf_10 : decode cX1_repliesOf 10 = .ok (.bipush 127, 2) := by decide +kernel
theorem dX1_repliesOf_12 : decode cX1_repliesOf 12 = .ok (.iand, 1) := by decide +kernel
theorem dX1_repliesOf_13 : decode cX1_repliesOf 13 = .ok (.ireturn, 1) := by decide +kernel
theorem dX1_canRise_0 : decode cX1_canRise 0 = .ok (.aload_n 0, 1) := by decide +kernel
theorem dX1_canRise_1 : decode cX1_canRise 1 = .ok (.iload_n 2, 1) := by decide +kernel
theorem dX1_canRise_2 : decode cX1_canRise 2 = .ok (.invokevirtual 63, 3) := by decide +kernel
theorem dX1_canRise_5 : decode cX1_canRise 5 = .ok (.ifCond .ne 5, 3) := by decide +kernel
theorem dX1_canRise_8 : decode cX1_canRise 8 = .ok (.iconst 0, 1) := by decide +kernel
theorem dX1_canRise_9 : decode cX1_canRise 9 = .ok (.ireturn, 1) := by decide +kernel
theorem dX1_canRise_10 : decode cX1_canRise 10 = .ok (.iload_n 1, 1) := by decide +kernel
theorem dX1_canRise_11 : decode cX1_canRise 11 = .ok (.invokestatic 67, 3) := by decide +kernel
theorem dX1_canRise_14 : decode cX1_canRise 14 = .ok (.istore_n 3, 1) := by decide +kernel
theorem dX1_canRise_15 : decode cX1_canRise 15 = .ok (.iload_n 3, 1) := by decide +kernel
theorem dX1_canRise_16 : decode cX1_canRise 16 = .ok (.iload_n 2, 1) := by decide +kernel
theorem dX1_canRise_17 : decode cX1_canRise 17 = .ok (.iushr, 1) := by decide +kernel
theorem dX1_canRise_18 : decode cX1_canRise 18 = .ok (.iconst 1, 1) := by decide +kernel
theorem dX1_canRise_19 : decode cX1_canRise 19 = .ok (.iand, 1) := by decide +kernel
theorem dX1_canRise_20 : decode cX1_canRise 20 = .ok (.iconst 1, 1) := by decide +kernel
theorem dX1_canRise_21 : decode cX1_canRise 21 = .ok (.if_icmp .ne 7, 3) := by decide +kernel
theorem dX1_canRise_24 : decode cX1_canRise 24 = .ok (.iconst 1, 1) := by decide +kernel
theorem dX1_canRise_25 : decode cX1_canRise 25 = .ok (.goto 4, 3) := by decide +kernel
theorem dX1_canRise_28 : decode cX1_canRise 28 = .ok (.iconst 0, 1) := by decide +kernel
theorem dX1_canRise_29 : decode cX1_canRise 29 = .ok (.istore 4, 2) := by decide +kernel
theorem dX1_canRise_31 : decode cX1_canRise 31 = .ok (.iload 4, 2) := by decide +kernel
theorem dX1_canRise_33 : decode cX1_canRise 33 = .ok (.ifCond .ne 19, 3) := by decide +kernel
theorem dX1_canRise_36 : decode cX1_canRise 36 = .ok (.aload_n 0, 1) := by decide +kernel
theorem dX1_canRise_37 : decode cX1_canRise 37 = .ok (.iload_n 2, 1) := by decide +kernel
theorem dX1_canRise_38 : decode cX1_canRise 38 = .ok (.invokevirtual 72, 3) := by decide +kernel
theorem dX1_canRise_41 : decode cX1_canRise 41 = .ok (.iload_n 3, 1) := by decide +kernel
theorem dX1_canRise_42 : decode cX1_canRise 42 = .ok (.iconst (-1), 1) := by decide +kernel
theorem dX1_canRise_43 : decode cX1_canRise 43 = .ok (.ixor, 1) := by decide +kernel
theorem dX1_canRise_44 : decode cX1_canRise 44 = .ok (.iand, 1) := by decide +kernel
theorem dX1_canRise_45 : decode cX1_canRise 45 = .ok (.ifCond .ne 7, 3) := by decide +kernel
theorem dX1_canRise_48 : decode cX1_canRise 48 = .ok (.iconst 1, 1) := by decide +kernel
theorem dX1_canRise_49 : decode cX1_canRise 49 = .ok (.goto 4, 3) := by decide +kernel
theorem dX1_canRise_52 : decode cX1_canRise 52 = .ok (.iconst 0, 1) := by decide +kernel
theorem dX1_canRise_53 : decode cX1_canRise 53 = .ok (.ireturn, 1) := by decide +kernel
theorem dX1_risen_0 : decode cX1_risen 0 = .ok (.iload_n 1, 1) := by decide +kernel
theorem dX1_risen_1 : decode cX1_risen 1 = .ok (.iload_n 2, 1) := by decide +kernel
theorem dX1_risen_2 : decode cX1_risen 2 = .ok (.invokestatic 75, 3) := by decide +kernel
theorem dX1_risen_5 : decode cX1_risen 5 = .ok (.istore_n 3, 1) := by decide +kernel
theorem dX1_risen_6 : decode cX1_risen 6 = .ok (.aload_n 0, 1) := by decide +kernel
theorem dX1_risen_7 : decode cX1_risen 7 = .ok (.iload_n 3, 1) := by decide +kernel
theorem dX1_risen_8 : decode cX1_risen 8 = .ok (.invokevirtual 78, 3) := by decide +kernel
theorem dX1_risen_11 : decode cX1_risen 11 = .ok (.ifCond .eq 7, 3) := by decide +kernel
theorem dX1_risen_14 : decode cX1_risen 14 = .ok (.iload_n 3, 1) := by decide +kernel
theorem dX1_risen_15 : decode cX1_risen 15 = .ok (.goto 4, 3) := by decide +kernel
theorem dX1_risen_18 : decode cX1_risen 18 = .ok (.iconst 0, 1) := by decide +kernel
theorem dX1_risen_19 : decode cX1_risen 19 = .ok (.ireturn, 1) := by decide +kernel
theorem dX1_holds_0 : decode cX1_holds 0 = .ok (.iconst 0, 1) := by decide +kernel
theorem dX1_holds_1 : decode cX1_holds 1 = .ok (.istore_n 2, 1) := by decide +kernel
theorem dX1_holds_2 : decode cX1_holds 2 = .ok (.iconst 0, 1) := by decide +kernel
theorem dX1_holds_3 : decode cX1_holds 3 = .ok (.istore_n 3, 1) := by decide +kernel
theorem dX1_holds_4 : decode cX1_holds 4 = .ok (.iload_n 1, 1) := by decide +kernel
theorem dX1_holds_5 : decode cX1_holds 5 = .ok (.istore 4, 2) := by decide +kernel
theorem dX1_holds_7 : decode cX1_holds 7 = .ok (.iconst 0, 1) := by decide +kernel
theorem dX1_holds_8 : decode cX1_holds 8 = .ok (.istore 5, 2) := by decide +kernel
theorem dX1_holds_10 : decode cX1_holds 10 = .ok (.iload 5, 2) := by decide +kernel
theorem dX1_holds_12 : decode cX1_holds 12 = .ok (.bipush 7, 2) := by decide +kernel
theorem dX1_holds_14 : decode cX1_holds 14 = .ok (.if_icmp .ge 66, 3) := by decide +kernel
theorem dX1_holds_17 : decode cX1_holds 17 = .ok (.iload 4, 2) := by decide +kernel
theorem dX1_holds_19 : decode cX1_holds 19 = .ok (.ifCond .eq 61, 3) := by decide +kernel
theorem dX1_holds_22 : decode cX1_holds 22 = .ok (.aload_n 0, 1) := by decide +kernel
theorem dX1_holds_23 : decode cX1_holds 23 = .ok (.iload 4, 2) := by decide +kernel
theorem dX1_holds_25 : decode cX1_holds 25 = .ok (.invokestatic 81, 3) := by decide +kernel
theorem dX1_holds_28 : decode cX1_holds 28 = .ok (.invokevirtual 39, 3) := by decide +kernel
theorem dX1_holds_31 : decode cX1_holds 31 = .ok (.astore 6, 2) := by decide +kernel
theorem dX1_holds_33 : decode cX1_holds 33 = .ok (.aload 6, 2) := by decide +kernel
theorem dX1_holds_35 : decode cX1_holds 35 = .ok (.iload_n 3, 1) := by decide +kernel
theorem dX1_holds_36 : decode cX1_holds 36 = .ok (.invokevirtual 84, 3) := by decide +kernel
theorem dX1_holds_39 : decode cX1_holds 39 = .ok (.aload 6, 2) := by decide +kernel
theorem dX1_holds_41 : decode cX1_holds 41 = .ok (.invokevirtual 87, 3) := by decide +kernel
theorem dX1_holds_44 : decode cX1_holds 44 = .ok (.if_icmp .le 5, 3) := by decide +kernel
theorem dX1_holds_47 : decode cX1_holds 47 = .ok (.iconst 0, 1) := by decide +kernel
theorem dX1_holds_48 : decode cX1_holds 48 = .ok (.ireturn, 1) := by decide +kernel
theorem dX1_holds_49 : decode cX1_holds 49 = .ok (.iload_n 2, 1) := by decide +kernel
theorem dX1_holds_50 : decode cX1_holds 50 = .ok (.aload 6, 2) := by decide +kernel
theorem dX1_holds_52 : decode cX1_holds 52 = .ok (.getfield 90, 3) := by decide +kernel
theorem dX1_holds_55 : decode cX1_holds 55 = .ok (.iadd, 1) := by decide +kernel
theorem dX1_holds_56 : decode cX1_holds 56 = .ok (.istore_n 2, 1) := by decide +kernel
theorem dX1_holds_57 : decode cX1_holds 57 = .ok (.iload_n 3, 1) := by decide +kernel
theorem dX1_holds_58 : decode cX1_holds 58 = .ok (.aload 6, 2) := by decide +kernel
theorem dX1_holds_60 : decode cX1_holds 60 = .ok (.getfield 93, 3) := by decide +kernel
theorem dX1_holds_63 : decode cX1_holds 63 = .ok (.iconst 1, 1) := by decide +kernel
theorem dX1_holds_64 : decode cX1_holds 64 = .ok (.iadd, 1) := by decide +kernel
theorem dX1_holds_65 : decode cX1_holds 65 = .ok (.iadd, 1) := by decide +kernel
theorem dX1_holds_66 : decode cX1_holds 66 = .ok (.istore_n 3, 1) := by decide +kernel
theorem dX1_holds_67 : decode cX1_holds 67 = .ok (.iload 4, 2) := by decide +kernel
theorem dX1_holds_69 : decode cX1_holds 69 = .ok (.invokestatic 96, 3) := by decide +kernel
theorem dX1_holds_72 : decode cX1_holds 72 = .ok (.istore 4, 2) := by decide +kernel
theorem dX1_holds_74 : decode cX1_holds 74 = .ok (.iinc 5 1, 3) := by decide +kernel
theorem dX1_holds_77 : decode cX1_holds 77 = .ok (.goto (-67), 3) := by decide +kernel
theorem dX1_holds_80 : decode cX1_holds 80 = .ok (.iload_n 2, 1) := by decide +kernel
theorem dX1_holds_81 : decode cX1_holds 81 = .ok (.invokestatic 99, 3) := by decide +kernel
theorem dX1_holds_84 : decode cX1_holds 84 = .ok (.aload_n 0, 1) := by decide +kernel
theorem dX1_holds_85 : decode cX1_holds 85 = .ok (.getfield 29, 3) := by decide +kernel
theorem dX1_holds_88 : decode cX1_holds 88 = .ok (.if_icmp .gt 7, 3) := by decide +kernel
theorem dX1_holds_91 : decode cX1_holds 91 = .ok (.iconst 1, 1) := by decide +kernel
theorem dX1_holds_92 : decode cX1_holds 92 = .ok (.goto 4, 3) := by decide +kernel
theorem dX1_holds_95 : decode cX1_holds 95 = .ok (.iconst 0, 1) := by decide +kernel
theorem dX1_holds_96 : decode cX1_holds 96 = .ok (.ireturn, 1) := by decide +kernel
theorem dX1_leansTooMuch_0 : decode cX1_leansTooMuch 0 = .ok (.iconst 0, 1) := by decide +kernel
theorem dX1_leansTooMuch_1 : decode cX1_leansTooMuch 1 = .ok (.istore_n 2, 1) := by decide +kernel
theorem dX1_leansTooMuch_2 : decode cX1_leansTooMuch 2 = .ok (.iload_n 1, 1) := by decide +kernel
theorem dX1_leansTooMuch_3 : decode cX1_leansTooMuch 3 = .ok (.istore_n 3, 1) := by decide +kernel
theorem dX1_leansTooMuch_4 : decode cX1_leansTooMuch 4 = .ok (.iconst 0, 1) := by decide +kernel
theorem dX1_leansTooMuch_5 : decode cX1_leansTooMuch 5 = .ok (.istore 4, 2) := by decide +kernel
theorem dX1_leansTooMuch_7 : decode cX1_leansTooMuch 7 = .ok (.iload 4, 2) := by decide +kernel
theorem dX1_leansTooMuch_9 : decode cX1_leansTooMuch 9 = .ok (.bipush 7, 2) := by decide +kernel
theorem dX1_leansTooMuch_11 : decode cX1_leansTooMuch 11 = .ok (.if_icmp .ge 32, 3) := by decide +kernel
theorem dX1_leansTooMuch_14 : decode cX1_leansTooMuch 14 = .ok (.iload_n 3, 1) := by decide +kernel
theorem dX1_leansTooMuch_15 : decode cX1_leansTooMuch 15 = .ok (.ifCond .eq 28, 3) := by decide +kernel
theorem dX1_leansTooMuch_18 : decode cX1_leansTooMuch 18 = .ok (.iload_n 2, 1) := by decide +kernel
theorem dX1_leansTooMuch_19 : decode cX1_leansTooMuch 19 = .ok (.aload_n 0, 1) := by decide +kernel
theorem dX1_leansTooMuch_20 : decode cX1_leansTooMuch 20 = .ok (.iload_n 3, 1) := by decide +kernel
theorem dX1_leansTooMuch_21 : decode cX1_leansTooMuch 21 = .ok (.invokestatic 81, 3) := by decide +kernel
theorem dX1_leansTooMuch_24 : decode cX1_leansTooMuch 24 = .ok (.invokevirtual 39, 3) := by decide +kernel
theorem dX1_leansTooMuch_27 : decode cX1_leansTooMuch 27 = .ok (.getfield 90, 3) := by decide +kernel
theorem dX1_leansTooMuch_30 : decode cX1_leansTooMuch 30 = .ok (.iadd, 1) := by decide +kernel
theorem dX1_leansTooMuch_31 : decode cX1_leansTooMuch 31 = .ok (.istore_n 2, 1) := by decide +kernel
theorem dX1_leansTooMuch_32 : decode cX1_leansTooMuch 32 = .ok (.iload_n 3, 1) := by decide +kernel
theorem dX1_leansTooMuch_33 : decode cX1_leansTooMuch 33 = .ok (.invokestatic 96, 3) := by decide +kernel
theorem dX1_leansTooMuch_36 : decode cX1_leansTooMuch 36 = .ok (.istore_n 3, 1) := by decide +kernel
theorem dX1_leansTooMuch_37 : decode cX1_leansTooMuch 37 = .ok (.iinc 4 1, 3) := by decide +kernel
theorem dX1_leansTooMuch_40 : decode cX1_leansTooMuch 40 = .ok (.goto (-33), 3) := by decide +kernel
theorem dX1_leansTooMuch_43 : decode cX1_leansTooMuch 43 = .ok (.iload_n 2, 1) := by decide +kernel
theorem dX1_leansTooMuch_44 : decode cX1_leansTooMuch 44 = .ok (.invokestatic 99, 3) := by decide +kernel
theorem dX1_leansTooMuch_47 : decode cX1_leansTooMuch 47 = .ok (.aload_n 0, 1) := by decide +kernel
theorem dX1_leansTooMuch_48 : decode cX1_leansTooMuch 48 = .ok (.getfield 29, 3) := by decide +kernel
theorem dX1_leansTooMuch_51 : decode cX1_leansTooMuch 51 = .ok (.if_icmp .le 7, 3) := by decide +kernel
theorem dX1_leansTooMuch_54 : decode cX1_leansTooMuch 54 = .ok (.iconst 1, 1) := by decide +kernel
theorem dX1_leansTooMuch_55 : decode cX1_leansTooMuch 55 = .ok (.goto 4, 3) := by decide +kernel
theorem dX1_leansTooMuch_58 : decode cX1_leansTooMuch 58 = .ok (.iconst 0, 1) := by decide +kernel
theorem dX1_leansTooMuch_59 : decode cX1_leansTooMuch 59 = .ok (.ireturn, 1) := by decide +kernel
theorem dX1_nailsFor_0 : decode cX1_nailsFor 0 = .ok (.iconst 0, 1) := by decide +kernel
theorem dX1_nailsFor_1 : decode cX1_nailsFor 1 = .ok (.istore_n 2, 1) := by decide +kernel
theorem dX1_nailsFor_2 : decode cX1_nailsFor 2 = .ok (.iconst 0, 1) := by decide +kernel
theorem dX1_nailsFor_3 : decode cX1_nailsFor 3 = .ok (.istore_n 3, 1) := by decide +kernel
theorem dX1_nailsFor_4 : decode cX1_nailsFor 4 = .ok (.iload_n 1, 1) := by decide +kernel
theorem dX1_nailsFor_5 : decode cX1_nailsFor 5 = .ok (.istore 4, 2) := by decide +kernel
theorem dX1_nailsFor_7 : decode cX1_nailsFor 7 = .ok (.iconst 0, 1) := by decide +kernel
theorem dX1_nailsFor_8 : decode cX1_nailsFor 8 = .ok (.istore 5, 2) := by decide +kernel
theorem dX1_nailsFor_10 : decode cX1_nailsFor 10 = .ok (.iload 5, 2) := by decide +kernel
theorem dX1_nailsFor_12 : decode cX1_nailsFor 12 = .ok (.bipush 7, 2) := by decide +kernel
theorem dX1_nailsFor_14 : decode cX1_nailsFor 14 = .ok (.if_icmp .ge 78, 3) := by decide +kernel
theorem dX1_nailsFor_17 : decode cX1_nailsFor 17 = .ok (.iload 4, 2) := by decide +kernel
theorem dX1_nailsFor_19 : decode cX1_nailsFor 19 = .ok (.ifCond .eq 73, 3) := by decide +kernel
theorem dX1_nailsFor_22 : decode cX1_nailsFor 22 = .ok (.aload_n 0, 1) := by decide +kernel
theorem dX1_nailsFor_23 : decode cX1_nailsFor 23 = .ok (.iload 4, 2) := by decide +kernel
theorem dX1_nailsFor_25 : decode cX1_nailsFor 25 = .ok (.invokestatic 81, 3) := by decide +kernel
theorem dX1_nailsFor_28 : decode cX1_nailsFor 28 = .ok (.invokevirtual 39, 3) := by decide +kernel
theorem dX1_nailsFor_31 : decode cX1_nailsFor 31 = .ok (.astore 6, 2) := by decide +kernel
theorem dX1_nailsFor_33 : decode cX1_nailsFor 33 = .ok (.aload 6, 2) := by decide +kernel
theorem dX1_nailsFor_35 : decode cX1_nailsFor 35 = .ok (.iload_n 3, 1) := by decide +kernel
theorem dX1_nailsFor_36 : decode cX1_nailsFor 36 = .ok (.invokevirtual 84, 3) := by decide +kernel
theorem dX1_nailsFor_39 : decode cX1_nailsFor 39 = .ok (.aload 6, 2) := by decide +kernel
theorem dX1_nailsFor_41 : decode cX1_nailsFor 41 = .ok (.invokevirtual 87, 3) := by decide +kernel
theorem dX1_nailsFor_44 : decode cX1_nailsFor 44 = .ok (.isub, 1) := by decide +kernel
theorem dX1_nailsFor_45 : decode cX1_nailsFor 45 = .ok (.istore 7, 2) := by decide +kernel
theorem dX1_nailsFor_47 : decode cX1_nailsFor 47 = .ok (.iload_n 2, 1) := by decide +kernel
theorem dX1_nailsFor_48 : decode cX1_nailsFor 48 = .ok (.iload 7, 2) := by decide +kernel
theorem dX1_nailsFor_50 : decode cX1_nailsFor 50 = .ok (.ifCond .le 16, 3) := by decide +kernel
theorem dX1_nailsFor_53 : decode cX1_nailsFor 53 = .ok (.iload 7, 2) := by decide +kernel
theorem dX1_nailsFor_55 : decode cX1_nailsFor 55 = .ok (.bipush 9, 2) := by decide +kernel
theorem dX1_nailsFor_57 : decode cX1_nailsFor 57 = .ok (.iadd, 1) := by decide +kernel
theorem dX1_nailsFor_58 : decode cX1_nailsFor 58 = .ok (.iconst 1, 1) := by decide +kernel
theorem dX1_nailsFor_59 : decode cX1_nailsFor 59 = .ok (.isub, 1) := by decide +kernel
theorem dX1_nailsFor_60 : decode cX1_nailsFor 60 = .ok (.bipush 9, 2) := by decide +kernel
theorem dX1_nailsFor_62 : decode cX1_nailsFor 62 = .ok (.idiv, 1) := by decide +kernel
theorem dX1_nailsFor_63 : decode cX1_nailsFor 63 = .ok (.goto 4, 3) := by decide +kernel
theorem dX1_nailsFor_66 : decode cX1_nailsFor 66 = .ok (.iconst 0, 1) := by decide +kernel
theorem dX1_nailsFor_67 : decode cX1_nailsFor 67 = .ok (.iadd, 1) := by decide +kernel
theorem dX1_nailsFor_68 : decode cX1_nailsFor 68 = .ok (.istore_n 2, 1) := by decide +kernel
theorem dX1_nailsFor_69 : decode cX1_nailsFor 69 = .ok (.iload_n 3, 1) := by decide +kernel
theorem dX1_nailsFor_70 : decode cX1_nailsFor 70 = .ok (.aload 6, 2) := by decide +kernel
theorem dX1_nailsFor_72 : decode cX1_nailsFor 72 = .ok (.getfield 93, 3) := by decide +kernel
theorem dX1_nailsFor_75 : decode cX1_nailsFor 75 = .ok (.iconst 1, 1) := by decide +kernel
theorem dX1_nailsFor_76 : decode cX1_nailsFor 76 = .ok (.iadd, 1) := by decide +kernel
theorem dX1_nailsFor_77 : decode cX1_nailsFor 77 = .ok (.iadd, 1) := by decide +kernel
theorem dX1_nailsFor_78 : decode cX1_nailsFor 78 = .ok (.istore_n 3, 1) := by decide +kernel
theorem dX1_nailsFor_79 : decode cX1_nailsFor 79 = .ok (.iload 4, 2) := by decide +kernel
theorem dX1_nailsFor_81 : decode cX1_nailsFor 81 = .ok (.invokestatic 96, 3) := by decide +kernel
theorem dX1_nailsFor_84 : decode cX1_nailsFor 84 = .ok (.istore 4, 2) := by decide +kernel
theorem dX1_nailsFor_86 : decode cX1_nailsFor 86 = .ok (.iinc 5 1, 3) := by decide +kernel
theorem dX1_nailsFor_89 : decode cX1_nailsFor 89 = .ok (.goto (-79), 3) := by decide +kernel
theorem dX1_nailsFor_92 : decode cX1_nailsFor 92 = .ok (.iload_n 2, 1) := by decide +kernel
theorem dX1_nailsFor_93 : decode cX1_nailsFor 93 = .ok (.ireturn, 1) := by decide +kernel
theorem dX1_loadOn_0 : decode cX1_loadOn 0 = .ok (.iconst 0, 1) := by decide +kernel
theorem dX1_loadOn_1 : decode cX1_loadOn 1 = .ok (.istore_n 3, 1) := by decide +kernel
theorem dX1_loadOn_2 : decode cX1_loadOn 2 = .ok (.iload_n 1, 1) := by decide +kernel
theorem dX1_loadOn_3 : decode cX1_loadOn 3 = .ok (.istore 4, 2) := by decide +kernel
theorem dX1_loadOn_5 : decode cX1_loadOn 5 = .ok (.iconst 0, 1) := by decide +kernel
theorem dX1_loadOn_6 : decode cX1_loadOn 6 = .ok (.istore 5, 2) := by decide +kernel
theorem dX1_loadOn_8 : decode cX1_loadOn 8 = .ok (.iload 5, 2) := by decide +kernel
theorem dX1_loadOn_10 : decode cX1_loadOn 10 = .ok (.bipush 7, 2) := by decide +kernel
theorem dX1_loadOn_12 : decode cX1_loadOn 12 = .ok (.if_icmp .ge 58, 3) := by decide +kernel
theorem dX1_loadOn_15 : decode cX1_loadOn 15 = .ok (.iload 4, 2) := by decide +kernel
theorem dX1_loadOn_17 : decode cX1_loadOn 17 = .ok (.ifCond .eq 53, 3) := by decide +kernel
theorem dX1_loadOn_20 : decode cX1_loadOn 20 = .ok (.aload_n 0, 1) := by decide +kernel
theorem dX1_loadOn_21 : decode cX1_loadOn 21 = .ok (.iload 4, 2) := by decide +kernel
theorem dX1_loadOn_23 : decode cX1_loadOn 23 = .ok (.invokestatic 81, 3) := by decide +kernel
theorem dX1_loadOn_26 : decode cX1_loadOn 26 = .ok (.invokevirtual 39, 3) := by decide +kernel
theorem dX1_loadOn_29 : decode cX1_loadOn 29 = .ok (.astore 6, 2) := by decide +kernel
theorem dX1_loadOn_31 : decode cX1_loadOn 31 = .ok (.iload 4, 2) := by decide +kernel
theorem dX1_loadOn_33 : decode cX1_loadOn 33 = .ok (.invokestatic 81, 3) := by decide +kernel
theorem dX1_loadOn_36 : decode cX1_loadOn 36 = .ok (.iload_n 2, 1) := by decide +kernel
theorem dX1_loadOn_37 : decode cX1_loadOn 37 = .ok (.if_icmp .ne 10, 3) := by decide +kernel
theorem dX1_loadOn_40 : decode cX1_loadOn 40 = .ok (.aload 6, 2) := by decide +kernel
theorem dX1_loadOn_42 : decode cX1_loadOn 42 = .ok (.iload_n 3, 1) := by decide +kernel
theorem dX1_loadOn_43 : decode cX1_loadOn 43 = .ok (.invokevirtual 84, 3) := by decide +kernel
theorem dX1_loadOn_46 : decode cX1_loadOn 46 = .ok (.ireturn, 1) := by decide +kernel
theorem dX1_loadOn_47 : decode cX1_loadOn 47 = .ok (.iload_n 3, 1) := by decide +kernel
theorem dX1_loadOn_48 : decode cX1_loadOn 48 = .ok (.aload 6, 2) := by decide +kernel
theorem dX1_loadOn_50 : decode cX1_loadOn 50 = .ok (.getfield 93, 3) := by decide +kernel
theorem dX1_loadOn_53 : decode cX1_loadOn 53 = .ok (.iconst 1, 1) := by decide +kernel
theorem dX1_loadOn_54 : decode cX1_loadOn 54 = .ok (.iadd, 1) := by decide +kernel
theorem dX1_loadOn_55 : decode cX1_loadOn 55 = .ok (.iadd, 1) := by decide +kernel
theorem dX1_loadOn_56 : decode cX1_loadOn 56 = .ok (.istore_n 3, 1) := by decide +kernel
theorem dX1_loadOn_57 : decode cX1_loadOn 57 = .ok (.iload 4, 2) := by decide +kernel
theorem dX1_loadOn_59 : decode cX1_loadOn 59 = .ok (.invokestatic 96, 3) := by decide +kernel
theorem dX1_loadOn_62 : decode cX1_loadOn 62 = .ok (.istore 4, 2) := by decide +kernel
theorem dX1_loadOn_64 : decode cX1_loadOn 64 = .ok (.iinc 5 1, 3) := by decide +kernel
theorem dX1_loadOn_67 : decode cX1_loadOn 67 = .ok (.goto (-59), 3) := by decide +kernel
theorem dX1_loadOn_70 : decode cX1_loadOn 70 = .ok (.iconst 0, 1) := by decide +kernel
theorem dX1_loadOn_71 : decode cX1_loadOn 71 = .ok (.ireturn, 1) := by decide +kernel
theorem dX1_billOf_0 : decode cX1_billOf 0 = .ok (.iconst 0, 1) := by decide +kernel
theorem dX1_billOf_1 : decode cX1_billOf 1 = .ok (.istore_n 2, 1) := by decide +kernel
theorem dX1_billOf_2 : decode cX1_billOf 2 = .ok (.iload_n 1, 1) := by decide +kernel
theorem dX1_billOf_3 : decode cX1_billOf 3 = .ok (.invokestatic 102, 3) := by decide +kernel
theorem dX1_billOf_6 : decode cX1_billOf 6 = .ok (.istore_n 3, 1) := by decide +kernel
theorem dX1_billOf_7 : decode cX1_billOf 7 = .ok (.iconst 0, 1) := by decide +kernel
theorem dX1_billOf_8 : decode cX1_billOf 8 = .ok (.istore 4, 2) := by decide +kernel
theorem dX1_billOf_10 : decode cX1_billOf 10 = .ok (.iload 4, 2) := by decide +kernel
theorem dX1_billOf_12 : decode cX1_billOf 12 = .ok (.bipush 7, 2) := by decide +kernel
theorem dX1_billOf_14 : decode cX1_billOf 14 = .ok (.if_icmp .ge 31, 3) := by decide +kernel
theorem dX1_billOf_17 : decode cX1_billOf 17 = .ok (.iload_n 3, 1) := by decide +kernel
theorem dX1_billOf_18 : decode cX1_billOf 18 = .ok (.ifCond .eq 27, 3) := by decide +kernel
theorem dX1_billOf_21 : decode cX1_billOf 21 = .ok (.aload_n 0, 1) := by decide +kernel
theorem dX1_billOf_22 : decode cX1_billOf 22 = .ok (.iload_n 3, 1) := by decide +kernel
theorem dX1_billOf_23 : decode cX1_billOf 23 = .ok (.invokestatic 81, 3) := by decide +kernel
theorem dX1_billOf_26 : decode cX1_billOf 26 = .ok (.invokevirtual 39, 3) := by decide +kernel
theorem dX1_billOf_29 : decode cX1_billOf 29 = .ok (.iload_n 2, 1) := by decide +kernel
theorem dX1_billOf_30 : decode cX1_billOf 30 = .ok (.invokevirtual 105, 3) := by decide +kernel
theorem dX1_billOf_33 : decode cX1_billOf 33 = .ok (.istore_n 2, 1) := by decide +kernel
theorem dX1_billOf_34 : decode cX1_billOf 34 = .ok (.iload_n 3, 1) := by decide +kernel
theorem dX1_billOf_35 : decode cX1_billOf 35 = .ok (.invokestatic 96, 3) := by decide +kernel
theorem dX1_billOf_38 : decode cX1_billOf 38 = .ok (.istore_n 3, 1) := by decide +kernel
theorem dX1_billOf_39 : decode cX1_billOf 39 = .ok (.iinc 4 1, 3) := by decide +kernel
theorem dX1_billOf_42 : decode cX1_billOf 42 = .ok (.goto (-32), 3) := by decide +kernel
theorem dX1_billOf_45 : decode cX1_billOf 45 = .ok (.iload_n 2, 1) := by decide +kernel
theorem dX1_billOf_46 : decode cX1_billOf 46 = .ok (.ireturn, 1) := by decide +kernel
theorem dX1_bestSpare_0 : decode cX1_bestSpare 0 = .ok (.iload_n 1, 1) := by decide +kernel
theorem dX1_bestSpare_1 : decode cX1_bestSpare 1 = .ok (.invokestatic 108, 3) := by decide +kernel
theorem dX1_bestSpare_4 : decode cX1_bestSpare 4 = .ok (.istore_n 2, 1) := by decide +kernel
theorem dX1_bestSpare_5 : decode cX1_bestSpare 5 = .ok (.iconst 0, 1) := by decide +kernel
theorem dX1_bestSpare_6 : decode cX1_bestSpare 6 = .ok (.istore_n 3, 1) := by decide +kernel
theorem dX1_bestSpare_7 : decode cX1_bestSpare 7 = .ok (.iload_n 3, 1) := by decide +kernel
theorem dX1_bestSpare_8 : decode cX1_bestSpare 8 = .ok (.iload_n 2, 1) := by decide +kernel
theorem dX1_bestSpare_9 : decode cX1_bestSpare 9 = .ok (.if_icmp .ge 60, 3) := by decide +kernel
theorem dX1_bestSpare_12 : decode cX1_bestSpare 12 = .ok (.iload_n 1, 1) := by decide +kernel
theorem dX1_bestSpare_13 : decode cX1_bestSpare 13 = .ok (.iload_n 3, 1) := by decide +kernel
theorem dX1_bestSpare_14 : decode cX1_bestSpare 14 = .ok (.iconst 1, 1) := by decide +kernel
theorem dX1_bestSpare_15 : decode cX1_bestSpare 15 = .ok (.iadd, 1) := by decide +kernel
theorem dX1_bestSpare_16 : decode cX1_bestSpare 16 = .ok (.invokestatic 110, 3) := by decide +kernel
theorem dX1_bestSpare_19 : decode cX1_bestSpare 19 = .ok (.istore 4, 2) := by decide +kernel
theorem dX1_bestSpare_21 : decode cX1_bestSpare 21 = .ok (.aload_n 0, 1) := by decide +kernel
theorem dX1_bestSpare_22 : decode cX1_bestSpare 22 = .ok (.iload 4, 2) := by decide +kernel
theorem dX1_bestSpare_24 : decode cX1_bestSpare 24 = .ok (.invokevirtual 39, 3) := by decide +kernel
theorem dX1_bestSpare_27 : decode cX1_bestSpare 27 = .ok (.astore 5, 2) := by decide +kernel
theorem dX1_bestSpare_29 : decode cX1_bestSpare 29 = .ok (.aload_n 0, 1) := by decide +kernel
theorem dX1_bestSpare_30 : decode cX1_bestSpare 30 = .ok (.getfield 22, 3) := by decide +kernel
theorem dX1_bestSpare_33 : decode cX1_bestSpare 33 = .ok (.iload_n 3, 1) := by decide +kernel
theorem dX1_bestSpare_34 : decode cX1_bestSpare 34 = .ok (.aload 5, 2) := by decide +kernel
theorem dX1_bestSpare_36 : decode cX1_bestSpare 36 = .ok (.getfield 113, 3) := by decide +kernel
theorem dX1_bestSpare_39 : decode cX1_bestSpare 39 = .ok (.invokestatic 116, 3) := by decide +kernel
theorem dX1_bestSpare_42 : decode cX1_bestSpare 42 = .ok (.aload_n 0, 1) := by decide +kernel
theorem dX1_bestSpare_43 : decode cX1_bestSpare 43 = .ok (.getfield 26, 3) := by decide +kernel
theorem dX1_bestSpare_46 : decode cX1_bestSpare 46 = .ok (.iload_n 3, 1) := by decide +kernel
theorem dX1_bestSpare_47 : decode cX1_bestSpare 47 = .ok (.aload_n 0, 1) := by decide +kernel
theorem dX1_bestSpare_48 : decode cX1_bestSpare 48 = .ok (.iload_n 1, 1) := by decide +kernel
theorem dX1_bestSpare_49 : decode cX1_bestSpare 49 = .ok (.iload 4, 2) := by decide +kernel
theorem dX1_bestSpare_51 : decode cX1_bestSpare 51 = .ok (.invokevirtual 120, 3) := by decide +kernel
theorem dX1_bestSpare_54 : decode cX1_bestSpare 54 = .ok (.aload 5, 2) := by decide +kernel
theorem dX1_bestSpare_56 : decode cX1_bestSpare 56 = .ok (.getfield 123, 3) := by decide +kernel
theorem dX1_bestSpare_59 : decode cX1_bestSpare 59 = .ok (.isub, 1) := by decide +kernel
theorem dX1_bestSpare_60 : decode cX1_bestSpare 60 = .ok (.invokestatic 116, 3) := by decide +kernel
theorem dX1_bestSpare_63 : decode cX1_bestSpare 63 = .ok (.iinc 3 1, 3) := by decide +kernel
theorem dX1_bestSpare_66 : decode cX1_bestSpare 66 = .ok (.goto (-59), 3) := by decide +kernel
theorem dX1_bestSpare_69 : decode cX1_bestSpare 69 = .ok (.aload_n 0, 1) := by decide +kernel
theorem dX1_bestSpare_70 : decode cX1_bestSpare 70 = .ok (.getfield 22, 3) := by decide +kernel
theorem dX1_bestSpare_73 : decode cX1_bestSpare 73 = .ok (.iconst 0, 1) := by decide +kernel
theorem dX1_bestSpare_74 : decode cX1_bestSpare 74 = .ok (.iaload, 1) := by decide +kernel
theorem dX1_bestSpare_75 : decode cX1_bestSpare 75 = .ok (.aload_n 0, 1) := by decide +kernel
theorem dX1_bestSpare_76 : decode cX1_bestSpare 76 = .ok (.getfield 26, 3) := by decide +kernel
theorem dX1_bestSpare_79 : decode cX1_bestSpare 79 = .ok (.iconst 0, 1) := by decide +kernel
theorem dX1_bestSpare_80 : decode cX1_bestSpare 80 = .ok (.iaload, 1) := by decide +kernel
theorem dX1_bestSpare_81 : decode cX1_bestSpare 81 = .ok (.isub, 1) := by decide +kernel
theorem dX1_bestSpare_82 : decode cX1_bestSpare 82 = .ok (.istore_n 3, 1) := by decide +kernel
theorem dX1_bestSpare_83 : decode cX1_bestSpare 83 = .ok (.iconst 1, 1) := by decide +kernel
theorem dX1_bestSpare_84 : decode cX1_bestSpare 84 = .ok (.istore 4, 2) := by decide +kernel
theorem dX1_bestSpare_86 : decode cX1_bestSpare 86 = .ok (.iload 4, 2) := by decide +kernel
theorem dX1_bestSpare_88 : decode cX1_bestSpare 88 = .ok (.iload_n 2, 1) := by decide +kernel
theorem dX1_bestSpare_89 : decode cX1_bestSpare 89 = .ok (.if_icmp .ge 36, 3) := by decide +kernel
theorem dX1_bestSpare_92 : decode cX1_bestSpare 92 = .ok (.iload 4, 2) := by decide +kernel
theorem dX1_bestSpare_94 : decode cX1_bestSpare 94 = .ok (.bipush 7, 2) := by decide +kernel
theorem dX1_bestSpare_96 : decode cX1_bestSpare 96 = .ok (.if_icmp .ge 29, 3) := by decide +kernel
theorem dX1_bestSpare_99 : decode cX1_bestSpare 99 = .ok (.iload_n 3, 1) := by decide +kernel
theorem dX1_bestSpare_100 : decode cX1_bestSpare 100 = .ok (.aload_n 0, 1) := by decide +kernel
theorem dX1_bestSpare_101 : decode cX1_bestSpare 101 = .ok (.getfield 22, 3) := by decide +kernel
theorem dX1_bestSpare_104 : decode cX1_bestSpare 104 = .ok (.iload 4, 2) := by decide +kernel
theorem dX1_bestSpare_106 : decode cX1_bestSpare 106 = .ok (.iaload, 1) := by decide +kernel
theorem dX1_bestSpare_107 : decode cX1_bestSpare 107 = .ok (.aload_n 0, 1) := by decide +kernel
theorem dX1_bestSpare_108 : decode cX1_bestSpare 108 = .ok (.getfield 26, 3) := by decide +kernel
theorem dX1_bestSpare_111 : decode cX1_bestSpare 111 = .ok (.iload 4, 2) := by decide +kernel
theorem dX1_bestSpare_113 : decode cX1_bestSpare 113 = .ok (.iaload, 1) := by decide +kernel
theorem dX1_bestSpare_114 : decode cX1_bestSpare 114 = .ok (.isub, 1) := by decide +kernel
theorem dX1_bestSpare_115 : decode cX1_bestSpare 115 = .ok (.invokestatic 43, 3) := by decide +kernel
theorem dX1_bestSpare_118 : decode cX1_bestSpare 118 = .ok (.istore_n 3, 1) := by decide +kernel
theorem dX1_bestSpare_119 : decode cX1_bestSpare 119 = .ok (.iinc 4 1, 3) := by decide +kernel
theorem dX1_bestSpare_122 : decode cX1_bestSpare 122 = .ok (.goto (-36), 3) := by decide +kernel
theorem dX1_bestSpare_125 : decode cX1_bestSpare 125 = .ok (.iload_n 3, 1) := by decide +kernel
theorem dX1_bestSpare_126 : decode cX1_bestSpare 126 = .ok (.ireturn, 1) := by decide +kernel
theorem dX1_insert_0 : decode cX1_insert 0 = .ok (.iload_n 1, 1) := by decide +kernel
theorem dX1_insert_1 : decode cX1_insert 1 = .ok (.ifCond .lt 9, 3) := by decide +kernel
theorem dX1_insert_4 : decode cX1_insert 4 = .ok (.iload_n 1, 1) := by decide +kernel
theorem dX1_insert_5 : decode cX1_insert 5 = .ok (.aload_n 0, 1) := by decide +kernel
theorem dX1_insert_6 : decode cX1_insert 6 = .ok (.arraylength, 1) := by decide +kernel
theorem dX1_insert_7 : decode cX1_insert 7 = .ok (.if_icmp .lt 4, 3) := by decide +kernel
theorem dX1_insert_10 : decode cX1_insert 10 = .ok (.return_, 1) := by decide +kernel
theorem dX1_insert_11 : decode cX1_insert 11 = .ok (.iload_n 1, 1) := by decide +kernel
theorem dX1_insert_12 : decode cX1_insert 12 = .ok (.istore_n 3, 1) := by decide +kernel
theorem dX1_insert_13 : decode cX1_insert 13 = .ok (.iload_n 3, 1) := by decide +kernel
theorem dX1_insert_14 : decode cX1_insert 14 = .ok (.ifCond .le 26, 3) := by decide +kernel
theorem dX1_insert_17 : decode cX1_insert 17 = .ok (.aload_n 0, 1) := by decide +kernel
theorem dX1_insert_18 : decode cX1_insert 18 = .ok (.iload_n 3, 1) := by decide +kernel
theorem dX1_insert_19 : decode cX1_insert 19 = .ok (.iconst 1, 1) := by decide +kernel
theorem dX1_insert_20 : decode cX1_insert 20 = .ok (.isub, 1) := by decide +kernel
theorem dX1_insert_21 : decode cX1_insert 21 = .ok (.iaload, 1) := by decide +kernel
theorem dX1_insert_22 : decode cX1_insert 22 = .ok (.iload_n 2, 1) := by decide +kernel
theorem dX1_insert_23 : decode cX1_insert 23 = .ok (.if_icmp .le 17, 3) := by decide +kernel
theorem dX1_insert_26 : decode cX1_insert 26 = .ok (.aload_n 0, 1) := by decide +kernel
theorem dX1_insert_27 : decode cX1_insert 27 = .ok (.iload_n 3, 1) := by decide +kernel
theorem dX1_insert_28 : decode cX1_insert 28 = .ok (.aload_n 0, 1) := by decide +kernel
theorem dX1_insert_29 : decode cX1_insert 29 = .ok (.iload_n 3, 1) := by decide +kernel
theorem dX1_insert_30 : decode cX1_insert 30 = .ok (.iconst 1, 1) := by decide +kernel
theorem dX1_insert_31 : decode cX1_insert 31 = .ok (.isub, 1) := by decide +kernel
theorem dX1_insert_32 : decode cX1_insert 32 = .ok (.iaload, 1) := by decide +kernel
theorem dX1_insert_33 : decode cX1_insert 33 = .ok (.iastore, 1) := by decide +kernel
theorem dX1_insert_34 : decode cX1_insert 34 = .ok (.iinc 3 (-1), 3) := by decide +kernel
theorem dX1_insert_37 : decode cX1_insert 37 = .ok (.goto (-24), 3) := by decide +kernel
theorem dX1_insert_40 : decode cX1_insert 40 = .ok (.aload_n 0, 1) := by decide +kernel
theorem dX1_insert_41 : decode cX1_insert 41 = .ok (.iload_n 3, 1) := by decide +kernel
theorem dX1_insert_42 : decode cX1_insert 42 = .ok (.iload_n 2, 1) := by decide +kernel
theorem dX1_insert_43 : decode cX1_insert 43 = .ok (.iastore, 1) := by decide +kernel
theorem dX1_insert_44 : decode cX1_insert 44 = .ok (.return_, 1) := by decide +kernel
theorem dX1_sideOnTop_0 : decode cX1_sideOnTop 0 = .ok (.iload_n 1, 1) := by decide +kernel
theorem dX1_sideOnTop_1 : decode cX1_sideOnTop 1 = .ok (.ifCond .ne 5, 3) := by decide +kernel
theorem dX1_sideOnTop_4 : decode cX1_sideOnTop 4 = .ok (.iconst 0, 1) := by decide +kernel
theorem dX1_sideOnTop_5 : decode cX1_sideOnTop 5 = .ok (.ireturn, 1) := by decide +kernel
theorem dX1_sideOnTop_6 : decode cX1_sideOnTop 6 = .ok (.aload_n 0, 1) := by decide +kernel
theorem dX1_sideOnTop_7 : decode cX1_sideOnTop 7 = .ok (.iload_n 1, 1) := by decide +kernel
theorem dX1_sideOnTop_8 : decode cX1_sideOnTop 8 = .ok (.invokestatic 81, 3) := by decide +kernel
theorem dX1_sideOnTop_11 : decode cX1_sideOnTop 11 = .ok (.invokevirtual 39, 3) := by decide +kernel
theorem dX1_sideOnTop_14 : decode cX1_sideOnTop 14 = .ok (.getfield 126, 3) := by decide +kernel
theorem dX1_sideOnTop_17 : decode cX1_sideOnTop 17 = .ok (.istore_n 2, 1) := by decide +kernel
theorem dX1_sideOnTop_18 : decode cX1_sideOnTop 18 = .ok (.iload_n 2, 1) := by decide +kernel
theorem dX1_sideOnTop_19 : decode cX1_sideOnTop 19 = .ok (.ifCond .ne 7, 3) := by decide +kernel
theorem dX1_sideOnTop_22 : decode cX1_sideOnTop 22 = .ok (.iconst 1, 1) := by decide +kernel
theorem dX1_sideOnTop_23 : decode cX1_sideOnTop 23 = .ok (.goto 13, 3) := by decide +kernel
theorem dX1_sideOnTop_26 : decode cX1_sideOnTop 26 = .ok (.iload_n 2, 1) := by decide +kernel
theorem dX1_sideOnTop_27 : decode cX1_sideOnTop 27 = .ok (.iconst 1, 1) := by decide +kernel
theorem dX1_sideOnTop_28 : decode cX1_sideOnTop 28 = .ok (.if_icmp .ne 7, 3) := by decide +kernel
theorem dX1_sideOnTop_31 : decode cX1_sideOnTop 31 = .ok (.iconst (-1), 1) := by decide +kernel
theorem dX1_sideOnTop_32 : decode cX1_sideOnTop 32 = .ok (.goto 4, 3) := by decide +kernel
theorem dX1_sideOnTop_35 : decode cX1_sideOnTop 35 = .ok (.iconst 0, 1) := by decide +kernel
theorem dX1_sideOnTop_36 : decode cX1_sideOnTop 36 = .ok (.ireturn, 1) := by decide +kernel
theorem dX1_bruise_0 : decode cX1_bruise 0 = .ok (.iload_n 1, 1) := by decide +kernel
theorem dX1_bruise_1 : decode cX1_bruise 1 = .ok (.invokestatic 67, 3) := by decide +kernel
theorem dX1_bruise_4 : decode cX1_bruise 4 = .ok (.istore_n 2, 1) := by decide +kernel
theorem dX1_bruise_5 : decode cX1_bruise 5 = .ok (.iconst 0, 1) := by decide +kernel
theorem dX1_bruise_6 : decode cX1_bruise 6 = .ok (.istore_n 3, 1) := by decide +kernel
theorem dX1_bruise_7 : decode cX1_bruise 7 = .ok (.iload_n 3, 1) := by decide +kernel
theorem dX1_bruise_8 : decode cX1_bruise 8 = .ok (.aload_n 0, 1) := by decide +kernel
theorem dX1_bruise_9 : decode cX1_bruise 9 = .ok (.getfield 33, 3) := by decide +kernel
theorem dX1_bruise_12 : decode cX1_bruise 12 = .ok (.if_icmp .ge 27, 3) := by decide +kernel
theorem dX1_bruise_15 : decode cX1_bruise 15 = .ok (.aload_n 0, 1) := by decide +kernel
theorem dX1_bruise_16 : decode cX1_bruise 16 = .ok (.iload_n 3, 1) := by decide +kernel
theorem dX1_bruise_17 : decode cX1_bruise 17 = .ok (.invokevirtual 39, 3) := by decide +kernel
theorem dX1_bruise_20 : decode cX1_bruise 20 = .ok (.dup, 1) := by decide +kernel
theorem dX1_bruise_21 : decode cX1_bruise 21 = .ok (.getfield 129, 3) := by decide +kernel
theorem dX1_bruise_24 : decode cX1_bruise 24 = .ok (.iload_n 2, 1) := by decide +kernel
theorem dX1_bruise_25 : decode cX1_bruise 25 = .ok (.iload_n 3, 1) := by decide +kernel
theorem dX1_bruise_26 : decode cX1_bruise 26 = .ok (.iushr, 1) := by decide +kernel
theorem dX1_bruise_27 : decode cX1_bruise 27 = .ok (.iconst 1, 1) := by decide +kernel
theorem dX1_bruise_28 : decode cX1_bruise 28 = .ok (.iand, 1) := by decide +kernel
theorem dX1_bruise_29 : decode cX1_bruise 29 = .ok (.iadd, 1) := by decide +kernel
theorem dX1_bruise_30 : decode cX1_bruise 30 = .ok (.putfield 129, 3) := by decide +kernel
theorem dX1_bruise_33 : decode cX1_bruise 33 = .ok (.iinc 3 1, 3) := by decide +kernel
theorem dX1_bruise_36 : decode cX1_bruise 36 = .ok (.goto (-29), 3) := by decide +kernel
theorem dX1_bruise_39 : decode cX1_bruise 39 = .ok (.return_, 1) := by decide +kernel
theorem dX2_init_0 : decode cX2_init 0 = .ok (.aload_n 0, 1) := by decide +kernel
theorem dX2_init_1 : decode cX2_init 1 = .ok (.invokespecial 3, 3) := by decide +kernel
theorem dX2_init_4 : decode cX2_init 4 = .ok (.return_, 1) := by decide +kernel
theorem dX2_begin_0 : decode cX2_begin 0 = .ok (.aload_n 0, 1) := by decide +kernel
theorem dX2_begin_1 : decode cX2_begin 1 = .ok (.iconst 0, 1) := by decide +kernel
theorem dX2_begin_2 : decode cX2_begin 2 = .ok (.putfield 9, 3) := by decide +kernel
theorem dX2_begin_5 : decode cX2_begin 5 = .ok (.aload_n 0, 1) := by decide +kernel
theorem dX2_begin_6 : decode cX2_begin 6 = .ok (.iconst 0, 1) := by decide +kernel
theorem dX2_begin_7 : decode cX2_begin 7 = .ok (.putfield 17, 3) := by decide +kernel
theorem dX2_begin_10 : decode cX2_begin 10 = .ok (.return_, 1) := by decide +kernel
theorem dX2_takes_0 : decode cX2_takes 0 = .ok (.iload_n 1, 1) := by decide +kernel
theorem dX2_takes_1 : decode cX2_takes 1 = .ok (.bipush 48, 2) := by decide +kernel
theorem dX2_takes_3 : decode cX2_takes 3 = .ok (.isub, 1) := by decide +kernel
theorem dX2_takes_4 : decode cX2_takes 4 = .ok (.istore_n 2, 1) := by decide +kernel
theorem dX2_takes_5 : decode cX2_takes 5 = .ok (.iload_n 2, 1) := by decide +kernel
theorem dX2_takes_6 : decode cX2_takes 6 = .ok (.iconst 0, 1) := by decide +kernel
theorem dX2_takes_7 : decode cX2_takes 7 = .ok (.bipush 6, 2) := by decide +kernel
theorem dX2_takes_9 : decode cX2_takes 9 = .ok (.invokestatic 20, 3) := by decide +kernel
theorem dX2_takes_12 : decode cX2_takes 12 = .ok (.ifCond .eq 15, 3) := by decide +kernel
theorem dX2_takes_15 : decode cX2_takes 15 = .ok (.aload_n 0, 1) := by decide +kernel
theorem dX2_takes_16 : decode cX2_takes 16 = .ok (.getfield 9, 3) := by decide +kernel
theorem dX2_takes_19 : decode cX2_takes 19 = .ok (.iload_n 2, 1) := by decide +kernel
theorem dX2_takes_20 : decode cX2_takes 20 = .ok (.iushr, 1) := by decide +kernel
theorem dX2_takes_21 : decode cX2_takes 21 = .ok (.iconst 1, 1) := by decide +kernel
theorem dX2_takes_22 : decode cX2_takes 22 = .ok (.iand, 1) := by decide +kernel
theorem dX2_takes_23 : decode cX2_takes 23 = .ok (.iconst 1, 1) := by decide +kernel
theorem dX2_takes_24 : decode cX2_takes 24 = .ok (.if_icmp .ne 5, 3) := by decide +kernel
theorem dX2_takes_27 : decode cX2_takes 27 = .ok (.iconst 0, 1) := by decide +kernel
theorem dX2_takes_28 : decode cX2_takes 28 = .ok (.ireturn, 1) := by decide +kernel
theorem dX2_takes_29 : decode cX2_takes 29 = .ok (.aload_n 0, 1) := by decide +kernel
theorem dX2_takes_30 : decode cX2_takes 30 = .ok (.dup, 1) := by decide +kernel
theorem dX2_takes_31 : decode cX2_takes 31 = .ok (.getfield 9, 3) := by decide +kernel
theorem dX2_takes_34 : decode cX2_takes 34 = .ok (.iconst 1, 1) := by decide +kernel
theorem dX2_takes_35 : decode cX2_takes 35 = .ok (.iload_n 2, 1) := by decide +kernel
theorem dX2_takes_36 : decode cX2_takes 36 = .ok (.ishl, 1) := by decide +kernel
theorem dX2_takes_37 : decode cX2_takes 37 = .ok (.ior, 1) := by decide +kernel
theorem dX2_takes_38 : decode cX2_takes 38 = .ok (.putfield 9, 3) := by decide +kernel
theorem dX2_takes_41 : decode cX2_takes 41 = .ok (.aload_n 0, 1) := by decide +kernel
theorem dX2_takes_42 : decode cX2_takes 42 = .ok (.aload_n 0, 1) := by decide +kernel
theorem dX2_takes_43 : decode cX2_takes 43 = .ok (.getfield 17, 3) := by decide +kernel
theorem dX2_takes_46 : decode cX2_takes 46 = .ok (.iload_n 2, 1) := by decide +kernel
theorem dX2_takes_47 : decode cX2_takes 47 = .ok (.invokestatic 24, 3) := by decide +kernel
theorem dX2_takes_50 : decode cX2_takes 50 = .ok (.putfield 17, 3) := by decide +kernel
theorem dX2_takes_53 : decode cX2_takes 53 = .ok (.iconst 1, 1) := by decide +kernel
theorem dX2_takes_54 : decode cX2_takes 54 = .ok (.ireturn, 1) := by decide +kernel
theorem dX2_canEnd_0 : decode cX2_canEnd 0 = .ok (.aload_n 0, 1) := by decide +kernel
theorem dX2_canEnd_1 : decode cX2_canEnd 1 = .ok (.getfield 9, 3) := by decide +kernel
theorem dX2_canEnd_4 : decode cX2_canEnd 4 = .ok (.ifCond .eq 7, 3) := by decide +kernel
theorem dX2_canEnd_7 : decode cX2_canEnd 7 = .ok (.iconst 1, 1) := by decide +kernel
theorem dX2_canEnd_8 : decode cX2_canEnd 8 = .ok (.goto 4, 3) := by decide +kernel
theorem dX2_canEnd_11 : decode cX2_canEnd 11 = .ok (.iconst 0, 1) := by decide +kernel
theorem dX2_canEnd_12 : decode cX2_canEnd 12 = .ok (.ireturn, 1) := by decide +kernel
theorem dX2_said_0 : decode cX2_said 0 = .ok (.aload_n 0, 1) := by decide +kernel
theorem dX2_said_1 : decode cX2_said 1 = .ok (.getfield 9, 3) := by decide +kernel
theorem dX2_said_4 : decode cX2_said 4 = .ok (.ireturn, 1) := by decide +kernel
theorem dX2_row_0 : decode cX2_row 0 = .ok (.aload_n 0, 1) := by decide +kernel
theorem dX2_row_1 : decode cX2_row 1 = .ok (.getfield 17, 3) := by decide +kernel
theorem dX2_row_4 : decode cX2_row 4 = .ok (.ireturn, 1) := by decide +kernel
theorem dX3_init_0 : decode cX3_init 0 = .ok (.aload_n 0, 1) := by decide +kernel
theorem dX3_init_1 : decode cX3_init 1 = .ok (.invokespecial 3, 3) := by decide +kernel
theorem dX3_init_4 : decode cX3_init 4 = .ok (.aload_n 0, 1) := by decide +kernel
theorem dX3_init_5 : decode cX3_init 5 = .ok (.bipush 7, 2) := by decide +kernel
theorem dX3_init_7 : decode cX3_init 7 = .ok (.newarray .int, 2) := by decide +kernel
theorem dX3_init_9 : decode cX3_init 9 = .ok (.putfield 9, 3) := by decide +kernel
theorem dX3_init_12 : decode cX3_init 12 = .ok (.aload_n 0, 1) := by decide +kernel
theorem dX3_init_13 : decode cX3_init 13 = .ok (.bipush 7, 2) := by decide +kernel
theorem dX3_init_15 : decode cX3_init 15 = .ok (.newarray .int, 2) := by decide +kernel
theorem dX3_init_17 : decode cX3_init 17 = .ok (.putfield 15, 3) := by decide +kernel
theorem dX3_init_20 : decode cX3_init 20 = .ok (.aload_n 0, 1) := by decide +kernel
theorem dX3_init_21 : decode cX3_init 21 = .ok (.iconst (-1), 1) := by decide +kernel
theorem dX3_init_22 : decode cX3_init 22 = .ok (.putfield 18, 3) := by decide +kernel
theorem dX3_init_25 : decode cX3_init 25 = .ok (.return_, 1) := by decide +kernel
theorem dX3_keep_0 : decode cX3_keep 0 = .ok (.aload_n 0, 1) := by decide +kernel
theorem dX3_keep_1 : decode cX3_keep 1 = .ok (.iload_n 2, 1) := by decide +kernel
theorem dX3_keep_2 : decode cX3_keep 2 = .ok (.putfield 22, 3) := by decide +kernel
theorem dX3_keep_5 : decode cX3_keep 5 = .ok (.aload_n 0, 1) := by decide +kernel
theorem dX3_keep_6 : decode cX3_keep 6 = .ok (.aload_n 1, 1) := by decide +kernel
theorem dX3_keep_7 : decode cX3_keep 7 = .ok (.invokevirtual 25, 3) := by decide +kernel
theorem dX3_keep_10 : decode cX3_keep 10 = .ok (.putfield 18, 3) := by decide +kernel
theorem dX3_keep_13 : decode cX3_keep 13 = .ok (.iconst 0, 1) := by decide +kernel
theorem dX3_keep_14 : decode cX3_keep 14 = .ok (.istore_n 3, 1) := by decide +kernel
theorem dX3_keep_15 : decode cX3_keep 15 = .ok (.iload_n 3, 1) := by decide +kernel
theorem dX3_keep_16 : decode cX3_keep 16 = .ok (.aload_n 0, 1) := by decide +kernel
theorem dX3_keep_17 : decode cX3_keep 17 = .ok (.getfield 18, 3) := by decide +kernel
theorem dX3_keep_20 : decode cX3_keep 20 = .ok (.if_icmp .ge 43, 3) := by decide +kernel
theorem dX3_keep_23 : decode cX3_keep 23 = .ok (.iload_n 3, 1) := by decide +kernel
theorem dX3_keep_24 : decode cX3_keep 24 = .ok (.bipush 7, 2) := by decide +kernel
theorem dX3_keep_26 : decode cX3_keep 26 = .ok (.if_icmp .ge 37, 3) := by decide +kernel
theorem dX3_keep_29 : decode cX3_keep 29 = .ok (.aload_n 0, 1) := by decide +kernel
theorem dX3_keep_30 : decode cX3_keep 30 = .ok (.getfield 9, 3) := by decide +kernel
theorem dX3_keep_33 : decode cX3_keep 33 = .ok (.iload_n 3, 1) := by decide +kernel
theorem dX3_keep_34 : decode cX3_keep 34 = .ok (.aload_n 1, 1) := by decide +kernel
theorem dX3_keep_35 : decode cX3_keep 35 = .ok (.iload_n 3, 1) := by decide +kernel
theorem dX3_keep_36 : decode cX3_keep 36 = .ok (.invokevirtual 30, 3) := by decide +kernel
theorem dX3_keep_39 : decode cX3_keep 39 = .ok (.getfield 34, 3) := by decide +kernel
theorem dX3_keep_42 : decode cX3_keep 42 = .ok (.iastore, 1) := by decide +kernel
theorem dX3_keep_43 : decode cX3_keep 43 = .ok (.aload_n 0, 1) := by decide +kernel
theorem dX3_keep_44 : decode cX3_keep 44 = .ok (.getfield 15, 3) := by decide +kernel
theorem dX3_keep_47 : decode cX3_keep 47 = .ok (.iload_n 3, 1) := by decide +kernel
theorem dX3_keep_48 : decode cX3_keep 48 = .ok (.aload_n 1, 1) := by decide +kernel
theorem dX3_keep_49 : decode cX3_keep 49 = .ok (.iload_n 3, 1) := by decide +kernel
theorem dX3_keep_50 : decode cX3_keep 50 = .ok (.invokevirtual 30, 3) := by decide +kernel
theorem dX3_keep_53 : decode cX3_keep 53 = .ok (.getfield 39, 3) := by decide +kernel
theorem dX3_keep_56 : decode cX3_keep 56 = .ok (.iastore, 1) := by decide +kernel
theorem dX3_keep_57 : decode cX3_keep 57 = .ok (.iinc 3 1, 3) := by decide +kernel
theorem dX3_keep_60 : decode cX3_keep 60 = .ok (.goto (-45), 3) := by decide +kernel
theorem dX3_keep_63 : decode cX3_keep 63 = .ok (.return_, 1) := by decide +kernel
theorem dX3_fits_0 : decode cX3_fits 0 = .ok (.aload_n 0, 1) := by decide +kernel
theorem dX3_fits_1 : decode cX3_fits 1 = .ok (.getfield 18, 3) := by decide +kernel
theorem dX3_fits_4 : decode cX3_fits 4 = .ok (.aload_n 1, 1) := by decide +kernel
theorem dX3_fits_5 : decode cX3_fits 5 = .ok (.invokevirtual 25, 3) := by decide +kernel
theorem dX3_fits_8 : decode cX3_fits 8 = .ok (.if_icmp .ne 7, 3) := by decide +kernel
theorem dX3_fits_11 : decode cX3_fits 11 = .ok (.iconst 1, 1) := by decide +kernel
theorem dX3_fits_12 : decode cX3_fits 12 = .ok (.goto 4, 3) := by decide +kernel
theorem dX3_fits_15 : decode cX3_fits 15 = .ok (.iconst 0, 1) := by decide +kernel
theorem dX3_fits_16 : decode cX3_fits 16 = .ok (.ireturn, 1) := by decide +kernel
theorem dX3_giveBack_0 : decode cX3_giveBack 0 = .ok (.iconst 0, 1) := by decide +kernel
theorem dX3_giveBack_1 : decode cX3_giveBack 1 = .ok (.istore_n 2, 1) := by decide +kernel
theorem dX3_giveBack_2 : decode cX3_giveBack 2 = .ok (.iload_n 2, 1) := by decide +kernel
theorem dX3_giveBack_3 : decode cX3_giveBack 3 = .ok (.aload_n 0, 1) := by decide +kernel
theorem dX3_giveBack_4 : decode cX3_giveBack 4 = .ok (.getfield 18, 3) := by decide +kernel
theorem dX3_giveBack_7 : decode cX3_giveBack 7 = .ok (.if_icmp .ge 43, 3) := by decide +kernel
theorem dX3_giveBack_10 : decode cX3_giveBack 10 = .ok (.iload_n 2, 1) := by decide +kernel
theorem dX3_giveBack_11 : decode cX3_giveBack 11 = .ok (.bipush 7, 2) := by decide +kernel
theorem dX3_giveBack_13 : decode cX3_giveBack 13 = .ok (.if_icmp .ge 37, 3) := by decide +kernel
theorem dX3_giveBack_16 : decode cX3_giveBack 16 = .ok (.aload_n 1, 1) := by decide +kernel
theorem dX3_giveBack_17 : decode cX3_giveBack 17 = .ok (.iload_n 2, 1) := by decide +kernel
theorem dX3_giveBack_18 : decode cX3_giveBack 18 = .ok (.invokevirtual 30, 3) := by decide +kernel
theorem dX3_giveBack_21 : decode cX3_giveBack 21 = .ok (.aload_n 0, 1) := by decide +kernel
theorem dX3_giveBack_22 : decode cX3_giveBack 22 = .ok (.getfield 9, 3) := by decide +kernel
theorem dX3_giveBack_25 : decode cX3_giveBack 25 = .ok (.iload_n 2, 1) := by decide +kernel
theorem dX3_giveBack_26 : decode cX3_giveBack 26 = .ok (.iaload, 1) := by decide +kernel
theorem dX3_giveBack_27 : decode cX3_giveBack 27 = .ok (.putfield 34, 3) := by decide +kernel
theorem dX3_giveBack_30 : decode cX3_giveBack 30 = .ok (.aload_n 1, 1) := by decide +kernel
theorem dX3_giveBack_31 : decode cX3_giveBack 31 = .ok (.iload_n 2, 1) := by decide +kernel
theorem dX3_giveBack_32 : decode cX3_giveBack 32 = .ok (.invokevirtual 30, 3) := by decide +kernel
theorem dX3_giveBack_35 : decode cX3_giveBack 35 = .ok (.aload_n 0, 1) := by decide +kernel
theorem dX3_giveBack_36 : decode cX3_giveBack 36 = .ok (.getfield 15, 3) := by decide +kernel
theorem dX3_giveBack_39 : decode cX3_giveBack 39 = .ok (.iload_n 2, 1) := by decide +kernel
theorem dX3_giveBack_40 : decode cX3_giveBack 40 = .ok (.iaload, 1) := by decide +kernel
theorem dX3_giveBack_41 : decode cX3_giveBack 41 = .ok (.putfield 39, 3) := by decide +kernel
theorem dX3_giveBack_44 : decode cX3_giveBack 44 = .ok (.iinc 2 1, 3) := by decide +kernel
theorem dX3_giveBack_47 : decode cX3_giveBack 47 = .ok (.goto (-45), 3) := by decide +kernel
theorem dX3_giveBack_50 : decode cX3_giveBack 50 = .ok (.aload_n 0, 1) := by decide +kernel
theorem dX3_giveBack_51 : decode cX3_giveBack 51 = .ok (.getfield 22, 3) := by decide +kernel
theorem dX3_giveBack_54 : decode cX3_giveBack 54 = .ok (.ireturn, 1) := by decide +kernel
theorem dX4_init_0 : decode cX4_init 0 = .ok (.aload_n 0, 1) := by decide +kernel
theorem dX4_init_1 : decode cX4_init 1 = .ok (.invokespecial 3, 3) := by decide +kernel
theorem dX4_init_4 : decode cX4_init 4 = .ok (.return_, 1) := by decide +kernel
theorem dX4_become_0 : decode cX4_become 0 = .ok (.aload_n 0, 1) := by decide +kernel
theorem dX4_become_1 : decode cX4_become 1 = .ok (.iload_n 1, 1) := by decide +kernel
theorem dX4_become_2 : decode cX4_become 2 = .ok (.putfield 9, 3) := by decide +kernel
theorem dX4_become_5 : decode cX4_become 5 = .ok (.aload_n 0, 1) := by decide +kernel
theorem dX4_become_6 : decode cX4_become 6 = .ok (.iload_n 2, 1) := by decide +kernel
theorem dX4_become_7 : decode cX4_become 7 = .ok (.putfield 15, 3) := by decide +kernel
theorem dX4_become_10 : decode cX4_become 10 = .ok (.aload_n 0, 1) := by decide +kernel
theorem dX4_become_11 : decode cX4_become 11 = .ok (.iload_n 3, 1) := by decide +kernel
theorem dX4_become_12 : decode cX4_become 12 = .ok (.putfield 18, 3) := by decide +kernel
theorem dX4_become_15 : decode cX4_become 15 = .ok (.aload_n 0, 1) := by decide +kernel
theorem dX4_become_16 : decode cX4_become 16 = .ok (.aload_n 0, 1) := by decide +kernel
theorem dX4_become_17 : decode cX4_become 17 = .ok (.iconst 1, 1) := by decide +kernel
theorem dX4_become_18 : decode cX4_become 18 = .ok (.invokevirtual 21, 3) := by decide +kernel
theorem dX4_become_21 : decode cX4_become 21 = .ok (.putfield 25, 3) := by decide +kernel
theorem dX4_become_24 : decode cX4_become 24 = .ok (.aload_n 0, 1) := by decide +kernel
theorem dX4_become_25 : decode cX4_become 25 = .ok (.aload_n 0, 1) := by decide +kernel
theorem dX4_become_26 : decode cX4_become 26 = .ok (.getfield 25, 3) := by decide +kernel
theorem dX4_become_29 : decode cX4_become 29 = .ok (.ifCond .eq 12, 3) := by decide +kernel
theorem dX4_become_32 : decode cX4_become 32 = .ok (.iconst 2, 1) := by decide +kernel
theorem dX4_become_33 : decode cX4_become 33 = .ok (.aload_n 0, 1) := by decide +kernel
theorem dX4_become_34 : decode cX4_become 34 = .ok (.getfield 15, 3) := by decide +kernel
theorem dX4_become_37 : decode cX4_become 37 = .ok (.imul, 1) := by decide +kernel
theorem dX4_become_38 : decode cX4_become 38 = .ok (.goto 7, 3) := by decide +kernel
theorem dX4_become_41 : decode cX4_become 41 = .ok (.aload_n 0, 1) := by decide +kernel
theorem dX4_become_42 : decode cX4_become 42 = .ok (.getfield 15, 3) := by decide +kernel
theorem dX4_become_45 : decode cX4_become 45 = .ok (.putfield 29, 3) := by decide +kernel
theorem dX4_become_48 : decode cX4_become 48 = .ok (.aload_n 0, 1) := by decide +kernel
theorem dX4_become_49 : decode cX4_become 49 = .ok (.aload_n 0, 1) := by decide +kernel
theorem dX4_become_50 : decode cX4_become 50 = .ok (.iconst 2, 1) := by decide +kernel
theorem dX4_become_51 : decode cX4_become 51 = .ok (.invokevirtual 21, 3) := by decide +kernel
theorem dX4_become_54 : decode cX4_become 54 = .ok (.ifCond .eq 8, 3) := by decide +kernel
theorem dX4_become_57 : decode cX4_become 57 = .ok (.bipush 10, 2) := by decide +kernel
theorem dX4_become_59 : decode cX4_become 59 = .ok (.goto 4, 3) := by decide +kernel
theorem dX4_become_62 : decode cX4_become 62 = .ok (.iconst 0, 1) := by decide +kernel
theorem dX4_become_63 : decode cX4_become 63 = .ok (.putfield 32, 3) := by decide +kernel
theorem dX4_become_66 : decode cX4_become 66 = .ok (.aload_n 0, 1) := by decide +kernel
theorem dX4_become_67 : decode cX4_become 67 = .ok (.aload_n 0, 1) := by decide +kernel
theorem dX4_become_68 : decode cX4_become 68 = .ok (.iconst 3, 1) := by decide +kernel
theorem dX4_become_69 : decode cX4_become 69 = .ok (.invokevirtual 21, 3) := by decide +kernel
theorem dX4_become_72 : decode cX4_become 72 = .ok (.ifCond .ne 11, 3) := by decide +kernel
theorem dX4_become_75 : decode cX4_become 75 = .ok (.aload_n 0, 1) := by decide +kernel
theorem dX4_become_76 : decode cX4_become 76 = .ok (.iconst 4, 1) := by decide +kernel
theorem dX4_become_77 : decode cX4_become 77 = .ok (.invokevirtual 21, 3) := by decide +kernel
theorem dX4_become_80 : decode cX4_become 80 = .ok (.ifCond .eq 7, 3) := by decide +kernel
theorem dX4_become_83 : decode cX4_become 83 = .ok (.iconst 0, 1) := by decide +kernel
theorem dX4_become_84 : decode cX4_become 84 = .ok (.goto 7, 3) := by decide +kernel
theorem dX4_become_87 : decode cX4_become 87 = .ok (.aload_n 0, 1) := by decide +kernel
theorem dX4_become_88 : decode cX4_become 88 = .ok (.getfield 18, 3) := by decide +kernel
theorem dX4_become_91 : decode cX4_become 91 = .ok (.putfield 35, 3) := by decide +kernel
theorem dX4_become_94 : decode cX4_become 94 = .ok (.return_, 1) := by decide +kernel
theorem dX4_isA_0 : decode cX4_isA 0 = .ok (.iload_n 1, 1) := by decide +kernel
theorem dX4_isA_1 : decode cX4_isA 1 = .ok (.ifCond .eq 24, 3) := by decide +kernel
theorem dX4_isA_4 : decode cX4_isA 4 = .ok (.iload_n 1, 1) := by decide +kernel
theorem dX4_isA_5 : decode cX4_isA 5 = .ok (.aload_n 0, 1) := by decide +kernel
theorem dX4_isA_6 : decode cX4_isA 6 = .ok (.getfield 9, 3) := by decide +kernel
theorem dX4_isA_9 : decode cX4_isA 9 = .ok (.if_icmp .eq 16, 3) := by decide +kernel
theorem dX4_isA_12 : decode cX4_isA 12 = .ok (.iload_n 1, 1) := by decide +kernel
theorem dX4_isA_13 : decode cX4_isA 13 = .ok (.iconst 2, 1) := by decide +kernel
theorem dX4_isA_14 : decode cX4_isA 14 = .ok (.if_icmp .ne 15, 3) := by decide +kernel
theorem dX4_isA_17 : decode cX4_isA 17 = .ok (.aload_n 0, 1) := by decide +kernel
theorem dX4_isA_18 : decode cX4_isA 18 = .ok (.getfield 9, 3) := by decide +kernel
theorem dX4_isA_21 : decode cX4_isA 21 = .ok (.iconst 4, 1) := by decide +kernel
theorem dX4_isA_22 : decode cX4_isA 22 = .ok (.if_icmp .ne 7, 3) := by decide +kernel
theorem dX4_isA_25 : decode cX4_isA 25 = .ok (.iconst 1, 1) := by decide +kernel
theorem dX4_isA_26 : decode cX4_isA 26 = .ok (.goto 4, 3) := by decide +kernel
theorem dX4_isA_29 : decode cX4_isA 29 = .ok (.iconst 0, 1) := by decide +kernel
theorem dX4_isA_30 : decode cX4_isA 30 = .ok (.ireturn, 1) := by decide +kernel
theorem dX4_canBear_0 : decode cX4_canBear 0 = .ok (.aload_n 0, 1) := by decide +kernel
theorem dX4_canBear_1 : decode cX4_canBear 1 = .ok (.getfield 38, 3) := by decide +kernel
theorem dX4_canBear_4 : decode cX4_canBear 4 = .ok (.aload_n 0, 1) := by decide +kernel
theorem dX4_canBear_5 : decode cX4_canBear 5 = .ok (.getfield 32, 3) := by decide +kernel
theorem dX4_canBear_8 : decode cX4_canBear 8 = .ok (.iadd, 1) := by decide +kernel
theorem dX4_canBear_9 : decode cX4_canBear 9 = .ok (.ireturn, 1) := by decide +kernel
theorem dX4_loadUnder_0 : decode cX4_loadUnder 0 = .ok (.aload_n 0, 1) := by decide +kernel
theorem dX4_loadUnder_1 : decode cX4_loadUnder 1 = .ok (.getfield 25, 3) := by decide +kernel
theorem dX4_loadUnder_4 : decode cX4_loadUnder 4 = .ok (.ifCond .eq 11, 3) := by decide +kernel
theorem dX4_loadUnder_7 : decode cX4_loadUnder 7 = .ok (.iload_n 1, 1) := by decide +kernel
theorem dX4_loadUnder_8 : decode cX4_loadUnder 8 = .ok (.iconst 1, 1) := by decide +kernel
theorem dX4_loadUnder_9 : decode cX4_loadUnder 9 = .ok (.iadd, 1) := by decide +kernel
theorem dX4_loadUnder_10 : decode cX4_loadUnder 10 = .ok (.iconst 2, 1) := by decide +kernel
theorem dX4_loadUnder_11 : decode cX4_loadUnder 11 = .ok (.idiv, 1) := by decide +kernel
theorem dX4_loadUnder_12 : decode cX4_loadUnder 12 = .ok (.goto 4, 3) := by decide +kernel
theorem dX4_loadUnder_15 : decode cX4_loadUnder 15 = .ok (.iload_n 1, 1) := by decide +kernel
theorem dX4_loadUnder_16 : decode cX4_loadUnder 16 = .ok (.ireturn, 1) := by decide +kernel
theorem dX4_speak_0 : decode cX4_speak 0 = .ok (.iload_n 1, 1) := by decide +kernel
theorem dX4_speak_1 : decode cX4_speak 1 = .ok (.istore_n 2, 1) := by decide +kernel
theorem dX4_speak_2 : decode cX4_speak 2 = .ok (.aload_n 0, 1) := by decide +kernel
theorem dX4_speak_3 : decode cX4_speak 3 = .ok (.getfield 41, 3) := by decide +kernel
theorem dX4_speak_6 : decode cX4_speak 6 = .ok (.tableswitch 68 1 4 #[30, 40, 50, 60], 30) := by decide +kernel
theorem dX4_speak_36 : decode cX4_speak 36 = .ok (.iload_n 1, 1) := by decide +kernel
theorem dX4_speak_37 : decode cX4_speak 37 = .ok (.aload_n 0, 1) := by decide +kernel
theorem dX4_speak_38 : decode cX4_speak 38 = .ok (.getfield 44, 3) := by decide +kernel
theorem dX4_speak_41 : decode cX4_speak 41 = .ok (.iadd, 1) := by decide +kernel
theorem dX4_speak_42 : decode cX4_speak 42 = .ok (.istore_n 2, 1) := by decide +kernel
theorem dX4_speak_43 : decode cX4_speak 43 = .ok (.goto 31, 3) := by decide +kernel
theorem dX4_speak_46 : decode cX4_speak 46 = .ok (.iload_n 1, 1) := by decide +kernel
theorem dX4_speak_47 : decode cX4_speak 47 = .ok (.aload_n 0, 1) := by decide +kernel
theorem dX4_speak_48 : decode cX4_speak 48 = .ok (.getfield 44, 3) := by decide +kernel
theorem dX4_speak_51 : decode cX4_speak 51 = .ok (.isub, 1) := by decide +kernel
theorem dX4_speak_52 : decode cX4_speak 52 = .ok (.istore_n 2, 1) := by decide +kernel
theorem dX4_speak_53 : decode cX4_speak 53 = .ok (.goto 21, 3) := by decide +kernel
theorem dX4_speak_56 : decode cX4_speak 56 = .ok (.iload_n 1, 1) := by decide +kernel
theorem dX4_speak_57 : decode cX4_speak 57 = .ok (.aload_n 0, 1) := by decide +kernel
theorem dX4_speak_58 : decode cX4_speak 58 = .ok (.getfield 44, 3) := by decide +kernel
theorem dX4_speak_61 : decode cX4_speak 61 = .ok (.imul, 1) := by decide +kernel
theorem dX4_speak_62 : decode cX4_speak 62 = .ok (.istore_n 2, 1) := by decide +kernel
theorem dX4_speak_63 : decode cX4_speak 63 = .ok (.goto 11, 3) := by decide +kernel
theorem dX4_speak_66 : decode cX4_speak 66 = .ok (.aload_n 0, 1) := by decide +kernel
theorem dX4_speak_67 : decode cX4_speak 67 = .ok (.getfield 44, 3) := by decide +kernel
theorem dX4_speak_70 : decode cX4_speak 70 = .ok (.istore_n 2, 1) := by decide +kernel
theorem dX4_speak_71 : decode cX4_speak 71 = .ok (.goto 3, 3) := by decide +kernel
theorem dX4_speak_74 : decode cX4_speak 74 = .ok (.iconst 0, 1) := by decide +kernel
theorem dX4_speak_75 : decode cX4_speak 75 = .ok (.sipush 999, 3) := by decide +kernel
theorem dX4_speak_78 : decode cX4_speak 78 = .ok (.iload_n 2, 1) := by decide +kernel
theorem dX4_speak_79 : decode cX4_speak 79 = .ok (.invokestatic 47, 3) := by decide +kernel
theorem dX4_speak_82 : decode cX4_speak 82 = .ok (.invokestatic 53, 3) := by decide +kernel
theorem dX4_speak_85 : decode cX4_speak 85 = .ok (.ireturn, 1) := by decide +kernel
theorem dX5_init_0 : decode cX5_init 0 = .ok (.aload_n 0, 1) := by decide +kernel
theorem dX5_init_1 : decode cX5_init 1 = .ok (.invokespecial 3, 3) := by decide +kernel
theorem dX5_init_4 : decode cX5_init 4 = .ok (.aload_n 0, 1) := by decide +kernel
theorem dX5_init_5 : decode cX5_init 5 = .ok (.bipush 32, 2) := by decide +kernel
theorem dX5_init_7 : decode cX5_init 7 = .ok (.newarray .int, 2) := by decide +kernel
theorem dX5_init_9 : decode cX5_init 9 = .ok (.putfield 11, 3) := by decide +kernel
theorem dX5_init_12 : decode cX5_init 12 = .ok (.return_, 1) := by decide +kernel
theorem dX5_lettersIn_0 : decode cX5_lettersIn 0 = .ok (.iconst 0, 1) := by decide +kernel
theorem dX5_lettersIn_1 : decode cX5_lettersIn 1 = .ok (.istore_n 2, 1) := by decide +kernel
theorem dX5_lettersIn_2 : decode cX5_lettersIn 2 = .ok (.iconst 0, 1) := by decide +kernel
theorem dX5_lettersIn_3 : decode cX5_lettersIn 3 = .ok (.istore_n 3, 1) := by decide +kernel
theorem dX5_lettersIn_4 : decode cX5_lettersIn 4 = .ok (.iconst 0, 1) := by decide +kernel
theorem dX5_lettersIn_5 : decode cX5_lettersIn 5 = .ok (.istore 4, 2) := by decide +kernel
theorem dX5_lettersIn_7 : decode cX5_lettersIn 7 = .ok (.iload 4, 2) := by decide +kernel
theorem dX5_lettersIn_9 : decode cX5_lettersIn 9 = .ok (.bipush 8, 2) := by decide +kernel
theorem dX5_lettersIn_11 : decode cX5_lettersIn 11 = .ok (.if_icmp .ge 58, 3) := by decide +kernel
theorem dX5_lettersIn_14 : decode cX5_lettersIn 14 = .ok (.lload_n 0, 1) := by decide +kernel
theorem dX5_lettersIn_15 : decode cX5_lettersIn 15 = .ok (.iload 4, 2) := by decide +kernel
theorem dX5_lettersIn_17 : decode cX5_lettersIn 17 = .ok (.invokestatic 15, 3) := by decide +kernel
theorem dX5_lettersIn_20 : decode cX5_lettersIn 20 = .ok (.istore 5, 2) := by decide +kernel
theorem dX5_lettersIn_22 : decode cX5_lettersIn 22 = .ok (.iload 5, 2) := by decide +kernel
theorem dX5_lettersIn_24 : decode cX5_lettersIn 24 = .ok (.bipush 126, 2) := by decide +kernel
theorem dX5_lettersIn_26 : decode cX5_lettersIn 26 = .ok (.if_icmp .gt 12, 3) := by decide +kernel
theorem dX5_lettersIn_29 : decode cX5_lettersIn 29 = .ok (.iload_n 3, 1) := by decide +kernel
theorem dX5_lettersIn_30 : decode cX5_lettersIn 30 = .ok (.ifCond .eq 10, 3) := by decide +kernel
theorem dX5_lettersIn_33 : decode cX5_lettersIn 33 = .ok (.iload 5, 2) := by decide +kernel
theorem dX5_lettersIn_35 : decode cX5_lettersIn 35 = .ok (.ifCond .eq 5, 3) := by decide +kernel
theorem dX5_lettersIn_38 : decode cX5_lettersIn 38 = .ok (.iconst (-1), 1) := by decide +kernel
theorem dX5_lettersIn_39 : decode cX5_lettersIn 39 = .ok (.ireturn, 1) := by decide +kernel
theorem dX5_lettersIn_40 : decode cX5_lettersIn 40 = .ok (.iload 5, 2) := by decide +kernel
theorem dX5_lettersIn_42 : decode cX5_lettersIn 42 = .ok (.ifCond .ne 7, 3) := by decide +kernel
theorem dX5_lettersIn_45 : decode cX5_lettersIn 45 = .ok (.iconst 1, 1) := by decide +kernel
theorem dX5_lettersIn_46 : decode cX5_lettersIn 46 = .ok (.goto 4, 3) := by decide +kernel
theorem dX5_lettersIn_49 : decode cX5_lettersIn 49 = .ok (.iconst 0, 1) := by decide +kernel
theorem dX5_lettersIn_50 : decode cX5_lettersIn 50 = .ok (.istore_n 3, 1) := by decide +kernel
theorem dX5_lettersIn_51 : decode cX5_lettersIn 51 = .ok (.iload_n 2, 1) := by decide +kernel
theorem dX5_lettersIn_52 : decode cX5_lettersIn 52 = .ok (.iload_n 3, 1) := by decide +kernel
theorem dX5_lettersIn_53 : decode cX5_lettersIn 53 = .ok (.ifCond .eq 7, 3) := by decide +kernel
theorem dX5_lettersIn_56 : decode cX5_lettersIn 56 = .ok (.iconst 0, 1) := by decide +kernel
theorem dX5_lettersIn_57 : decode cX5_lettersIn 57 = .ok (.goto 4, 3) := by decide +kernel
theorem dX5_lettersIn_60 : decode cX5_lettersIn 60 = .ok (.iconst 1, 1) := by decide +kernel
theorem dX5_lettersIn_61 : decode cX5_lettersIn 61 = .ok (.iadd, 1) := by decide +kernel
theorem dX5_lettersIn_62 : decode cX5_lettersIn 62 = .ok (.istore_n 2, 1) := by decide +kernel
theorem dX5_lettersIn_63 : decode cX5_lettersIn 63 = .ok (.iinc 4 1, 3) := by decide +kernel
theorem dX5_lettersIn_66 : decode cX5_lettersIn 66 = .ok (.goto (-59), 3) := by decide +kernel
theorem dX5_lettersIn_69 : decode cX5_lettersIn 69 = .ok (.iload_n 2, 1) := by decide +kernel
theorem dX5_lettersIn_70 : decode cX5_lettersIn 70 = .ok (.ireturn, 1) := by decide +kernel
theorem dX5_codeIn_0 : decode cX5_codeIn 0 = .ok (.lload_n 0, 1) := by decide +kernel
theorem dX5_codeIn_1 : decode cX5_codeIn 1 = .ok (.bipush 8, 2) := by decide +kernel
theorem dX5_codeIn_3 : decode cX5_codeIn 3 = .ok (.iload_n 2, 1) := by decide +kernel
theorem dX5_codeIn_4 : decode cX5_codeIn 4 = .ok (.imul, 1) := by decide +kernel
theorem dX5_codeIn_5 : decode cX5_codeIn 5 = .ok (.lushr, 1) := by decide +kernel
theorem dX5_codeIn_6 : decode cX5_codeIn 6 = .ok (.l2i, 1) := by decide +kernel
theorem dX5_codeIn_7 : decode cX5_codeIn 7 = .ok (.sipush 255, 3) := by decide +kernel
theorem dX5_codeIn_10 : decode cX5_codeIn 10 = .ok (.iand, 1) := by decide +kernel
theorem dX5_codeIn_11 : decode cX5_codeIn 11 = .ok (.ireturn, 1) := by decide +kernel
theorem dX5_hasRoomFor_0 : decode cX5_hasRoomFor 0 = .ok (.aload_n 0, 1) := by decide +kernel
theorem dX5_hasRoomFor_1 : decode cX5_hasRoomFor 1 = .ok (.getfield 19, 3) := by decide +kernel
theorem dX5_hasRoomFor_4 : decode cX5_hasRoomFor 4 = .ok (.iload_n 1, 1) := by decide +kernel
theorem dX5_hasRoomFor_5 : decode cX5_hasRoomFor 5 = .ok (.iadd, 1) := by decide +kernel
theorem dX5_hasRoomFor_6 : decode cX5_hasRoomFor 6 = .ok (.bipush 32, 2) := by decide +kernel
theorem dX5_hasRoomFor_8 : decode cX5_hasRoomFor 8 = .ok (.if_icmp .gt 7, 3) := by decide +kernel
theorem dX5_hasRoomFor_11 : decode cX5_hasRoomFor 11 = .ok (.iconst 1, 1) := by decide +kernel
theorem dX5_hasRoomFor_12 : decode cX5_hasRoomFor 12 = .ok (.goto 4, 3) := by decide +kernel
theorem dX5_hasRoomFor_15 : decode cX5_hasRoomFor 15 = .ok (.iconst 0, 1) := by decide +kernel
theorem dX5_hasRoomFor_16 : decode cX5_hasRoomFor 16 = .ok (.ireturn, 1) := by decide +kernel
theorem dX5_add_0 : decode cX5_add 0 = .ok (.iconst 0, 1) := by decide +kernel
theorem dX5_add_1 : decode cX5_add 1 = .ok (.istore 4, 2) := by decide +kernel
theorem dX5_add_3 : decode cX5_add 3 = .ok (.iload 4, 2) := by decide +kernel
theorem dX5_add_5 : decode cX5_add 5 = .ok (.iload_n 3, 1) := by decide +kernel
theorem dX5_add_6 : decode cX5_add 6 = .ok (.if_icmp .ge 43, 3) := by decide +kernel
theorem dX5_add_9 : decode cX5_add 9 = .ok (.aload_n 0, 1) := by decide +kernel
theorem dX5_add_10 : decode cX5_add 10 = .ok (.getfield 19, 3) := by decide +kernel
theorem dX5_add_13 : decode cX5_add 13 = .ok (.bipush 32, 2) := by decide +kernel
theorem dX5_add_15 : decode cX5_add 15 = .ok (.if_icmp .ge 34, 3) := by decide +kernel
theorem dX5_add_18 : decode cX5_add 18 = .ok (.aload_n 0, 1) := by decide +kernel
theorem dX5_add_19 : decode cX5_add 19 = .ok (.getfield 11, 3) := by decide +kernel
theorem dX5_add_22 : decode cX5_add 22 = .ok (.aload_n 0, 1) := by decide +kernel
theorem dX5_add_23 : decode cX5_add 23 = .ok (.getfield 19, 3) := by decide +kernel
theorem dX5_add_26 : decode cX5_add 26 = .ok (.lload_n 1, 1) := by decide +kernel
theorem dX5_add_27 : decode cX5_add 27 = .ok (.iload 4, 2) := by decide +kernel
theorem dX5_add_29 : decode cX5_add 29 = .ok (.invokestatic 15, 3) := by decide +kernel
theorem dX5_add_32 : decode cX5_add 32 = .ok (.iastore, 1) := by decide +kernel
theorem dX5_add_33 : decode cX5_add 33 = .ok (.aload_n 0, 1) := by decide +kernel
theorem dX5_add_34 : decode cX5_add 34 = .ok (.dup, 1) := by decide +kernel
theorem dX5_add_35 : decode cX5_add 35 = .ok (.getfield 19, 3) := by decide +kernel
theorem dX5_add_38 : decode cX5_add 38 = .ok (.iconst 1, 1) := by decide +kernel
theorem dX5_add_39 : decode cX5_add 39 = .ok (.iadd, 1) := by decide +kernel
theorem dX5_add_40 : decode cX5_add 40 = .ok (.putfield 19, 3) := by decide +kernel
theorem dX5_add_43 : decode cX5_add 43 = .ok (.iinc 4 1, 3) := by decide +kernel
theorem dX5_add_46 : decode cX5_add 46 = .ok (.goto (-43), 3) := by decide +kernel
theorem dX5_add_49 : decode cX5_add 49 = .ok (.return_, 1) := by decide +kernel
theorem dX5_clear_0 : decode cX5_clear 0 = .ok (.aload_n 0, 1) := by decide +kernel
theorem dX5_clear_1 : decode cX5_clear 1 = .ok (.iconst 0, 1) := by decide +kernel
theorem dX5_clear_2 : decode cX5_clear 2 = .ok (.putfield 19, 3) := by decide +kernel
theorem dX5_clear_5 : decode cX5_clear 5 = .ok (.return_, 1) := by decide +kernel
theorem dX5_length_0 : decode cX5_length 0 = .ok (.aload_n 0, 1) := by decide +kernel
theorem dX5_length_1 : decode cX5_length 1 = .ok (.getfield 19, 3) := by decide +kernel
theorem dX5_length_4 : decode cX5_length 4 = .ok (.ireturn, 1) := by decide +kernel
theorem dX5_letter_0 : decode cX5_letter 0 = .ok (.iload_n 1, 1) := by decide +kernel
theorem dX5_letter_1 : decode cX5_letter 1 = .ok (.ifCond .lt 26, 3) := by decide +kernel
theorem dX5_letter_4 : decode cX5_letter 4 = .ok (.iload_n 1, 1) := by decide +kernel
theorem dX5_letter_5 : decode cX5_letter 5 = .ok (.aload_n 0, 1) := by decide +kernel
theorem dX5_letter_6 : decode cX5_letter 6 = .ok (.getfield 19, 3) := by decide +kernel
theorem dX5_letter_9 : decode cX5_letter 9 = .ok (.if_icmp .ge 18, 3) := by decide +kernel
theorem dX5_letter_12 : decode cX5_letter 12 = .ok (.iload_n 1, 1) := by decide +kernel
theorem dX5_letter_13 : decode cX5_letter 13 = .ok (.bipush 32, 2) := by decide +kernel
theorem dX5_letter_15 : decode cX5_letter 15 = .ok (.if_icmp .ge 12, 3) := by decide +kernel
theorem dX5_letter_18 : decode cX5_letter 18 = .ok (.aload_n 0, 1) := by decide +kernel
theorem dX5_letter_19 : decode cX5_letter 19 = .ok (.getfield 11, 3) := by decide +kernel
theorem dX5_letter_22 : decode cX5_letter 22 = .ok (.iload_n 1, 1) := by decide +kernel
theorem dX5_letter_23 : decode cX5_letter 23 = .ok (.iaload, 1) := by decide +kernel
theorem dX5_letter_24 : decode cX5_letter 24 = .ok (.goto 4, 3) := by decide +kernel
theorem dX5_letter_27 : decode cX5_letter 27 = .ok (.iconst 0, 1) := by decide +kernel
theorem dX5_letter_28 : decode cX5_letter 28 = .ok (.ireturn, 1) := by decide +kernel
theorem dX5_faultOf_0 : decode cX5_faultOf 0 = .ok (.aload_n 1, 1) := by decide +kernel
theorem dX5_faultOf_1 : decode cX5_faultOf 1 = .ok (.invokevirtual 23, 3) := by decide +kernel
theorem dX5_faultOf_4 : decode cX5_faultOf 4 = .ok (.iconst 0, 1) := by decide +kernel
theorem dX5_faultOf_5 : decode cX5_faultOf 5 = .ok (.istore_n 2, 1) := by decide +kernel
theorem dX5_faultOf_6 : decode cX5_faultOf 6 = .ok (.iload_n 2, 1) := by decide +kernel
theorem dX5_faultOf_7 : decode cX5_faultOf 7 = .ok (.aload_n 0, 1) := by decide +kernel
theorem dX5_faultOf_8 : decode cX5_faultOf 8 = .ok (.getfield 19, 3) := by decide +kernel
theorem dX5_faultOf_11 : decode cX5_faultOf 11 = .ok (.if_icmp .ge 23, 3) := by decide +kernel
theorem dX5_faultOf_14 : decode cX5_faultOf 14 = .ok (.aload_n 1, 1) := by decide +kernel
theorem dX5_faultOf_15 : decode cX5_faultOf 15 = .ok (.aload_n 0, 1) := by decide +kernel
theorem dX5_faultOf_16 : decode cX5_faultOf 16 = .ok (.iload_n 2, 1) := by decide +kernel
theorem dX5_faultOf_17 : decode cX5_faultOf 17 = .ok (.invokevirtual 28, 3) := by decide +kernel
theorem dX5_faultOf_20 : decode cX5_faultOf 20 = .ok (.invokevirtual 32, 3) := by decide +kernel
theorem dX5_faultOf_23 : decode cX5_faultOf 23 = .ok (.ifCond .ne 5, 3) := by decide +kernel
theorem dX5_faultOf_26 : decode cX5_faultOf 26 = .ok (.iload_n 2, 1) := by decide +kernel
theorem dX5_faultOf_27 : decode cX5_faultOf 27 = .ok (.ireturn, 1) := by decide +kernel
theorem dX5_faultOf_28 : decode cX5_faultOf 28 = .ok (.iinc 2 1, 3) := by decide +kernel
theorem dX5_faultOf_31 : decode cX5_faultOf 31 = .ok (.goto (-25), 3) := by decide +kernel
theorem dX5_faultOf_34 : decode cX5_faultOf 34 = .ok (.aload_n 0, 1) := by decide +kernel
theorem dX5_faultOf_35 : decode cX5_faultOf 35 = .ok (.getfield 19, 3) := by decide +kernel
theorem dX5_faultOf_38 : decode cX5_faultOf 38 = .ok (.ireturn, 1) := by decide +kernel
theorem dX5_isWhole_0 : decode cX5_isWhole 0 = .ok (.aload_n 0, 1) := by decide +kernel
theorem dX5_isWhole_1 : decode cX5_isWhole 1 = .ok (.aload_n 1, 1) := by decide +kernel
theorem dX5_isWhole_2 : decode cX5_isWhole 2 = .ok (.invokevirtual 36, 3) := by decide +kernel
theorem dX5_isWhole_5 : decode cX5_isWhole 5 = .ok (.aload_n 0, 1) := by decide +kernel
theorem dX5_isWhole_6 : decode cX5_isWhole 6 = .ok (.getfield 19, 3) := by decide +kernel
theorem dX5_isWhole_9 : decode cX5_isWhole 9 = .ok (.if_icmp .ne 14, 3) := by decide +kernel
theorem dX5_isWhole_12 : decode cX5_isWhole 12 = .ok (.aload_n 1, 1) := by decide +kernel
theorem dX5_isWhole_13 : decode cX5_isWhole 13 = .ok (.invokevirtual 40, 3) := by decide +kernel
theorem dX5_isWhole_16 : decode cX5_isWhole 16 = .ok (.ifCond .eq 7, 3) := by decide +kernel
theorem dX5_isWhole_19 : decode cX5_isWhole 19 = .ok (.iconst 1, 1) := by decide +kernel
theorem dX5_isWhole_20 : decode cX5_isWhole 20 = .ok (.goto 4, 3) := by decide +kernel
theorem dX5_isWhole_23 : decode cX5_isWhole 23 = .ok (.iconst 0, 1) := by decide +kernel
theorem dX5_isWhole_24 : decode cX5_isWhole 24 = .ok (.ireturn, 1) := by decide +kernel
theorem dX6_with_0 : decode cX6_with 0 = .ok (.iload_n 0, 1) := by decide +kernel
theorem dX6_with_1 : decode cX6_with 1 = .ok (.iconst 3, 1) := by decide +kernel
theorem dX6_with_2 : decode cX6_with 2 = .ok (.ishl, 1) := by decide +kernel
theorem dX6_with_3 : decode cX6_with 3 = .ok (.iload_n 1, 1) := by decide +kernel
theorem dX6_with_4 : decode cX6_with 4 = .ok (.iconst 1, 1) := by decide +kernel
theorem dX6_with_5 : decode cX6_with 5 = .ok (.iadd, 1) := by decide +kernel
theorem dX6_with_6 : decode cX6_with 6 = .ok (.bipush 7, 2) := by decide +kernel
theorem dX6_with_8 : decode cX6_with 8 = .ok (.iand, 1) := by decide +kernel
theorem dX6_with_9 : decode cX6_with 9 = .ok (.ior, 1) := by decide +kernel
theorem dX6_with_10 : decode cX6_with 10 = .ok (.ireturn, 1) := by decide +kernel
theorem dX6_top_0 : decode cX6_top 0 = .ok (.iload_n 0, 1) := by decide +kernel
theorem dX6_top_1 : decode cX6_top 1 = .ok (.bipush 7, 2) := by decide +kernel
theorem dX6_top_3 : decode cX6_top 3 = .ok (.iand, 1) := by decide +kernel
theorem dX6_top_4 : decode cX6_top 4 = .ok (.iconst 1, 1) := by decide +kernel
theorem dX6_top_5 : decode cX6_top 5 = .ok (.isub, 1) := by decide +kernel
theorem dX6_top_6 : decode cX6_top 6 = .ok (.ireturn, 1) := by decide +kernel
theorem dX6_belowTop_0 : decode cX6_belowTop 0 = .ok (.iload_n 0, 1) := by decide +kernel
theorem dX6_belowTop_1 : decode cX6_belowTop 1 = .ok (.iconst 3, 1) := by decide +kernel
theorem dX6_belowTop_2 : decode cX6_belowTop 2 = .ok (.iushr, 1) := by decide +kernel
theorem dX6_belowTop_3 : decode cX6_belowTop 3 = .ok (.ireturn, 1) := by decide +kernel
theorem dX6_size_0 : decode cX6_size 0 = .ok (.iconst 0, 1) := by decide +kernel
theorem dX6_size_1 : decode cX6_size 1 = .ok (.istore_n 1, 1) := by decide +kernel
theorem dX6_size_2 : decode cX6_size 2 = .ok (.iload_n 1, 1) := by decide +kernel
theorem dX6_size_3 : decode cX6_size 3 = .ok (.bipush 7, 2) := by decide +kernel
theorem dX6_size_5 : decode cX6_size 5 = .ok (.if_icmp .ge 17, 3) := by decide +kernel
theorem dX6_size_8 : decode cX6_size 8 = .ok (.iload_n 0, 1) := by decide +kernel
theorem dX6_size_9 : decode cX6_size 9 = .ok (.iconst 3, 1) := by decide +kernel
theorem dX6_size_10 : decode cX6_size 10 = .ok (.iload_n 1, 1) := by decide +kernel
theorem dX6_size_11 : decode cX6_size 11 = .ok (.imul, 1) := by decide +kernel
theorem dX6_size_12 : decode cX6_size 12 = .ok (.iushr, 1) := by decide +kernel
theorem dX6_size_13 : decode cX6_size 13 = .ok (.ifCond .eq 9, 3) := by decide +kernel
theorem dX6_size_16 : decode cX6_size 16 = .ok (.iinc 1 1, 3) := by decide +kernel
theorem dX6_size_19 : decode cX6_size 19 = .ok (.goto (-17), 3) := by decide +kernel
theorem dX6_size_22 : decode cX6_size 22 = .ok (.iload_n 1, 1) := by decide +kernel
theorem dX6_size_23 : decode cX6_size 23 = .ok (.ireturn, 1) := by decide +kernel
theorem dX6_memberAt_0 : decode cX6_memberAt 0 = .ok (.iload_n 0, 1) := by decide +kernel
theorem dX6_memberAt_1 : decode cX6_memberAt 1 = .ok (.invokestatic 9, 3) := by decide +kernel
theorem dX6_memberAt_4 : decode cX6_memberAt 4 = .ok (.istore_n 2, 1) := by decide +kernel
theorem dX6_memberAt_5 : decode cX6_memberAt 5 = .ok (.iload_n 1, 1) := by decide +kernel
theorem dX6_memberAt_6 : decode cX6_memberAt 6 = .ok (.iconst 1, 1) := by decide +kernel
theorem dX6_memberAt_7 : decode cX6_memberAt 7 = .ok (.if_icmp .lt 8, 3) := by decide +kernel
theorem dX6_memberAt_10 : decode cX6_memberAt 10 = .ok (.iload_n 1, 1) := by decide +kernel
theorem dX6_memberAt_11 : decode cX6_memberAt 11 = .ok (.iload_n 2, 1) := by decide +kernel
theorem dX6_memberAt_12 : decode cX6_memberAt 12 = .ok (.if_icmp .le 5, 3) := by decide +kernel
theorem dX6_memberAt_15 : decode cX6_memberAt 15 = .ok (.iconst (-1), 1) := by decide +kernel
theorem dX6_memberAt_16 : decode cX6_memberAt 16 = .ok (.ireturn, 1) := by decide +kernel
theorem dX6_memberAt_17 : decode cX6_memberAt 17 = .ok (.iload_n 0, 1) := by decide +kernel
theorem dX6_memberAt_18 : decode cX6_memberAt 18 = .ok (.iconst 3, 1) := by decide +kernel
theorem dX6_memberAt_19 : decode cX6_memberAt 19 = .ok (.iload_n 2, 1) := by decide +kernel
theorem dX6_memberAt_20 : decode cX6_memberAt 20 = .ok (.iload_n 1, 1) := by decide +kernel
theorem dX6_memberAt_21 : decode cX6_memberAt 21 = .ok (.isub, 1) := by decide +kernel
theorem dX6_memberAt_22 : decode cX6_memberAt 22 = .ok (.imul, 1) := by decide +kernel
theorem dX6_memberAt_23 : decode cX6_memberAt 23 = .ok (.iushr, 1) := by decide +kernel
theorem dX6_memberAt_24 : decode cX6_memberAt 24 = .ok (.invokestatic 15, 3) := by decide +kernel
theorem dX6_memberAt_27 : decode cX6_memberAt 27 = .ok (.ireturn, 1) := by decide +kernel
theorem dX6_heightOf_0 : decode cX6_heightOf 0 = .ok (.iload_n 0, 1) := by decide +kernel
theorem dX6_heightOf_1 : decode cX6_heightOf 1 = .ok (.invokestatic 9, 3) := by decide +kernel
theorem dX6_heightOf_4 : decode cX6_heightOf 4 = .ok (.istore_n 2, 1) := by decide +kernel
theorem dX6_heightOf_5 : decode cX6_heightOf 5 = .ok (.iload_n 0, 1) := by decide +kernel
theorem dX6_heightOf_6 : decode cX6_heightOf 6 = .ok (.istore_n 3, 1) := by decide +kernel
theorem dX6_heightOf_7 : decode cX6_heightOf 7 = .ok (.iload_n 2, 1) := by decide +kernel
theorem dX6_heightOf_8 : decode cX6_heightOf 8 = .ok (.ifCond .le 22, 3) := by decide +kernel
theorem dX6_heightOf_11 : decode cX6_heightOf 11 = .ok (.iload_n 3, 1) := by decide +kernel
theorem dX6_heightOf_12 : decode cX6_heightOf 12 = .ok (.invokestatic 15, 3) := by decide +kernel
theorem dX6_heightOf_15 : decode cX6_heightOf 15 = .ok (.iload_n 1, 1) := by decide +kernel
theorem dX6_heightOf_16 : decode cX6_heightOf 16 = .ok (.if_icmp .eq 14, 3) := by decide +kernel
theorem dX6_heightOf_19 : decode cX6_heightOf 19 = .ok (.iload_n 3, 1) := by decide +kernel
theorem dX6_heightOf_20 : decode cX6_heightOf 20 = .ok (.invokestatic 18, 3) := by decide +kernel
theorem dX6_heightOf_23 : decode cX6_heightOf 23 = .ok (.istore_n 3, 1) := by decide +kernel
theorem dX6_heightOf_24 : decode cX6_heightOf 24 = .ok (.iinc 2 (-1), 3) := by decide +kernel
theorem dX6_heightOf_27 : decode cX6_heightOf 27 = .ok (.goto (-20), 3) := by decide +kernel
theorem dX6_heightOf_30 : decode cX6_heightOf 30 = .ok (.iload_n 2, 1) := by decide +kernel
theorem dX6_heightOf_31 : decode cX6_heightOf 31 = .ok (.ireturn, 1) := by decide +kernel
theorem dX6_members_0 : decode cX6_members 0 = .ok (.iconst 0, 1) := by decide +kernel
theorem dX6_members_1 : decode cX6_members 1 = .ok (.istore_n 1, 1) := by decide +kernel
theorem dX6_members_2 : decode cX6_members 2 = .ok (.iload_n 0, 1) := by decide +kernel
theorem dX6_members_3 : decode cX6_members 3 = .ok (.istore_n 2, 1) := by decide +kernel
theorem dX6_members_4 : decode cX6_members 4 = .ok (.iconst 0, 1) := by decide +kernel
theorem dX6_members_5 : decode cX6_members 5 = .ok (.istore_n 3, 1) := by decide +kernel
theorem dX6_members_6 : decode cX6_members 6 = .ok (.iload_n 3, 1) := by decide +kernel
theorem dX6_members_7 : decode cX6_members 7 = .ok (.bipush 7, 2) := by decide +kernel
theorem dX6_members_9 : decode cX6_members 9 = .ok (.if_icmp .ge 27, 3) := by decide +kernel
theorem dX6_members_12 : decode cX6_members 12 = .ok (.iload_n 2, 1) := by decide +kernel
theorem dX6_members_13 : decode cX6_members 13 = .ok (.ifCond .eq 23, 3) := by decide +kernel
theorem dX6_members_16 : decode cX6_members 16 = .ok (.iload_n 1, 1) := by decide +kernel
theorem dX6_members_17 : decode cX6_members 17 = .ok (.iconst 1, 1) := by decide +kernel
theorem dX6_members_18 : decode cX6_members 18 = .ok (.iload_n 2, 1) := by decide +kernel
theorem dX6_members_19 : decode cX6_members 19 = .ok (.invokestatic 15, 3) := by decide +kernel
theorem dX6_members_22 : decode cX6_members 22 = .ok (.ishl, 1) := by decide +kernel
theorem dX6_members_23 : decode cX6_members 23 = .ok (.ior, 1) := by decide +kernel
theorem dX6_members_24 : decode cX6_members 24 = .ok (.istore_n 1, 1) := by decide +kernel
theorem dX6_members_25 : decode cX6_members 25 = .ok (.iload_n 2, 1) := by decide +kernel
theorem dX6_members_26 : decode cX6_members 26 = .ok (.invokestatic 18, 3) := by decide +kernel
theorem dX6_members_29 : decode cX6_members 29 = .ok (.istore_n 2, 1) := by decide +kernel
theorem dX6_members_30 : decode cX6_members 30 = .ok (.iinc 3 1, 3) := by decide +kernel
theorem dX6_members_33 : decode cX6_members 33 = .ok (.goto (-27), 3) := by decide +kernel
theorem dX6_members_36 : decode cX6_members 36 = .ok (.iload_n 1, 1) := by decide +kernel
theorem dX6_members_37 : decode cX6_members 37 = .ok (.ireturn, 1) := by decide +kernel
theorem dX6_turned_0 : decode cX6_turned 0 = .ok (.iconst 0, 1) := by decide +kernel
theorem dX6_turned_1 : decode cX6_turned 1 = .ok (.istore_n 1, 1) := by decide +kernel
theorem dX6_turned_2 : decode cX6_turned 2 = .ok (.iload_n 0, 1) := by decide +kernel
theorem dX6_turned_3 : decode cX6_turned 3 = .ok (.istore_n 2, 1) := by decide +kernel
theorem dX6_turned_4 : decode cX6_turned 4 = .ok (.iconst 0, 1) := by decide +kernel
theorem dX6_turned_5 : decode cX6_turned 5 = .ok (.istore_n 3, 1) := by decide +kernel
theorem dX6_turned_6 : decode cX6_turned 6 = .ok (.iload_n 3, 1) := by decide +kernel
theorem dX6_turned_7 : decode cX6_turned 7 = .ok (.bipush 7, 2) := by decide +kernel
theorem dX6_turned_9 : decode cX6_turned 9 = .ok (.if_icmp .ge 27, 3) := by decide +kernel
theorem dX6_turned_12 : decode cX6_turned 12 = .ok (.iload_n 2, 1) := by decide +kernel
theorem dX6_turned_13 : decode cX6_turned 13 = .ok (.ifCond .eq 23, 3) := by decide +kernel
theorem dX6_turned_16 : decode cX6_turned 16 = .ok (.iload_n 1, 1) := by decide +kernel
theorem dX6_turned_17 : decode cX6_turned 17 = .ok (.iload_n 2, 1) := by decide +kernel
theorem dX6_turned_18 : decode cX6_turned 18 = .ok (.invokestatic 15, 3) := by decide +kernel
theorem dX6_turned_21 : decode cX6_turned 21 = .ok (.invokestatic 21, 3) := by decide +kernel
theorem dX6_turned_24 : decode cX6_turned 24 = .ok (.istore_n 1, 1) := by decide +kernel
theorem dX6_turned_25 : decode cX6_turned 25 = .ok (.iload_n 2, 1) := by decide +kernel
theorem dX6_turned_26 : decode cX6_turned 26 = .ok (.invokestatic 18, 3) := by decide +kernel
theorem dX6_turned_29 : decode cX6_turned 29 = .ok (.istore_n 2, 1) := by decide +kernel
theorem dX6_turned_30 : decode cX6_turned 30 = .ok (.iinc 3 1, 3) := by decide +kernel
theorem dX6_turned_33 : decode cX6_turned 33 = .ok (.goto (-27), 3) := by decide +kernel
theorem dX6_turned_36 : decode cX6_turned 36 = .ok (.iload_n 1, 1) := by decide +kernel
theorem dX6_turned_37 : decode cX6_turned 37 = .ok (.ireturn, 1) := by decide +kernel
theorem dX6_without_0 : decode cX6_without 0 = .ok (.iconst 0, 1) := by decide +kernel
theorem dX6_without_1 : decode cX6_without 1 = .ok (.istore_n 2, 1) := by decide +kernel
theorem dX6_without_2 : decode cX6_without 2 = .ok (.iload_n 0, 1) := by decide +kernel
theorem dX6_without_3 : decode cX6_without 3 = .ok (.invokestatic 9, 3) := by decide +kernel
theorem dX6_without_6 : decode cX6_without 6 = .ok (.istore_n 3, 1) := by decide +kernel
theorem dX6_without_7 : decode cX6_without 7 = .ok (.iconst 1, 1) := by decide +kernel
theorem dX6_without_8 : decode cX6_without 8 = .ok (.istore 4, 2) := by decide +kernel
theorem dX6_without_10 : decode cX6_without 10 = .ok (.iload 4, 2) := by decide +kernel
theorem dX6_without_12 : decode cX6_without 12 = .ok (.iload_n 3, 1) := by decide +kernel
theorem dX6_without_13 : decode cX6_without 13 = .ok (.if_icmp .gt 34, 3) := by decide +kernel
theorem dX6_without_16 : decode cX6_without 16 = .ok (.iload_n 0, 1) := by decide +kernel
theorem dX6_without_17 : decode cX6_without 17 = .ok (.iload 4, 2) := by decide +kernel
theorem dX6_without_19 : decode cX6_without 19 = .ok (.invokestatic 25, 3) := by decide +kernel
theorem dX6_without_22 : decode cX6_without 22 = .ok (.istore 5, 2) := by decide +kernel
theorem dX6_without_24 : decode cX6_without 24 = .ok (.iload 5, 2) := by decide +kernel
theorem dX6_without_26 : decode cX6_without 26 = .ok (.iload_n 1, 1) := by decide +kernel
theorem dX6_without_27 : decode cX6_without 27 = .ok (.if_icmp .ne 7, 3) := by decide +kernel
theorem dX6_without_30 : decode cX6_without 30 = .ok (.iload_n 2, 1) := by decide +kernel
theorem dX6_without_31 : decode cX6_without 31 = .ok (.goto 9, 3) := by decide +kernel
theorem dX6_without_34 : decode cX6_without 34 = .ok (.iload_n 2, 1) := by decide +kernel
theorem dX6_without_35 : decode cX6_without 35 = .ok (.iload 5, 2) := by decide +kernel
theorem dX6_without_37 : decode cX6_without 37 = .ok (.invokestatic 21, 3) := by decide +kernel
theorem dX6_without_40 : decode cX6_without 40 = .ok (.istore_n 2, 1) := by decide +kernel
theorem dX6_without_41 : decode cX6_without 41 = .ok (.iinc 4 1, 3) := by decide +kernel
theorem dX6_without_44 : decode cX6_without 44 = .ok (.goto (-34), 3) := by decide +kernel
theorem dX6_without_47 : decode cX6_without 47 = .ok (.iload_n 2, 1) := by decide +kernel
theorem dX6_without_48 : decode cX6_without 48 = .ok (.ireturn, 1) := by decide +kernel
theorem dX7_init_0 : decode cX7_init 0 = .ok (.aload_n 0, 1) := by decide +kernel
theorem dX7_init_1 : decode cX7_init 1 = .ok (.invokespecial 3, 3) := by decide +kernel
theorem dX7_init_4 : decode cX7_init 4 = .ok (.return_, 1) := by decide +kernel
theorem dX7_begin_0 : decode cX7_begin 0 = .ok (.aload_n 0, 1) := by decide +kernel
theorem dX7_begin_1 : decode cX7_begin 1 = .ok (.iconst 0, 1) := by decide +kernel
theorem dX7_begin_2 : decode cX7_begin 2 = .ok (.putfield 11, 3) := by decide +kernel
theorem dX7_begin_5 : decode cX7_begin 5 = .ok (.aload_n 0, 1) := by decide +kernel
theorem dX7_begin_6 : decode cX7_begin 6 = .ok (.iconst 0, 1) := by decide +kernel
theorem dX7_begin_7 : decode cX7_begin 7 = .ok (.putfield 15, 3) := by decide +kernel
theorem dX7_begin_10 : decode cX7_begin 10 = .ok (.aload_n 0, 1) := by decide +kernel
theorem dX7_begin_11 : decode cX7_begin 11 = .ok (.lconst 0, 1) := by decide +kernel
theorem dX7_begin_12 : decode cX7_begin 12 = .ok (.putfield 18, 3) := by decide +kernel
theorem dX7_begin_15 : decode cX7_begin 15 = .ok (.aload_n 0, 1) := by decide +kernel
theorem dX7_begin_16 : decode cX7_begin 16 = .ok (.iconst 0, 1) := by decide +kernel
theorem dX7_begin_17 : decode cX7_begin 17 = .ok (.putfield 22, 3) := by decide +kernel
theorem dX7_begin_20 : decode cX7_begin 20 = .ok (.aload_n 0, 1) := by decide +kernel
theorem dX7_begin_21 : decode cX7_begin 21 = .ok (.iconst 3, 1) := by decide +kernel
theorem dX7_begin_22 : decode cX7_begin 22 = .ok (.putfield 25, 3) := by decide +kernel
theorem dX7_begin_25 : decode cX7_begin 25 = .ok (.return_, 1) := by decide +kernel
theorem dX7_takes_0 : decode cX7_takes 0 = .ok (.aload_n 0, 1) := by decide +kernel
theorem dX7_takes_1 : decode cX7_takes 1 = .ok (.getfield 11, 3) := by decide +kernel
theorem dX7_takes_4 : decode cX7_takes 4 = .ok (.tableswitch 65 0 3 #[32, 41, 50, 56], 32) := by decide +kernel
theorem dX7_takes_36 : decode cX7_takes 36 = .ok (.aload_n 0, 1) := by decide +kernel
theorem dX7_takes_37 : decode cX7_takes 37 = .ok (.iload_n 1, 1) := by decide +kernel
theorem dX7_takes_38 : decode cX7_takes 38 = .ok (.bipush 48, 2) := by decide +kernel
theorem dX7_takes_40 : decode cX7_takes 40 = .ok (.isub, 1) := by decide +kernel
theorem dX7_takes_41 : decode cX7_takes 41 = .ok (.invokevirtual 28, 3) := by decide +kernel
theorem dX7_takes_44 : decode cX7_takes 44 = .ok (.ireturn, 1) := by decide +kernel
theorem dX7_takes_45 : decode cX7_takes 45 = .ok (.aload_n 0, 1) := by decide +kernel
theorem dX7_takes_46 : decode cX7_takes 46 = .ok (.iload_n 1, 1) := by decide +kernel
theorem dX7_takes_47 : decode cX7_takes 47 = .ok (.bipush 48, 2) := by decide +kernel
theorem dX7_takes_49 : decode cX7_takes 49 = .ok (.isub, 1) := by decide +kernel
theorem dX7_takes_50 : decode cX7_takes 50 = .ok (.invokevirtual 32, 3) := by decide +kernel
theorem dX7_takes_53 : decode cX7_takes 53 = .ok (.ireturn, 1) := by decide +kernel
theorem dX7_takes_54 : decode cX7_takes 54 = .ok (.aload_n 0, 1) := by decide +kernel
theorem dX7_takes_55 : decode cX7_takes 55 = .ok (.iload_n 1, 1) := by decide +kernel
theorem dX7_takes_56 : decode cX7_takes 56 = .ok (.invokevirtual 35, 3) := by decide +kernel
theorem dX7_takes_59 : decode cX7_takes 59 = .ok (.ireturn, 1) := by decide +kernel
theorem dX7_takes_60 : decode cX7_takes 60 = .ok (.aload_n 0, 1) := by decide +kernel
theorem dX7_takes_61 : decode cX7_takes 61 = .ok (.iload_n 1, 1) := by decide +kernel
theorem dX7_takes_62 : decode cX7_takes 62 = .ok (.bipush 48, 2) := by decide +kernel
theorem dX7_takes_64 : decode cX7_takes 64 = .ok (.isub, 1) := by decide +kernel
theorem dX7_takes_65 : decode cX7_takes 65 = .ok (.invokevirtual 38, 3) := by decide +kernel
theorem dX7_takes_68 : decode cX7_takes 68 = .ok (.ireturn, 1) := by decide +kernel
theorem dX7_takes_69 : decode cX7_takes 69 = .ok (.iconst 0, 1) := by decide +kernel
theorem dX7_takes_70 : decode cX7_takes 70 = .ok (.ireturn, 1) := by decide +kernel
theorem dX7_canEnd_0 : decode cX7_canEnd 0 = .ok (.aload_n 0, 1) := by decide +kernel
theorem dX7_canEnd_1 : decode cX7_canEnd 1 = .ok (.getfield 11, 3) := by decide +kernel
theorem dX7_canEnd_4 : decode cX7_canEnd 4 = .ok (.iconst 2, 1) := by decide +kernel
theorem dX7_canEnd_5 : decode cX7_canEnd 5 = .ok (.if_icmp .eq 11, 3) := by decide +kernel
theorem dX7_canEnd_8 : decode cX7_canEnd 8 = .ok (.aload_n 0, 1) := by decide +kernel
theorem dX7_canEnd_9 : decode cX7_canEnd 9 = .ok (.getfield 11, 3) := by decide +kernel
theorem dX7_canEnd_12 : decode cX7_canEnd 12 = .ok (.iconst 4, 1) := by decide +kernel
theorem dX7_canEnd_13 : decode cX7_canEnd 13 = .ok (.if_icmp .ne 7, 3) := by decide +kernel
theorem dX7_canEnd_16 : decode cX7_canEnd 16 = .ok (.iconst 1, 1) := by decide +kernel
theorem dX7_canEnd_17 : decode cX7_canEnd 17 = .ok (.goto 4, 3) := by decide +kernel
theorem dX7_canEnd_20 : decode cX7_canEnd 20 = .ok (.iconst 0, 1) := by decide +kernel
theorem dX7_canEnd_21 : decode cX7_canEnd 21 = .ok (.ireturn, 1) := by decide +kernel
theorem dX7_takesReplier_0 : decode cX7_takesReplier 0 = .ok (.iload_n 1, 1) := by decide +kernel
theorem dX7_takesReplier_1 : decode cX7_takesReplier 1 = .ok (.iconst 0, 1) := by decide +kernel
theorem dX7_takesReplier_2 : decode cX7_takesReplier 2 = .ok (.bipush 6, 2) := by decide +kernel
theorem dX7_takesReplier_4 : decode cX7_takesReplier 4 = .ok (.invokestatic 41, 3) := by decide +kernel
theorem dX7_takesReplier_7 : decode cX7_takesReplier 7 = .ok (.ifCond .ne 5, 3) := by decide +kernel
theorem dX7_takesReplier_10 : decode cX7_takesReplier 10 = .ok (.iconst 0, 1) := by decide +kernel
theorem dX7_takesReplier_11 : decode cX7_takesReplier 11 = .ok (.ireturn, 1) := by decide +kernel
theorem dX7_takesReplier_12 : decode cX7_takesReplier 12 = .ok (.aload_n 0, 1) := by decide +kernel
theorem dX7_takesReplier_13 : decode cX7_takesReplier 13 = .ok (.iload_n 1, 1) := by decide +kernel
theorem dX7_takesReplier_14 : decode cX7_takesReplier 14 = .ok (.putfield 15, 3) := by decide +kernel
theorem dX7_takesReplier_17 : decode cX7_takesReplier 17 = .ok (.aload_n 0, 1) := by decide +kernel
theorem dX7_takesReplier_18 : decode cX7_takesReplier 18 = .ok (.iconst 1, 1) := by decide +kernel
theorem dX7_takesReplier_19 : decode cX7_takesReplier 19 = .ok (.putfield 11, 3) := by decide +kernel
theorem dX7_takesReplier_22 : decode cX7_takesReplier 22 = .ok (.iconst 1, 1) := by decide +kernel
theorem dX7_takesReplier_23 : decode cX7_takesReplier 23 = .ok (.ireturn, 1) := by decide +kernel
theorem dX7_takesReplied_0 : decode cX7_takesReplied 0 = .ok (.iload_n 1, 1) := by decide +kernel
theorem dX7_takesReplied_1 : decode cX7_takesReplied 1 = .ok (.iconst 0, 1) := by decide +kernel
theorem dX7_takesReplied_2 : decode cX7_takesReplied 2 = .ok (.bipush 6, 2) := by decide +kernel
theorem dX7_takesReplied_4 : decode cX7_takesReplied 4 = .ok (.invokestatic 41, 3) := by decide +kernel
theorem dX7_takesReplied_7 : decode cX7_takesReplied 7 = .ok (.ifCond .eq 11, 3) := by decide +kernel
theorem dX7_takesReplied_10 : decode cX7_takesReplied 10 = .ok (.iload_n 1, 1) := by decide +kernel
theorem dX7_takesReplied_11 : decode cX7_takesReplied 11 = .ok (.aload_n 0, 1) := by decide +kernel
theorem dX7_takesReplied_12 : decode cX7_takesReplied 12 = .ok (.getfield 15, 3) := by decide +kernel
theorem dX7_takesReplied_15 : decode cX7_takesReplied 15 = .ok (.if_icmp .ne 5, 3) := by decide +kernel
theorem dX7_takesReplied_18 : decode cX7_takesReplied 18 = .ok (.iconst 0, 1) := by decide +kernel
theorem dX7_takesReplied_19 : decode cX7_takesReplied 19 = .ok (.ireturn, 1) := by decide +kernel
theorem dX7_takesReplied_20 : decode cX7_takesReplied 20 = .ok (.lconst 1, 1) := by decide +kernel
theorem dX7_takesReplied_21 : decode cX7_takesReplied 21 = .ok (.bipush 7, 2) := by decide +kernel
theorem dX7_takesReplied_23 : decode cX7_takesReplied 23 = .ok (.aload_n 0, 1) := by decide +kernel
theorem dX7_takesReplied_24 : decode cX7_takesReplied 24 = .ok (.getfield 15, 3) := by decide +kernel
theorem dX7_takesReplied_27 : decode cX7_takesReplied 27 = .ok (.imul, 1) := by decide +kernel
theorem dX7_takesReplied_28 : decode cX7_takesReplied 28 = .ok (.iload_n 1, 1) := by decide +kernel
theorem dX7_takesReplied_29 : decode cX7_takesReplied 29 = .ok (.iadd, 1) := by decide +kernel
theorem dX7_takesReplied_30 : decode cX7_takesReplied 30 = .ok (.lshl, 1) := by decide +kernel
theorem dX7_takesReplied_31 : decode cX7_takesReplied 31 = .ok (.lstore_n 2, 1) := by decide +kernel
theorem dX7_takesReplied_32 : decode cX7_takesReplied 32 = .ok (.aload_n 0, 1) := by decide +kernel
theorem dX7_takesReplied_33 : decode cX7_takesReplied 33 = .ok (.getfield 18, 3) := by decide +kernel
theorem dX7_takesReplied_36 : decode cX7_takesReplied 36 = .ok (.lload_n 2, 1) := by decide +kernel
theorem dX7_takesReplied_37 : decode cX7_takesReplied 37 = .ok (.land, 1) := by decide +kernel
theorem dX7_takesReplied_38 : decode cX7_takesReplied 38 = .ok (.lconst 0, 1) := by decide +kernel
theorem dX7_takesReplied_39 : decode cX7_takesReplied 39 = .ok (.lcmp, 1) := by decide +kernel
theorem dX7_takesReplied_40 : decode cX7_takesReplied 40 = .ok (.ifCond .eq 5, 3) := by decide +kernel
theorem dX7_takesReplied_43 : decode cX7_takesReplied 43 = .ok (.iconst 0, 1) := by decide +kernel
theorem dX7_takesReplied_44 : decode cX7_takesReplied 44 = .ok (.ireturn, 1) := by decide +kernel
theorem dX7_takesReplied_45 : decode cX7_takesReplied 45 = .ok (.aload_n 0, 1) := by decide +kernel
theorem dX7_takesReplied_46 : decode cX7_takesReplied 46 = .ok (.dup, 1) := by decide +kernel
theorem dX7_takesReplied_47 : decode cX7_takesReplied 47 = .ok (.getfield 18, 3) := by decide +kernel
theorem dX7_takesReplied_50 : decode cX7_takesReplied 50 = .ok (.lload_n 2, 1) := by decide +kernel
theorem dX7_takesReplied_51 : decode cX7_takesReplied 51 = .ok (.lor, 1) := by decide +kernel
theorem dX7_takesReplied_52 : decode cX7_takesReplied 52 = .ok (.putfield 18, 3) := by decide +kernel
theorem dX7_takesReplied_55 : decode cX7_takesReplied 55 = .ok (.aload_n 0, 1) := by decide +kernel
theorem dX7_takesReplied_56 : decode cX7_takesReplied 56 = .ok (.dup, 1) := by decide +kernel
theorem dX7_takesReplied_57 : decode cX7_takesReplied 57 = .ok (.getfield 22, 3) := by decide +kernel
theorem dX7_takesReplied_60 : decode cX7_takesReplied 60 = .ok (.iconst 1, 1) := by decide +kernel
theorem dX7_takesReplied_61 : decode cX7_takesReplied 61 = .ok (.iadd, 1) := by decide +kernel
theorem dX7_takesReplied_62 : decode cX7_takesReplied 62 = .ok (.putfield 22, 3) := by decide +kernel
theorem dX7_takesReplied_65 : decode cX7_takesReplied 65 = .ok (.aload_n 0, 1) := by decide +kernel
theorem dX7_takesReplied_66 : decode cX7_takesReplied 66 = .ok (.iconst 2, 1) := by decide +kernel
theorem dX7_takesReplied_67 : decode cX7_takesReplied 67 = .ok (.putfield 11, 3) := by decide +kernel
theorem dX7_takesReplied_70 : decode cX7_takesReplied 70 = .ok (.iconst 1, 1) := by decide +kernel
theorem dX7_takesReplied_71 : decode cX7_takesReplied 71 = .ok (.ireturn, 1) := by decide +kernel
theorem dX7_takesMark_0 : decode cX7_takesMark 0 = .ok (.iload_n 1, 1) := by decide +kernel
theorem dX7_takesMark_1 : decode cX7_takesMark 1 = .ok (.bipush 44, 2) := by decide +kernel
theorem dX7_takesMark_3 : decode cX7_takesMark 3 = .ok (.if_icmp .ne 19, 3) := by decide +kernel
theorem dX7_takesMark_6 : decode cX7_takesMark 6 = .ok (.aload_n 0, 1) := by decide +kernel
theorem dX7_takesMark_7 : decode cX7_takesMark 7 = .ok (.getfield 22, 3) := by decide +kernel
theorem dX7_takesMark_10 : decode cX7_takesMark 10 = .ok (.bipush 10, 2) := by decide +kernel
theorem dX7_takesMark_12 : decode cX7_takesMark 12 = .ok (.if_icmp .ge 10, 3) := by decide +kernel
theorem dX7_takesMark_15 : decode cX7_takesMark 15 = .ok (.aload_n 0, 1) := by decide +kernel
theorem dX7_takesMark_16 : decode cX7_takesMark 16 = .ok (.iconst 0, 1) := by decide +kernel
theorem dX7_takesMark_17 : decode cX7_takesMark 17 = .ok (.putfield 11, 3) := by decide +kernel
theorem dX7_takesMark_20 : decode cX7_takesMark 20 = .ok (.iconst 1, 1) := by decide +kernel
theorem dX7_takesMark_21 : decode cX7_takesMark 21 = .ok (.ireturn, 1) := by decide +kernel
theorem dX7_takesMark_22 : decode cX7_takesMark 22 = .ok (.iload_n 1, 1) := by decide +kernel
theorem dX7_takesMark_23 : decode cX7_takesMark 23 = .ok (.bipush 59, 2) := by decide +kernel
theorem dX7_takesMark_25 : decode cX7_takesMark 25 = .ok (.if_icmp .ne 10, 3) := by decide +kernel
theorem dX7_takesMark_28 : decode cX7_takesMark 28 = .ok (.aload_n 0, 1) := by decide +kernel
theorem dX7_takesMark_29 : decode cX7_takesMark 29 = .ok (.iconst 3, 1) := by decide +kernel
theorem dX7_takesMark_30 : decode cX7_takesMark 30 = .ok (.putfield 11, 3) := by decide +kernel
theorem dX7_takesMark_33 : decode cX7_takesMark 33 = .ok (.iconst 1, 1) := by decide +kernel
theorem dX7_takesMark_34 : decode cX7_takesMark 34 = .ok (.ireturn, 1) := by decide +kernel
theorem dX7_takesMark_35 : decode cX7_takesMark 35 = .ok (.iconst 0, 1) := by decide +kernel
theorem dX7_takesMark_36 : decode cX7_takesMark 36 = .ok (.ireturn, 1) := by decide +kernel
theorem dX7_takesLimit_0 : decode cX7_takesLimit 0 = .ok (.iload_n 1, 1) := by decide +kernel
theorem dX7_takesLimit_1 : decode cX7_takesLimit 1 = .ok (.iconst 0, 1) := by decide +kernel
theorem dX7_takesLimit_2 : decode cX7_takesLimit 2 = .ok (.bipush 9, 2) := by decide +kernel
theorem dX7_takesLimit_4 : decode cX7_takesLimit 4 = .ok (.invokestatic 41, 3) := by decide +kernel
theorem dX7_takesLimit_7 : decode cX7_takesLimit 7 = .ok (.ifCond .ne 5, 3) := by decide +kernel
theorem dX7_takesLimit_10 : decode cX7_takesLimit 10 = .ok (.iconst 0, 1) := by decide +kernel
theorem dX7_takesLimit_11 : decode cX7_takesLimit 11 = .ok (.ireturn, 1) := by decide +kernel
theorem dX7_takesLimit_12 : decode cX7_takesLimit 12 = .ok (.aload_n 0, 1) := by decide +kernel
theorem dX7_takesLimit_13 : decode cX7_takesLimit 13 = .ok (.iload_n 1, 1) := by decide +kernel
theorem dX7_takesLimit_14 : decode cX7_takesLimit 14 = .ok (.putfield 25, 3) := by decide +kernel
theorem dX7_takesLimit_17 : decode cX7_takesLimit 17 = .ok (.aload_n 0, 1) := by decide +kernel
theorem dX7_takesLimit_18 : decode cX7_takesLimit 18 = .ok (.iconst 4, 1) := by decide +kernel
theorem dX7_takesLimit_19 : decode cX7_takesLimit 19 = .ok (.putfield 11, 3) := by decide +kernel
theorem dX7_takesLimit_22 : decode cX7_takesLimit 22 = .ok (.iconst 1, 1) := by decide +kernel
theorem dX7_takesLimit_23 : decode cX7_takesLimit 23 = .ok (.ireturn, 1) := by decide +kernel
theorem dX7_told_0 : decode cX7_told 0 = .ok (.aload_n 0, 1) := by decide +kernel
theorem dX7_told_1 : decode cX7_told 1 = .ok (.getfield 18, 3) := by decide +kernel
theorem dX7_told_4 : decode cX7_told 4 = .ok (.lreturn, 1) := by decide +kernel
theorem dX7_pairs_0 : decode cX7_pairs 0 = .ok (.aload_n 0, 1) := by decide +kernel
theorem dX7_pairs_1 : decode cX7_pairs 1 = .ok (.getfield 22, 3) := by decide +kernel
theorem dX7_pairs_4 : decode cX7_pairs 4 = .ok (.ireturn, 1) := by decide +kernel
theorem dX7_limit_0 : decode cX7_limit 0 = .ok (.aload_n 0, 1) := by decide +kernel
theorem dX7_limit_1 : decode cX7_limit 1 = .ok (.getfield 25, 3) := by decide +kernel
theorem dX7_limit_4 : decode cX7_limit 4 = .ok (.ireturn, 1) := by decide +kernel
theorem dX8_init_0 : decode cX8_init 0 = .ok (.aload_n 0, 1) := by decide +kernel
theorem dX8_init_1 : decode cX8_init 1 = .ok (.invokespecial 1, 3) := by decide +kernel
theorem dX8_init_4 : decode cX8_init 4 = .ok (.return_, 1) := by decide +kernel
theorem dX9_init_0 : decode cX9_init 0 = .ok (.aload_n 0, 1) := by decide +kernel
theorem dX9_init_1 : decode cX9_init 1 = .ok (.invokespecial 1, 3) := by decide +kernel
theorem dX9_init_4 : decode cX9_init 4 = .ok (.aload_n 0, 1) := by decide +kernel
theorem dX9_init_5 : decode cX9_init 5 = .ok (.new 7, 3) := by decide +kernel
theorem dX9_init_8 : decode cX9_init 8 = .ok (.dup, 1) := by decide +kernel
theorem dX9_init_9 : decode cX9_init 9 = .ok (.invokespecial 9, 3) := by decide +kernel
theorem dX9_init_12 : decode cX9_init 12 = .ok (.putfield 10, 3) := by decide +kernel
theorem dX9_init_15 : decode cX9_init 15 = .ok (.aload_n 0, 1) := by decide +kernel
theorem dX9_init_16 : decode cX9_init 16 = .ok (.new 16, 3) := by decide +kernel
theorem dX9_init_19 : decode cX9_init 19 = .ok (.dup, 1) := by decide +kernel
theorem dX9_init_20 : decode cX9_init 20 = .ok (.invokespecial 18, 3) := by decide +kernel
theorem dX9_init_23 : decode cX9_init 23 = .ok (.putfield 19, 3) := by decide +kernel
theorem dX9_init_26 : decode cX9_init 26 = .ok (.aload_n 0, 1) := by decide +kernel
theorem dX9_init_27 : decode cX9_init 27 = .ok (.new 23, 3) := by decide +kernel
theorem dX9_init_30 : decode cX9_init 30 = .ok (.dup, 1) := by decide +kernel
theorem dX9_init_31 : decode cX9_init 31 = .ok (.invokespecial 25, 3) := by decide +kernel
theorem dX9_init_34 : decode cX9_init 34 = .ok (.putfield 26, 3) := by decide +kernel
theorem dX9_init_37 : decode cX9_init 37 = .ok (.aload_n 0, 1) := by decide +kernel
theorem dX9_init_38 : decode cX9_init 38 = .ok (.new 30, 3) := by decide +kernel
theorem dX9_init_41 : decode cX9_init 41 = .ok (.dup, 1) := by decide +kernel
theorem dX9_init_42 : decode cX9_init 42 = .ok (.invokespecial 32, 3) := by decide +kernel
theorem dX9_init_45 : decode cX9_init 45 = .ok (.putfield 33, 3) := by decide +kernel
theorem dX9_init_48 : decode cX9_init 48 = .ok (.aload_n 0, 1) := by decide +kernel
theorem dX9_init_49 : decode cX9_init 49 = .ok (.new 37, 3) := by decide +kernel
theorem dX9_init_52 : decode cX9_init 52 = .ok (.dup, 1) := by decide +kernel
theorem dX9_init_53 : decode cX9_init 53 = .ok (.invokespecial 39, 3) := by decide +kernel
theorem dX9_init_56 : decode cX9_init 56 = .ok (.putfield 40, 3) := by decide +kernel
theorem dX9_init_59 : decode cX9_init 59 = .ok (.aload_n 0, 1) := by decide +kernel
theorem dX9_init_60 : decode cX9_init 60 = .ok (.new 44, 3) := by decide +kernel
theorem dX9_init_63 : decode cX9_init 63 = .ok (.dup, 1) := by decide +kernel
theorem dX9_init_64 : decode cX9_init 64 = .ok (.invokespecial 46, 3) := by decide +kernel
theorem dX9_init_67 : decode cX9_init 67 = .ok (.putfield 47, 3) := by decide +kernel
theorem dX9_init_70 : decode cX9_init 70 = .ok (.return_, 1) := by decide +kernel
theorem dX9_letters_0 : decode cX9_letters 0 = .ok (.lload_n 1, 1) := by decide +kernel
theorem dX9_letters_1 : decode cX9_letters 1 = .ok (.invokestatic 51, 3) := by decide +kernel
theorem dX9_letters_4 : decode cX9_letters 4 = .ok (.istore_n 3, 1) := by decide +kernel
theorem dX9_letters_5 : decode cX9_letters 5 = .ok (.iload_n 3, 1) := by decide +kernel
theorem dX9_letters_6 : decode cX9_letters 6 = .ok (.iconst (-1), 1) := by decide +kernel
theorem dX9_letters_7 : decode cX9_letters 7 = .ok (.if_icmp .ne 6, 3) := by decide +kernel
theorem dX9_letters_10 : decode cX9_letters 10 = .ok (.bipush (-102), 2) := by decide +kernel
theorem dX9_letters_12 : decode cX9_letters 12 = .ok (.ireturn, 1) := by decide +kernel
theorem dX9_letters_13 : decode cX9_letters 13 = .ok (.aload_n 0, 1) := by decide +kernel
theorem dX9_letters_14 : decode cX9_letters 14 = .ok (.getfield 10, 3) := by decide +kernel
theorem dX9_letters_17 : decode cX9_letters 17 = .ok (.iload_n 3, 1) := by decide +kernel
theorem dX9_letters_18 : decode cX9_letters 18 = .ok (.invokevirtual 55, 3) := by decide +kernel
theorem dX9_letters_21 : decode cX9_letters 21 = .ok (.ifCond .ne 6, 3) := by decide +kernel
theorem dX9_letters_24 : decode cX9_letters 24 = .ok (.bipush (-104), 2) := by decide +kernel
theorem dX9_letters_26 : decode cX9_letters 26 = .ok (.ireturn, 1) := by decide +kernel
theorem dX9_letters_27 : decode cX9_letters 27 = .ok (.aload_n 0, 1) := by decide +kernel
theorem dX9_letters_28 : decode cX9_letters 28 = .ok (.getfield 10, 3) := by decide +kernel
theorem dX9_letters_31 : decode cX9_letters 31 = .ok (.lload_n 1, 1) := by decide +kernel
theorem dX9_letters_32 : decode cX9_letters 32 = .ok (.iload_n 3, 1) := by decide +kernel
theorem dX9_letters_33 : decode cX9_letters 33 = .ok (.invokevirtual 59, 3) := by decide +kernel
theorem dX9_letters_36 : decode cX9_letters 36 = .ok (.aload_n 0, 1) := by decide +kernel
theorem dX9_letters_37 : decode cX9_letters 37 = .ok (.getfield 10, 3) := by decide +kernel
theorem dX9_letters_40 : decode cX9_letters 40 = .ok (.invokevirtual 63, 3) := by decide +kernel
theorem dX9_letters_43 : decode cX9_letters 43 = .ok (.ireturn, 1) := by decide +kernel
theorem dX9_blank_0 : decode cX9_blank 0 = .ok (.aload_n 0, 1) := by decide +kernel
theorem dX9_blank_1 : decode cX9_blank 1 = .ok (.getfield 10, 3) := by decide +kernel
theorem dX9_blank_4 : decode cX9_blank 4 = .ok (.invokevirtual 63, 3) := by decide +kernel
theorem dX9_blank_7 : decode cX9_blank 7 = .ok (.istore_n 1, 1) := by decide +kernel
theorem dX9_blank_8 : decode cX9_blank 8 = .ok (.aload_n 0, 1) := by decide +kernel
theorem dX9_blank_9 : decode cX9_blank 9 = .ok (.getfield 10, 3) := by decide +kernel
theorem dX9_blank_12 : decode cX9_blank 12 = .ok (.invokevirtual 67, 3) := by decide +kernel
theorem dX9_blank_15 : decode cX9_blank 15 = .ok (.iload_n 1, 1) := by decide +kernel
theorem dX9_blank_16 : decode cX9_blank 16 = .ok (.ireturn, 1) := by decide +kernel
theorem dX9_fault_0 : decode cX9_fault 0 = .ok (.iload_n 1, 1) := by decide +kernel
theorem dX9_fault_1 : decode cX9_fault 1 = .ok (.ifCond .ne 15, 3) := by decide +kernel
theorem dX9_fault_4 : decode cX9_fault 4 = .ok (.aload_n 0, 1) := by decide +kernel
theorem dX9_fault_5 : decode cX9_fault 5 = .ok (.getfield 10, 3) := by decide +kernel
theorem dX9_fault_8 : decode cX9_fault 8 = .ok (.aload_n 0, 1) := by decide +kernel
theorem dX9_fault_9 : decode cX9_fault 9 = .ok (.getfield 19, 3) := by decide +kernel
theorem dX9_fault_12 : decode cX9_fault 12 = .ok (.invokevirtual 70, 3) := by decide +kernel
theorem dX9_fault_15 : decode cX9_fault 15 = .ok (.ireturn, 1) := by decide +kernel
theorem dX9_fault_16 : decode cX9_fault 16 = .ok (.iload_n 1, 1) := by decide +kernel
theorem dX9_fault_17 : decode cX9_fault 17 = .ok (.iconst 1, 1) := by decide +kernel
theorem dX9_fault_18 : decode cX9_fault 18 = .ok (.if_icmp .ne 17, 3) := by decide +kernel
theorem dX9_fault_21 : decode cX9_fault 21 = .ok (.aload_n 0, 1) := by decide +kernel
theorem dX9_fault_22 : decode cX9_fault 22 = .ok (.getfield 10, 3) := by decide +kernel
theorem dX9_fault_25 : decode cX9_fault 25 = .ok (.aload_n 0, 1) := by decide +kernel
theorem dX9_fault_26 : decode cX9_fault 26 = .ok (.getfield 26, 3) := by decide +kernel
theorem dX9_fault_29 : decode cX9_fault 29 = .ok (.invokevirtual 70, 3) := by decide +kernel
theorem dX9_fault_32 : decode cX9_fault 32 = .ok (.goto 5, 3) := by decide +kernel
theorem dX9_fault_35 : decode cX9_fault 35 = .ok (.bipush (-102), 2) := by decide +kernel
theorem dX9_fault_37 : decode cX9_fault 37 = .ok (.ireturn, 1) := by decide +kernel
theorem dX9_rule_0 : decode cX9_rule 0 = .ok (.aload_n 0, 1) := by decide +kernel
theorem dX9_rule_1 : decode cX9_rule 1 = .ok (.getfield 10, 3) := by decide +kernel
theorem dX9_rule_4 : decode cX9_rule 4 = .ok (.aload_n 0, 1) := by decide +kernel
theorem dX9_rule_5 : decode cX9_rule 5 = .ok (.getfield 19, 3) := by decide +kernel
theorem dX9_rule_8 : decode cX9_rule 8 = .ok (.invokevirtual 74, 3) := by decide +kernel
theorem dX9_rule_11 : decode cX9_rule 11 = .ok (.ifCond .ne 6, 3) := by decide +kernel
theorem dX9_rule_14 : decode cX9_rule 14 = .ok (.bipush (-103), 2) := by decide +kernel
theorem dX9_rule_16 : decode cX9_rule 16 = .ok (.ireturn, 1) := by decide +kernel
theorem dX9_rule_17 : decode cX9_rule 17 = .ok (.aload_n 0, 1) := by decide +kernel
theorem dX9_rule_18 : decode cX9_rule 18 = .ok (.getfield 33, 3) := by decide +kernel
theorem dX9_rule_21 : decode cX9_rule 21 = .ok (.aload_n 0, 1) := by decide +kernel
theorem dX9_rule_22 : decode cX9_rule 22 = .ok (.getfield 19, 3) := by decide +kernel
theorem dX9_rule_25 : decode cX9_rule 25 = .ok (.invokevirtual 78, 3) := by decide +kernel
theorem dX9_rule_28 : decode cX9_rule 28 = .ok (.aload_n 0, 1) := by decide +kernel
theorem dX9_rule_29 : decode cX9_rule 29 = .ok (.getfield 10, 3) := by decide +kernel
theorem dX9_rule_32 : decode cX9_rule 32 = .ok (.invokevirtual 67, 3) := by decide +kernel
theorem dX9_rule_35 : decode cX9_rule 35 = .ok (.aload_n 0, 1) := by decide +kernel
theorem dX9_rule_36 : decode cX9_rule 36 = .ok (.getfield 33, 3) := by decide +kernel
theorem dX9_rule_39 : decode cX9_rule 39 = .ok (.invokevirtual 82, 3) := by decide +kernel
theorem dX9_rule_42 : decode cX9_rule 42 = .ok (.ireturn, 1) := by decide +kernel
theorem dX9_replies_0 : decode cX9_replies 0 = .ok (.iload_n 1, 1) := by decide +kernel
theorem dX9_replies_1 : decode cX9_replies 1 = .ok (.iconst 0, 1) := by decide +kernel
theorem dX9_replies_2 : decode cX9_replies 2 = .ok (.bipush 6, 2) := by decide +kernel
theorem dX9_replies_4 : decode cX9_replies 4 = .ok (.invokestatic 85, 3) := by decide +kernel
theorem dX9_replies_7 : decode cX9_replies 7 = .ok (.ifCond .eq 13, 3) := by decide +kernel
theorem dX9_replies_10 : decode cX9_replies 10 = .ok (.iload_n 2, 1) := by decide +kernel
theorem dX9_replies_11 : decode cX9_replies 11 = .ok (.iconst 0, 1) := by decide +kernel
theorem dX9_replies_12 : decode cX9_replies 12 = .ok (.bipush 6, 2) := by decide +kernel
theorem dX9_replies_14 : decode cX9_replies 14 = .ok (.invokestatic 85, 3) := by decide +kernel
theorem dX9_replies_17 : decode cX9_replies 17 = .ok (.ifCond .ne 6, 3) := by decide +kernel
theorem dX9_replies_20 : decode cX9_replies 20 = .ok (.bipush (-101), 2) := by decide +kernel
theorem dX9_replies_22 : decode cX9_replies 22 = .ok (.ireturn, 1) := by decide +kernel
theorem dX9_replies_23 : decode cX9_replies 23 = .ok (.aload_n 0, 1) := by decide +kernel
theorem dX9_replies_24 : decode cX9_replies 24 = .ok (.getfield 33, 3) := by decide +kernel
theorem dX9_replies_27 : decode cX9_replies 27 = .ok (.iload_n 1, 1) := by decide +kernel
theorem dX9_replies_28 : decode cX9_replies 28 = .ok (.invokevirtual 89, 3) := by decide +kernel
theorem dX9_replies_31 : decode cX9_replies 31 = .ok (.iload_n 2, 1) := by decide +kernel
theorem dX9_replies_32 : decode cX9_replies 32 = .ok (.iushr, 1) := by decide +kernel
theorem dX9_replies_33 : decode cX9_replies 33 = .ok (.iconst 1, 1) := by decide +kernel
theorem dX9_replies_34 : decode cX9_replies 34 = .ok (.iand, 1) := by decide +kernel
theorem dX9_replies_35 : decode cX9_replies 35 = .ok (.ireturn, 1) := by decide +kernel
theorem dX9_member_0 : decode cX9_member 0 = .ok (.iload_n 1, 1) := by decide +kernel
theorem dX9_member_1 : decode cX9_member 1 = .ok (.iconst 0, 1) := by decide +kernel
theorem dX9_member_2 : decode cX9_member 2 = .ok (.iconst 4, 1) := by decide +kernel
theorem dX9_member_3 : decode cX9_member 3 = .ok (.invokestatic 85, 3) := by decide +kernel
theorem dX9_member_6 : decode cX9_member 6 = .ok (.ifCond .eq 13, 3) := by decide +kernel
theorem dX9_member_9 : decode cX9_member 9 = .ok (.iload_n 2, 1) := by decide +kernel
theorem dX9_member_10 : decode cX9_member 10 = .ok (.iconst 1, 1) := by decide +kernel
theorem dX9_member_11 : decode cX9_member 11 = .ok (.bipush 9, 2) := by decide +kernel
theorem dX9_member_13 : decode cX9_member 13 = .ok (.invokestatic 85, 3) := by decide +kernel
theorem dX9_member_16 : decode cX9_member 16 = .ok (.ifCond .ne 6, 3) := by decide +kernel
theorem dX9_member_19 : decode cX9_member 19 = .ok (.bipush (-102), 2) := by decide +kernel
theorem dX9_member_21 : decode cX9_member 21 = .ok (.ireturn, 1) := by decide +kernel
theorem dX9_member_22 : decode cX9_member 22 = .ok (.iload_n 3, 1) := by decide +kernel
theorem dX9_member_23 : decode cX9_member 23 = .ok (.bipush (-3), 2) := by decide +kernel
theorem dX9_member_25 : decode cX9_member 25 = .ok (.iconst 3, 1) := by decide +kernel
theorem dX9_member_26 : decode cX9_member 26 = .ok (.invokestatic 85, 3) := by decide +kernel
theorem dX9_member_29 : decode cX9_member 29 = .ok (.ifCond .eq 13, 3) := by decide +kernel
theorem dX9_member_32 : decode cX9_member 32 = .ok (.iload 4, 2) := by decide +kernel
theorem dX9_member_34 : decode cX9_member 34 = .ok (.iconst 0, 1) := by decide +kernel
theorem dX9_member_35 : decode cX9_member 35 = .ok (.iconst 2, 1) := by decide +kernel
theorem dX9_member_36 : decode cX9_member 36 = .ok (.invokestatic 85, 3) := by decide +kernel
theorem dX9_member_39 : decode cX9_member 39 = .ok (.ifCond .ne 6, 3) := by decide +kernel
theorem dX9_member_42 : decode cX9_member 42 = .ok (.bipush (-102), 2) := by decide +kernel
theorem dX9_member_44 : decode cX9_member 44 = .ok (.ireturn, 1) := by decide +kernel
theorem dX9_member_45 : decode cX9_member 45 = .ok (.iload 5, 2) := by decide +kernel
theorem dX9_member_47 : decode cX9_member 47 = .ok (.iconst 0, 1) := by decide +kernel
theorem dX9_member_48 : decode cX9_member 48 = .ok (.bipush 99, 2) := by decide +kernel
theorem dX9_member_50 : decode cX9_member 50 = .ok (.invokestatic 85, 3) := by decide +kernel
theorem dX9_member_53 : decode cX9_member 53 = .ok (.ifCond .ne 6, 3) := by decide +kernel
theorem dX9_member_56 : decode cX9_member 56 = .ok (.bipush (-102), 2) := by decide +kernel
theorem dX9_member_58 : decode cX9_member 58 = .ok (.ireturn, 1) := by decide +kernel
theorem dX9_member_59 : decode cX9_member 59 = .ok (.aload_n 0, 1) := by decide +kernel
theorem dX9_member_60 : decode cX9_member 60 = .ok (.getfield 33, 3) := by decide +kernel
theorem dX9_member_63 : decode cX9_member 63 = .ok (.invokevirtual 95, 3) := by decide +kernel
theorem dX9_member_66 : decode cX9_member 66 = .ok (.bipush 7, 2) := by decide +kernel
theorem dX9_member_68 : decode cX9_member 68 = .ok (.if_icmp .lt 6, 3) := by decide +kernel
theorem dX9_member_71 : decode cX9_member 71 = .ok (.bipush (-104), 2) := by decide +kernel
theorem dX9_member_73 : decode cX9_member 73 = .ok (.ireturn, 1) := by decide +kernel
theorem dX9_member_74 : decode cX9_member 74 = .ok (.aload_n 0, 1) := by decide +kernel
theorem dX9_member_75 : decode cX9_member 75 = .ok (.getfield 33, 3) := by decide +kernel
theorem dX9_member_78 : decode cX9_member 78 = .ok (.invokevirtual 98, 3) := by decide +kernel
theorem dX9_member_81 : decode cX9_member 81 = .ok (.astore 6, 2) := by decide +kernel
theorem dX9_member_83 : decode cX9_member 83 = .ok (.aload 6, 2) := by decide +kernel
theorem dX9_member_85 : decode cX9_member 85 = .ok (.iload_n 1, 1) := by decide +kernel
theorem dX9_member_86 : decode cX9_member 86 = .ok (.iload_n 2, 1) := by decide +kernel
theorem dX9_member_87 : decode cX9_member 87 = .ok (.iload_n 3, 1) := by decide +kernel
theorem dX9_member_88 : decode cX9_member 88 = .ok (.invokevirtual 102, 3) := by decide +kernel
theorem dX9_member_91 : decode cX9_member 91 = .ok (.aload 6, 2) := by decide +kernel
theorem dX9_member_93 : decode cX9_member 93 = .ok (.iload 4, 2) := by decide +kernel
theorem dX9_member_95 : decode cX9_member 95 = .ok (.putfield 106, 3) := by decide +kernel
theorem dX9_member_98 : decode cX9_member 98 = .ok (.aload 6, 2) := by decide +kernel
theorem dX9_member_100 : decode cX9_member 100 = .ok (.iload 5, 2) := by decide +kernel
theorem dX9_member_102 : decode cX9_member 102 = .ok (.putfield 110, 3) := by decide +kernel
theorem dX9_member_105 : decode cX9_member 105 = .ok (.aload_n 0, 1) := by decide +kernel
theorem dX9_member_106 : decode cX9_member 106 = .ok (.getfield 33, 3) := by decide +kernel
theorem dX9_member_109 : decode cX9_member 109 = .ok (.invokevirtual 95, 3) := by decide +kernel
theorem dX9_member_112 : decode cX9_member 112 = .ok (.iconst 1, 1) := by decide +kernel
theorem dX9_member_113 : decode cX9_member 113 = .ok (.isub, 1) := by decide +kernel
theorem dX9_member_114 : decode cX9_member 114 = .ok (.ireturn, 1) := by decide +kernel
theorem dX9_speech_0 : decode cX9_speech 0 = .ok (.aload_n 0, 1) := by decide +kernel
theorem dX9_speech_1 : decode cX9_speech 1 = .ok (.getfield 33, 3) := by decide +kernel
theorem dX9_speech_4 : decode cX9_speech 4 = .ok (.iload_n 1, 1) := by decide +kernel
theorem dX9_speech_5 : decode cX9_speech 5 = .ok (.invokevirtual 113, 3) := by decide +kernel
theorem dX9_speech_8 : decode cX9_speech 8 = .ok (.ifCond .ne 6, 3) := by decide +kernel
theorem dX9_speech_11 : decode cX9_speech 11 = .ok (.bipush (-101), 2) := by decide +kernel
theorem dX9_speech_13 : decode cX9_speech 13 = .ok (.ireturn, 1) := by decide +kernel
theorem dX9_speech_14 : decode cX9_speech 14 = .ok (.iload_n 2, 1) := by decide +kernel
theorem dX9_speech_15 : decode cX9_speech 15 = .ok (.iconst 0, 1) := by decide +kernel
theorem dX9_speech_16 : decode cX9_speech 16 = .ok (.iconst 4, 1) := by decide +kernel
theorem dX9_speech_17 : decode cX9_speech 17 = .ok (.invokestatic 85, 3) := by decide +kernel
theorem dX9_speech_20 : decode cX9_speech 20 = .ok (.ifCond .eq 13, 3) := by decide +kernel
theorem dX9_speech_23 : decode cX9_speech 23 = .ok (.iload_n 3, 1) := by decide +kernel
theorem dX9_speech_24 : decode cX9_speech 24 = .ok (.iconst 0, 1) := by decide +kernel
theorem dX9_speech_25 : decode cX9_speech 25 = .ok (.bipush 9, 2) := by decide +kernel
theorem dX9_speech_27 : decode cX9_speech 27 = .ok (.invokestatic 85, 3) := by decide +kernel
theorem dX9_speech_30 : decode cX9_speech 30 = .ok (.ifCond .ne 6, 3) := by decide +kernel
theorem dX9_speech_33 : decode cX9_speech 33 = .ok (.bipush (-102), 2) := by decide +kernel
theorem dX9_speech_35 : decode cX9_speech 35 = .ok (.ireturn, 1) := by decide +kernel
theorem dX9_speech_36 : decode cX9_speech 36 = .ok (.aload_n 0, 1) := by decide +kernel
theorem dX9_speech_37 : decode cX9_speech 37 = .ok (.getfield 33, 3) := by decide +kernel
theorem dX9_speech_40 : decode cX9_speech 40 = .ok (.iload_n 1, 1) := by decide +kernel
theorem dX9_speech_41 : decode cX9_speech 41 = .ok (.invokevirtual 116, 3) := by decide +kernel
theorem dX9_speech_44 : decode cX9_speech 44 = .ok (.astore 4, 2) := by decide +kernel
theorem dX9_speech_46 : decode cX9_speech 46 = .ok (.aload 4, 2) := by decide +kernel
theorem dX9_speech_48 : decode cX9_speech 48 = .ok (.getfield 120, 3) := by decide +kernel
theorem dX9_speech_51 : decode cX9_speech 51 = .ok (.istore 5, 2) := by decide +kernel
theorem dX9_speech_53 : decode cX9_speech 53 = .ok (.aload 4, 2) := by decide +kernel
theorem dX9_speech_55 : decode cX9_speech 55 = .ok (.iload_n 2, 1) := by decide +kernel
theorem dX9_speech_56 : decode cX9_speech 56 = .ok (.putfield 120, 3) := by decide +kernel
theorem dX9_speech_59 : decode cX9_speech 59 = .ok (.aload 4, 2) := by decide +kernel
theorem dX9_speech_61 : decode cX9_speech 61 = .ok (.iload_n 3, 1) := by decide +kernel
theorem dX9_speech_62 : decode cX9_speech 62 = .ok (.putfield 123, 3) := by decide +kernel
theorem dX9_speech_65 : decode cX9_speech 65 = .ok (.iload 5, 2) := by decide +kernel
theorem dX9_speech_67 : decode cX9_speech 67 = .ok (.ireturn, 1) := by decide +kernel
theorem dX9_about_0 : decode cX9_about 0 = .ok (.aload_n 0, 1) := by decide +kernel
theorem dX9_about_1 : decode cX9_about 1 = .ok (.getfield 33, 3) := by decide +kernel
theorem dX9_about_4 : decode cX9_about 4 = .ok (.iload_n 1, 1) := by decide +kernel
theorem dX9_about_5 : decode cX9_about 5 = .ok (.invokevirtual 113, 3) := by decide +kernel
theorem dX9_about_8 : decode cX9_about 8 = .ok (.ifCond .ne 6, 3) := by decide +kernel
theorem dX9_about_11 : decode cX9_about 11 = .ok (.bipush (-101), 2) := by decide +kernel
theorem dX9_about_13 : decode cX9_about 13 = .ok (.ireturn, 1) := by decide +kernel
theorem dX9_about_14 : decode cX9_about 14 = .ok (.aload_n 0, 1) := by decide +kernel
theorem dX9_about_15 : decode cX9_about 15 = .ok (.getfield 33, 3) := by decide +kernel
theorem dX9_about_18 : decode cX9_about 18 = .ok (.iload_n 1, 1) := by decide +kernel
theorem dX9_about_19 : decode cX9_about 19 = .ok (.invokevirtual 116, 3) := by decide +kernel
theorem dX9_about_22 : decode cX9_about 22 = .ok (.astore_n 3, 1) := by decide +kernel
theorem dX9_about_23 : decode cX9_about 23 = .ok (.iload_n 2, 1) := by decide +kernel
theorem dX9_about_24 : decode cX9_about 24 = .ok (.tableswitch 136 0 11 #[64, 69, 74, 79, 84, 89, 94, 99, 108, 113, 118, 123], 64) := by decide +kernel
theorem dX9_about_88 : decode cX9_about 88 = .ok (.aload_n 3, 1) := by decide +kernel
theorem dX9_about_89 : decode cX9_about 89 = .ok (.getfield 126, 3) := by decide +kernel
theorem dX9_about_92 : decode cX9_about 92 = .ok (.ireturn, 1) := by decide +kernel
theorem dX9_about_93 : decode cX9_about 93 = .ok (.aload_n 3, 1) := by decide +kernel
theorem dX9_about_94 : decode cX9_about 94 = .ok (.getfield 129, 3) := by decide +kernel
theorem dX9_about_97 : decode cX9_about 97 = .ok (.ireturn, 1) := by decide +kernel
theorem dX9_about_98 : decode cX9_about 98 = .ok (.aload_n 3, 1) := by decide +kernel
theorem dX9_about_99 : decode cX9_about 99 = .ok (.getfield 132, 3) := by decide +kernel
theorem dX9_about_102 : decode cX9_about 102 = .ok (.ireturn, 1) := by decide +kernel
theorem dX9_about_103 : decode cX9_about 103 = .ok (.aload_n 3, 1) := by decide +kernel
theorem dX9_about_104 : decode cX9_about 104 = .ok (.getfield 106, 3) := by decide +kernel
theorem dX9_about_107 : decode cX9_about 107 = .ok (.ireturn, 1) := by decide +kernel
theorem dX9_about_108 : decode cX9_about 108 = .ok (.aload_n 3, 1) := by decide +kernel
theorem dX9_about_109 : decode cX9_about 109 = .ok (.getfield 110, 3) := by decide +kernel
theorem dX9_about_112 : decode cX9_about 112 = .ok (.ireturn, 1) := by decide +kernel
theorem dX9_about_113 : decode cX9_about 113 = .ok (.aload_n 3, 1) := by decide +kernel
theorem dX9_about_114 : decode cX9_about 114 = .ok (.getfield 120, 3) := by decide +kernel
theorem dX9_about_117 : decode cX9_about 117 = .ok (.ireturn, 1) := by decide +kernel
theorem dX9_about_118 : decode cX9_about 118 = .ok (.aload_n 3, 1) := by decide +kernel
theorem dX9_about_119 : decode cX9_about 119 = .ok (.getfield 123, 3) := by decide +kernel
theorem dX9_about_122 : decode cX9_about 122 = .ok (.ireturn, 1) := by decide +kernel
theorem dX9_about_123 : decode cX9_about 123 = .ok (.aload_n 0, 1) := by decide +kernel
theorem dX9_about_124 : decode cX9_about 124 = .ok (.getfield 135, 3) := by decide +kernel
theorem dX9_about_127 : decode cX9_about 127 = .ok (.iload_n 1, 1) := by decide +kernel
theorem dX9_about_128 : decode cX9_about 128 = .ok (.invokestatic 138, 3) := by decide +kernel
theorem dX9_about_131 : decode cX9_about 131 = .ok (.ireturn, 1) := by decide +kernel
theorem dX9_about_132 : decode cX9_about 132 = .ok (.aload_n 3, 1) := by decide +kernel
theorem dX9_about_133 : decode cX9_about 133 = .ok (.getfield 144, 3) := by decide +kernel
theorem dX9_about_136 : decode cX9_about 136 = .ok (.ireturn, 1) := by decide +kernel
theorem dX9_about_137 : decode cX9_about 137 = .ok (.aload_n 3, 1) := by decide +kernel
theorem dX9_about_138 : decode cX9_about 138 = .ok (.getfield 147, 3) := by decide +kernel
theorem dX9_about_141 : decode cX9_about 141 = .ok (.ireturn, 1) := by decide +kernel
theorem dX9_about_142 : decode cX9_about 142 = .ok (.aload_n 3, 1) := by decide +kernel
theorem dX9_about_143 : decode cX9_about 143 = .ok (.invokevirtual 150, 3) := by decide +kernel
theorem dX9_about_146 : decode cX9_about 146 = .ok (.ireturn, 1) := by decide +kernel
theorem dX9_about_147 : decode cX9_about 147 = .ok (.aload_n 0, 1) := by decide +kernel
theorem dX9_about_148 : decode cX9_about 148 = .ok (.getfield 33, 3) := by decide +kernel
theorem dX9_about_151 : decode cX9_about 151 = .ok (.aload_n 0, 1) := by decide +kernel
theorem dX9_about_152 : decode cX9_about 152 = .ok (.getfield 135, 3) := by decide +kernel
theorem dX9_about_155 : decode cX9_about 155 = .ok (.iload_n 1, 1) := by decide +kernel
theorem dX9_about_156 : decode cX9_about 156 = .ok (.invokevirtual 153, 3) := by decide +kernel
theorem dX9_about_159 : decode cX9_about 159 = .ok (.ireturn, 1) := by decide +kernel
theorem dX9_about_160 : decode cX9_about 160 = .ok (.bipush (-102), 2) := by decide +kernel
theorem dX9_about_162 : decode cX9_about 162 = .ok (.ireturn, 1) := by decide +kernel
theorem dX9_as_0 : decode cX9_as 0 = .ok (.aload_n 0, 1) := by decide +kernel
theorem dX9_as_1 : decode cX9_as 1 = .ok (.getfield 33, 3) := by decide +kernel
theorem dX9_as_4 : decode cX9_as 4 = .ok (.iload_n 1, 1) := by decide +kernel
theorem dX9_as_5 : decode cX9_as 5 = .ok (.invokevirtual 113, 3) := by decide +kernel
theorem dX9_as_8 : decode cX9_as 8 = .ok (.ifCond .ne 6, 3) := by decide +kernel
theorem dX9_as_11 : decode cX9_as 11 = .ok (.bipush (-101), 2) := by decide +kernel
theorem dX9_as_13 : decode cX9_as 13 = .ok (.ireturn, 1) := by decide +kernel
theorem dX9_as_14 : decode cX9_as 14 = .ok (.iload_n 2, 1) := by decide +kernel
theorem dX9_as_15 : decode cX9_as 15 = .ok (.iconst 0, 1) := by decide +kernel
theorem dX9_as_16 : decode cX9_as 16 = .ok (.iconst 4, 1) := by decide +kernel
theorem dX9_as_17 : decode cX9_as 17 = .ok (.invokestatic 85, 3) := by decide +kernel
theorem dX9_as_20 : decode cX9_as 20 = .ok (.ifCond .ne 6, 3) := by decide +kernel
theorem dX9_as_23 : decode cX9_as 23 = .ok (.bipush (-102), 2) := by decide +kernel
theorem dX9_as_25 : decode cX9_as 25 = .ok (.ireturn, 1) := by decide +kernel
theorem dX9_as_26 : decode cX9_as 26 = .ok (.aload_n 0, 1) := by decide +kernel
theorem dX9_as_27 : decode cX9_as 27 = .ok (.getfield 33, 3) := by decide +kernel
theorem dX9_as_30 : decode cX9_as 30 = .ok (.iload_n 1, 1) := by decide +kernel
theorem dX9_as_31 : decode cX9_as 31 = .ok (.invokevirtual 116, 3) := by decide +kernel
theorem dX9_as_34 : decode cX9_as 34 = .ok (.iload_n 2, 1) := by decide +kernel
theorem dX9_as_35 : decode cX9_as 35 = .ok (.invokevirtual 156, 3) := by decide +kernel
theorem dX9_as_38 : decode cX9_as 38 = .ok (.ifCond .eq 7, 3) := by decide +kernel
theorem dX9_as_41 : decode cX9_as 41 = .ok (.iload_n 1, 1) := by decide +kernel
theorem dX9_as_42 : decode cX9_as 42 = .ok (.goto 4, 3) := by decide +kernel
theorem dX9_as_45 : decode cX9_as 45 = .ok (.iconst (-1), 1) := by decide +kernel
theorem dX9_as_46 : decode cX9_as 46 = .ok (.ireturn, 1) := by decide +kernel
theorem dX9_chair_0 : decode cX9_chair 0 = .ok (.aload_n 0, 1) := by decide +kernel
theorem dX9_chair_1 : decode cX9_chair 1 = .ok (.getfield 33, 3) := by decide +kernel
theorem dX9_chair_4 : decode cX9_chair 4 = .ok (.iload_n 1, 1) := by decide +kernel
theorem dX9_chair_5 : decode cX9_chair 5 = .ok (.invokevirtual 113, 3) := by decide +kernel
theorem dX9_chair_8 : decode cX9_chair 8 = .ok (.ifCond .ne 6, 3) := by decide +kernel
theorem dX9_chair_11 : decode cX9_chair 11 = .ok (.bipush (-101), 2) := by decide +kernel
theorem dX9_chair_13 : decode cX9_chair 13 = .ok (.ireturn, 1) := by decide +kernel
theorem dX9_chair_14 : decode cX9_chair 14 = .ok (.iload_n 2, 1) := by decide +kernel
theorem dX9_chair_15 : decode cX9_chair 15 = .ok (.iconst 0, 1) := by decide +kernel
theorem dX9_chair_16 : decode cX9_chair 16 = .ok (.bipush 99, 2) := by decide +kernel
theorem dX9_chair_18 : decode cX9_chair 18 = .ok (.invokestatic 85, 3) := by decide +kernel
theorem dX9_chair_21 : decode cX9_chair 21 = .ok (.ifCond .ne 6, 3) := by decide +kernel
theorem dX9_chair_24 : decode cX9_chair 24 = .ok (.bipush (-102), 2) := by decide +kernel
theorem dX9_chair_26 : decode cX9_chair 26 = .ok (.ireturn, 1) := by decide +kernel
theorem dX9_chair_27 : decode cX9_chair 27 = .ok (.aload_n 0, 1) := by decide +kernel
theorem dX9_chair_28 : decode cX9_chair 28 = .ok (.getfield 135, 3) := by decide +kernel
theorem dX9_chair_31 : decode cX9_chair 31 = .ok (.iload_n 1, 1) := by decide +kernel
theorem dX9_chair_32 : decode cX9_chair 32 = .ok (.invokestatic 138, 3) := by decide +kernel
theorem dX9_chair_35 : decode cX9_chair 35 = .ok (.ifCond .le 6, 3) := by decide +kernel
theorem dX9_chair_38 : decode cX9_chair 38 = .ok (.bipush (-103), 2) := by decide +kernel
theorem dX9_chair_40 : decode cX9_chair 40 = .ok (.ireturn, 1) := by decide +kernel
theorem dX9_chair_41 : decode cX9_chair 41 = .ok (.aload_n 0, 1) := by decide +kernel
theorem dX9_chair_42 : decode cX9_chair 42 = .ok (.getfield 33, 3) := by decide +kernel
theorem dX9_chair_45 : decode cX9_chair 45 = .ok (.iload_n 1, 1) := by decide +kernel
theorem dX9_chair_46 : decode cX9_chair 46 = .ok (.invokevirtual 116, 3) := by decide +kernel
theorem dX9_chair_49 : decode cX9_chair 49 = .ok (.astore_n 3, 1) := by decide +kernel
theorem dX9_chair_50 : decode cX9_chair 50 = .ok (.aload_n 3, 1) := by decide +kernel
theorem dX9_chair_51 : decode cX9_chair 51 = .ok (.getfield 110, 3) := by decide +kernel
theorem dX9_chair_54 : decode cX9_chair 54 = .ok (.istore 4, 2) := by decide +kernel
theorem dX9_chair_56 : decode cX9_chair 56 = .ok (.aload_n 3, 1) := by decide +kernel
theorem dX9_chair_57 : decode cX9_chair 57 = .ok (.iload_n 2, 1) := by decide +kernel
theorem dX9_chair_58 : decode cX9_chair 58 = .ok (.putfield 110, 3) := by decide +kernel
theorem dX9_chair_61 : decode cX9_chair 61 = .ok (.iload 4, 2) := by decide +kernel
theorem dX9_chair_63 : decode cX9_chair 63 = .ok (.ireturn, 1) := by decide +kernel
theorem dX9_may_0 : decode cX9_may 0 = .ok (.aload_n 0, 1) := by decide +kernel
theorem dX9_may_1 : decode cX9_may 1 = .ok (.getfield 33, 3) := by decide +kernel
theorem dX9_may_4 : decode cX9_may 4 = .ok (.iload_n 1, 1) := by decide +kernel
theorem dX9_may_5 : decode cX9_may 5 = .ok (.invokevirtual 113, 3) := by decide +kernel
theorem dX9_may_8 : decode cX9_may 8 = .ok (.ifCond .ne 6, 3) := by decide +kernel
theorem dX9_may_11 : decode cX9_may 11 = .ok (.bipush (-101), 2) := by decide +kernel
theorem dX9_may_13 : decode cX9_may 13 = .ok (.ireturn, 1) := by decide +kernel
theorem dX9_may_14 : decode cX9_may 14 = .ok (.aload_n 0, 1) := by decide +kernel
theorem dX9_may_15 : decode cX9_may 15 = .ok (.getfield 33, 3) := by decide +kernel
theorem dX9_may_18 : decode cX9_may 18 = .ok (.aload_n 0, 1) := by decide +kernel
theorem dX9_may_19 : decode cX9_may 19 = .ok (.getfield 135, 3) := by decide +kernel
theorem dX9_may_22 : decode cX9_may 22 = .ok (.iload_n 1, 1) := by decide +kernel
theorem dX9_may_23 : decode cX9_may 23 = .ok (.invokevirtual 159, 3) := by decide +kernel
theorem dX9_may_26 : decode cX9_may 26 = .ok (.ifCond .eq 7, 3) := by decide +kernel
theorem dX9_may_29 : decode cX9_may 29 = .ok (.iconst 1, 1) := by decide +kernel
theorem dX9_may_30 : decode cX9_may 30 = .ok (.goto 4, 3) := by decide +kernel
theorem dX9_may_33 : decode cX9_may 33 = .ok (.iconst 0, 1) := by decide +kernel
theorem dX9_may_34 : decode cX9_may 34 = .ok (.ireturn, 1) := by decide +kernel
theorem dX9_rise_0 : decode cX9_rise 0 = .ok (.aload_n 0, 1) := by decide +kernel
theorem dX9_rise_1 : decode cX9_rise 1 = .ok (.getfield 33, 3) := by decide +kernel
theorem dX9_rise_4 : decode cX9_rise 4 = .ok (.iload_n 1, 1) := by decide +kernel
theorem dX9_rise_5 : decode cX9_rise 5 = .ok (.invokevirtual 113, 3) := by decide +kernel
theorem dX9_rise_8 : decode cX9_rise 8 = .ok (.ifCond .ne 6, 3) := by decide +kernel
theorem dX9_rise_11 : decode cX9_rise 11 = .ok (.bipush (-101), 2) := by decide +kernel
theorem dX9_rise_13 : decode cX9_rise 13 = .ok (.ireturn, 1) := by decide +kernel
theorem dX9_rise_14 : decode cX9_rise 14 = .ok (.aload_n 0, 1) := by decide +kernel
theorem dX9_rise_15 : decode cX9_rise 15 = .ok (.getfield 33, 3) := by decide +kernel
theorem dX9_rise_18 : decode cX9_rise 18 = .ok (.aload_n 0, 1) := by decide +kernel
theorem dX9_rise_19 : decode cX9_rise 19 = .ok (.getfield 135, 3) := by decide +kernel
theorem dX9_rise_22 : decode cX9_rise 22 = .ok (.iload_n 1, 1) := by decide +kernel
theorem dX9_rise_23 : decode cX9_rise 23 = .ok (.invokevirtual 159, 3) := by decide +kernel
theorem dX9_rise_26 : decode cX9_rise 26 = .ok (.ifCond .ne 6, 3) := by decide +kernel
theorem dX9_rise_29 : decode cX9_rise 29 = .ok (.bipush (-103), 2) := by decide +kernel
theorem dX9_rise_31 : decode cX9_rise 31 = .ok (.ireturn, 1) := by decide +kernel
theorem dX9_rise_32 : decode cX9_rise 32 = .ok (.aload_n 0, 1) := by decide +kernel
theorem dX9_rise_33 : decode cX9_rise 33 = .ok (.getfield 33, 3) := by decide +kernel
theorem dX9_rise_36 : decode cX9_rise 36 = .ok (.aload_n 0, 1) := by decide +kernel
theorem dX9_rise_37 : decode cX9_rise 37 = .ok (.getfield 135, 3) := by decide +kernel
theorem dX9_rise_40 : decode cX9_rise 40 = .ok (.iload_n 1, 1) := by decide +kernel
theorem dX9_rise_41 : decode cX9_rise 41 = .ok (.invokevirtual 163, 3) := by decide +kernel
theorem dX9_rise_44 : decode cX9_rise 44 = .ok (.istore_n 2, 1) := by decide +kernel
theorem dX9_rise_45 : decode cX9_rise 45 = .ok (.iload_n 2, 1) := by decide +kernel
theorem dX9_rise_46 : decode cX9_rise 46 = .ok (.ifCond .ne 28, 3) := by decide +kernel
theorem dX9_rise_49 : decode cX9_rise 49 = .ok (.aload_n 0, 1) := by decide +kernel
theorem dX9_rise_50 : decode cX9_rise 50 = .ok (.dup, 1) := by decide +kernel
theorem dX9_rise_51 : decode cX9_rise 51 = .ok (.getfield 166, 3) := by decide +kernel
theorem dX9_rise_54 : decode cX9_rise 54 = .ok (.iconst 1, 1) := by decide +kernel
theorem dX9_rise_55 : decode cX9_rise 55 = .ok (.iadd, 1) := by decide +kernel
theorem dX9_rise_56 : decode cX9_rise 56 = .ok (.putfield 166, 3) := by decide +kernel
theorem dX9_rise_59 : decode cX9_rise 59 = .ok (.aload_n 0, 1) := by decide +kernel
theorem dX9_rise_60 : decode cX9_rise 60 = .ok (.getfield 33, 3) := by decide +kernel
theorem dX9_rise_63 : decode cX9_rise 63 = .ok (.aload_n 0, 1) := by decide +kernel
theorem dX9_rise_64 : decode cX9_rise 64 = .ok (.getfield 135, 3) := by decide +kernel
theorem dX9_rise_67 : decode cX9_rise 67 = .ok (.iload_n 1, 1) := by decide +kernel
theorem dX9_rise_68 : decode cX9_rise 68 = .ok (.invokestatic 169, 3) := by decide +kernel
theorem dX9_rise_71 : decode cX9_rise 71 = .ok (.invokevirtual 172, 3) := by decide +kernel
theorem dX9_rise_74 : decode cX9_rise 74 = .ok (.aload_n 0, 1) := by decide +kernel
theorem dX9_rise_75 : decode cX9_rise 75 = .ok (.iload_n 2, 1) := by decide +kernel
theorem dX9_rise_76 : decode cX9_rise 76 = .ok (.putfield 135, 3) := by decide +kernel
theorem dX9_rise_79 : decode cX9_rise 79 = .ok (.aload_n 0, 1) := by decide +kernel
theorem dX9_rise_80 : decode cX9_rise 80 = .ok (.getfield 135, 3) := by decide +kernel
theorem dX9_rise_83 : decode cX9_rise 83 = .ok (.invokestatic 176, 3) := by decide +kernel
theorem dX9_rise_86 : decode cX9_rise 86 = .ok (.ireturn, 1) := by decide +kernel
theorem dX9_down_0 : decode cX9_down 0 = .ok (.aload_n 0, 1) := by decide +kernel
theorem dX9_down_1 : decode cX9_down 1 = .ok (.getfield 135, 3) := by decide +kernel
theorem dX9_down_4 : decode cX9_down 4 = .ok (.invokestatic 176, 3) := by decide +kernel
theorem dX9_down_7 : decode cX9_down 7 = .ok (.istore_n 1, 1) := by decide +kernel
theorem dX9_down_8 : decode cX9_down 8 = .ok (.aload_n 0, 1) := by decide +kernel
theorem dX9_down_9 : decode cX9_down 9 = .ok (.iconst 0, 1) := by decide +kernel
theorem dX9_down_10 : decode cX9_down 10 = .ok (.putfield 135, 3) := by decide +kernel
theorem dX9_down_13 : decode cX9_down 13 = .ok (.iload_n 1, 1) := by decide +kernel
theorem dX9_down_14 : decode cX9_down 14 = .ok (.ireturn, 1) := by decide +kernel
theorem dX9_at_0 : decode cX9_at 0 = .ok (.aload_n 0, 1) := by decide +kernel
theorem dX9_at_1 : decode cX9_at 1 = .ok (.getfield 135, 3) := by decide +kernel
theorem dX9_at_4 : decode cX9_at 4 = .ok (.iload_n 1, 1) := by decide +kernel
theorem dX9_at_5 : decode cX9_at 5 = .ok (.invokestatic 178, 3) := by decide +kernel
theorem dX9_at_8 : decode cX9_at 8 = .ok (.istore_n 2, 1) := by decide +kernel
theorem dX9_at_9 : decode cX9_at 9 = .ok (.iload_n 2, 1) := by decide +kernel
theorem dX9_at_10 : decode cX9_at 10 = .ok (.iconst (-1), 1) := by decide +kernel
theorem dX9_at_11 : decode cX9_at 11 = .ok (.if_icmp .ne 8, 3) := by decide +kernel
theorem dX9_at_14 : decode cX9_at 14 = .ok (.bipush (-101), 2) := by decide +kernel
theorem dX9_at_16 : decode cX9_at 16 = .ok (.goto 4, 3) := by decide +kernel
theorem dX9_at_19 : decode cX9_at 19 = .ok (.iload_n 2, 1) := by decide +kernel
theorem dX9_at_20 : decode cX9_at 20 = .ok (.ireturn, 1) := by decide +kernel
theorem dX9_bill_0 : decode cX9_bill 0 = .ok (.aload_n 0, 1) := by decide +kernel
theorem dX9_bill_1 : decode cX9_bill 1 = .ok (.getfield 33, 3) := by decide +kernel
theorem dX9_bill_4 : decode cX9_bill 4 = .ok (.aload_n 0, 1) := by decide +kernel
theorem dX9_bill_5 : decode cX9_bill 5 = .ok (.getfield 135, 3) := by decide +kernel
theorem dX9_bill_8 : decode cX9_bill 8 = .ok (.invokevirtual 181, 3) := by decide +kernel
theorem dX9_bill_11 : decode cX9_bill 11 = .ok (.ireturn, 1) := by decide +kernel
theorem dX9_debate_0 : decode cX9_debate 0 = .ok (.iload_n 1, 1) := by decide +kernel
theorem dX9_debate_1 : decode cX9_debate 1 = .ok (.iconst 0, 1) := by decide +kernel
theorem dX9_debate_2 : decode cX9_debate 2 = .ok (.iconst 1, 1) := by decide +kernel
theorem dX9_debate_3 : decode cX9_debate 3 = .ok (.invokestatic 85, 3) := by decide +kernel
theorem dX9_debate_6 : decode cX9_debate 6 = .ok (.ifCond .ne 6, 3) := by decide +kernel
theorem dX9_debate_9 : decode cX9_debate 9 = .ok (.bipush (-102), 2) := by decide +kernel
theorem dX9_debate_11 : decode cX9_debate 11 = .ok (.ireturn, 1) := by decide +kernel
theorem dX9_debate_12 : decode cX9_debate 12 = .ok (.aload_n 0, 1) := by decide +kernel
theorem dX9_debate_13 : decode cX9_debate 13 = .ok (.invokevirtual 184, 3) := by decide +kernel
theorem dX9_debate_16 : decode cX9_debate 16 = .ok (.istore_n 2, 1) := by decide +kernel
theorem dX9_debate_17 : decode cX9_debate 17 = .ok (.iload_n 2, 1) := by decide +kernel
theorem dX9_debate_18 : decode cX9_debate 18 = .ok (.ifCond .ne 6, 3) := by decide +kernel
theorem dX9_debate_21 : decode cX9_debate 21 = .ok (.bipush (-103), 2) := by decide +kernel
theorem dX9_debate_23 : decode cX9_debate 23 = .ok (.ireturn, 1) := by decide +kernel
theorem dX9_debate_24 : decode cX9_debate 24 = .ok (.iconst 0, 1) := by decide +kernel
theorem dX9_debate_25 : decode cX9_debate 25 = .ok (.istore_n 3, 1) := by decide +kernel
theorem dX9_debate_26 : decode cX9_debate 26 = .ok (.iconst 1, 1) := by decide +kernel
theorem dX9_debate_27 : decode cX9_debate 27 = .ok (.istore 4, 2) := by decide +kernel
theorem dX9_debate_29 : decode cX9_debate 29 = .ok (.iload 4, 2) := by decide +kernel
theorem dX9_debate_31 : decode cX9_debate 31 = .ok (.iload_n 2, 1) := by decide +kernel
theorem dX9_debate_32 : decode cX9_debate 32 = .ok (.invokestatic 176, 3) := by decide +kernel
theorem dX9_debate_35 : decode cX9_debate 35 = .ok (.if_icmp .gt 56, 3) := by decide +kernel
theorem dX9_debate_38 : decode cX9_debate 38 = .ok (.iload_n 2, 1) := by decide +kernel
theorem dX9_debate_39 : decode cX9_debate 39 = .ok (.iload 4, 2) := by decide +kernel
theorem dX9_debate_41 : decode cX9_debate 41 = .ok (.invokestatic 178, 3) := by decide +kernel
theorem dX9_debate_44 : decode cX9_debate 44 = .ok (.istore 5, 2) := by decide +kernel
theorem dX9_debate_46 : decode cX9_debate 46 = .ok (.aload_n 0, 1) := by decide +kernel
theorem dX9_debate_47 : decode cX9_debate 47 = .ok (.getfield 33, 3) := by decide +kernel
theorem dX9_debate_50 : decode cX9_debate 50 = .ok (.iload_n 3, 1) := by decide +kernel
theorem dX9_debate_51 : decode cX9_debate 51 = .ok (.iload 5, 2) := by decide +kernel
theorem dX9_debate_53 : decode cX9_debate 53 = .ok (.invokevirtual 159, 3) := by decide +kernel
theorem dX9_debate_56 : decode cX9_debate 56 = .ok (.ifCond .eq 29, 3) := by decide +kernel
theorem dX9_debate_59 : decode cX9_debate 59 = .ok (.aload_n 0, 1) := by decide +kernel
theorem dX9_debate_60 : decode cX9_debate 60 = .ok (.getfield 33, 3) := by decide +kernel
theorem dX9_debate_63 : decode cX9_debate 63 = .ok (.iload_n 3, 1) := by decide +kernel
theorem dX9_debate_64 : decode cX9_debate 64 = .ok (.iload 5, 2) := by decide +kernel
theorem dX9_debate_66 : decode cX9_debate 66 = .ok (.invokevirtual 163, 3) := by decide +kernel
theorem dX9_debate_69 : decode cX9_debate 69 = .ok (.istore_n 3, 1) := by decide +kernel
theorem dX9_debate_70 : decode cX9_debate 70 = .ok (.iload_n 3, 1) := by decide +kernel
theorem dX9_debate_71 : decode cX9_debate 71 = .ok (.ifCond .ne 14, 3) := by decide +kernel
theorem dX9_debate_74 : decode cX9_debate 74 = .ok (.iload_n 1, 1) := by decide +kernel
theorem dX9_debate_75 : decode cX9_debate 75 = .ok (.ifCond .ne 8, 3) := by decide +kernel
theorem dX9_debate_78 : decode cX9_debate 78 = .ok (.iload 4, 2) := by decide +kernel
theorem dX9_debate_80 : decode cX9_debate 80 = .ok (.goto 4, 3) := by decide +kernel
theorem dX9_debate_83 : decode cX9_debate 83 = .ok (.iconst 0, 1) := by decide +kernel
theorem dX9_debate_84 : decode cX9_debate 84 = .ok (.ireturn, 1) := by decide +kernel
theorem dX9_debate_85 : decode cX9_debate 85 = .ok (.iinc 4 1, 3) := by decide +kernel
theorem dX9_debate_88 : decode cX9_debate 88 = .ok (.goto (-59), 3) := by decide +kernel
theorem dX9_debate_91 : decode cX9_debate 91 = .ok (.iload_n 1, 1) := by decide +kernel
theorem dX9_debate_92 : decode cX9_debate 92 = .ok (.ifCond .ne 7, 3) := by decide +kernel
theorem dX9_debate_95 : decode cX9_debate 95 = .ok (.iconst 0, 1) := by decide +kernel
theorem dX9_debate_96 : decode cX9_debate 96 = .ok (.goto 11, 3) := by decide +kernel
theorem dX9_debate_99 : decode cX9_debate 99 = .ok (.aload_n 0, 1) := by decide +kernel
theorem dX9_debate_100 : decode cX9_debate 100 = .ok (.getfield 33, 3) := by decide +kernel
theorem dX9_debate_103 : decode cX9_debate 103 = .ok (.iload_n 3, 1) := by decide +kernel
theorem dX9_debate_104 : decode cX9_debate 104 = .ok (.invokevirtual 181, 3) := by decide +kernel
theorem dX9_debate_107 : decode cX9_debate 107 = .ok (.ireturn, 1) := by decide +kernel
theorem dX9_nails_0 : decode cX9_nails 0 = .ok (.aload_n 0, 1) := by decide +kernel
theorem dX9_nails_1 : decode cX9_nails 1 = .ok (.invokevirtual 184, 3) := by decide +kernel
theorem dX9_nails_4 : decode cX9_nails 4 = .ok (.istore_n 1, 1) := by decide +kernel
theorem dX9_nails_5 : decode cX9_nails 5 = .ok (.iload_n 1, 1) := by decide +kernel
theorem dX9_nails_6 : decode cX9_nails 6 = .ok (.ifCond .ne 6, 3) := by decide +kernel
theorem dX9_nails_9 : decode cX9_nails 9 = .ok (.bipush (-103), 2) := by decide +kernel
theorem dX9_nails_11 : decode cX9_nails 11 = .ok (.ireturn, 1) := by decide +kernel
theorem dX9_nails_12 : decode cX9_nails 12 = .ok (.aload_n 0, 1) := by decide +kernel
theorem dX9_nails_13 : decode cX9_nails 13 = .ok (.getfield 33, 3) := by decide +kernel
theorem dX9_nails_16 : decode cX9_nails 16 = .ok (.iload_n 1, 1) := by decide +kernel
theorem dX9_nails_17 : decode cX9_nails 17 = .ok (.invokevirtual 187, 3) := by decide +kernel
theorem dX9_nails_20 : decode cX9_nails 20 = .ok (.ifCond .eq 7, 3) := by decide +kernel
theorem dX9_nails_23 : decode cX9_nails 23 = .ok (.iconst (-1), 1) := by decide +kernel
theorem dX9_nails_24 : decode cX9_nails 24 = .ok (.goto 11, 3) := by decide +kernel
theorem dX9_nails_27 : decode cX9_nails 27 = .ok (.aload_n 0, 1) := by decide +kernel
theorem dX9_nails_28 : decode cX9_nails 28 = .ok (.getfield 33, 3) := by decide +kernel
theorem dX9_nails_31 : decode cX9_nails 31 = .ok (.iload_n 1, 1) := by decide +kernel
theorem dX9_nails_32 : decode cX9_nails 32 = .ok (.invokevirtual 190, 3) := by decide +kernel
theorem dX9_nails_35 : decode cX9_nails 35 = .ok (.ireturn, 1) := by decide +kernel
theorem dX9_shook_0 : decode cX9_shook 0 = .ok (.aload_n 0, 1) := by decide +kernel
theorem dX9_shook_1 : decode cX9_shook 1 = .ok (.invokevirtual 184, 3) := by decide +kernel
theorem dX9_shook_4 : decode cX9_shook 4 = .ok (.istore_n 1, 1) := by decide +kernel
theorem dX9_shook_5 : decode cX9_shook 5 = .ok (.iload_n 1, 1) := by decide +kernel
theorem dX9_shook_6 : decode cX9_shook 6 = .ok (.ifCond .ne 6, 3) := by decide +kernel
theorem dX9_shook_9 : decode cX9_shook 9 = .ok (.bipush (-103), 2) := by decide +kernel
theorem dX9_shook_11 : decode cX9_shook 11 = .ok (.ireturn, 1) := by decide +kernel
theorem dX9_shook_12 : decode cX9_shook 12 = .ok (.iconst 0, 1) := by decide +kernel
theorem dX9_shook_13 : decode cX9_shook 13 = .ok (.istore_n 2, 1) := by decide +kernel
theorem dX9_shook_14 : decode cX9_shook 14 = .ok (.aload_n 0, 1) := by decide +kernel
theorem dX9_shook_15 : decode cX9_shook 15 = .ok (.getfield 33, 3) := by decide +kernel
theorem dX9_shook_18 : decode cX9_shook 18 = .ok (.iload_n 1, 1) := by decide +kernel
theorem dX9_shook_19 : decode cX9_shook 19 = .ok (.invokevirtual 193, 3) := by decide +kernel
theorem dX9_shook_22 : decode cX9_shook 22 = .ok (.ifCond .ne 51, 3) := by decide +kernel
theorem dX9_shook_25 : decode cX9_shook 25 = .ok (.iconst 0, 1) := by decide +kernel
theorem dX9_shook_26 : decode cX9_shook 26 = .ok (.istore_n 3, 1) := by decide +kernel
theorem dX9_shook_27 : decode cX9_shook 27 = .ok (.iload_n 3, 1) := by decide +kernel
theorem dX9_shook_28 : decode cX9_shook 28 = .ok (.aload_n 0, 1) := by decide +kernel
theorem dX9_shook_29 : decode cX9_shook 29 = .ok (.getfield 33, 3) := by decide +kernel
theorem dX9_shook_32 : decode cX9_shook 32 = .ok (.invokevirtual 95, 3) := by decide +kernel
theorem dX9_shook_35 : decode cX9_shook 35 = .ok (.if_icmp .ge 38, 3) := by decide +kernel
theorem dX9_shook_38 : decode cX9_shook 38 = .ok (.iload_n 1, 1) := by decide +kernel
theorem dX9_shook_39 : decode cX9_shook 39 = .ok (.iload_n 3, 1) := by decide +kernel
theorem dX9_shook_40 : decode cX9_shook 40 = .ok (.invokestatic 138, 3) := by decide +kernel
theorem dX9_shook_43 : decode cX9_shook 43 = .ok (.ifCond .le 24, 3) := by decide +kernel
theorem dX9_shook_46 : decode cX9_shook 46 = .ok (.aload_n 0, 1) := by decide +kernel
theorem dX9_shook_47 : decode cX9_shook 47 = .ok (.getfield 33, 3) := by decide +kernel
theorem dX9_shook_50 : decode cX9_shook 50 = .ok (.iload_n 1, 1) := by decide +kernel
theorem dX9_shook_51 : decode cX9_shook 51 = .ok (.iload_n 3, 1) := by decide +kernel
theorem dX9_shook_52 : decode cX9_shook 52 = .ok (.invokestatic 196, 3) := by decide +kernel
theorem dX9_shook_55 : decode cX9_shook 55 = .ok (.invokevirtual 193, 3) := by decide +kernel
theorem dX9_shook_58 : decode cX9_shook 58 = .ok (.ifCond .eq 9, 3) := by decide +kernel
theorem dX9_shook_61 : decode cX9_shook 61 = .ok (.iload_n 2, 1) := by decide +kernel
theorem dX9_shook_62 : decode cX9_shook 62 = .ok (.iconst 1, 1) := by decide +kernel
theorem dX9_shook_63 : decode cX9_shook 63 = .ok (.iload_n 3, 1) := by decide +kernel
theorem dX9_shook_64 : decode cX9_shook 64 = .ok (.ishl, 1) := by decide +kernel
theorem dX9_shook_65 : decode cX9_shook 65 = .ok (.ior, 1) := by decide +kernel
theorem dX9_shook_66 : decode cX9_shook 66 = .ok (.istore_n 2, 1) := by decide +kernel
theorem dX9_shook_67 : decode cX9_shook 67 = .ok (.iinc 3 1, 3) := by decide +kernel
theorem dX9_shook_70 : decode cX9_shook 70 = .ok (.goto (-43), 3) := by decide +kernel
theorem dX9_shook_73 : decode cX9_shook 73 = .ok (.iload_n 2, 1) := by decide +kernel
theorem dX9_shook_74 : decode cX9_shook 74 = .ok (.ireturn, 1) := by decide +kernel
theorem dX9_debateRow_0 : decode cX9_debateRow 0 = .ok (.aload_n 0, 1) := by decide +kernel
theorem dX9_debateRow_1 : decode cX9_debateRow 1 = .ok (.getfield 10, 3) := by decide +kernel
theorem dX9_debateRow_4 : decode cX9_debateRow 4 = .ok (.aload_n 0, 1) := by decide +kernel
theorem dX9_debateRow_5 : decode cX9_debateRow 5 = .ok (.getfield 26, 3) := by decide +kernel
theorem dX9_debateRow_8 : decode cX9_debateRow 8 = .ok (.invokevirtual 74, 3) := by decide +kernel
theorem dX9_debateRow_11 : decode cX9_debateRow 11 = .ok (.ifCond .ne 5, 3) := by decide +kernel
theorem dX9_debateRow_14 : decode cX9_debateRow 14 = .ok (.iconst 0, 1) := by decide +kernel
theorem dX9_debateRow_15 : decode cX9_debateRow 15 = .ok (.ireturn, 1) := by decide +kernel
theorem dX9_debateRow_16 : decode cX9_debateRow 16 = .ok (.aload_n 0, 1) := by decide +kernel
theorem dX9_debateRow_17 : decode cX9_debateRow 17 = .ok (.getfield 26, 3) := by decide +kernel
theorem dX9_debateRow_20 : decode cX9_debateRow 20 = .ok (.invokevirtual 199, 3) := by decide +kernel
theorem dX9_debateRow_23 : decode cX9_debateRow 23 = .ok (.iconst 1, 1) := by decide +kernel
theorem dX9_debateRow_24 : decode cX9_debateRow 24 = .ok (.aload_n 0, 1) := by decide +kernel
theorem dX9_debateRow_25 : decode cX9_debateRow 25 = .ok (.getfield 33, 3) := by decide +kernel
theorem dX9_debateRow_28 : decode cX9_debateRow 28 = .ok (.invokevirtual 95, 3) := by decide +kernel
theorem dX9_debateRow_31 : decode cX9_debateRow 31 = .ok (.ishl, 1) := by decide +kernel
theorem dX9_debateRow_32 : decode cX9_debateRow 32 = .ok (.if_icmp .ge 7, 3) := by decide +kernel
theorem dX9_debateRow_35 : decode cX9_debateRow 35 = .ok (.iconst 1, 1) := by decide +kernel
theorem dX9_debateRow_36 : decode cX9_debateRow 36 = .ok (.goto 4, 3) := by decide +kernel
theorem dX9_debateRow_39 : decode cX9_debateRow 39 = .ok (.iconst 0, 1) := by decide +kernel
theorem dX9_debateRow_40 : decode cX9_debateRow 40 = .ok (.istore_n 1, 1) := by decide +kernel
theorem dX9_debateRow_41 : decode cX9_debateRow 41 = .ok (.iload_n 1, 1) := by decide +kernel
theorem dX9_debateRow_42 : decode cX9_debateRow 42 = .ok (.ifCond .eq 13, 3) := by decide +kernel
theorem dX9_debateRow_45 : decode cX9_debateRow 45 = .ok (.aload_n 0, 1) := by decide +kernel
theorem dX9_debateRow_46 : decode cX9_debateRow 46 = .ok (.getfield 26, 3) := by decide +kernel
theorem dX9_debateRow_49 : decode cX9_debateRow 49 = .ok (.invokevirtual 202, 3) := by decide +kernel
theorem dX9_debateRow_52 : decode cX9_debateRow 52 = .ok (.goto 4, 3) := by decide +kernel
theorem dX9_debateRow_55 : decode cX9_debateRow 55 = .ok (.iconst 0, 1) := by decide +kernel
theorem dX9_debateRow_56 : decode cX9_debateRow 56 = .ok (.ireturn, 1) := by decide +kernel
theorem dX9_order_0 : decode cX9_order 0 = .ok (.aload_n 0, 1) := by decide +kernel
theorem dX9_order_1 : decode cX9_order 1 = .ok (.iload_n 1, 1) := by decide +kernel
theorem dX9_order_2 : decode cX9_order 2 = .ok (.invokevirtual 205, 3) := by decide +kernel
theorem dX9_order_5 : decode cX9_order 5 = .ok (.ifCond .eq 13, 3) := by decide +kernel
theorem dX9_order_8 : decode cX9_order 8 = .ok (.iload_n 2, 1) := by decide +kernel
theorem dX9_order_9 : decode cX9_order 9 = .ok (.iconst 0, 1) := by decide +kernel
theorem dX9_order_10 : decode cX9_order 10 = .ok (.bipush 6, 2) := by decide +kernel
theorem dX9_order_12 : decode cX9_order 12 = .ok (.invokestatic 85, 3) := by decide +kernel
theorem dX9_order_15 : decode cX9_order 15 = .ok (.ifCond .ne 6, 3) := by decide +kernel
theorem dX9_order_18 : decode cX9_order 18 = .ok (.bipush (-102), 2) := by decide +kernel
theorem dX9_order_20 : decode cX9_order 20 = .ok (.ireturn, 1) := by decide +kernel
theorem dX9_order_21 : decode cX9_order 21 = .ok (.aload_n 0, 1) := by decide +kernel
theorem dX9_order_22 : decode cX9_order 22 = .ok (.getfield 208, 3) := by decide +kernel
theorem dX9_order_25 : decode cX9_order 25 = .ok (.bipush 40, 2) := by decide +kernel
theorem dX9_order_27 : decode cX9_order 27 = .ok (.if_icmp .lt 6, 3) := by decide +kernel
theorem dX9_order_30 : decode cX9_order 30 = .ok (.bipush (-103), 2) := by decide +kernel
theorem dX9_order_32 : decode cX9_order 32 = .ok (.ireturn, 1) := by decide +kernel
theorem dX9_order_33 : decode cX9_order 33 = .ok (.aload_n 0, 1) := by decide +kernel
theorem dX9_order_34 : decode cX9_order 34 = .ok (.dup, 1) := by decide +kernel
theorem dX9_order_35 : decode cX9_order 35 = .ok (.getfield 208, 3) := by decide +kernel
theorem dX9_order_38 : decode cX9_order 38 = .ok (.iconst 1, 1) := by decide +kernel
theorem dX9_order_39 : decode cX9_order 39 = .ok (.iadd, 1) := by decide +kernel
theorem dX9_order_40 : decode cX9_order 40 = .ok (.putfield 208, 3) := by decide +kernel
theorem dX9_order_43 : decode cX9_order 43 = .ok (.aload_n 0, 1) := by decide +kernel
theorem dX9_order_44 : decode cX9_order 44 = .ok (.getfield 33, 3) := by decide +kernel
theorem dX9_order_47 : decode cX9_order 47 = .ok (.aload_n 0, 1) := by decide +kernel
theorem dX9_order_48 : decode cX9_order 48 = .ok (.getfield 135, 3) := by decide +kernel
theorem dX9_order_51 : decode cX9_order 51 = .ok (.iload_n 1, 1) := by decide +kernel
theorem dX9_order_52 : decode cX9_order 52 = .ok (.iconst 0, 1) := by decide +kernel
theorem dX9_order_53 : decode cX9_order 53 = .ok (.invokestatic 211, 3) := by decide +kernel
theorem dX9_order_56 : decode cX9_order 56 = .ok (.istore_n 3, 1) := by decide +kernel
theorem dX9_order_57 : decode cX9_order 57 = .ok (.iload_n 3, 1) := by decide +kernel
theorem dX9_order_58 : decode cX9_order 58 = .ok (.iconst (-1), 1) := by decide +kernel
theorem dX9_order_59 : decode cX9_order 59 = .ok (.if_icmp .ne 7, 3) := by decide +kernel
theorem dX9_order_62 : decode cX9_order 62 = .ok (.iconst (-1), 1) := by decide +kernel
theorem dX9_order_63 : decode cX9_order 63 = .ok (.goto 18, 3) := by decide +kernel
theorem dX9_order_66 : decode cX9_order 66 = .ok (.iload_n 3, 1) := by decide +kernel
theorem dX9_order_67 : decode cX9_order 67 = .ok (.aload_n 0, 1) := by decide +kernel
theorem dX9_order_68 : decode cX9_order 68 = .ok (.getfield 135, 3) := by decide +kernel
theorem dX9_order_71 : decode cX9_order 71 = .ok (.invokestatic 176, 3) := by decide +kernel
theorem dX9_order_74 : decode cX9_order 74 = .ok (.iconst 1, 1) := by decide +kernel
theorem dX9_order_75 : decode cX9_order 75 = .ok (.iadd, 1) := by decide +kernel
theorem dX9_order_76 : decode cX9_order 76 = .ok (.iload_n 2, 1) := by decide +kernel
theorem dX9_order_77 : decode cX9_order 77 = .ok (.iadd, 1) := by decide +kernel
theorem dX9_order_78 : decode cX9_order 78 = .ok (.invokestatic 178, 3) := by decide +kernel
theorem dX9_order_81 : decode cX9_order 81 = .ok (.ireturn, 1) := by decide +kernel
theorem dX9_laws_0 : decode cX9_laws 0 = .ok (.aload_n 0, 1) := by decide +kernel
theorem dX9_laws_1 : decode cX9_laws 1 = .ok (.iload_n 1, 1) := by decide +kernel
theorem dX9_laws_2 : decode cX9_laws 2 = .ok (.invokevirtual 205, 3) := by decide +kernel
theorem dX9_laws_5 : decode cX9_laws 5 = .ok (.ifCond .eq 12, 3) := by decide +kernel
theorem dX9_laws_8 : decode cX9_laws 8 = .ok (.iload_n 2, 1) := by decide +kernel
theorem dX9_laws_9 : decode cX9_laws 9 = .ok (.iconst 0, 1) := by decide +kernel
theorem dX9_laws_10 : decode cX9_laws 10 = .ok (.iconst 1, 1) := by decide +kernel
theorem dX9_laws_11 : decode cX9_laws 11 = .ok (.invokestatic 85, 3) := by decide +kernel
theorem dX9_laws_14 : decode cX9_laws 14 = .ok (.ifCond .ne 6, 3) := by decide +kernel
theorem dX9_laws_17 : decode cX9_laws 17 = .ok (.bipush (-102), 2) := by decide +kernel
theorem dX9_laws_19 : decode cX9_laws 19 = .ok (.ireturn, 1) := by decide +kernel
theorem dX9_laws_20 : decode cX9_laws 20 = .ok (.aload_n 0, 1) := by decide +kernel
theorem dX9_laws_21 : decode cX9_laws 21 = .ok (.getfield 208, 3) := by decide +kernel
theorem dX9_laws_24 : decode cX9_laws 24 = .ok (.bipush 40, 2) := by decide +kernel
theorem dX9_laws_26 : decode cX9_laws 26 = .ok (.if_icmp .lt 6, 3) := by decide +kernel
theorem dX9_laws_29 : decode cX9_laws 29 = .ok (.bipush (-103), 2) := by decide +kernel
theorem dX9_laws_31 : decode cX9_laws 31 = .ok (.ireturn, 1) := by decide +kernel
theorem dX9_laws_32 : decode cX9_laws 32 = .ok (.aload_n 0, 1) := by decide +kernel
theorem dX9_laws_33 : decode cX9_laws 33 = .ok (.dup, 1) := by decide +kernel
theorem dX9_laws_34 : decode cX9_laws 34 = .ok (.getfield 208, 3) := by decide +kernel
theorem dX9_laws_37 : decode cX9_laws 37 = .ok (.iconst 1, 1) := by decide +kernel
theorem dX9_laws_38 : decode cX9_laws 38 = .ok (.iadd, 1) := by decide +kernel
theorem dX9_laws_39 : decode cX9_laws 39 = .ok (.putfield 208, 3) := by decide +kernel
theorem dX9_laws_42 : decode cX9_laws 42 = .ok (.aload_n 0, 1) := by decide +kernel
theorem dX9_laws_43 : decode cX9_laws 43 = .ok (.getfield 47, 3) := by decide +kernel
theorem dX9_laws_46 : decode cX9_laws 46 = .ok (.invokevirtual 215, 3) := by decide +kernel
theorem dX9_laws_49 : decode cX9_laws 49 = .ok (.aload_n 0, 1) := by decide +kernel
theorem dX9_laws_50 : decode cX9_laws 50 = .ok (.getfield 33, 3) := by decide +kernel
theorem dX9_laws_53 : decode cX9_laws 53 = .ok (.aload_n 0, 1) := by decide +kernel
theorem dX9_laws_54 : decode cX9_laws 54 = .ok (.getfield 135, 3) := by decide +kernel
theorem dX9_laws_57 : decode cX9_laws 57 = .ok (.iload_n 1, 1) := by decide +kernel
theorem dX9_laws_58 : decode cX9_laws 58 = .ok (.aload_n 0, 1) := by decide +kernel
theorem dX9_laws_59 : decode cX9_laws 59 = .ok (.getfield 33, 3) := by decide +kernel
theorem dX9_laws_62 : decode cX9_laws 62 = .ok (.aload_n 0, 1) := by decide +kernel
theorem dX9_laws_63 : decode cX9_laws 63 = .ok (.getfield 135, 3) := by decide +kernel
theorem dX9_laws_66 : decode cX9_laws 66 = .ok (.invokevirtual 181, 3) := by decide +kernel
theorem dX9_laws_69 : decode cX9_laws 69 = .ok (.iconst 0, 1) := by decide +kernel
theorem dX9_laws_70 : decode cX9_laws 70 = .ok (.aload_n 0, 1) := by decide +kernel
theorem dX9_laws_71 : decode cX9_laws 71 = .ok (.getfield 47, 3) := by decide +kernel
theorem dX9_laws_74 : decode cX9_laws 74 = .ok (.invokestatic 216, 3) := by decide +kernel
theorem dX9_laws_77 : decode cX9_laws 77 = .ok (.iload_n 2, 1) := by decide +kernel
theorem dX9_laws_78 : decode cX9_laws 78 = .ok (.ifCond .ne 13, 3) := by decide +kernel
theorem dX9_laws_81 : decode cX9_laws 81 = .ok (.aload_n 0, 1) := by decide +kernel
theorem dX9_laws_82 : decode cX9_laws 82 = .ok (.getfield 47, 3) := by decide +kernel
theorem dX9_laws_85 : decode cX9_laws 85 = .ok (.invokevirtual 220, 3) := by decide +kernel
theorem dX9_laws_88 : decode cX9_laws 88 = .ok (.goto 10, 3) := by decide +kernel
theorem dX9_laws_91 : decode cX9_laws 91 = .ok (.aload_n 0, 1) := by decide +kernel
theorem dX9_laws_92 : decode cX9_laws 92 = .ok (.getfield 47, 3) := by decide +kernel
theorem dX9_laws_95 : decode cX9_laws 95 = .ok (.invokevirtual 223, 3) := by decide +kernel
theorem dX9_laws_98 : decode cX9_laws 98 = .ok (.ireturn, 1) := by decide +kernel
theorem dX9_changed_0 : decode cX9_changed 0 = .ok (.aload_n 0, 1) := by decide +kernel
theorem dX9_changed_1 : decode cX9_changed 1 = .ok (.getfield 135, 3) := by decide +kernel
theorem dX9_changed_4 : decode cX9_changed 4 = .ok (.ifCond .ne 7, 3) := by decide +kernel
theorem dX9_changed_7 : decode cX9_changed 7 = .ok (.iconst (-1), 1) := by decide +kernel
theorem dX9_changed_8 : decode cX9_changed 8 = .ok (.goto 14, 3) := by decide +kernel
theorem dX9_changed_11 : decode cX9_changed 11 = .ok (.aload_n 0, 1) := by decide +kernel
theorem dX9_changed_12 : decode cX9_changed 12 = .ok (.getfield 33, 3) := by decide +kernel
theorem dX9_changed_15 : decode cX9_changed 15 = .ok (.aload_n 0, 1) := by decide +kernel
theorem dX9_changed_16 : decode cX9_changed 16 = .ok (.getfield 135, 3) := by decide +kernel
theorem dX9_changed_19 : decode cX9_changed 19 = .ok (.invokevirtual 226, 3) := by decide +kernel
theorem dX9_changed_22 : decode cX9_changed 22 = .ok (.ireturn, 1) := by decide +kernel
theorem dX9_midnight_0 : decode cX9_midnight 0 = .ok (.iload_n 1, 1) := by decide +kernel
theorem dX9_midnight_1 : decode cX9_midnight 1 = .ok (.iconst 1, 1) := by decide +kernel
theorem dX9_midnight_2 : decode cX9_midnight 2 = .ok (.iconst 5, 1) := by decide +kernel
theorem dX9_midnight_3 : decode cX9_midnight 3 = .ok (.invokestatic 85, 3) := by decide +kernel
theorem dX9_midnight_6 : decode cX9_midnight 6 = .ok (.ifCond .ne 6, 3) := by decide +kernel
theorem dX9_midnight_9 : decode cX9_midnight 9 = .ok (.ldc 229, 2) := by decide +kernel
theorem dX9_midnight_11 : decode cX9_midnight 11 = .ok (.ireturn, 1) := by decide +kernel
theorem dX9_midnight_12 : decode cX9_midnight 12 = .ok (.aload_n 0, 1) := by decide +kernel
theorem dX9_midnight_13 : decode cX9_midnight 13 = .ok (.getfield 230, 3) := by decide +kernel
theorem dX9_midnight_16 : decode cX9_midnight 16 = .ok (.bipush 30, 2) := by decide +kernel
theorem dX9_midnight_18 : decode cX9_midnight 18 = .ok (.if_icmp .lt 6, 3) := by decide +kernel
theorem dX9_midnight_21 : decode cX9_midnight 21 = .ok (.ldc 233, 2) := by decide +kernel
theorem dX9_midnight_23 : decode cX9_midnight 23 = .ok (.ireturn, 1) := by decide +kernel
theorem dX9_midnight_24 : decode cX9_midnight 24 = .ok (.aload_n 0, 1) := by decide +kernel
theorem dX9_midnight_25 : decode cX9_midnight 25 = .ok (.dup, 1) := by decide +kernel
theorem dX9_midnight_26 : decode cX9_midnight 26 = .ok (.getfield 230, 3) := by decide +kernel
theorem dX9_midnight_29 : decode cX9_midnight 29 = .ok (.iconst 1, 1) := by decide +kernel
theorem dX9_midnight_30 : decode cX9_midnight 30 = .ok (.iadd, 1) := by decide +kernel
theorem dX9_midnight_31 : decode cX9_midnight 31 = .ok (.putfield 230, 3) := by decide +kernel
theorem dX9_midnight_34 : decode cX9_midnight 34 = .ok (.aload_n 0, 1) := by decide +kernel
theorem dX9_midnight_35 : decode cX9_midnight 35 = .ok (.getfield 33, 3) := by decide +kernel
theorem dX9_midnight_38 : decode cX9_midnight 38 = .ok (.aload_n 0, 1) := by decide +kernel
theorem dX9_midnight_39 : decode cX9_midnight 39 = .ok (.getfield 135, 3) := by decide +kernel
theorem dX9_midnight_42 : decode cX9_midnight 42 = .ok (.iload_n 1, 1) := by decide +kernel
theorem dX9_midnight_43 : decode cX9_midnight 43 = .ok (.iconst 0, 1) := by decide +kernel
theorem dX9_midnight_44 : decode cX9_midnight 44 = .ok (.invokestatic 234, 3) := by decide +kernel
theorem dX9_midnight_47 : decode cX9_midnight 47 = .ok (.ireturn, 1) := by decide +kernel
theorem dX9_sessions_0 : decode cX9_sessions 0 = .ok (.iload_n 1, 1) := by decide +kernel
theorem dX9_sessions_1 : decode cX9_sessions 1 = .ok (.iconst 1, 1) := by decide +kernel
theorem dX9_sessions_2 : decode cX9_sessions 2 = .ok (.bipush 60, 2) := by decide +kernel
theorem dX9_sessions_4 : decode cX9_sessions 4 = .ok (.invokestatic 85, 3) := by decide +kernel
theorem dX9_sessions_7 : decode cX9_sessions 7 = .ok (.ifCond .eq 16, 3) := by decide +kernel
theorem dX9_sessions_10 : decode cX9_sessions 10 = .ok (.iload_n 2, 1) := by decide +kernel
theorem dX9_sessions_11 : decode cX9_sessions 11 = .ok (.ifCond .lt 12, 3) := by decide +kernel
theorem dX9_sessions_14 : decode cX9_sessions 14 = .ok (.iload_n 3, 1) := by decide +kernel
theorem dX9_sessions_15 : decode cX9_sessions 15 = .ok (.iconst 0, 1) := by decide +kernel
theorem dX9_sessions_16 : decode cX9_sessions 16 = .ok (.iconst 3, 1) := by decide +kernel
theorem dX9_sessions_17 : decode cX9_sessions 17 = .ok (.invokestatic 85, 3) := by decide +kernel
theorem dX9_sessions_20 : decode cX9_sessions 20 = .ok (.ifCond .ne 6, 3) := by decide +kernel
theorem dX9_sessions_23 : decode cX9_sessions 23 = .ok (.bipush (-102), 2) := by decide +kernel
theorem dX9_sessions_25 : decode cX9_sessions 25 = .ok (.ireturn, 1) := by decide +kernel
theorem dX9_sessions_26 : decode cX9_sessions 26 = .ok (.aload_n 0, 1) := by decide +kernel
theorem dX9_sessions_27 : decode cX9_sessions 27 = .ok (.getfield 33, 3) := by decide +kernel
theorem dX9_sessions_30 : decode cX9_sessions 30 = .ok (.invokevirtual 95, 3) := by decide +kernel
theorem dX9_sessions_33 : decode cX9_sessions 33 = .ok (.istore 4, 2) := by decide +kernel
theorem dX9_sessions_35 : decode cX9_sessions 35 = .ok (.aload_n 0, 1) := by decide +kernel
theorem dX9_sessions_36 : decode cX9_sessions 36 = .ok (.getfield 135, 3) := by decide +kernel
theorem dX9_sessions_39 : decode cX9_sessions 39 = .ok (.istore 5, 2) := by decide +kernel
theorem dX9_sessions_41 : decode cX9_sessions 41 = .ok (.iconst 0, 1) := by decide +kernel
theorem dX9_sessions_42 : decode cX9_sessions 42 = .ok (.istore 6, 2) := by decide +kernel
theorem dX9_sessions_44 : decode cX9_sessions 44 = .ok (.iload_n 2, 1) := by decide +kernel
theorem dX9_sessions_45 : decode cX9_sessions 45 = .ok (.i2l, 1) := by decide +kernel
theorem dX9_sessions_46 : decode cX9_sessions 46 = .ok (.lstore 7, 2) := by decide +kernel
theorem dX9_sessions_48 : decode cX9_sessions 48 = .ok (.iconst 0, 1) := by decide +kernel
theorem dX9_sessions_49 : decode cX9_sessions 49 = .ok (.istore 9, 2) := by decide +kernel
theorem dX9_sessions_51 : decode cX9_sessions 51 = .ok (.iload 9, 2) := by decide +kernel
theorem dX9_sessions_53 : decode cX9_sessions 53 = .ok (.iload_n 1, 1) := by decide +kernel
theorem dX9_sessions_54 : decode cX9_sessions 54 = .ok (.if_icmp .ge 85, 3) := by decide +kernel
theorem dX9_sessions_57 : decode cX9_sessions 57 = .ok (.iload 4, 2) := by decide +kernel
theorem dX9_sessions_59 : decode cX9_sessions 59 = .ok (.ifCond .le 80, 3) := by decide +kernel
theorem dX9_sessions_62 : decode cX9_sessions 62 = .ok (.ldc2_w 237, 3) := by decide +kernel
theorem dX9_sessions_65 : decode cX9_sessions 65 = .ok (.lload 7, 2) := by decide +kernel
theorem dX9_sessions_67 : decode cX9_sessions 67 = .ok (.lmul, 1) := by decide +kernel
theorem dX9_sessions_68 : decode cX9_sessions 68 = .ok (.ldc2_w 239, 3) := by decide +kernel
theorem dX9_sessions_71 : decode cX9_sessions 71 = .ok (.ladd, 1) := by decide +kernel
theorem dX9_sessions_72 : decode cX9_sessions 72 = .ok (.ldc2_w 241, 3) := by decide +kernel
theorem dX9_sessions_75 : decode cX9_sessions 75 = .ok (.lrem, 1) := by decide +kernel
theorem dX9_sessions_76 : decode cX9_sessions 76 = .ok (.lstore 7, 2) := by decide +kernel
theorem dX9_sessions_78 : decode cX9_sessions 78 = .ok (.lload 7, 2) := by decide +kernel
theorem dX9_sessions_80 : decode cX9_sessions 80 = .ok (.ldc2_w 243, 3) := by decide +kernel
theorem dX9_sessions_83 : decode cX9_sessions 83 = .ok (.ldiv, 1) := by decide +kernel
theorem dX9_sessions_84 : decode cX9_sessions 84 = .ok (.iload 4, 2) := by decide +kernel
theorem dX9_sessions_86 : decode cX9_sessions 86 = .ok (.i2l, 1) := by decide +kernel
theorem dX9_sessions_87 : decode cX9_sessions 87 = .ok (.lrem, 1) := by decide +kernel
theorem dX9_sessions_88 : decode cX9_sessions 88 = .ok (.l2i, 1) := by decide +kernel
theorem dX9_sessions_89 : decode cX9_sessions 89 = .ok (.istore 10, 2) := by decide +kernel
theorem dX9_sessions_91 : decode cX9_sessions 91 = .ok (.aload_n 0, 1) := by decide +kernel
theorem dX9_sessions_92 : decode cX9_sessions 92 = .ok (.getfield 33, 3) := by decide +kernel
theorem dX9_sessions_95 : decode cX9_sessions 95 = .ok (.iload 5, 2) := by decide +kernel
theorem dX9_sessions_97 : decode cX9_sessions 97 = .ok (.iload 10, 2) := by decide +kernel
theorem dX9_sessions_99 : decode cX9_sessions 99 = .ok (.invokevirtual 159, 3) := by decide +kernel
theorem dX9_sessions_102 : decode cX9_sessions 102 = .ok (.ifCond .eq 31, 3) := by decide +kernel
theorem dX9_sessions_105 : decode cX9_sessions 105 = .ok (.aload_n 0, 1) := by decide +kernel
theorem dX9_sessions_106 : decode cX9_sessions 106 = .ok (.getfield 33, 3) := by decide +kernel
theorem dX9_sessions_109 : decode cX9_sessions 109 = .ok (.iload 5, 2) := by decide +kernel
theorem dX9_sessions_111 : decode cX9_sessions 111 = .ok (.iload 10, 2) := by decide +kernel
theorem dX9_sessions_113 : decode cX9_sessions 113 = .ok (.invokevirtual 163, 3) := by decide +kernel
theorem dX9_sessions_116 : decode cX9_sessions 116 = .ok (.istore 5, 2) := by decide +kernel
theorem dX9_sessions_118 : decode cX9_sessions 118 = .ok (.iload 6, 2) := by decide +kernel
theorem dX9_sessions_120 : decode cX9_sessions 120 = .ok (.iload 5, 2) := by decide +kernel
theorem dX9_sessions_122 : decode cX9_sessions 122 = .ok (.ifCond .ne 7, 3) := by decide +kernel
theorem dX9_sessions_125 : decode cX9_sessions 125 = .ok (.iconst 1, 1) := by decide +kernel
theorem dX9_sessions_126 : decode cX9_sessions 126 = .ok (.goto 4, 3) := by decide +kernel
theorem dX9_sessions_129 : decode cX9_sessions 129 = .ok (.iconst 0, 1) := by decide +kernel
theorem dX9_sessions_130 : decode cX9_sessions 130 = .ok (.iadd, 1) := by decide +kernel
theorem dX9_sessions_131 : decode cX9_sessions 131 = .ok (.istore 6, 2) := by decide +kernel
theorem dX9_sessions_133 : decode cX9_sessions 133 = .ok (.iinc 9 1, 3) := by decide +kernel
theorem dX9_sessions_136 : decode cX9_sessions 136 = .ok (.goto (-85), 3) := by decide +kernel
theorem dX9_sessions_139 : decode cX9_sessions 139 = .ok (.iload_n 3, 1) := by decide +kernel
theorem dX9_sessions_140 : decode cX9_sessions 140 = .ok (.tableswitch 47 0 2 #[28, 34, 37], 28) := by decide +kernel
theorem dX9_sessions_168 : decode cX9_sessions 168 = .ok (.iload 5, 2) := by decide +kernel
theorem dX9_sessions_170 : decode cX9_sessions 170 = .ok (.invokestatic 176, 3) := by decide +kernel
theorem dX9_sessions_173 : decode cX9_sessions 173 = .ok (.ireturn, 1) := by decide +kernel
theorem dX9_sessions_174 : decode cX9_sessions 174 = .ok (.iload 6, 2) := by decide +kernel
theorem dX9_sessions_176 : decode cX9_sessions 176 = .ok (.ireturn, 1) := by decide +kernel
theorem dX9_sessions_177 : decode cX9_sessions 177 = .ok (.aload_n 0, 1) := by decide +kernel
theorem dX9_sessions_178 : decode cX9_sessions 178 = .ok (.getfield 33, 3) := by decide +kernel
theorem dX9_sessions_181 : decode cX9_sessions 181 = .ok (.iload 5, 2) := by decide +kernel
theorem dX9_sessions_183 : decode cX9_sessions 183 = .ok (.invokevirtual 181, 3) := by decide +kernel
theorem dX9_sessions_186 : decode cX9_sessions 186 = .ok (.ireturn, 1) := by decide +kernel
theorem dX9_sessions_187 : decode cX9_sessions 187 = .ok (.lload 7, 2) := by decide +kernel
theorem dX9_sessions_189 : decode cX9_sessions 189 = .ok (.l2i, 1) := by decide +kernel
theorem dX9_sessions_190 : decode cX9_sessions 190 = .ok (.ireturn, 1) := by decide +kernel
theorem dX9_isSet_0 : decode cX9_isSet 0 = .ok (.iload_n 1, 1) := by decide +kernel
theorem dX9_isSet_1 : decode cX9_isSet 1 = .ok (.iconst 0, 1) := by decide +kernel
theorem dX9_isSet_2 : decode cX9_isSet 2 = .ok (.iconst 1, 1) := by decide +kernel
theorem dX9_isSet_3 : decode cX9_isSet 3 = .ok (.aload_n 0, 1) := by decide +kernel
theorem dX9_isSet_4 : decode cX9_isSet 4 = .ok (.getfield 33, 3) := by decide +kernel
theorem dX9_isSet_7 : decode cX9_isSet 7 = .ok (.invokevirtual 95, 3) := by decide +kernel
theorem dX9_isSet_10 : decode cX9_isSet 10 = .ok (.ishl, 1) := by decide +kernel
theorem dX9_isSet_11 : decode cX9_isSet 11 = .ok (.iconst 1, 1) := by decide +kernel
theorem dX9_isSet_12 : decode cX9_isSet 12 = .ok (.isub, 1) := by decide +kernel
theorem dX9_isSet_13 : decode cX9_isSet 13 = .ok (.invokestatic 85, 3) := by decide +kernel
theorem dX9_isSet_16 : decode cX9_isSet 16 = .ok (.ireturn, 1) := by decide +kernel
theorem dX9_firstTower_0 : decode cX9_firstTower 0 = .ok (.iload_n 2, 1) := by decide +kernel
theorem dX9_firstTower_1 : decode cX9_firstTower 1 = .ok (.ifCond .eq 9, 3) := by decide +kernel
theorem dX9_firstTower_4 : decode cX9_firstTower 4 = .ok (.iload_n 3, 1) := by decide +kernel
theorem dX9_firstTower_5 : decode cX9_firstTower 5 = .ok (.bipush 7, 2) := by decide +kernel
theorem dX9_firstTower_7 : decode cX9_firstTower 7 = .ok (.if_icmp .le 13, 3) := by decide +kernel
theorem dX9_firstTower_10 : decode cX9_firstTower 10 = .ok (.iload_n 2, 1) := by decide +kernel
theorem dX9_firstTower_11 : decode cX9_firstTower 11 = .ok (.ifCond .ne 7, 3) := by decide +kernel
theorem dX9_firstTower_14 : decode cX9_firstTower 14 = .ok (.iload_n 1, 1) := by decide +kernel
theorem dX9_firstTower_15 : decode cX9_firstTower 15 = .ok (.goto 4, 3) := by decide +kernel
theorem dX9_firstTower_18 : decode cX9_firstTower 18 = .ok (.iconst (-1), 1) := by decide +kernel
theorem dX9_firstTower_19 : decode cX9_firstTower 19 = .ok (.ireturn, 1) := by decide +kernel
theorem dX9_firstTower_20 : decode cX9_firstTower 20 = .ok (.iconst 0, 1) := by decide +kernel
theorem dX9_firstTower_21 : decode cX9_firstTower 21 = .ok (.istore 4, 2) := by decide +kernel
theorem dX9_firstTower_23 : decode cX9_firstTower 23 = .ok (.iload 4, 2) := by decide +kernel
theorem dX9_firstTower_25 : decode cX9_firstTower 25 = .ok (.bipush 7, 2) := by decide +kernel
theorem dX9_firstTower_27 : decode cX9_firstTower 27 = .ok (.if_icmp .ge 71, 3) := by decide +kernel
theorem dX9_firstTower_30 : decode cX9_firstTower 30 = .ok (.iload_n 2, 1) := by decide +kernel
theorem dX9_firstTower_31 : decode cX9_firstTower 31 = .ok (.iload 4, 2) := by decide +kernel
theorem dX9_firstTower_33 : decode cX9_firstTower 33 = .ok (.iushr, 1) := by decide +kernel
theorem dX9_firstTower_34 : decode cX9_firstTower 34 = .ok (.iconst 1, 1) := by decide +kernel
theorem dX9_firstTower_35 : decode cX9_firstTower 35 = .ok (.iand, 1) := by decide +kernel
theorem dX9_firstTower_36 : decode cX9_firstTower 36 = .ok (.iconst 1, 1) := by decide +kernel
theorem dX9_firstTower_37 : decode cX9_firstTower 37 = .ok (.if_icmp .ne 55, 3) := by decide +kernel
theorem dX9_firstTower_40 : decode cX9_firstTower 40 = .ok (.aload_n 0, 1) := by decide +kernel
theorem dX9_firstTower_41 : decode cX9_firstTower 41 = .ok (.iload_n 1, 1) := by decide +kernel
theorem dX9_firstTower_42 : decode cX9_firstTower 42 = .ok (.iload 4, 2) := by decide +kernel
theorem dX9_firstTower_44 : decode cX9_firstTower 44 = .ok (.invokevirtual 159, 3) := by decide +kernel
theorem dX9_firstTower_47 : decode cX9_firstTower 47 = .ok (.ifCond .eq 45, 3) := by decide +kernel
theorem dX9_firstTower_50 : decode cX9_firstTower 50 = .ok (.aload_n 0, 1) := by decide +kernel
theorem dX9_firstTower_51 : decode cX9_firstTower 51 = .ok (.iload_n 1, 1) := by decide +kernel
theorem dX9_firstTower_52 : decode cX9_firstTower 52 = .ok (.iload 4, 2) := by decide +kernel
theorem dX9_firstTower_54 : decode cX9_firstTower 54 = .ok (.invokevirtual 163, 3) := by decide +kernel
theorem dX9_firstTower_57 : decode cX9_firstTower 57 = .ok (.istore 5, 2) := by decide +kernel
theorem dX9_firstTower_59 : decode cX9_firstTower 59 = .ok (.iload 5, 2) := by decide +kernel
theorem dX9_firstTower_61 : decode cX9_firstTower 61 = .ok (.ifCond .eq 31, 3) := by decide +kernel
theorem dX9_firstTower_64 : decode cX9_firstTower 64 = .ok (.aload_n 0, 1) := by decide +kernel
theorem dX9_firstTower_65 : decode cX9_firstTower 65 = .ok (.iload 5, 2) := by decide +kernel
theorem dX9_firstTower_67 : decode cX9_firstTower 67 = .ok (.iload_n 2, 1) := by decide +kernel
theorem dX9_firstTower_68 : decode cX9_firstTower 68 = .ok (.iconst 1, 1) := by decide +kernel
theorem dX9_firstTower_69 : decode cX9_firstTower 69 = .ok (.iload 4, 2) := by decide +kernel
theorem dX9_firstTower_71 : decode cX9_firstTower 71 = .ok (.ishl, 1) := by decide +kernel
theorem dX9_firstTower_72 : decode cX9_firstTower 72 = .ok (.iconst (-1), 1) := by decide +kernel
theorem dX9_firstTower_73 : decode cX9_firstTower 73 = .ok (.ixor, 1) := by decide +kernel
theorem dX9_firstTower_74 : decode cX9_firstTower 74 = .ok (.iand, 1) := by decide +kernel
theorem dX9_firstTower_75 : decode cX9_firstTower 75 = .ok (.iload_n 3, 1) := by decide +kernel
theorem dX9_firstTower_76 : decode cX9_firstTower 76 = .ok (.iconst 1, 1) := by decide +kernel
theorem dX9_firstTower_77 : decode cX9_firstTower 77 = .ok (.iadd, 1) := by decide +kernel
theorem dX9_firstTower_78 : decode cX9_firstTower 78 = .ok (.invokestatic 211, 3) := by decide +kernel
theorem dX9_firstTower_81 : decode cX9_firstTower 81 = .ok (.istore 6, 2) := by decide +kernel
theorem dX9_firstTower_83 : decode cX9_firstTower 83 = .ok (.iload 6, 2) := by decide +kernel
theorem dX9_firstTower_85 : decode cX9_firstTower 85 = .ok (.iconst (-1), 1) := by decide +kernel
theorem dX9_firstTower_86 : decode cX9_firstTower 86 = .ok (.if_icmp .eq 6, 3) := by decide +kernel
theorem dX9_firstTower_89 : decode cX9_firstTower 89 = .ok (.iload 6, 2) := by decide +kernel
theorem dX9_firstTower_91 : decode cX9_firstTower 91 = .ok (.ireturn, 1) := by decide +kernel
theorem dX9_firstTower_92 : decode cX9_firstTower 92 = .ok (.iinc 4 1, 3) := by decide +kernel
theorem dX9_firstTower_95 : decode cX9_firstTower 95 = .ok (.goto (-72), 3) := by decide +kernel
theorem dX9_firstTower_98 : decode cX9_firstTower 98 = .ok (.iconst (-1), 1) := by decide +kernel
theorem dX9_firstTower_99 : decode cX9_firstTower 99 = .ok (.ireturn, 1) := by decide +kernel
theorem dX9_hearBills_0 : decode cX9_hearBills 0 = .ok (.iload_n 2, 1) := by decide +kernel
theorem dX9_hearBills_1 : decode cX9_hearBills 1 = .ok (.ifCond .ne 10, 3) := by decide +kernel
theorem dX9_hearBills_4 : decode cX9_hearBills 4 = .ok (.aload 5, 2) := by decide +kernel
theorem dX9_hearBills_6 : decode cX9_hearBills 6 = .ok (.iload_n 3, 1) := by decide +kernel
theorem dX9_hearBills_7 : decode cX9_hearBills 7 = .ok (.invokevirtual 245, 3) := by decide +kernel
theorem dX9_hearBills_10 : decode cX9_hearBills 10 = .ok (.return_, 1) := by decide +kernel
theorem dX9_hearBills_11 : decode cX9_hearBills 11 = .ok (.iconst 0, 1) := by decide +kernel
theorem dX9_hearBills_12 : decode cX9_hearBills 12 = .ok (.istore 6, 2) := by decide +kernel
theorem dX9_hearBills_14 : decode cX9_hearBills 14 = .ok (.iload 6, 2) := by decide +kernel
theorem dX9_hearBills_16 : decode cX9_hearBills 16 = .ok (.bipush 7, 2) := by decide +kernel
theorem dX9_hearBills_18 : decode cX9_hearBills 18 = .ok (.if_icmp .ge 84, 3) := by decide +kernel
theorem dX9_hearBills_21 : decode cX9_hearBills 21 = .ok (.iload 4, 2) := by decide +kernel
theorem dX9_hearBills_23 : decode cX9_hearBills 23 = .ok (.bipush 7, 2) := by decide +kernel
theorem dX9_hearBills_25 : decode cX9_hearBills 25 = .ok (.if_icmp .gt 77, 3) := by decide +kernel
theorem dX9_hearBills_28 : decode cX9_hearBills 28 = .ok (.iload_n 2, 1) := by decide +kernel
theorem dX9_hearBills_29 : decode cX9_hearBills 29 = .ok (.iload 6, 2) := by decide +kernel
theorem dX9_hearBills_31 : decode cX9_hearBills 31 = .ok (.iushr, 1) := by decide +kernel
theorem dX9_hearBills_32 : decode cX9_hearBills 32 = .ok (.iconst 1, 1) := by decide +kernel
theorem dX9_hearBills_33 : decode cX9_hearBills 33 = .ok (.iand, 1) := by decide +kernel
theorem dX9_hearBills_34 : decode cX9_hearBills 34 = .ok (.iconst 1, 1) := by decide +kernel
theorem dX9_hearBills_35 : decode cX9_hearBills 35 = .ok (.if_icmp .ne 61, 3) := by decide +kernel
theorem dX9_hearBills_38 : decode cX9_hearBills 38 = .ok (.aload_n 0, 1) := by decide +kernel
theorem dX9_hearBills_39 : decode cX9_hearBills 39 = .ok (.iload_n 1, 1) := by decide +kernel
theorem dX9_hearBills_40 : decode cX9_hearBills 40 = .ok (.iload 6, 2) := by decide +kernel
theorem dX9_hearBills_42 : decode cX9_hearBills 42 = .ok (.invokevirtual 159, 3) := by decide +kernel
theorem dX9_hearBills_45 : decode cX9_hearBills 45 = .ok (.ifCond .eq 51, 3) := by decide +kernel
theorem dX9_hearBills_48 : decode cX9_hearBills 48 = .ok (.aload_n 0, 1) := by decide +kernel
theorem dX9_hearBills_49 : decode cX9_hearBills 49 = .ok (.iload_n 1, 1) := by decide +kernel
theorem dX9_hearBills_50 : decode cX9_hearBills 50 = .ok (.iload 6, 2) := by decide +kernel
theorem dX9_hearBills_52 : decode cX9_hearBills 52 = .ok (.invokevirtual 163, 3) := by decide +kernel
theorem dX9_hearBills_55 : decode cX9_hearBills 55 = .ok (.istore 7, 2) := by decide +kernel
theorem dX9_hearBills_57 : decode cX9_hearBills 57 = .ok (.iload 7, 2) := by decide +kernel
theorem dX9_hearBills_59 : decode cX9_hearBills 59 = .ok (.ifCond .eq 37, 3) := by decide +kernel
theorem dX9_hearBills_62 : decode cX9_hearBills 62 = .ok (.aload_n 0, 1) := by decide +kernel
theorem dX9_hearBills_63 : decode cX9_hearBills 63 = .ok (.iload 6, 2) := by decide +kernel
theorem dX9_hearBills_65 : decode cX9_hearBills 65 = .ok (.invokevirtual 116, 3) := by decide +kernel
theorem dX9_hearBills_68 : decode cX9_hearBills 68 = .ok (.iload_n 3, 1) := by decide +kernel
theorem dX9_hearBills_69 : decode cX9_hearBills 69 = .ok (.invokevirtual 247, 3) := by decide +kernel
theorem dX9_hearBills_72 : decode cX9_hearBills 72 = .ok (.istore 8, 2) := by decide +kernel
theorem dX9_hearBills_74 : decode cX9_hearBills 74 = .ok (.aload_n 0, 1) := by decide +kernel
theorem dX9_hearBills_75 : decode cX9_hearBills 75 = .ok (.iload 7, 2) := by decide +kernel
theorem dX9_hearBills_77 : decode cX9_hearBills 77 = .ok (.iload_n 2, 1) := by decide +kernel
theorem dX9_hearBills_78 : decode cX9_hearBills 78 = .ok (.iconst 1, 1) := by decide +kernel
theorem dX9_hearBills_79 : decode cX9_hearBills 79 = .ok (.iload 6, 2) := by decide +kernel
theorem dX9_hearBills_81 : decode cX9_hearBills 81 = .ok (.ishl, 1) := by decide +kernel
theorem dX9_hearBills_82 : decode cX9_hearBills 82 = .ok (.iconst (-1), 1) := by decide +kernel
theorem dX9_hearBills_83 : decode cX9_hearBills 83 = .ok (.ixor, 1) := by decide +kernel
theorem dX9_hearBills_84 : decode cX9_hearBills 84 = .ok (.iand, 1) := by decide +kernel
theorem dX9_hearBills_85 : decode cX9_hearBills 85 = .ok (.iload 8, 2) := by decide +kernel
theorem dX9_hearBills_87 : decode cX9_hearBills 87 = .ok (.iload 4, 2) := by decide +kernel
theorem dX9_hearBills_89 : decode cX9_hearBills 89 = .ok (.iconst 1, 1) := by decide +kernel
theorem dX9_hearBills_90 : decode cX9_hearBills 90 = .ok (.iadd, 1) := by decide +kernel
theorem dX9_hearBills_91 : decode cX9_hearBills 91 = .ok (.aload 5, 2) := by decide +kernel
theorem dX9_hearBills_93 : decode cX9_hearBills 93 = .ok (.invokestatic 216, 3) := by decide +kernel
theorem dX9_hearBills_96 : decode cX9_hearBills 96 = .ok (.iinc 6 1, 3) := by decide +kernel
theorem dX9_hearBills_99 : decode cX9_hearBills 99 = .ok (.goto (-85), 3) := by decide +kernel
theorem dX9_hearBills_102 : decode cX9_hearBills 102 = .ok (.return_, 1) := by decide +kernel
theorem dX9_bestEnd_0 : decode cX9_bestEnd 0 = .ok (.iload_n 2, 1) := by decide +kernel
theorem dX9_bestEnd_1 : decode cX9_bestEnd 1 = .ok (.ifCond .le 8, 3) := by decide +kernel
theorem dX9_bestEnd_4 : decode cX9_bestEnd 4 = .ok (.iload_n 2, 1) := by decide +kernel
theorem dX9_bestEnd_5 : decode cX9_bestEnd 5 = .ok (.iconst 5, 1) := by decide +kernel
theorem dX9_bestEnd_6 : decode cX9_bestEnd 6 = .ok (.if_icmp .le 9, 3) := by decide +kernel
theorem dX9_bestEnd_9 : decode cX9_bestEnd 9 = .ok (.aload_n 0, 1) := by decide +kernel
theorem dX9_bestEnd_10 : decode cX9_bestEnd 10 = .ok (.iload_n 1, 1) := by decide +kernel
theorem dX9_bestEnd_11 : decode cX9_bestEnd 11 = .ok (.invokevirtual 250, 3) := by decide +kernel
theorem dX9_bestEnd_14 : decode cX9_bestEnd 14 = .ok (.ireturn, 1) := by decide +kernel
theorem dX9_bestEnd_15 : decode cX9_bestEnd 15 = .ok (.iload_n 3, 1) := by decide +kernel
theorem dX9_bestEnd_16 : decode cX9_bestEnd 16 = .ok (.ifCond .ne 7, 3) := by decide +kernel
theorem dX9_bestEnd_19 : decode cX9_bestEnd 19 = .ok (.iconst 1, 1) := by decide +kernel
theorem dX9_bestEnd_20 : decode cX9_bestEnd 20 = .ok (.goto 4, 3) := by decide +kernel
theorem dX9_bestEnd_23 : decode cX9_bestEnd 23 = .ok (.iconst (-1), 1) := by decide +kernel
theorem dX9_bestEnd_24 : decode cX9_bestEnd 24 = .ok (.istore 4, 2) := by decide +kernel
theorem dX9_bestEnd_26 : decode cX9_bestEnd 26 = .ok (.iload 4, 2) := by decide +kernel
theorem dX9_bestEnd_28 : decode cX9_bestEnd 28 = .ok (.aload_n 0, 1) := by decide +kernel
theorem dX9_bestEnd_29 : decode cX9_bestEnd 29 = .ok (.iload_n 1, 1) := by decide +kernel
theorem dX9_bestEnd_30 : decode cX9_bestEnd 30 = .ok (.iload_n 2, 1) := by decide +kernel
theorem dX9_bestEnd_31 : decode cX9_bestEnd 31 = .ok (.iconst 1, 1) := by decide +kernel
theorem dX9_bestEnd_32 : decode cX9_bestEnd 32 = .ok (.isub, 1) := by decide +kernel
theorem dX9_bestEnd_33 : decode cX9_bestEnd 33 = .ok (.iconst 1, 1) := by decide +kernel
theorem dX9_bestEnd_34 : decode cX9_bestEnd 34 = .ok (.iload_n 3, 1) := by decide +kernel
theorem dX9_bestEnd_35 : decode cX9_bestEnd 35 = .ok (.isub, 1) := by decide +kernel
theorem dX9_bestEnd_36 : decode cX9_bestEnd 36 = .ok (.invokestatic 234, 3) := by decide +kernel
theorem dX9_bestEnd_39 : decode cX9_bestEnd 39 = .ok (.imul, 1) := by decide +kernel
theorem dX9_bestEnd_40 : decode cX9_bestEnd 40 = .ok (.istore 5, 2) := by decide +kernel
theorem dX9_bestEnd_42 : decode cX9_bestEnd 42 = .ok (.iconst 0, 1) := by decide +kernel
theorem dX9_bestEnd_43 : decode cX9_bestEnd 43 = .ok (.istore 6, 2) := by decide +kernel
theorem dX9_bestEnd_45 : decode cX9_bestEnd 45 = .ok (.iload 6, 2) := by decide +kernel
theorem dX9_bestEnd_47 : decode cX9_bestEnd 47 = .ok (.aload_n 0, 1) := by decide +kernel
theorem dX9_bestEnd_48 : decode cX9_bestEnd 48 = .ok (.invokevirtual 95, 3) := by decide +kernel
theorem dX9_bestEnd_51 : decode cX9_bestEnd 51 = .ok (.if_icmp .ge 69, 3) := by decide +kernel
theorem dX9_bestEnd_54 : decode cX9_bestEnd 54 = .ok (.iload 5, 2) := by decide +kernel
theorem dX9_bestEnd_56 : decode cX9_bestEnd 56 = .ok (.iconst 1, 1) := by decide +kernel
theorem dX9_bestEnd_57 : decode cX9_bestEnd 57 = .ok (.if_icmp .ge 63, 3) := by decide +kernel
theorem dX9_bestEnd_60 : decode cX9_bestEnd 60 = .ok (.aload_n 0, 1) := by decide +kernel
theorem dX9_bestEnd_61 : decode cX9_bestEnd 61 = .ok (.iload 6, 2) := by decide +kernel
theorem dX9_bestEnd_63 : decode cX9_bestEnd 63 = .ok (.invokevirtual 116, 3) := by decide +kernel
theorem dX9_bestEnd_66 : decode cX9_bestEnd 66 = .ok (.getfield 106, 3) := by decide +kernel
theorem dX9_bestEnd_69 : decode cX9_bestEnd 69 = .ok (.iload_n 3, 1) := by decide +kernel
theorem dX9_bestEnd_70 : decode cX9_bestEnd 70 = .ok (.if_icmp .ne 44, 3) := by decide +kernel
theorem dX9_bestEnd_73 : decode cX9_bestEnd 73 = .ok (.aload_n 0, 1) := by decide +kernel
theorem dX9_bestEnd_74 : decode cX9_bestEnd 74 = .ok (.iload_n 1, 1) := by decide +kernel
theorem dX9_bestEnd_75 : decode cX9_bestEnd 75 = .ok (.iload 6, 2) := by decide +kernel
theorem dX9_bestEnd_77 : decode cX9_bestEnd 77 = .ok (.invokevirtual 159, 3) := by decide +kernel
theorem dX9_bestEnd_80 : decode cX9_bestEnd 80 = .ok (.ifCond .eq 34, 3) := by decide +kernel
theorem dX9_bestEnd_83 : decode cX9_bestEnd 83 = .ok (.aload_n 0, 1) := by decide +kernel
theorem dX9_bestEnd_84 : decode cX9_bestEnd 84 = .ok (.iload_n 1, 1) := by decide +kernel
theorem dX9_bestEnd_85 : decode cX9_bestEnd 85 = .ok (.iload 6, 2) := by decide +kernel
theorem dX9_bestEnd_87 : decode cX9_bestEnd 87 = .ok (.invokevirtual 163, 3) := by decide +kernel
theorem dX9_bestEnd_90 : decode cX9_bestEnd 90 = .ok (.istore 7, 2) := by decide +kernel
theorem dX9_bestEnd_92 : decode cX9_bestEnd 92 = .ok (.iload 5, 2) := by decide +kernel
theorem dX9_bestEnd_94 : decode cX9_bestEnd 94 = .ok (.iload 4, 2) := by decide +kernel
theorem dX9_bestEnd_96 : decode cX9_bestEnd 96 = .ok (.aload_n 0, 1) := by decide +kernel
theorem dX9_bestEnd_97 : decode cX9_bestEnd 97 = .ok (.iload 7, 2) := by decide +kernel
theorem dX9_bestEnd_99 : decode cX9_bestEnd 99 = .ok (.iload_n 2, 1) := by decide +kernel
theorem dX9_bestEnd_100 : decode cX9_bestEnd 100 = .ok (.iconst 1, 1) := by decide +kernel
theorem dX9_bestEnd_101 : decode cX9_bestEnd 101 = .ok (.isub, 1) := by decide +kernel
theorem dX9_bestEnd_102 : decode cX9_bestEnd 102 = .ok (.iconst 1, 1) := by decide +kernel
theorem dX9_bestEnd_103 : decode cX9_bestEnd 103 = .ok (.iload_n 3, 1) := by decide +kernel
theorem dX9_bestEnd_104 : decode cX9_bestEnd 104 = .ok (.isub, 1) := by decide +kernel
theorem dX9_bestEnd_105 : decode cX9_bestEnd 105 = .ok (.invokestatic 234, 3) := by decide +kernel
theorem dX9_bestEnd_108 : decode cX9_bestEnd 108 = .ok (.imul, 1) := by decide +kernel
theorem dX9_bestEnd_109 : decode cX9_bestEnd 109 = .ok (.invokestatic 253, 3) := by decide +kernel
theorem dX9_bestEnd_112 : decode cX9_bestEnd 112 = .ok (.istore 5, 2) := by decide +kernel
theorem dX9_bestEnd_114 : decode cX9_bestEnd 114 = .ok (.iinc 6 1, 3) := by decide +kernel
theorem dX9_bestEnd_117 : decode cX9_bestEnd 117 = .ok (.goto (-72), 3) := by decide +kernel
theorem dX9_bestEnd_120 : decode cX9_bestEnd 120 = .ok (.iload 4, 2) := by decide +kernel
theorem dX9_bestEnd_122 : decode cX9_bestEnd 122 = .ok (.iload 5, 2) := by decide +kernel
theorem dX9_bestEnd_124 : decode cX9_bestEnd 124 = .ok (.imul, 1) := by decide +kernel
theorem dX9_bestEnd_125 : decode cX9_bestEnd 125 = .ok (.ireturn, 1) := by decide +kernel
theorem dX9_image_0 : decode cX9_image 0 = .ok (.aload_n 0, 1) := by decide +kernel
theorem dX9_image_1 : decode cX9_image 1 = .ok (.getfield 40, 3) := by decide +kernel
theorem dX9_image_4 : decode cX9_image 4 = .ok (.aload_n 0, 1) := by decide +kernel
theorem dX9_image_5 : decode cX9_image 5 = .ok (.getfield 33, 3) := by decide +kernel
theorem dX9_image_8 : decode cX9_image 8 = .ok (.aload_n 0, 1) := by decide +kernel
theorem dX9_image_9 : decode cX9_image 9 = .ok (.getfield 135, 3) := by decide +kernel
theorem dX9_image_12 : decode cX9_image 12 = .ok (.invokevirtual 258, 3) := by decide +kernel
theorem dX9_image_15 : decode cX9_image 15 = .ok (.aload_n 0, 1) := by decide +kernel
theorem dX9_image_16 : decode cX9_image 16 = .ok (.getfield 135, 3) := by decide +kernel
theorem dX9_image_19 : decode cX9_image 19 = .ok (.invokestatic 176, 3) := by decide +kernel
theorem dX9_image_22 : decode cX9_image 22 = .ok (.ireturn, 1) := by decide +kernel
theorem dX9_restore_0 : decode cX9_restore 0 = .ok (.aload_n 0, 1) := by decide +kernel
theorem dX9_restore_1 : decode cX9_restore 1 = .ok (.getfield 40, 3) := by decide +kernel
theorem dX9_restore_4 : decode cX9_restore 4 = .ok (.aload_n 0, 1) := by decide +kernel
theorem dX9_restore_5 : decode cX9_restore 5 = .ok (.getfield 33, 3) := by decide +kernel
theorem dX9_restore_8 : decode cX9_restore 8 = .ok (.invokevirtual 262, 3) := by decide +kernel
theorem dX9_restore_11 : decode cX9_restore 11 = .ok (.ifCond .ne 6, 3) := by decide +kernel
theorem dX9_restore_14 : decode cX9_restore 14 = .ok (.bipush (-103), 2) := by decide +kernel
theorem dX9_restore_16 : decode cX9_restore 16 = .ok (.ireturn, 1) := by decide +kernel
theorem dX9_restore_17 : decode cX9_restore 17 = .ok (.aload_n 0, 1) := by decide +kernel
theorem dX9_restore_18 : decode cX9_restore 18 = .ok (.aload_n 0, 1) := by decide +kernel
theorem dX9_restore_19 : decode cX9_restore 19 = .ok (.getfield 40, 3) := by decide +kernel
theorem dX9_restore_22 : decode cX9_restore 22 = .ok (.aload_n 0, 1) := by decide +kernel
theorem dX9_restore_23 : decode cX9_restore 23 = .ok (.getfield 33, 3) := by decide +kernel
theorem dX9_restore_26 : decode cX9_restore 26 = .ok (.invokevirtual 266, 3) := by decide +kernel
theorem dX9_restore_29 : decode cX9_restore 29 = .ok (.putfield 135, 3) := by decide +kernel
theorem dX9_restore_32 : decode cX9_restore 32 = .ok (.aload_n 0, 1) := by decide +kernel
theorem dX9_restore_33 : decode cX9_restore 33 = .ok (.getfield 135, 3) := by decide +kernel
theorem dX9_restore_36 : decode cX9_restore 36 = .ok (.invokestatic 176, 3) := by decide +kernel
theorem dX9_restore_39 : decode cX9_restore 39 = .ok (.ireturn, 1) := by decide +kernel
theorem dX9_count_0 : decode cX9_count 0 = .ok (.iload_n 1, 1) := by decide +kernel
theorem dX9_count_1 : decode cX9_count 1 = .ok (.tableswitch 102 0 7 #[47, 55, 63, 71, 79, 87, 92, 97], 47) := by decide +kernel
theorem dX9_count_48 : decode cX9_count 48 = .ok (.aload_n 0, 1) := by decide +kernel
theorem dX9_count_49 : decode cX9_count 49 = .ok (.getfield 33, 3) := by decide +kernel
theorem dX9_count_52 : decode cX9_count 52 = .ok (.invokevirtual 95, 3) := by decide +kernel
theorem dX9_count_55 : decode cX9_count 55 = .ok (.ireturn, 1) := by decide +kernel
theorem dX9_count_56 : decode cX9_count 56 = .ok (.aload_n 0, 1) := by decide +kernel
theorem dX9_count_57 : decode cX9_count 57 = .ok (.getfield 135, 3) := by decide +kernel
theorem dX9_count_60 : decode cX9_count 60 = .ok (.invokestatic 176, 3) := by decide +kernel
theorem dX9_count_63 : decode cX9_count 63 = .ok (.ireturn, 1) := by decide +kernel
theorem dX9_count_64 : decode cX9_count 64 = .ok (.aload_n 0, 1) := by decide +kernel
theorem dX9_count_65 : decode cX9_count 65 = .ok (.getfield 33, 3) := by decide +kernel
theorem dX9_count_68 : decode cX9_count 68 = .ok (.invokevirtual 82, 3) := by decide +kernel
theorem dX9_count_71 : decode cX9_count 71 = .ok (.ireturn, 1) := by decide +kernel
theorem dX9_count_72 : decode cX9_count 72 = .ok (.aload_n 0, 1) := by decide +kernel
theorem dX9_count_73 : decode cX9_count 73 = .ok (.getfield 33, 3) := by decide +kernel
theorem dX9_count_76 : decode cX9_count 76 = .ok (.invokevirtual 270, 3) := by decide +kernel
theorem dX9_count_79 : decode cX9_count 79 = .ok (.ireturn, 1) := by decide +kernel
theorem dX9_count_80 : decode cX9_count 80 = .ok (.aload_n 0, 1) := by decide +kernel
theorem dX9_count_81 : decode cX9_count 81 = .ok (.getfield 10, 3) := by decide +kernel
theorem dX9_count_84 : decode cX9_count 84 = .ok (.invokevirtual 63, 3) := by decide +kernel
theorem dX9_count_87 : decode cX9_count 87 = .ok (.ireturn, 1) := by decide +kernel
theorem dX9_count_88 : decode cX9_count 88 = .ok (.aload_n 0, 1) := by decide +kernel
theorem dX9_count_89 : decode cX9_count 89 = .ok (.getfield 166, 3) := by decide +kernel
theorem dX9_count_92 : decode cX9_count 92 = .ok (.ireturn, 1) := by decide +kernel
theorem dX9_count_93 : decode cX9_count 93 = .ok (.aload_n 0, 1) := by decide +kernel
theorem dX9_count_94 : decode cX9_count 94 = .ok (.getfield 208, 3) := by decide +kernel
theorem dX9_count_97 : decode cX9_count 97 = .ok (.ireturn, 1) := by decide +kernel
theorem dX9_count_98 : decode cX9_count 98 = .ok (.aload_n 0, 1) := by decide +kernel
theorem dX9_count_99 : decode cX9_count 99 = .ok (.getfield 230, 3) := by decide +kernel
theorem dX9_count_102 : decode cX9_count 102 = .ok (.ireturn, 1) := by decide +kernel
theorem dX9_count_103 : decode cX9_count 103 = .ok (.bipush (-102), 2) := by decide +kernel
theorem dX9_count_105 : decode cX9_count 105 = .ok (.ireturn, 1) := by decide +kernel
theorem dX9_digest_0 : decode cX9_digest 0 = .ok (.ldc2_w 273, 3) := by decide +kernel
theorem dX9_digest_3 : decode cX9_digest 3 = .ok (.lstore_n 1, 1) := by decide +kernel
theorem dX9_digest_4 : decode cX9_digest 4 = .ok (.iconst 0, 1) := by decide +kernel
theorem dX9_digest_5 : decode cX9_digest 5 = .ok (.istore_n 3, 1) := by decide +kernel
theorem dX9_digest_6 : decode cX9_digest 6 = .ok (.iload_n 3, 1) := by decide +kernel
theorem dX9_digest_7 : decode cX9_digest 7 = .ok (.bipush 49, 2) := by decide +kernel
theorem dX9_digest_9 : decode cX9_digest 9 = .ok (.if_icmp .ge 29, 3) := by decide +kernel
theorem dX9_digest_12 : decode cX9_digest 12 = .ok (.ldc2_w 275, 3) := by decide +kernel
theorem dX9_digest_15 : decode cX9_digest 15 = .ok (.lload_n 1, 1) := by decide +kernel
theorem dX9_digest_16 : decode cX9_digest 16 = .ok (.lmul, 1) := by decide +kernel
theorem dX9_digest_17 : decode cX9_digest 17 = .ok (.aload_n 0, 1) := by decide +kernel
theorem dX9_digest_18 : decode cX9_digest 18 = .ok (.iload_n 3, 1) := by decide +kernel
theorem dX9_digest_19 : decode cX9_digest 19 = .ok (.bipush 7, 2) := by decide +kernel
theorem dX9_digest_21 : decode cX9_digest 21 = .ok (.idiv, 1) := by decide +kernel
theorem dX9_digest_22 : decode cX9_digest 22 = .ok (.iload_n 3, 1) := by decide +kernel
theorem dX9_digest_23 : decode cX9_digest 23 = .ok (.bipush 7, 2) := by decide +kernel
theorem dX9_digest_25 : decode cX9_digest 25 = .ok (.irem, 1) := by decide +kernel
theorem dX9_digest_26 : decode cX9_digest 26 = .ok (.invokevirtual 277, 3) := by decide +kernel
theorem dX9_digest_29 : decode cX9_digest 29 = .ok (.i2l, 1) := by decide +kernel
theorem dX9_digest_30 : decode cX9_digest 30 = .ok (.ladd, 1) := by decide +kernel
theorem dX9_digest_31 : decode cX9_digest 31 = .ok (.lstore_n 1, 1) := by decide +kernel
theorem dX9_digest_32 : decode cX9_digest 32 = .ok (.iinc 3 1, 3) := by decide +kernel
theorem dX9_digest_35 : decode cX9_digest 35 = .ok (.goto (-29), 3) := by decide +kernel
theorem dX9_digest_38 : decode cX9_digest 38 = .ok (.iconst 0, 1) := by decide +kernel
theorem dX9_digest_39 : decode cX9_digest 39 = .ok (.istore_n 3, 1) := by decide +kernel
theorem dX9_digest_40 : decode cX9_digest 40 = .ok (.iload_n 3, 1) := by decide +kernel
theorem dX9_digest_41 : decode cX9_digest 41 = .ok (.aload_n 0, 1) := by decide +kernel
theorem dX9_digest_42 : decode cX9_digest 42 = .ok (.getfield 33, 3) := by decide +kernel
theorem dX9_digest_45 : decode cX9_digest 45 = .ok (.invokevirtual 95, 3) := by decide +kernel
theorem dX9_digest_48 : decode cX9_digest 48 = .ok (.if_icmp .ge 53, 3) := by decide +kernel
theorem dX9_digest_51 : decode cX9_digest 51 = .ok (.iconst 0, 1) := by decide +kernel
theorem dX9_digest_52 : decode cX9_digest 52 = .ok (.istore 4, 2) := by decide +kernel
theorem dX9_digest_54 : decode cX9_digest 54 = .ok (.iload 4, 2) := by decide +kernel
theorem dX9_digest_56 : decode cX9_digest 56 = .ok (.bipush 11, 2) := by decide +kernel
theorem dX9_digest_58 : decode cX9_digest 58 = .ok (.if_icmp .gt 24, 3) := by decide +kernel
theorem dX9_digest_61 : decode cX9_digest 61 = .ok (.ldc2_w 275, 3) := by decide +kernel
theorem dX9_digest_64 : decode cX9_digest 64 = .ok (.lload_n 1, 1) := by decide +kernel
theorem dX9_digest_65 : decode cX9_digest 65 = .ok (.lmul, 1) := by decide +kernel
theorem dX9_digest_66 : decode cX9_digest 66 = .ok (.aload_n 0, 1) := by decide +kernel
theorem dX9_digest_67 : decode cX9_digest 67 = .ok (.iload_n 3, 1) := by decide +kernel
theorem dX9_digest_68 : decode cX9_digest 68 = .ok (.iload 4, 2) := by decide +kernel
theorem dX9_digest_70 : decode cX9_digest 70 = .ok (.invokevirtual 280, 3) := by decide +kernel
theorem dX9_digest_73 : decode cX9_digest 73 = .ok (.i2l, 1) := by decide +kernel
theorem dX9_digest_74 : decode cX9_digest 74 = .ok (.ladd, 1) := by decide +kernel
theorem dX9_digest_75 : decode cX9_digest 75 = .ok (.lstore_n 1, 1) := by decide +kernel
theorem dX9_digest_76 : decode cX9_digest 76 = .ok (.iinc 4 1, 3) := by decide +kernel
theorem dX9_digest_79 : decode cX9_digest 79 = .ok (.goto (-25), 3) := by decide +kernel
theorem dX9_digest_82 : decode cX9_digest 82 = .ok (.ldc2_w 275, 3) := by decide +kernel
theorem dX9_digest_85 : decode cX9_digest 85 = .ok (.lload_n 1, 1) := by decide +kernel
theorem dX9_digest_86 : decode cX9_digest 86 = .ok (.lmul, 1) := by decide +kernel
theorem dX9_digest_87 : decode cX9_digest 87 = .ok (.aload_n 0, 1) := by decide +kernel
theorem dX9_digest_88 : decode cX9_digest 88 = .ok (.iload_n 3, 1) := by decide +kernel
theorem dX9_digest_89 : decode cX9_digest 89 = .ok (.invokevirtual 283, 3) := by decide +kernel
theorem dX9_digest_92 : decode cX9_digest 92 = .ok (.i2l, 1) := by decide +kernel
theorem dX9_digest_93 : decode cX9_digest 93 = .ok (.ladd, 1) := by decide +kernel
theorem dX9_digest_94 : decode cX9_digest 94 = .ok (.lstore_n 1, 1) := by decide +kernel
theorem dX9_digest_95 : decode cX9_digest 95 = .ok (.iinc 3 1, 3) := by decide +kernel
theorem dX9_digest_98 : decode cX9_digest 98 = .ok (.goto (-58), 3) := by decide +kernel
theorem dX9_digest_101 : decode cX9_digest 101 = .ok (.iconst 1, 1) := by decide +kernel
theorem dX9_digest_102 : decode cX9_digest 102 = .ok (.istore_n 3, 1) := by decide +kernel
theorem dX9_digest_103 : decode cX9_digest 103 = .ok (.iload_n 3, 1) := by decide +kernel
theorem dX9_digest_104 : decode cX9_digest 104 = .ok (.aload_n 0, 1) := by decide +kernel
theorem dX9_digest_105 : decode cX9_digest 105 = .ok (.getfield 135, 3) := by decide +kernel
theorem dX9_digest_108 : decode cX9_digest 108 = .ok (.invokestatic 176, 3) := by decide +kernel
theorem dX9_digest_111 : decode cX9_digest 111 = .ok (.if_icmp .gt 22, 3) := by decide +kernel
theorem dX9_digest_114 : decode cX9_digest 114 = .ok (.ldc2_w 275, 3) := by decide +kernel
theorem dX9_digest_117 : decode cX9_digest 117 = .ok (.lload_n 1, 1) := by decide +kernel
theorem dX9_digest_118 : decode cX9_digest 118 = .ok (.lmul, 1) := by decide +kernel
theorem dX9_digest_119 : decode cX9_digest 119 = .ok (.aload_n 0, 1) := by decide +kernel
theorem dX9_digest_120 : decode cX9_digest 120 = .ok (.iload_n 3, 1) := by decide +kernel
theorem dX9_digest_121 : decode cX9_digest 121 = .ok (.invokevirtual 286, 3) := by decide +kernel
theorem dX9_digest_124 : decode cX9_digest 124 = .ok (.i2l, 1) := by decide +kernel
theorem dX9_digest_125 : decode cX9_digest 125 = .ok (.ladd, 1) := by decide +kernel
theorem dX9_digest_126 : decode cX9_digest 126 = .ok (.lstore_n 1, 1) := by decide +kernel
theorem dX9_digest_127 : decode cX9_digest 127 = .ok (.iinc 3 1, 3) := by decide +kernel
theorem dX9_digest_130 : decode cX9_digest 130 = .ok (.goto (-27), 3) := by decide +kernel
theorem dX9_digest_133 : decode cX9_digest 133 = .ok (.ldc2_w 275, 3) := by decide +kernel
theorem dX9_digest_136 : decode cX9_digest 136 = .ok (.lload_n 1, 1) := by decide +kernel
theorem dX9_digest_137 : decode cX9_digest 137 = .ok (.lmul, 1) := by decide +kernel
theorem dX9_digest_138 : decode cX9_digest 138 = .ok (.aload_n 0, 1) := by decide +kernel
theorem dX9_digest_139 : decode cX9_digest 139 = .ok (.invokevirtual 289, 3) := by decide +kernel
theorem dX9_digest_142 : decode cX9_digest 142 = .ok (.i2l, 1) := by decide +kernel
theorem dX9_digest_143 : decode cX9_digest 143 = .ok (.ladd, 1) := by decide +kernel
theorem dX9_digest_144 : decode cX9_digest 144 = .ok (.lstore_n 1, 1) := by decide +kernel
theorem dX9_digest_145 : decode cX9_digest 145 = .ok (.ldc2_w 275, 3) := by decide +kernel
theorem dX9_digest_148 : decode cX9_digest 148 = .ok (.lload_n 1, 1) := by decide +kernel
theorem dX9_digest_149 : decode cX9_digest 149 = .ok (.lmul, 1) := by decide +kernel
theorem dX9_digest_150 : decode cX9_digest 150 = .ok (.aload_n 0, 1) := by decide +kernel
theorem dX9_digest_151 : decode cX9_digest 151 = .ok (.invokevirtual 292, 3) := by decide +kernel
theorem dX9_digest_154 : decode cX9_digest 154 = .ok (.i2l, 1) := by decide +kernel
theorem dX9_digest_155 : decode cX9_digest 155 = .ok (.ladd, 1) := by decide +kernel
theorem dX9_digest_156 : decode cX9_digest 156 = .ok (.lstore_n 1, 1) := by decide +kernel
theorem dX9_digest_157 : decode cX9_digest 157 = .ok (.iconst 0, 1) := by decide +kernel
theorem dX9_digest_158 : decode cX9_digest 158 = .ok (.istore_n 3, 1) := by decide +kernel
theorem dX9_digest_159 : decode cX9_digest 159 = .ok (.iload_n 3, 1) := by decide +kernel
theorem dX9_digest_160 : decode cX9_digest 160 = .ok (.aload_n 0, 1) := by decide +kernel
theorem dX9_digest_161 : decode cX9_digest 161 = .ok (.getfield 10, 3) := by decide +kernel
theorem dX9_digest_164 : decode cX9_digest 164 = .ok (.invokevirtual 63, 3) := by decide +kernel
theorem dX9_digest_167 : decode cX9_digest 167 = .ok (.if_icmp .ge 25, 3) := by decide +kernel
theorem dX9_digest_170 : decode cX9_digest 170 = .ok (.ldc2_w 275, 3) := by decide +kernel
theorem dX9_digest_173 : decode cX9_digest 173 = .ok (.lload_n 1, 1) := by decide +kernel
theorem dX9_digest_174 : decode cX9_digest 174 = .ok (.lmul, 1) := by decide +kernel
theorem dX9_digest_175 : decode cX9_digest 175 = .ok (.aload_n 0, 1) := by decide +kernel
theorem dX9_digest_176 : decode cX9_digest 176 = .ok (.getfield 10, 3) := by decide +kernel
theorem dX9_digest_179 : decode cX9_digest 179 = .ok (.iload_n 3, 1) := by decide +kernel
theorem dX9_digest_180 : decode cX9_digest 180 = .ok (.invokevirtual 295, 3) := by decide +kernel
theorem dX9_digest_183 : decode cX9_digest 183 = .ok (.i2l, 1) := by decide +kernel
theorem dX9_digest_184 : decode cX9_digest 184 = .ok (.ladd, 1) := by decide +kernel
theorem dX9_digest_185 : decode cX9_digest 185 = .ok (.lstore_n 1, 1) := by decide +kernel
theorem dX9_digest_186 : decode cX9_digest 186 = .ok (.iinc 3 1, 3) := by decide +kernel
theorem dX9_digest_189 : decode cX9_digest 189 = .ok (.goto (-30), 3) := by decide +kernel
theorem dX9_digest_192 : decode cX9_digest 192 = .ok (.iconst 0, 1) := by decide +kernel
theorem dX9_digest_193 : decode cX9_digest 193 = .ok (.istore_n 3, 1) := by decide +kernel
theorem dX9_digest_194 : decode cX9_digest 194 = .ok (.iload_n 3, 1) := by decide +kernel
theorem dX9_digest_195 : decode cX9_digest 195 = .ok (.bipush 7, 2) := by decide +kernel
theorem dX9_digest_197 : decode cX9_digest 197 = .ok (.if_icmp .gt 22, 3) := by decide +kernel
theorem dX9_digest_200 : decode cX9_digest 200 = .ok (.ldc2_w 275, 3) := by decide +kernel
theorem dX9_digest_203 : decode cX9_digest 203 = .ok (.lload_n 1, 1) := by decide +kernel
theorem dX9_digest_204 : decode cX9_digest 204 = .ok (.lmul, 1) := by decide +kernel
theorem dX9_digest_205 : decode cX9_digest 205 = .ok (.aload_n 0, 1) := by decide +kernel
theorem dX9_digest_206 : decode cX9_digest 206 = .ok (.iload_n 3, 1) := by decide +kernel
theorem dX9_digest_207 : decode cX9_digest 207 = .ok (.invokevirtual 298, 3) := by decide +kernel
theorem dX9_digest_210 : decode cX9_digest 210 = .ok (.i2l, 1) := by decide +kernel
theorem dX9_digest_211 : decode cX9_digest 211 = .ok (.ladd, 1) := by decide +kernel
theorem dX9_digest_212 : decode cX9_digest 212 = .ok (.lstore_n 1, 1) := by decide +kernel
theorem dX9_digest_213 : decode cX9_digest 213 = .ok (.iinc 3 1, 3) := by decide +kernel
theorem dX9_digest_216 : decode cX9_digest 216 = .ok (.goto (-22), 3) := by decide +kernel
theorem dX9_digest_219 : decode cX9_digest 219 = .ok (.lload_n 1, 1) := by decide +kernel
theorem dX9_digest_220 : decode cX9_digest 220 = .ok (.lreturn, 1) := by decide +kernel
theorem dX9_isBetween_0 : decode cX9_isBetween 0 = .ok (.iload_n 0, 1) := by decide +kernel
theorem dX9_isBetween_1 : decode cX9_isBetween 1 = .ok (.iload_n 1, 1) := by decide +kernel
theorem dX9_isBetween_2 : decode cX9_isBetween 2 = .ok (.if_icmp .lt 12, 3) := by decide +kernel
theorem dX9_isBetween_5 : decode cX9_isBetween 5 = .ok (.iload_n 0, 1) := by decide +kernel
theorem dX9_isBetween_6 : decode cX9_isBetween 6 = .ok (.iload_n 2, 1) := by decide +kernel
theorem dX9_isBetween_7 : decode cX9_isBetween 7 = .ok (.if_icmp .gt 7, 3) := by decide +kernel
theorem dX9_isBetween_10 : decode cX9_isBetween 10 = .ok (.iconst 1, 1) := by decide +kernel
theorem dX9_isBetween_11 : decode cX9_isBetween 11 = .ok (.goto 4, 3) := by decide +kernel
theorem dX9_isBetween_14 : decode cX9_isBetween 14 = .ok (.iconst 0, 1) := by decide +kernel
theorem dX9_isBetween_15 : decode cX9_isBetween 15 = .ok (.ireturn, 1) := by decide +kernel
theorem dX10_init_0 : decode cX10_init 0 = .ok (.aload_n 0, 1) := by decide +kernel
theorem dX10_init_1 : decode cX10_init 1 = .ok (.invokespecial 1, 3) := by decide +kernel
theorem dX10_init_4 : decode cX10_init 4 = .ok (.aload_n 0, 1) := by decide +kernel
theorem dX10_init_5 : decode cX10_init 5 = .ok (.bipush 32, 2) := by decide +kernel
theorem dX10_init_7 : decode cX10_init 7 = .ok (.newarray .int, 2) := by decide +kernel
theorem dX10_init_9 : decode cX10_init 9 = .ok (.putfield 7, 3) := by decide +kernel
theorem dX10_init_12 : decode cX10_init 12 = .ok (.aload_n 0, 1) := by decide +kernel
theorem dX10_init_13 : decode cX10_init 13 = .ok (.bipush 7, 2) := by decide +kernel
theorem dX10_init_15 : decode cX10_init 15 = .ok (.newarray .int, 2) := by decide +kernel
theorem dX10_init_17 : decode cX10_init 17 = .ok (.putfield 13, 3) := by decide +kernel
theorem dX10_init_20 : decode cX10_init 20 = .ok (.aload_n 0, 1) := by decide +kernel
theorem dX10_init_21 : decode cX10_init 21 = .ok (.bipush 7, 2) := by decide +kernel
theorem dX10_init_23 : decode cX10_init 23 = .ok (.newarray .int, 2) := by decide +kernel
theorem dX10_init_25 : decode cX10_init 25 = .ok (.putfield 16, 3) := by decide +kernel
theorem dX10_init_28 : decode cX10_init 28 = .ok (.aload_n 0, 1) := by decide +kernel
theorem dX10_init_29 : decode cX10_init 29 = .ok (.bipush 7, 2) := by decide +kernel
theorem dX10_init_31 : decode cX10_init 31 = .ok (.newarray .int, 2) := by decide +kernel
theorem dX10_init_33 : decode cX10_init 33 = .ok (.putfield 19, 3) := by decide +kernel
theorem dX10_init_36 : decode cX10_init 36 = .ok (.aload_n 0, 1) := by decide +kernel
theorem dX10_init_37 : decode cX10_init 37 = .ok (.bipush 56, 2) := by decide +kernel
theorem dX10_init_39 : decode cX10_init 39 = .ok (.newarray .int, 2) := by decide +kernel
theorem dX10_init_41 : decode cX10_init 41 = .ok (.putfield 22, 3) := by decide +kernel
theorem dX10_init_44 : decode cX10_init 44 = .ok (.aload_n 0, 1) := by decide +kernel
theorem dX10_init_45 : decode cX10_init 45 = .ok (.bipush 7, 2) := by decide +kernel
theorem dX10_init_47 : decode cX10_init 47 = .ok (.newarray .int, 2) := by decide +kernel
theorem dX10_init_49 : decode cX10_init 49 = .ok (.putfield 25, 3) := by decide +kernel
theorem dX10_init_52 : decode cX10_init 52 = .ok (.aload_n 0, 1) := by decide +kernel
theorem dX10_init_53 : decode cX10_init 53 = .ok (.bipush 7, 2) := by decide +kernel
theorem dX10_init_55 : decode cX10_init 55 = .ok (.newarray .int, 2) := by decide +kernel
theorem dX10_init_57 : decode cX10_init 57 = .ok (.putfield 28, 3) := by decide +kernel
theorem dX10_init_60 : decode cX10_init 60 = .ok (.aload_n 0, 1) := by decide +kernel
theorem dX10_init_61 : decode cX10_init 61 = .ok (.bipush 7, 2) := by decide +kernel
theorem dX10_init_63 : decode cX10_init 63 = .ok (.newarray .int, 2) := by decide +kernel
theorem dX10_init_65 : decode cX10_init 65 = .ok (.putfield 31, 3) := by decide +kernel
theorem dX10_init_68 : decode cX10_init 68 = .ok (.aload_n 0, 1) := by decide +kernel
theorem dX10_init_69 : decode cX10_init 69 = .ok (.sipush 1000, 3) := by decide +kernel
theorem dX10_init_72 : decode cX10_init 72 = .ok (.newarray .boolean, 2) := by decide +kernel
theorem dX10_init_74 : decode cX10_init 74 = .ok (.putfield 34, 3) := by decide +kernel
theorem dX10_init_77 : decode cX10_init 77 = .ok (.aload_n 0, 1) := by decide +kernel
theorem dX10_init_78 : decode cX10_init 78 = .ok (.bipush 8, 2) := by decide +kernel
theorem dX10_init_80 : decode cX10_init 80 = .ok (.newarray .int, 2) := by decide +kernel
theorem dX10_init_82 : decode cX10_init 82 = .ok (.putfield 38, 3) := by decide +kernel
theorem dX10_init_85 : decode cX10_init 85 = .ok (.aload_n 0, 1) := by decide +kernel
theorem dX10_init_86 : decode cX10_init 86 = .ok (.bipush 7, 2) := by decide +kernel
theorem dX10_init_88 : decode cX10_init 88 = .ok (.newarray .int, 2) := by decide +kernel
theorem dX10_init_90 : decode cX10_init 90 = .ok (.putfield 41, 3) := by decide +kernel
theorem dX10_init_93 : decode cX10_init 93 = .ok (.aload_n 0, 1) := by decide +kernel
theorem dX10_init_94 : decode cX10_init 94 = .ok (.bipush 6, 2) := by decide +kernel
theorem dX10_init_96 : decode cX10_init 96 = .ok (.newarray .int, 2) := by decide +kernel
theorem dX10_init_98 : decode cX10_init 98 = .ok (.putfield 44, 3) := by decide +kernel
theorem dX10_init_101 : decode cX10_init 101 = .ok (.aload_n 0, 1) := by decide +kernel
theorem dX10_init_102 : decode cX10_init 102 = .ok (.bipush 6, 2) := by decide +kernel
theorem dX10_init_104 : decode cX10_init 104 = .ok (.newarray .int, 2) := by decide +kernel
theorem dX10_init_106 : decode cX10_init 106 = .ok (.putfield 47, 3) := by decide +kernel
theorem dX10_init_109 : decode cX10_init 109 = .ok (.aload_n 0, 1) := by decide +kernel
theorem dX10_init_110 : decode cX10_init 110 = .ok (.bipush 42, 2) := by decide +kernel
theorem dX10_init_112 : decode cX10_init 112 = .ok (.newarray .int, 2) := by decide +kernel
theorem dX10_init_114 : decode cX10_init 114 = .ok (.putfield 50, 3) := by decide +kernel
theorem dX10_init_117 : decode cX10_init 117 = .ok (.aload_n 0, 1) := by decide +kernel
theorem dX10_init_118 : decode cX10_init 118 = .ok (.bipush 6, 2) := by decide +kernel
theorem dX10_init_120 : decode cX10_init 120 = .ok (.newarray .int, 2) := by decide +kernel
theorem dX10_init_122 : decode cX10_init 122 = .ok (.putfield 53, 3) := by decide +kernel
theorem dX10_init_125 : decode cX10_init 125 = .ok (.aload_n 0, 1) := by decide +kernel
theorem dX10_init_126 : decode cX10_init 126 = .ok (.bipush 7, 2) := by decide +kernel
theorem dX10_init_128 : decode cX10_init 128 = .ok (.newarray .int, 2) := by decide +kernel
theorem dX10_init_130 : decode cX10_init 130 = .ok (.putfield 56, 3) := by decide +kernel
theorem dX10_init_133 : decode cX10_init 133 = .ok (.aload_n 0, 1) := by decide +kernel
theorem dX10_init_134 : decode cX10_init 134 = .ok (.bipush 7, 2) := by decide +kernel
theorem dX10_init_136 : decode cX10_init 136 = .ok (.newarray .int, 2) := by decide +kernel
theorem dX10_init_138 : decode cX10_init 138 = .ok (.putfield 59, 3) := by decide +kernel
theorem dX10_init_141 : decode cX10_init 141 = .ok (.aload_n 0, 1) := by decide +kernel
theorem dX10_init_142 : decode cX10_init 142 = .ok (.bipush 7, 2) := by decide +kernel
theorem dX10_init_144 : decode cX10_init 144 = .ok (.newarray .int, 2) := by decide +kernel
theorem dX10_init_146 : decode cX10_init 146 = .ok (.putfield 62, 3) := by decide +kernel
theorem dX10_init_149 : decode cX10_init 149 = .ok (.aload_n 0, 1) := by decide +kernel
theorem dX10_init_150 : decode cX10_init 150 = .ok (.iconst (-1), 1) := by decide +kernel
theorem dX10_init_151 : decode cX10_init 151 = .ok (.putfield 65, 3) := by decide +kernel
theorem dX10_init_154 : decode cX10_init 154 = .ok (.aload_n 0, 1) := by decide +kernel
theorem dX10_init_155 : decode cX10_init 155 = .ok (.iconst 3, 1) := by decide +kernel
theorem dX10_init_156 : decode cX10_init 156 = .ok (.putfield 69, 3) := by decide +kernel
theorem dX10_init_159 : decode cX10_init 159 = .ok (.return_, 1) := by decide +kernel
theorem dX10_in_0 : decode cX10_in 0 = .ok (.lload_n 0, 1) := by decide +kernel
theorem dX10_in_1 : decode cX10_in 1 = .ok (.lload_n 2, 1) := by decide +kernel
theorem dX10_in_2 : decode cX10_in 2 = .ok (.lcmp, 1) := by decide +kernel
theorem dX10_in_3 : decode cX10_in 3 = .ok (.ifCond .lt 14, 3) := by decide +kernel
theorem dX10_in_6 : decode cX10_in 6 = .ok (.lload_n 0, 1) := by decide +kernel
theorem dX10_in_7 : decode cX10_in 7 = .ok (.lload 4, 2) := by decide +kernel
theorem dX10_in_9 : decode cX10_in 9 = .ok (.lcmp, 1) := by decide +kernel
theorem dX10_in_10 : decode cX10_in 10 = .ok (.ifCond .gt 7, 3) := by decide +kernel
theorem dX10_in_13 : decode cX10_in 13 = .ok (.iconst 1, 1) := by decide +kernel
theorem dX10_in_14 : decode cX10_in 14 = .ok (.goto 4, 3) := by decide +kernel
theorem dX10_in_17 : decode cX10_in 17 = .ok (.iconst 0, 1) := by decide +kernel
theorem dX10_in_18 : decode cX10_in 18 = .ok (.ireturn, 1) := by decide +kernel
theorem dX10_letters_0 : decode cX10_letters 0 = .ok (.iconst 0, 1) := by decide +kernel
theorem dX10_letters_1 : decode cX10_letters 1 = .ok (.istore_n 3, 1) := by decide +kernel
theorem dX10_letters_2 : decode cX10_letters 2 = .ok (.iconst 1, 1) := by decide +kernel
theorem dX10_letters_3 : decode cX10_letters 3 = .ok (.istore 4, 2) := by decide +kernel
theorem dX10_letters_5 : decode cX10_letters 5 = .ok (.lload_n 1, 1) := by decide +kernel
theorem dX10_letters_6 : decode cX10_letters 6 = .ok (.lstore 5, 2) := by decide +kernel
theorem dX10_letters_8 : decode cX10_letters 8 = .ok (.iconst 0, 1) := by decide +kernel
theorem dX10_letters_9 : decode cX10_letters 9 = .ok (.istore 7, 2) := by decide +kernel
theorem dX10_letters_11 : decode cX10_letters 11 = .ok (.iload 7, 2) := by decide +kernel
theorem dX10_letters_13 : decode cX10_letters 13 = .ok (.bipush 8, 2) := by decide +kernel
theorem dX10_letters_15 : decode cX10_letters 15 = .ok (.if_icmp .ge 68, 3) := by decide +kernel
theorem dX10_letters_18 : decode cX10_letters 18 = .ok (.lload 5, 2) := by decide +kernel
theorem dX10_letters_20 : decode cX10_letters 20 = .ok (.ldc2_w 72, 3) := by decide +kernel
theorem dX10_letters_23 : decode cX10_letters 23 = .ok (.land, 1) := by decide +kernel
theorem dX10_letters_24 : decode cX10_letters 24 = .ok (.l2i, 1) := by decide +kernel
theorem dX10_letters_25 : decode cX10_letters 25 = .ok (.istore 8, 2) := by decide +kernel
theorem dX10_letters_27 : decode cX10_letters 27 = .ok (.lload 5, 2) := by decide +kernel
theorem dX10_letters_29 : decode cX10_letters 29 = .ok (.bipush 8, 2) := by decide +kernel
theorem dX10_letters_31 : decode cX10_letters 31 = .ok (.lushr, 1) := by decide +kernel
theorem dX10_letters_32 : decode cX10_letters 32 = .ok (.lstore 5, 2) := by decide +kernel
theorem dX10_letters_34 : decode cX10_letters 34 = .ok (.iload 4, 2) := by decide +kernel
theorem dX10_letters_36 : decode cX10_letters 36 = .ok (.ifCond .eq 25, 3) := by decide +kernel
theorem dX10_letters_39 : decode cX10_letters 39 = .ok (.iload 8, 2) := by decide +kernel
theorem dX10_letters_41 : decode cX10_letters 41 = .ok (.bipush 126, 2) := by decide +kernel
theorem dX10_letters_43 : decode cX10_letters 43 = .ok (.if_icmp .gt 18, 3) := by decide +kernel
theorem dX10_letters_46 : decode cX10_letters 46 = .ok (.iload 8, 2) := by decide +kernel
theorem dX10_letters_48 : decode cX10_letters 48 = .ok (.ifCond .eq 9, 3) := by decide +kernel
theorem dX10_letters_51 : decode cX10_letters 51 = .ok (.iload_n 3, 1) := by decide +kernel
theorem dX10_letters_52 : decode cX10_letters 52 = .ok (.iload 7, 2) := by decide +kernel
theorem dX10_letters_54 : decode cX10_letters 54 = .ok (.if_icmp .ne 7, 3) := by decide +kernel
theorem dX10_letters_57 : decode cX10_letters 57 = .ok (.iconst 1, 1) := by decide +kernel
theorem dX10_letters_58 : decode cX10_letters 58 = .ok (.goto 4, 3) := by decide +kernel
theorem dX10_letters_61 : decode cX10_letters 61 = .ok (.iconst 0, 1) := by decide +kernel
theorem dX10_letters_62 : decode cX10_letters 62 = .ok (.istore 4, 2) := by decide +kernel
theorem dX10_letters_64 : decode cX10_letters 64 = .ok (.iload_n 3, 1) := by decide +kernel
theorem dX10_letters_65 : decode cX10_letters 65 = .ok (.iload 8, 2) := by decide +kernel
theorem dX10_letters_67 : decode cX10_letters 67 = .ok (.ifCond .le 7, 3) := by decide +kernel
theorem dX10_letters_70 : decode cX10_letters 70 = .ok (.iconst 1, 1) := by decide +kernel
theorem dX10_letters_71 : decode cX10_letters 71 = .ok (.goto 4, 3) := by decide +kernel
theorem dX10_letters_74 : decode cX10_letters 74 = .ok (.iconst 0, 1) := by decide +kernel
theorem dX10_letters_75 : decode cX10_letters 75 = .ok (.iadd, 1) := by decide +kernel
theorem dX10_letters_76 : decode cX10_letters 76 = .ok (.istore_n 3, 1) := by decide +kernel
theorem dX10_letters_77 : decode cX10_letters 77 = .ok (.iinc 7 1, 3) := by decide +kernel
theorem dX10_letters_80 : decode cX10_letters 80 = .ok (.goto (-69), 3) := by decide +kernel
theorem dX10_letters_83 : decode cX10_letters 83 = .ok (.iload 4, 2) := by decide +kernel
theorem dX10_letters_85 : decode cX10_letters 85 = .ok (.ifCond .ne 6, 3) := by decide +kernel
theorem dX10_letters_88 : decode cX10_letters 88 = .ok (.bipush (-102), 2) := by decide +kernel
theorem dX10_letters_90 : decode cX10_letters 90 = .ok (.ireturn, 1) := by decide +kernel
theorem dX10_letters_91 : decode cX10_letters 91 = .ok (.aload_n 0, 1) := by decide +kernel
theorem dX10_letters_92 : decode cX10_letters 92 = .ok (.getfield 74, 3) := by decide +kernel
theorem dX10_letters_95 : decode cX10_letters 95 = .ok (.iload_n 3, 1) := by decide +kernel
theorem dX10_letters_96 : decode cX10_letters 96 = .ok (.iadd, 1) := by decide +kernel
theorem dX10_letters_97 : decode cX10_letters 97 = .ok (.bipush 32, 2) := by decide +kernel
theorem dX10_letters_99 : decode cX10_letters 99 = .ok (.if_icmp .le 6, 3) := by decide +kernel
theorem dX10_letters_102 : decode cX10_letters 102 = .ok (.bipush (-104), 2) := by decide +kernel
theorem dX10_letters_104 : decode cX10_letters 104 = .ok (.ireturn, 1) := by decide +kernel
theorem dX10_letters_105 : decode cX10_letters 105 = .ok (.iconst 0, 1) := by decide +kernel
theorem dX10_letters_106 : decode cX10_letters 106 = .ok (.istore 7, 2) := by decide +kernel
theorem dX10_letters_108 : decode cX10_letters 108 = .ok (.iload 7, 2) := by decide +kernel
theorem dX10_letters_110 : decode cX10_letters 110 = .ok (.iload_n 3, 1) := by decide +kernel
theorem dX10_letters_111 : decode cX10_letters 111 = .ok (.if_icmp .ge 40, 3) := by decide +kernel
theorem dX10_letters_114 : decode cX10_letters 114 = .ok (.aload_n 0, 1) := by decide +kernel
theorem dX10_letters_115 : decode cX10_letters 115 = .ok (.getfield 7, 3) := by decide +kernel
theorem dX10_letters_118 : decode cX10_letters 118 = .ok (.aload_n 0, 1) := by decide +kernel
theorem dX10_letters_119 : decode cX10_letters 119 = .ok (.getfield 74, 3) := by decide +kernel
theorem dX10_letters_122 : decode cX10_letters 122 = .ok (.lload_n 1, 1) := by decide +kernel
theorem dX10_letters_123 : decode cX10_letters 123 = .ok (.bipush 8, 2) := by decide +kernel
theorem dX10_letters_125 : decode cX10_letters 125 = .ok (.iload 7, 2) := by decide +kernel
theorem dX10_letters_127 : decode cX10_letters 127 = .ok (.imul, 1) := by decide +kernel
theorem dX10_letters_128 : decode cX10_letters 128 = .ok (.lushr, 1) := by decide +kernel
theorem dX10_letters_129 : decode cX10_letters 129 = .ok (.ldc2_w 72, 3) := by decide +kernel
theorem dX10_letters_132 : decode cX10_letters 132 = .ok (.land, 1) := by decide +kernel
theorem dX10_letters_133 : decode cX10_letters 133 = .ok (.l2i, 1) := by decide +kernel
theorem dX10_letters_134 : decode cX10_letters 134 = .ok (.iastore, 1) := by decide +kernel
theorem dX10_letters_135 : decode cX10_letters 135 = .ok (.aload_n 0, 1) := by decide +kernel
theorem dX10_letters_136 : decode cX10_letters 136 = .ok (.dup, 1) := by decide +kernel
theorem dX10_letters_137 : decode cX10_letters 137 = .ok (.getfield 74, 3) := by decide +kernel
theorem dX10_letters_140 : decode cX10_letters 140 = .ok (.iconst 1, 1) := by decide +kernel
theorem dX10_letters_141 : decode cX10_letters 141 = .ok (.iadd, 1) := by decide +kernel
theorem dX10_letters_142 : decode cX10_letters 142 = .ok (.putfield 74, 3) := by decide +kernel
theorem dX10_letters_145 : decode cX10_letters 145 = .ok (.iinc 7 1, 3) := by decide +kernel
theorem dX10_letters_148 : decode cX10_letters 148 = .ok (.goto (-40), 3) := by decide +kernel
theorem dX10_letters_151 : decode cX10_letters 151 = .ok (.aload_n 0, 1) := by decide +kernel
theorem dX10_letters_152 : decode cX10_letters 152 = .ok (.getfield 74, 3) := by decide +kernel
theorem dX10_letters_155 : decode cX10_letters 155 = .ok (.ireturn, 1) := by decide +kernel
theorem dX10_blank_0 : decode cX10_blank 0 = .ok (.aload_n 0, 1) := by decide +kernel
theorem dX10_blank_1 : decode cX10_blank 1 = .ok (.getfield 74, 3) := by decide +kernel
theorem dX10_blank_4 : decode cX10_blank 4 = .ok (.istore_n 1, 1) := by decide +kernel
theorem dX10_blank_5 : decode cX10_blank 5 = .ok (.aload_n 0, 1) := by decide +kernel
theorem dX10_blank_6 : decode cX10_blank 6 = .ok (.iconst 0, 1) := by decide +kernel
theorem dX10_blank_7 : decode cX10_blank 7 = .ok (.putfield 74, 3) := by decide +kernel
theorem dX10_blank_10 : decode cX10_blank 10 = .ok (.iload_n 1, 1) := by decide +kernel
theorem dX10_blank_11 : decode cX10_blank 11 = .ok (.ireturn, 1) := by decide +kernel
theorem dX10_goRule_0 : decode cX10_goRule 0 = .ok (.iload_n 1, 1) := by decide +kernel
theorem dX10_goRule_1 : decode cX10_goRule 1 = .ok (.bipush 48, 2) := by decide +kernel
theorem dX10_goRule_3 : decode cX10_goRule 3 = .ok (.isub, 1) := by decide +kernel
theorem dX10_goRule_4 : decode cX10_goRule 4 = .ok (.istore_n 2, 1) := by decide +kernel
theorem dX10_goRule_5 : decode cX10_goRule 5 = .ok (.aload_n 0, 1) := by decide +kernel
theorem dX10_goRule_6 : decode cX10_goRule 6 = .ok (.getfield 77, 3) := by decide +kernel
theorem dX10_goRule_9 : decode cX10_goRule 9 = .ok (.istore_n 3, 1) := by decide +kernel
theorem dX10_goRule_10 : decode cX10_goRule 10 = .ok (.iload_n 3, 1) := by decide +kernel
theorem dX10_goRule_11 : decode cX10_goRule 11 = .ok (.tableswitch 190 0 3 #[29, 49, 120, 170], 29) := by decide +kernel
theorem dX10_goRule_40 : decode cX10_goRule 40 = .ok (.aload_n 0, 1) := by decide +kernel
theorem dX10_goRule_41 : decode cX10_goRule 41 = .ok (.iload_n 2, 1) := by decide +kernel
theorem dX10_goRule_42 : decode cX10_goRule 42 = .ok (.putfield 80, 3) := by decide +kernel
theorem dX10_goRule_45 : decode cX10_goRule 45 = .ok (.aload_n 0, 1) := by decide +kernel
theorem dX10_goRule_46 : decode cX10_goRule 46 = .ok (.iconst 1, 1) := by decide +kernel
theorem dX10_goRule_47 : decode cX10_goRule 47 = .ok (.putfield 77, 3) := by decide +kernel
theorem dX10_goRule_50 : decode cX10_goRule 50 = .ok (.iload_n 2, 1) := by decide +kernel
theorem dX10_goRule_51 : decode cX10_goRule 51 = .ok (.i2l, 1) := by decide +kernel
theorem dX10_goRule_52 : decode cX10_goRule 52 = .ok (.lconst 0, 1) := by decide +kernel
theorem dX10_goRule_53 : decode cX10_goRule 53 = .ok (.ldc2_w 83, 3) := by decide +kernel
theorem dX10_goRule_56 : decode cX10_goRule 56 = .ok (.invokestatic 85, 3) := by decide +kernel
theorem dX10_goRule_59 : decode cX10_goRule 59 = .ok (.ireturn, 1) := by decide +kernel
theorem dX10_goRule_60 : decode cX10_goRule 60 = .ok (.aload_n 0, 1) := by decide +kernel
theorem dX10_goRule_61 : decode cX10_goRule 61 = .ok (.iconst 2, 1) := by decide +kernel
theorem dX10_goRule_62 : decode cX10_goRule 62 = .ok (.putfield 77, 3) := by decide +kernel
theorem dX10_goRule_65 : decode cX10_goRule 65 = .ok (.iload_n 2, 1) := by decide +kernel
theorem dX10_goRule_66 : decode cX10_goRule 66 = .ok (.i2l, 1) := by decide +kernel
theorem dX10_goRule_67 : decode cX10_goRule 67 = .ok (.lconst 0, 1) := by decide +kernel
theorem dX10_goRule_68 : decode cX10_goRule 68 = .ok (.ldc2_w 83, 3) := by decide +kernel
theorem dX10_goRule_71 : decode cX10_goRule 71 = .ok (.invokestatic 85, 3) := by decide +kernel
theorem dX10_goRule_74 : decode cX10_goRule 74 = .ok (.ifCond .eq 28, 3) := by decide +kernel
theorem dX10_goRule_77 : decode cX10_goRule 77 = .ok (.iload_n 2, 1) := by decide +kernel
theorem dX10_goRule_78 : decode cX10_goRule 78 = .ok (.aload_n 0, 1) := by decide +kernel
theorem dX10_goRule_79 : decode cX10_goRule 79 = .ok (.getfield 80, 3) := by decide +kernel
theorem dX10_goRule_82 : decode cX10_goRule 82 = .ok (.if_icmp .eq 20, 3) := by decide +kernel
theorem dX10_goRule_85 : decode cX10_goRule 85 = .ok (.aload_n 0, 1) := by decide +kernel
theorem dX10_goRule_86 : decode cX10_goRule 86 = .ok (.getfield 16, 3) := by decide +kernel
theorem dX10_goRule_89 : decode cX10_goRule 89 = .ok (.aload_n 0, 1) := by decide +kernel
theorem dX10_goRule_90 : decode cX10_goRule 90 = .ok (.getfield 80, 3) := by decide +kernel
theorem dX10_goRule_93 : decode cX10_goRule 93 = .ok (.iaload, 1) := by decide +kernel
theorem dX10_goRule_94 : decode cX10_goRule 94 = .ok (.iload_n 2, 1) := by decide +kernel
theorem dX10_goRule_95 : decode cX10_goRule 95 = .ok (.ishr, 1) := by decide +kernel
theorem dX10_goRule_96 : decode cX10_goRule 96 = .ok (.iconst 1, 1) := by decide +kernel
theorem dX10_goRule_97 : decode cX10_goRule 97 = .ok (.iand, 1) := by decide +kernel
theorem dX10_goRule_98 : decode cX10_goRule 98 = .ok (.iconst 1, 1) := by decide +kernel
theorem dX10_goRule_99 : decode cX10_goRule 99 = .ok (.if_icmp .ne 5, 3) := by decide +kernel
theorem dX10_goRule_102 : decode cX10_goRule 102 = .ok (.iconst 0, 1) := by decide +kernel
theorem dX10_goRule_103 : decode cX10_goRule 103 = .ok (.ireturn, 1) := by decide +kernel
theorem dX10_goRule_104 : decode cX10_goRule 104 = .ok (.aload_n 0, 1) := by decide +kernel
theorem dX10_goRule_105 : decode cX10_goRule 105 = .ok (.getfield 16, 3) := by decide +kernel
theorem dX10_goRule_108 : decode cX10_goRule 108 = .ok (.aload_n 0, 1) := by decide +kernel
theorem dX10_goRule_109 : decode cX10_goRule 109 = .ok (.getfield 80, 3) := by decide +kernel
theorem dX10_goRule_112 : decode cX10_goRule 112 = .ok (.dup2, 1) := by decide +kernel
theorem dX10_goRule_113 : decode cX10_goRule 113 = .ok (.iaload, 1) := by decide +kernel
theorem dX10_goRule_114 : decode cX10_goRule 114 = .ok (.iconst 1, 1) := by decide +kernel
theorem dX10_goRule_115 : decode cX10_goRule 115 = .ok (.iload_n 2, 1) := by decide +kernel
theorem dX10_goRule_116 : decode cX10_goRule 116 = .ok (.ishl, 1) := by decide +kernel
theorem dX10_goRule_117 : decode cX10_goRule 117 = .ok (.ior, 1) := by decide +kernel
theorem dX10_goRule_118 : decode cX10_goRule 118 = .ok (.iastore, 1) := by decide +kernel
theorem dX10_goRule_119 : decode cX10_goRule 119 = .ok (.aload_n 0, 1) := by decide +kernel
theorem dX10_goRule_120 : decode cX10_goRule 120 = .ok (.dup, 1) := by decide +kernel
theorem dX10_goRule_121 : decode cX10_goRule 121 = .ok (.getfield 89, 3) := by decide +kernel
theorem dX10_goRule_124 : decode cX10_goRule 124 = .ok (.iconst 1, 1) := by decide +kernel
theorem dX10_goRule_125 : decode cX10_goRule 125 = .ok (.iadd, 1) := by decide +kernel
theorem dX10_goRule_126 : decode cX10_goRule 126 = .ok (.putfield 89, 3) := by decide +kernel
theorem dX10_goRule_129 : decode cX10_goRule 129 = .ok (.iconst 1, 1) := by decide +kernel
theorem dX10_goRule_130 : decode cX10_goRule 130 = .ok (.ireturn, 1) := by decide +kernel
theorem dX10_goRule_131 : decode cX10_goRule 131 = .ok (.aload_n 0, 1) := by decide +kernel
theorem dX10_goRule_132 : decode cX10_goRule 132 = .ok (.iload_n 1, 1) := by decide +kernel
theorem dX10_goRule_133 : decode cX10_goRule 133 = .ok (.bipush 44, 2) := by decide +kernel
theorem dX10_goRule_135 : decode cX10_goRule 135 = .ok (.if_icmp .ne 7, 3) := by decide +kernel
theorem dX10_goRule_138 : decode cX10_goRule 138 = .ok (.iconst 0, 1) := by decide +kernel
theorem dX10_goRule_139 : decode cX10_goRule 139 = .ok (.goto 4, 3) := by decide +kernel
theorem dX10_goRule_142 : decode cX10_goRule 142 = .ok (.iconst 3, 1) := by decide +kernel
theorem dX10_goRule_143 : decode cX10_goRule 143 = .ok (.putfield 77, 3) := by decide +kernel
theorem dX10_goRule_146 : decode cX10_goRule 146 = .ok (.iload_n 1, 1) := by decide +kernel
theorem dX10_goRule_147 : decode cX10_goRule 147 = .ok (.bipush 44, 2) := by decide +kernel
theorem dX10_goRule_149 : decode cX10_goRule 149 = .ok (.if_icmp .ne 20, 3) := by decide +kernel
theorem dX10_goRule_152 : decode cX10_goRule 152 = .ok (.aload_n 0, 1) := by decide +kernel
theorem dX10_goRule_153 : decode cX10_goRule 153 = .ok (.getfield 89, 3) := by decide +kernel
theorem dX10_goRule_156 : decode cX10_goRule 156 = .ok (.bipush 10, 2) := by decide +kernel
theorem dX10_goRule_158 : decode cX10_goRule 158 = .ok (.if_icmp .ge 7, 3) := by decide +kernel
theorem dX10_goRule_161 : decode cX10_goRule 161 = .ok (.iconst 1, 1) := by decide +kernel
theorem dX10_goRule_162 : decode cX10_goRule 162 = .ok (.goto 18, 3) := by decide +kernel
theorem dX10_goRule_165 : decode cX10_goRule 165 = .ok (.iconst 0, 1) := by decide +kernel
theorem dX10_goRule_166 : decode cX10_goRule 166 = .ok (.goto 14, 3) := by decide +kernel
theorem dX10_goRule_169 : decode cX10_goRule 169 = .ok (.iload_n 1, 1) := by decide +kernel
theorem dX10_goRule_170 : decode cX10_goRule 170 = .ok (.bipush 59, 2) := by decide +kernel
theorem dX10_goRule_172 : decode cX10_goRule 172 = .ok (.if_icmp .ne 7, 3) := by decide +kernel
theorem dX10_goRule_175 : decode cX10_goRule 175 = .ok (.iconst 1, 1) := by decide +kernel
theorem dX10_goRule_176 : decode cX10_goRule 176 = .ok (.goto 4, 3) := by decide +kernel
theorem dX10_goRule_179 : decode cX10_goRule 179 = .ok (.iconst 0, 1) := by decide +kernel
theorem dX10_goRule_180 : decode cX10_goRule 180 = .ok (.ireturn, 1) := by decide +kernel
theorem dX10_goRule_181 : decode cX10_goRule 181 = .ok (.aload_n 0, 1) := by decide +kernel
theorem dX10_goRule_182 : decode cX10_goRule 182 = .ok (.iload_n 2, 1) := by decide +kernel
theorem dX10_goRule_183 : decode cX10_goRule 183 = .ok (.putfield 92, 3) := by decide +kernel
theorem dX10_goRule_186 : decode cX10_goRule 186 = .ok (.aload_n 0, 1) := by decide +kernel
theorem dX10_goRule_187 : decode cX10_goRule 187 = .ok (.iconst 4, 1) := by decide +kernel
theorem dX10_goRule_188 : decode cX10_goRule 188 = .ok (.putfield 77, 3) := by decide +kernel
theorem dX10_goRule_191 : decode cX10_goRule 191 = .ok (.iload_n 2, 1) := by decide +kernel
theorem dX10_goRule_192 : decode cX10_goRule 192 = .ok (.i2l, 1) := by decide +kernel
theorem dX10_goRule_193 : decode cX10_goRule 193 = .ok (.lconst 0, 1) := by decide +kernel
theorem dX10_goRule_194 : decode cX10_goRule 194 = .ok (.ldc2_w 95, 3) := by decide +kernel
theorem dX10_goRule_197 : decode cX10_goRule 197 = .ok (.invokestatic 85, 3) := by decide +kernel
theorem dX10_goRule_200 : decode cX10_goRule 200 = .ok (.ireturn, 1) := by decide +kernel
theorem dX10_goRule_201 : decode cX10_goRule 201 = .ok (.iconst 0, 1) := by decide +kernel
theorem dX10_goRule_202 : decode cX10_goRule 202 = .ok (.ireturn, 1) := by decide +kernel
theorem dX10_ruleFault_0 : decode cX10_ruleFault 0 = .ok (.iconst 0, 1) := by decide +kernel
theorem dX10_ruleFault_1 : decode cX10_ruleFault 1 = .ok (.istore_n 1, 1) := by decide +kernel
theorem dX10_ruleFault_2 : decode cX10_ruleFault 2 = .ok (.iload_n 1, 1) := by decide +kernel
theorem dX10_ruleFault_3 : decode cX10_ruleFault 3 = .ok (.bipush 7, 2) := by decide +kernel
theorem dX10_ruleFault_5 : decode cX10_ruleFault 5 = .ok (.if_icmp .ge 16, 3) := by decide +kernel
theorem dX10_ruleFault_8 : decode cX10_ruleFault 8 = .ok (.aload_n 0, 1) := by decide +kernel
theorem dX10_ruleFault_9 : decode cX10_ruleFault 9 = .ok (.getfield 16, 3) := by decide +kernel
theorem dX10_ruleFault_12 : decode cX10_ruleFault 12 = .ok (.iload_n 1, 1) := by decide +kernel
theorem dX10_ruleFault_13 : decode cX10_ruleFault 13 = .ok (.iconst 0, 1) := by decide +kernel
theorem dX10_ruleFault_14 : decode cX10_ruleFault 14 = .ok (.iastore, 1) := by decide +kernel
theorem dX10_ruleFault_15 : decode cX10_ruleFault 15 = .ok (.iinc 1 1, 3) := by decide +kernel
theorem dX10_ruleFault_18 : decode cX10_ruleFault 18 = .ok (.goto (-16), 3) := by decide +kernel
theorem dX10_ruleFault_21 : decode cX10_ruleFault 21 = .ok (.aload_n 0, 1) := by decide +kernel
theorem dX10_ruleFault_22 : decode cX10_ruleFault 22 = .ok (.iconst 0, 1) := by decide +kernel
theorem dX10_ruleFault_23 : decode cX10_ruleFault 23 = .ok (.putfield 89, 3) := by decide +kernel
theorem dX10_ruleFault_26 : decode cX10_ruleFault 26 = .ok (.aload_n 0, 1) := by decide +kernel
theorem dX10_ruleFault_27 : decode cX10_ruleFault 27 = .ok (.iconst 3, 1) := by decide +kernel
theorem dX10_ruleFault_28 : decode cX10_ruleFault 28 = .ok (.putfield 92, 3) := by decide +kernel
theorem dX10_ruleFault_31 : decode cX10_ruleFault 31 = .ok (.aload_n 0, 1) := by decide +kernel
theorem dX10_ruleFault_32 : decode cX10_ruleFault 32 = .ok (.iconst 0, 1) := by decide +kernel
theorem dX10_ruleFault_33 : decode cX10_ruleFault 33 = .ok (.putfield 77, 3) := by decide +kernel
theorem dX10_ruleFault_36 : decode cX10_ruleFault 36 = .ok (.iconst 0, 1) := by decide +kernel
theorem dX10_ruleFault_37 : decode cX10_ruleFault 37 = .ok (.istore_n 1, 1) := by decide +kernel
theorem dX10_ruleFault_38 : decode cX10_ruleFault 38 = .ok (.iload_n 1, 1) := by decide +kernel
theorem dX10_ruleFault_39 : decode cX10_ruleFault 39 = .ok (.aload_n 0, 1) := by decide +kernel
theorem dX10_ruleFault_40 : decode cX10_ruleFault 40 = .ok (.getfield 74, 3) := by decide +kernel
theorem dX10_ruleFault_43 : decode cX10_ruleFault 43 = .ok (.if_icmp .ge 22, 3) := by decide +kernel
theorem dX10_ruleFault_46 : decode cX10_ruleFault 46 = .ok (.aload_n 0, 1) := by decide +kernel
theorem dX10_ruleFault_47 : decode cX10_ruleFault 47 = .ok (.aload_n 0, 1) := by decide +kernel
theorem dX10_ruleFault_48 : decode cX10_ruleFault 48 = .ok (.getfield 7, 3) := by decide +kernel
theorem dX10_ruleFault_51 : decode cX10_ruleFault 51 = .ok (.iload_n 1, 1) := by decide +kernel
theorem dX10_ruleFault_52 : decode cX10_ruleFault 52 = .ok (.iaload, 1) := by decide +kernel
theorem dX10_ruleFault_53 : decode cX10_ruleFault 53 = .ok (.invokevirtual 97, 3) := by decide +kernel
theorem dX10_ruleFault_56 : decode cX10_ruleFault 56 = .ok (.ifCond .eq 9, 3) := by decide +kernel
theorem dX10_ruleFault_59 : decode cX10_ruleFault 59 = .ok (.iinc 1 1, 3) := by decide +kernel
theorem dX10_ruleFault_62 : decode cX10_ruleFault 62 = .ok (.goto (-24), 3) := by decide +kernel
theorem dX10_ruleFault_65 : decode cX10_ruleFault 65 = .ok (.iload_n 1, 1) := by decide +kernel
theorem dX10_ruleFault_66 : decode cX10_ruleFault 66 = .ok (.ireturn, 1) := by decide +kernel
theorem dX10_debateFault_0 : decode cX10_debateFault 0 = .ok (.aload_n 0, 1) := by decide +kernel
theorem dX10_debateFault_1 : decode cX10_debateFault 1 = .ok (.iconst 0, 1) := by decide +kernel
theorem dX10_debateFault_2 : decode cX10_debateFault 2 = .ok (.putfield 101, 3) := by decide +kernel
theorem dX10_debateFault_5 : decode cX10_debateFault 5 = .ok (.iconst 0, 1) := by decide +kernel
theorem dX10_debateFault_6 : decode cX10_debateFault 6 = .ok (.istore_n 1, 1) := by decide +kernel
theorem dX10_debateFault_7 : decode cX10_debateFault 7 = .ok (.iconst 0, 1) := by decide +kernel
theorem dX10_debateFault_8 : decode cX10_debateFault 8 = .ok (.istore_n 2, 1) := by decide +kernel
theorem dX10_debateFault_9 : decode cX10_debateFault 9 = .ok (.iload_n 2, 1) := by decide +kernel
theorem dX10_debateFault_10 : decode cX10_debateFault 10 = .ok (.aload_n 0, 1) := by decide +kernel
theorem dX10_debateFault_11 : decode cX10_debateFault 11 = .ok (.getfield 74, 3) := by decide +kernel
theorem dX10_debateFault_14 : decode cX10_debateFault 14 = .ok (.if_icmp .ge 74, 3) := by decide +kernel
theorem dX10_debateFault_17 : decode cX10_debateFault 17 = .ok (.aload_n 0, 1) := by decide +kernel
theorem dX10_debateFault_18 : decode cX10_debateFault 18 = .ok (.getfield 7, 3) := by decide +kernel
theorem dX10_debateFault_21 : decode cX10_debateFault 21 = .ok (.iload_n 2, 1) := by decide +kernel
theorem dX10_debateFault_22 : decode cX10_debateFault 22 = .ok (.iaload, 1) := by decide +kernel
theorem dX10_debateFault_23 : decode cX10_debateFault 23 = .ok (.bipush 48, 2) := by decide +kernel
theorem dX10_debateFault_25 : decode cX10_debateFault 25 = .ok (.isub, 1) := by decide +kernel
theorem dX10_debateFault_26 : decode cX10_debateFault 26 = .ok (.i2l, 1) := by decide +kernel
theorem dX10_debateFault_27 : decode cX10_debateFault 27 = .ok (.lconst 0, 1) := by decide +kernel
theorem dX10_debateFault_28 : decode cX10_debateFault 28 = .ok (.ldc2_w 83, 3) := by decide +kernel
theorem dX10_debateFault_31 : decode cX10_debateFault 31 = .ok (.invokestatic 85, 3) := by decide +kernel
theorem dX10_debateFault_34 : decode cX10_debateFault 34 = .ok (.ifCond .eq 54, 3) := by decide +kernel
theorem dX10_debateFault_37 : decode cX10_debateFault 37 = .ok (.iload_n 1, 1) := by decide +kernel
theorem dX10_debateFault_38 : decode cX10_debateFault 38 = .ok (.aload_n 0, 1) := by decide +kernel
theorem dX10_debateFault_39 : decode cX10_debateFault 39 = .ok (.getfield 7, 3) := by decide +kernel
theorem dX10_debateFault_42 : decode cX10_debateFault 42 = .ok (.iload_n 2, 1) := by decide +kernel
theorem dX10_debateFault_43 : decode cX10_debateFault 43 = .ok (.iaload, 1) := by decide +kernel
theorem dX10_debateFault_44 : decode cX10_debateFault 44 = .ok (.bipush 48, 2) := by decide +kernel
theorem dX10_debateFault_46 : decode cX10_debateFault 46 = .ok (.isub, 1) := by decide +kernel
theorem dX10_debateFault_47 : decode cX10_debateFault 47 = .ok (.ishr, 1) := by decide +kernel
theorem dX10_debateFault_48 : decode cX10_debateFault 48 = .ok (.iconst 1, 1) := by decide +kernel
theorem dX10_debateFault_49 : decode cX10_debateFault 49 = .ok (.iand, 1) := by decide +kernel
theorem dX10_debateFault_50 : decode cX10_debateFault 50 = .ok (.ifCond .ne 38, 3) := by decide +kernel
theorem dX10_debateFault_53 : decode cX10_debateFault 53 = .ok (.iload_n 1, 1) := by decide +kernel
theorem dX10_debateFault_54 : decode cX10_debateFault 54 = .ok (.iconst 1, 1) := by decide +kernel
theorem dX10_debateFault_55 : decode cX10_debateFault 55 = .ok (.aload_n 0, 1) := by decide +kernel
theorem dX10_debateFault_56 : decode cX10_debateFault 56 = .ok (.getfield 7, 3) := by decide +kernel
theorem dX10_debateFault_59 : decode cX10_debateFault 59 = .ok (.iload_n 2, 1) := by decide +kernel
theorem dX10_debateFault_60 : decode cX10_debateFault 60 = .ok (.iaload, 1) := by decide +kernel
theorem dX10_debateFault_61 : decode cX10_debateFault 61 = .ok (.bipush 48, 2) := by decide +kernel
theorem dX10_debateFault_63 : decode cX10_debateFault 63 = .ok (.isub, 1) := by decide +kernel
theorem dX10_debateFault_64 : decode cX10_debateFault 64 = .ok (.ishl, 1) := by decide +kernel
theorem dX10_debateFault_65 : decode cX10_debateFault 65 = .ok (.ior, 1) := by decide +kernel
theorem dX10_debateFault_66 : decode cX10_debateFault 66 = .ok (.istore_n 1, 1) := by decide +kernel
theorem dX10_debateFault_67 : decode cX10_debateFault 67 = .ok (.aload_n 0, 1) := by decide +kernel
theorem dX10_debateFault_68 : decode cX10_debateFault 68 = .ok (.getfield 19, 3) := by decide +kernel
theorem dX10_debateFault_71 : decode cX10_debateFault 71 = .ok (.iload_n 2, 1) := by decide +kernel
theorem dX10_debateFault_72 : decode cX10_debateFault 72 = .ok (.aload_n 0, 1) := by decide +kernel
theorem dX10_debateFault_73 : decode cX10_debateFault 73 = .ok (.getfield 7, 3) := by decide +kernel
theorem dX10_debateFault_76 : decode cX10_debateFault 76 = .ok (.iload_n 2, 1) := by decide +kernel
theorem dX10_debateFault_77 : decode cX10_debateFault 77 = .ok (.iaload, 1) := by decide +kernel
theorem dX10_debateFault_78 : decode cX10_debateFault 78 = .ok (.bipush 48, 2) := by decide +kernel
theorem dX10_debateFault_80 : decode cX10_debateFault 80 = .ok (.isub, 1) := by decide +kernel
theorem dX10_debateFault_81 : decode cX10_debateFault 81 = .ok (.iastore, 1) := by decide +kernel
theorem dX10_debateFault_82 : decode cX10_debateFault 82 = .ok (.iinc 2 1, 3) := by decide +kernel
theorem dX10_debateFault_85 : decode cX10_debateFault 85 = .ok (.goto (-76), 3) := by decide +kernel
theorem dX10_debateFault_88 : decode cX10_debateFault 88 = .ok (.aload_n 0, 1) := by decide +kernel
theorem dX10_debateFault_89 : decode cX10_debateFault 89 = .ok (.iload_n 2, 1) := by decide +kernel
theorem dX10_debateFault_90 : decode cX10_debateFault 90 = .ok (.putfield 101, 3) := by decide +kernel
theorem dX10_debateFault_93 : decode cX10_debateFault 93 = .ok (.iload_n 2, 1) := by decide +kernel
theorem dX10_debateFault_94 : decode cX10_debateFault 94 = .ok (.ireturn, 1) := by decide +kernel
theorem dX10_fault_0 : decode cX10_fault 0 = .ok (.iload_n 1, 1) := by decide +kernel
theorem dX10_fault_1 : decode cX10_fault 1 = .ok (.ifCond .ne 10, 3) := by decide +kernel
theorem dX10_fault_4 : decode cX10_fault 4 = .ok (.aload_n 0, 1) := by decide +kernel
theorem dX10_fault_5 : decode cX10_fault 5 = .ok (.invokevirtual 104, 3) := by decide +kernel
theorem dX10_fault_8 : decode cX10_fault 8 = .ok (.goto 17, 3) := by decide +kernel
theorem dX10_fault_11 : decode cX10_fault 11 = .ok (.iload_n 1, 1) := by decide +kernel
theorem dX10_fault_12 : decode cX10_fault 12 = .ok (.iconst 1, 1) := by decide +kernel
theorem dX10_fault_13 : decode cX10_fault 13 = .ok (.if_icmp .ne 10, 3) := by decide +kernel
theorem dX10_fault_16 : decode cX10_fault 16 = .ok (.aload_n 0, 1) := by decide +kernel
theorem dX10_fault_17 : decode cX10_fault 17 = .ok (.invokevirtual 108, 3) := by decide +kernel
theorem dX10_fault_20 : decode cX10_fault 20 = .ok (.goto 5, 3) := by decide +kernel
theorem dX10_fault_23 : decode cX10_fault 23 = .ok (.bipush (-102), 2) := by decide +kernel
theorem dX10_fault_25 : decode cX10_fault 25 = .ok (.ireturn, 1) := by decide +kernel
theorem dX10_rule_0 : decode cX10_rule 0 = .ok (.aload_n 0, 1) := by decide +kernel
theorem dX10_rule_1 : decode cX10_rule 1 = .ok (.invokevirtual 104, 3) := by decide +kernel
theorem dX10_rule_4 : decode cX10_rule 4 = .ok (.aload_n 0, 1) := by decide +kernel
theorem dX10_rule_5 : decode cX10_rule 5 = .ok (.getfield 74, 3) := by decide +kernel
theorem dX10_rule_8 : decode cX10_rule 8 = .ok (.if_icmp .lt 19, 3) := by decide +kernel
theorem dX10_rule_11 : decode cX10_rule 11 = .ok (.aload_n 0, 1) := by decide +kernel
theorem dX10_rule_12 : decode cX10_rule 12 = .ok (.getfield 77, 3) := by decide +kernel
theorem dX10_rule_15 : decode cX10_rule 15 = .ok (.iconst 2, 1) := by decide +kernel
theorem dX10_rule_16 : decode cX10_rule 16 = .ok (.if_icmp .eq 14, 3) := by decide +kernel
theorem dX10_rule_19 : decode cX10_rule 19 = .ok (.aload_n 0, 1) := by decide +kernel
theorem dX10_rule_20 : decode cX10_rule 20 = .ok (.getfield 77, 3) := by decide +kernel
theorem dX10_rule_23 : decode cX10_rule 23 = .ok (.iconst 4, 1) := by decide +kernel
theorem dX10_rule_24 : decode cX10_rule 24 = .ok (.if_icmp .eq 6, 3) := by decide +kernel
theorem dX10_rule_27 : decode cX10_rule 27 = .ok (.bipush (-103), 2) := by decide +kernel
theorem dX10_rule_29 : decode cX10_rule 29 = .ok (.ireturn, 1) := by decide +kernel
theorem dX10_rule_30 : decode cX10_rule 30 = .ok (.iconst 0, 1) := by decide +kernel
theorem dX10_rule_31 : decode cX10_rule 31 = .ok (.istore_n 1, 1) := by decide +kernel
theorem dX10_rule_32 : decode cX10_rule 32 = .ok (.iload_n 1, 1) := by decide +kernel
theorem dX10_rule_33 : decode cX10_rule 33 = .ok (.bipush 7, 2) := by decide +kernel
theorem dX10_rule_35 : decode cX10_rule 35 = .ok (.if_icmp .ge 21, 3) := by decide +kernel
theorem dX10_rule_38 : decode cX10_rule 38 = .ok (.aload_n 0, 1) := by decide +kernel
theorem dX10_rule_39 : decode cX10_rule 39 = .ok (.getfield 13, 3) := by decide +kernel
theorem dX10_rule_42 : decode cX10_rule 42 = .ok (.iload_n 1, 1) := by decide +kernel
theorem dX10_rule_43 : decode cX10_rule 43 = .ok (.aload_n 0, 1) := by decide +kernel
theorem dX10_rule_44 : decode cX10_rule 44 = .ok (.getfield 16, 3) := by decide +kernel
theorem dX10_rule_47 : decode cX10_rule 47 = .ok (.iload_n 1, 1) := by decide +kernel
theorem dX10_rule_48 : decode cX10_rule 48 = .ok (.iaload, 1) := by decide +kernel
theorem dX10_rule_49 : decode cX10_rule 49 = .ok (.iastore, 1) := by decide +kernel
theorem dX10_rule_50 : decode cX10_rule 50 = .ok (.iinc 1 1, 3) := by decide +kernel
theorem dX10_rule_53 : decode cX10_rule 53 = .ok (.goto (-21), 3) := by decide +kernel
theorem dX10_rule_56 : decode cX10_rule 56 = .ok (.aload_n 0, 1) := by decide +kernel
theorem dX10_rule_57 : decode cX10_rule 57 = .ok (.aload_n 0, 1) := by decide +kernel
theorem dX10_rule_58 : decode cX10_rule 58 = .ok (.getfield 89, 3) := by decide +kernel
theorem dX10_rule_61 : decode cX10_rule 61 = .ok (.putfield 111, 3) := by decide +kernel
theorem dX10_rule_64 : decode cX10_rule 64 = .ok (.aload_n 0, 1) := by decide +kernel
theorem dX10_rule_65 : decode cX10_rule 65 = .ok (.aload_n 0, 1) := by decide +kernel
theorem dX10_rule_66 : decode cX10_rule 66 = .ok (.getfield 92, 3) := by decide +kernel
theorem dX10_rule_69 : decode cX10_rule 69 = .ok (.putfield 69, 3) := by decide +kernel
theorem dX10_rule_72 : decode cX10_rule 72 = .ok (.aload_n 0, 1) := by decide +kernel
theorem dX10_rule_73 : decode cX10_rule 73 = .ok (.iconst 0, 1) := by decide +kernel
theorem dX10_rule_74 : decode cX10_rule 74 = .ok (.putfield 74, 3) := by decide +kernel
theorem dX10_rule_77 : decode cX10_rule 77 = .ok (.aload_n 0, 1) := by decide +kernel
theorem dX10_rule_78 : decode cX10_rule 78 = .ok (.getfield 111, 3) := by decide +kernel
theorem dX10_rule_81 : decode cX10_rule 81 = .ok (.ireturn, 1) := by decide +kernel
theorem dX10_replies_0 : decode cX10_replies 0 = .ok (.iload_n 1, 1) := by decide +kernel
theorem dX10_replies_1 : decode cX10_replies 1 = .ok (.i2l, 1) := by decide +kernel
theorem dX10_replies_2 : decode cX10_replies 2 = .ok (.lconst 0, 1) := by decide +kernel
theorem dX10_replies_3 : decode cX10_replies 3 = .ok (.ldc2_w 83, 3) := by decide +kernel
theorem dX10_replies_6 : decode cX10_replies 6 = .ok (.invokestatic 85, 3) := by decide +kernel
theorem dX10_replies_9 : decode cX10_replies 9 = .ok (.ifCond .eq 28, 3) := by decide +kernel
theorem dX10_replies_12 : decode cX10_replies 12 = .ok (.iload_n 2, 1) := by decide +kernel
theorem dX10_replies_13 : decode cX10_replies 13 = .ok (.i2l, 1) := by decide +kernel
theorem dX10_replies_14 : decode cX10_replies 14 = .ok (.lconst 0, 1) := by decide +kernel
theorem dX10_replies_15 : decode cX10_replies 15 = .ok (.ldc2_w 83, 3) := by decide +kernel
theorem dX10_replies_18 : decode cX10_replies 18 = .ok (.invokestatic 85, 3) := by decide +kernel
theorem dX10_replies_21 : decode cX10_replies 21 = .ok (.ifCond .eq 16, 3) := by decide +kernel
theorem dX10_replies_24 : decode cX10_replies 24 = .ok (.aload_n 0, 1) := by decide +kernel
theorem dX10_replies_25 : decode cX10_replies 25 = .ok (.getfield 13, 3) := by decide +kernel
theorem dX10_replies_28 : decode cX10_replies 28 = .ok (.iload_n 1, 1) := by decide +kernel
theorem dX10_replies_29 : decode cX10_replies 29 = .ok (.iaload, 1) := by decide +kernel
theorem dX10_replies_30 : decode cX10_replies 30 = .ok (.iload_n 2, 1) := by decide +kernel
theorem dX10_replies_31 : decode cX10_replies 31 = .ok (.ishr, 1) := by decide +kernel
theorem dX10_replies_32 : decode cX10_replies 32 = .ok (.iconst 1, 1) := by decide +kernel
theorem dX10_replies_33 : decode cX10_replies 33 = .ok (.iand, 1) := by decide +kernel
theorem dX10_replies_34 : decode cX10_replies 34 = .ok (.goto 5, 3) := by decide +kernel
theorem dX10_replies_37 : decode cX10_replies 37 = .ok (.bipush (-101), 2) := by decide +kernel
theorem dX10_replies_39 : decode cX10_replies 39 = .ok (.ireturn, 1) := by decide +kernel
theorem dX10_isMember_0 : decode cX10_isMember 0 = .ok (.iload_n 1, 1) := by decide +kernel
theorem dX10_isMember_1 : decode cX10_isMember 1 = .ok (.i2l, 1) := by decide +kernel
theorem dX10_isMember_2 : decode cX10_isMember 2 = .ok (.lconst 0, 1) := by decide +kernel
theorem dX10_isMember_3 : decode cX10_isMember 3 = .ok (.aload_n 0, 1) := by decide +kernel
theorem dX10_isMember_4 : decode cX10_isMember 4 = .ok (.getfield 114, 3) := by decide +kernel
theorem dX10_isMember_7 : decode cX10_isMember 7 = .ok (.iconst 1, 1) := by decide +kernel
theorem dX10_isMember_8 : decode cX10_isMember 8 = .ok (.isub, 1) := by decide +kernel
theorem dX10_isMember_9 : decode cX10_isMember 9 = .ok (.i2l, 1) := by decide +kernel
theorem dX10_isMember_10 : decode cX10_isMember 10 = .ok (.invokestatic 85, 3) := by decide +kernel
theorem dX10_isMember_13 : decode cX10_isMember 13 = .ok (.ireturn, 1) := by decide +kernel
theorem dX10_member_0 : decode cX10_member 0 = .ok (.iload_n 1, 1) := by decide +kernel
theorem dX10_member_1 : decode cX10_member 1 = .ok (.i2l, 1) := by decide +kernel
theorem dX10_member_2 : decode cX10_member 2 = .ok (.lconst 0, 1) := by decide +kernel
theorem dX10_member_3 : decode cX10_member 3 = .ok (.ldc2_w 117, 3) := by decide +kernel
theorem dX10_member_6 : decode cX10_member 6 = .ok (.invokestatic 85, 3) := by decide +kernel
theorem dX10_member_9 : decode cX10_member 9 = .ok (.ifCond .eq 55, 3) := by decide +kernel
theorem dX10_member_12 : decode cX10_member 12 = .ok (.iload_n 2, 1) := by decide +kernel
theorem dX10_member_13 : decode cX10_member 13 = .ok (.i2l, 1) := by decide +kernel
theorem dX10_member_14 : decode cX10_member 14 = .ok (.lconst 1, 1) := by decide +kernel
theorem dX10_member_15 : decode cX10_member 15 = .ok (.ldc2_w 95, 3) := by decide +kernel
theorem dX10_member_18 : decode cX10_member 18 = .ok (.invokestatic 85, 3) := by decide +kernel
theorem dX10_member_21 : decode cX10_member 21 = .ok (.ifCond .eq 43, 3) := by decide +kernel
theorem dX10_member_24 : decode cX10_member 24 = .ok (.iload_n 3, 1) := by decide +kernel
theorem dX10_member_25 : decode cX10_member 25 = .ok (.i2l, 1) := by decide +kernel
theorem dX10_member_26 : decode cX10_member 26 = .ok (.ldc2_w 119, 3) := by decide +kernel
theorem dX10_member_29 : decode cX10_member 29 = .ok (.ldc2_w 121, 3) := by decide +kernel
theorem dX10_member_32 : decode cX10_member 32 = .ok (.invokestatic 85, 3) := by decide +kernel
theorem dX10_member_35 : decode cX10_member 35 = .ok (.ifCond .eq 29, 3) := by decide +kernel
theorem dX10_member_38 : decode cX10_member 38 = .ok (.iload 4, 2) := by decide +kernel
theorem dX10_member_40 : decode cX10_member 40 = .ok (.i2l, 1) := by decide +kernel
theorem dX10_member_41 : decode cX10_member 41 = .ok (.lconst 0, 1) := by decide +kernel
theorem dX10_member_42 : decode cX10_member 42 = .ok (.ldc2_w 123, 3) := by decide +kernel
theorem dX10_member_45 : decode cX10_member 45 = .ok (.invokestatic 85, 3) := by decide +kernel
theorem dX10_member_48 : decode cX10_member 48 = .ok (.ifCond .eq 16, 3) := by decide +kernel
theorem dX10_member_51 : decode cX10_member 51 = .ok (.iload 5, 2) := by decide +kernel
theorem dX10_member_53 : decode cX10_member 53 = .ok (.i2l, 1) := by decide +kernel
theorem dX10_member_54 : decode cX10_member 54 = .ok (.lconst 0, 1) := by decide +kernel
theorem dX10_member_55 : decode cX10_member 55 = .ok (.ldc2_w 125, 3) := by decide +kernel
theorem dX10_member_58 : decode cX10_member 58 = .ok (.invokestatic 85, 3) := by decide +kernel
theorem dX10_member_61 : decode cX10_member 61 = .ok (.ifCond .ne 6, 3) := by decide +kernel
theorem dX10_member_64 : decode cX10_member 64 = .ok (.bipush (-102), 2) := by decide +kernel
theorem dX10_member_66 : decode cX10_member 66 = .ok (.ireturn, 1) := by decide +kernel
theorem dX10_member_67 : decode cX10_member 67 = .ok (.aload_n 0, 1) := by decide +kernel
theorem dX10_member_68 : decode cX10_member 68 = .ok (.getfield 114, 3) := by decide +kernel
theorem dX10_member_71 : decode cX10_member 71 = .ok (.bipush 7, 2) := by decide +kernel
theorem dX10_member_73 : decode cX10_member 73 = .ok (.if_icmp .ne 6, 3) := by decide +kernel
theorem dX10_member_76 : decode cX10_member 76 = .ok (.bipush (-104), 2) := by decide +kernel
theorem dX10_member_78 : decode cX10_member 78 = .ok (.ireturn, 1) := by decide +kernel
theorem dX10_member_79 : decode cX10_member 79 = .ok (.bipush 8, 2) := by decide +kernel
theorem dX10_member_81 : decode cX10_member 81 = .ok (.aload_n 0, 1) := by decide +kernel
theorem dX10_member_82 : decode cX10_member 82 = .ok (.getfield 114, 3) := by decide +kernel
theorem dX10_member_85 : decode cX10_member 85 = .ok (.imul, 1) := by decide +kernel
theorem dX10_member_86 : decode cX10_member 86 = .ok (.istore 6, 2) := by decide +kernel
theorem dX10_member_88 : decode cX10_member 88 = .ok (.aload_n 0, 1) := by decide +kernel
theorem dX10_member_89 : decode cX10_member 89 = .ok (.getfield 22, 3) := by decide +kernel
theorem dX10_member_92 : decode cX10_member 92 = .ok (.iload 6, 2) := by decide +kernel
theorem dX10_member_94 : decode cX10_member 94 = .ok (.iload_n 1, 1) := by decide +kernel
theorem dX10_member_95 : decode cX10_member 95 = .ok (.iastore, 1) := by decide +kernel
theorem dX10_member_96 : decode cX10_member 96 = .ok (.aload_n 0, 1) := by decide +kernel
theorem dX10_member_97 : decode cX10_member 97 = .ok (.getfield 22, 3) := by decide +kernel
theorem dX10_member_100 : decode cX10_member 100 = .ok (.iload 6, 2) := by decide +kernel
theorem dX10_member_102 : decode cX10_member 102 = .ok (.iconst 1, 1) := by decide +kernel
theorem dX10_member_103 : decode cX10_member 103 = .ok (.iadd, 1) := by decide +kernel
theorem dX10_member_104 : decode cX10_member 104 = .ok (.iload_n 2, 1) := by decide +kernel
theorem dX10_member_105 : decode cX10_member 105 = .ok (.iastore, 1) := by decide +kernel
theorem dX10_member_106 : decode cX10_member 106 = .ok (.aload_n 0, 1) := by decide +kernel
theorem dX10_member_107 : decode cX10_member 107 = .ok (.getfield 22, 3) := by decide +kernel
theorem dX10_member_110 : decode cX10_member 110 = .ok (.iload 6, 2) := by decide +kernel
theorem dX10_member_112 : decode cX10_member 112 = .ok (.iconst 2, 1) := by decide +kernel
theorem dX10_member_113 : decode cX10_member 113 = .ok (.iadd, 1) := by decide +kernel
theorem dX10_member_114 : decode cX10_member 114 = .ok (.iload_n 3, 1) := by decide +kernel
theorem dX10_member_115 : decode cX10_member 115 = .ok (.iastore, 1) := by decide +kernel
theorem dX10_member_116 : decode cX10_member 116 = .ok (.aload_n 0, 1) := by decide +kernel
theorem dX10_member_117 : decode cX10_member 117 = .ok (.getfield 22, 3) := by decide +kernel
theorem dX10_member_120 : decode cX10_member 120 = .ok (.iload 6, 2) := by decide +kernel
theorem dX10_member_122 : decode cX10_member 122 = .ok (.iconst 3, 1) := by decide +kernel
theorem dX10_member_123 : decode cX10_member 123 = .ok (.iadd, 1) := by decide +kernel
theorem dX10_member_124 : decode cX10_member 124 = .ok (.iload 4, 2) := by decide +kernel
theorem dX10_member_126 : decode cX10_member 126 = .ok (.iastore, 1) := by decide +kernel
theorem dX10_member_127 : decode cX10_member 127 = .ok (.aload_n 0, 1) := by decide +kernel
theorem dX10_member_128 : decode cX10_member 128 = .ok (.getfield 22, 3) := by decide +kernel
theorem dX10_member_131 : decode cX10_member 131 = .ok (.iload 6, 2) := by decide +kernel
theorem dX10_member_133 : decode cX10_member 133 = .ok (.iconst 4, 1) := by decide +kernel
theorem dX10_member_134 : decode cX10_member 134 = .ok (.iadd, 1) := by decide +kernel
theorem dX10_member_135 : decode cX10_member 135 = .ok (.iload 5, 2) := by decide +kernel
theorem dX10_member_137 : decode cX10_member 137 = .ok (.iastore, 1) := by decide +kernel
theorem dX10_member_138 : decode cX10_member 138 = .ok (.aload_n 0, 1) := by decide +kernel
theorem dX10_member_139 : decode cX10_member 139 = .ok (.getfield 22, 3) := by decide +kernel
theorem dX10_member_142 : decode cX10_member 142 = .ok (.iload 6, 2) := by decide +kernel
theorem dX10_member_144 : decode cX10_member 144 = .ok (.iconst 5, 1) := by decide +kernel
theorem dX10_member_145 : decode cX10_member 145 = .ok (.iadd, 1) := by decide +kernel
theorem dX10_member_146 : decode cX10_member 146 = .ok (.iconst 0, 1) := by decide +kernel
theorem dX10_member_147 : decode cX10_member 147 = .ok (.iastore, 1) := by decide +kernel
theorem dX10_member_148 : decode cX10_member 148 = .ok (.aload_n 0, 1) := by decide +kernel
theorem dX10_member_149 : decode cX10_member 149 = .ok (.getfield 22, 3) := by decide +kernel
theorem dX10_member_152 : decode cX10_member 152 = .ok (.iload 6, 2) := by decide +kernel
theorem dX10_member_154 : decode cX10_member 154 = .ok (.bipush 6, 2) := by decide +kernel
theorem dX10_member_156 : decode cX10_member 156 = .ok (.iadd, 1) := by decide +kernel
theorem dX10_member_157 : decode cX10_member 157 = .ok (.iconst 0, 1) := by decide +kernel
theorem dX10_member_158 : decode cX10_member 158 = .ok (.iastore, 1) := by decide +kernel
theorem dX10_member_159 : decode cX10_member 159 = .ok (.aload_n 0, 1) := by decide +kernel
theorem dX10_member_160 : decode cX10_member 160 = .ok (.getfield 22, 3) := by decide +kernel
theorem dX10_member_163 : decode cX10_member 163 = .ok (.iload 6, 2) := by decide +kernel
theorem dX10_member_165 : decode cX10_member 165 = .ok (.bipush 7, 2) := by decide +kernel
theorem dX10_member_167 : decode cX10_member 167 = .ok (.iadd, 1) := by decide +kernel
theorem dX10_member_168 : decode cX10_member 168 = .ok (.iconst 0, 1) := by decide +kernel
theorem dX10_member_169 : decode cX10_member 169 = .ok (.iastore, 1) := by decide +kernel
theorem dX10_member_170 : decode cX10_member 170 = .ok (.aload_n 0, 1) := by decide +kernel
theorem dX10_member_171 : decode cX10_member 171 = .ok (.dup, 1) := by decide +kernel
theorem dX10_member_172 : decode cX10_member 172 = .ok (.getfield 114, 3) := by decide +kernel
theorem dX10_member_175 : decode cX10_member 175 = .ok (.iconst 1, 1) := by decide +kernel
theorem dX10_member_176 : decode cX10_member 176 = .ok (.iadd, 1) := by decide +kernel
theorem dX10_member_177 : decode cX10_member 177 = .ok (.putfield 114, 3) := by decide +kernel
theorem dX10_member_180 : decode cX10_member 180 = .ok (.aload_n 0, 1) := by decide +kernel
theorem dX10_member_181 : decode cX10_member 181 = .ok (.getfield 114, 3) := by decide +kernel
theorem dX10_member_184 : decode cX10_member 184 = .ok (.iconst 1, 1) := by decide +kernel
theorem dX10_member_185 : decode cX10_member 185 = .ok (.isub, 1) := by decide +kernel
theorem dX10_member_186 : decode cX10_member 186 = .ok (.ireturn, 1) := by decide +kernel
theorem dX10_speech_0 : decode cX10_speech 0 = .ok (.aload_n 0, 1) := by decide +kernel
theorem dX10_speech_1 : decode cX10_speech 1 = .ok (.iload_n 1, 1) := by decide +kernel
theorem dX10_speech_2 : decode cX10_speech 2 = .ok (.invokevirtual 127, 3) := by decide +kernel
theorem dX10_speech_5 : decode cX10_speech 5 = .ok (.ifCond .ne 6, 3) := by decide +kernel
theorem dX10_speech_8 : decode cX10_speech 8 = .ok (.bipush (-101), 2) := by decide +kernel
theorem dX10_speech_10 : decode cX10_speech 10 = .ok (.ireturn, 1) := by decide +kernel
theorem dX10_speech_11 : decode cX10_speech 11 = .ok (.iload_n 2, 1) := by decide +kernel
theorem dX10_speech_12 : decode cX10_speech 12 = .ok (.i2l, 1) := by decide +kernel
theorem dX10_speech_13 : decode cX10_speech 13 = .ok (.lconst 0, 1) := by decide +kernel
theorem dX10_speech_14 : decode cX10_speech 14 = .ok (.ldc2_w 117, 3) := by decide +kernel
theorem dX10_speech_17 : decode cX10_speech 17 = .ok (.invokestatic 85, 3) := by decide +kernel
theorem dX10_speech_20 : decode cX10_speech 20 = .ok (.ifCond .eq 15, 3) := by decide +kernel
theorem dX10_speech_23 : decode cX10_speech 23 = .ok (.iload_n 3, 1) := by decide +kernel
theorem dX10_speech_24 : decode cX10_speech 24 = .ok (.i2l, 1) := by decide +kernel
theorem dX10_speech_25 : decode cX10_speech 25 = .ok (.lconst 0, 1) := by decide +kernel
theorem dX10_speech_26 : decode cX10_speech 26 = .ok (.ldc2_w 95, 3) := by decide +kernel
theorem dX10_speech_29 : decode cX10_speech 29 = .ok (.invokestatic 85, 3) := by decide +kernel
theorem dX10_speech_32 : decode cX10_speech 32 = .ok (.ifCond .ne 6, 3) := by decide +kernel
theorem dX10_speech_35 : decode cX10_speech 35 = .ok (.bipush (-102), 2) := by decide +kernel
theorem dX10_speech_37 : decode cX10_speech 37 = .ok (.ireturn, 1) := by decide +kernel
theorem dX10_speech_38 : decode cX10_speech 38 = .ok (.aload_n 0, 1) := by decide +kernel
theorem dX10_speech_39 : decode cX10_speech 39 = .ok (.getfield 22, 3) := by decide +kernel
theorem dX10_speech_42 : decode cX10_speech 42 = .ok (.bipush 8, 2) := by decide +kernel
theorem dX10_speech_44 : decode cX10_speech 44 = .ok (.iload_n 1, 1) := by decide +kernel
theorem dX10_speech_45 : decode cX10_speech 45 = .ok (.imul, 1) := by decide +kernel
theorem dX10_speech_46 : decode cX10_speech 46 = .ok (.iconst 5, 1) := by decide +kernel
theorem dX10_speech_47 : decode cX10_speech 47 = .ok (.iadd, 1) := by decide +kernel
theorem dX10_speech_48 : decode cX10_speech 48 = .ok (.iaload, 1) := by decide +kernel
theorem dX10_speech_49 : decode cX10_speech 49 = .ok (.istore 4, 2) := by decide +kernel
theorem dX10_speech_51 : decode cX10_speech 51 = .ok (.aload_n 0, 1) := by decide +kernel
theorem dX10_speech_52 : decode cX10_speech 52 = .ok (.getfield 22, 3) := by decide +kernel
theorem dX10_speech_55 : decode cX10_speech 55 = .ok (.bipush 8, 2) := by decide +kernel
theorem dX10_speech_57 : decode cX10_speech 57 = .ok (.iload_n 1, 1) := by decide +kernel
theorem dX10_speech_58 : decode cX10_speech 58 = .ok (.imul, 1) := by decide +kernel
theorem dX10_speech_59 : decode cX10_speech 59 = .ok (.iconst 5, 1) := by decide +kernel
theorem dX10_speech_60 : decode cX10_speech 60 = .ok (.iadd, 1) := by decide +kernel
theorem dX10_speech_61 : decode cX10_speech 61 = .ok (.iload_n 2, 1) := by decide +kernel
theorem dX10_speech_62 : decode cX10_speech 62 = .ok (.iastore, 1) := by decide +kernel
theorem dX10_speech_63 : decode cX10_speech 63 = .ok (.aload_n 0, 1) := by decide +kernel
theorem dX10_speech_64 : decode cX10_speech 64 = .ok (.getfield 22, 3) := by decide +kernel
theorem dX10_speech_67 : decode cX10_speech 67 = .ok (.bipush 8, 2) := by decide +kernel
theorem dX10_speech_69 : decode cX10_speech 69 = .ok (.iload_n 1, 1) := by decide +kernel
theorem dX10_speech_70 : decode cX10_speech 70 = .ok (.imul, 1) := by decide +kernel
theorem dX10_speech_71 : decode cX10_speech 71 = .ok (.bipush 6, 2) := by decide +kernel
theorem dX10_speech_73 : decode cX10_speech 73 = .ok (.iadd, 1) := by decide +kernel
theorem dX10_speech_74 : decode cX10_speech 74 = .ok (.iload_n 3, 1) := by decide +kernel
theorem dX10_speech_75 : decode cX10_speech 75 = .ok (.iastore, 1) := by decide +kernel
theorem dX10_speech_76 : decode cX10_speech 76 = .ok (.iload 4, 2) := by decide +kernel
theorem dX10_speech_78 : decode cX10_speech 78 = .ok (.ireturn, 1) := by decide +kernel
theorem dX10_weighs_0 : decode cX10_weighs 0 = .ok (.aload_n 0, 1) := by decide +kernel
theorem dX10_weighs_1 : decode cX10_weighs 1 = .ok (.getfield 22, 3) := by decide +kernel
theorem dX10_weighs_4 : decode cX10_weighs 4 = .ok (.bipush 8, 2) := by decide +kernel
theorem dX10_weighs_6 : decode cX10_weighs 6 = .ok (.iload_n 1, 1) := by decide +kernel
theorem dX10_weighs_7 : decode cX10_weighs 7 = .ok (.imul, 1) := by decide +kernel
theorem dX10_weighs_8 : decode cX10_weighs 8 = .ok (.iaload, 1) := by decide +kernel
theorem dX10_weighs_9 : decode cX10_weighs 9 = .ok (.iconst 1, 1) := by decide +kernel
theorem dX10_weighs_10 : decode cX10_weighs 10 = .ok (.if_icmp .ne 19, 3) := by decide +kernel
theorem dX10_weighs_13 : decode cX10_weighs 13 = .ok (.iconst 2, 1) := by decide +kernel
theorem dX10_weighs_14 : decode cX10_weighs 14 = .ok (.aload_n 0, 1) := by decide +kernel
theorem dX10_weighs_15 : decode cX10_weighs 15 = .ok (.getfield 22, 3) := by decide +kernel
theorem dX10_weighs_18 : decode cX10_weighs 18 = .ok (.bipush 8, 2) := by decide +kernel
theorem dX10_weighs_20 : decode cX10_weighs 20 = .ok (.iload_n 1, 1) := by decide +kernel
theorem dX10_weighs_21 : decode cX10_weighs 21 = .ok (.imul, 1) := by decide +kernel
theorem dX10_weighs_22 : decode cX10_weighs 22 = .ok (.iconst 1, 1) := by decide +kernel
theorem dX10_weighs_23 : decode cX10_weighs 23 = .ok (.iadd, 1) := by decide +kernel
theorem dX10_weighs_24 : decode cX10_weighs 24 = .ok (.iaload, 1) := by decide +kernel
theorem dX10_weighs_25 : decode cX10_weighs 25 = .ok (.imul, 1) := by decide +kernel
theorem dX10_weighs_26 : decode cX10_weighs 26 = .ok (.goto 14, 3) := by decide +kernel
theorem dX10_weighs_29 : decode cX10_weighs 29 = .ok (.aload_n 0, 1) := by decide +kernel
theorem dX10_weighs_30 : decode cX10_weighs 30 = .ok (.getfield 22, 3) := by decide +kernel
theorem dX10_weighs_33 : decode cX10_weighs 33 = .ok (.bipush 8, 2) := by decide +kernel
theorem dX10_weighs_35 : decode cX10_weighs 35 = .ok (.iload_n 1, 1) := by decide +kernel
theorem dX10_weighs_36 : decode cX10_weighs 36 = .ok (.imul, 1) := by decide +kernel
theorem dX10_weighs_37 : decode cX10_weighs 37 = .ok (.iconst 1, 1) := by decide +kernel
theorem dX10_weighs_38 : decode cX10_weighs 38 = .ok (.iadd, 1) := by decide +kernel
theorem dX10_weighs_39 : decode cX10_weighs 39 = .ok (.iaload, 1) := by decide +kernel
theorem dX10_weighs_40 : decode cX10_weighs 40 = .ok (.ireturn, 1) := by decide +kernel
theorem dX10_canBear_0 : decode cX10_canBear 0 = .ok (.aload_n 0, 1) := by decide +kernel
theorem dX10_canBear_1 : decode cX10_canBear 1 = .ok (.getfield 22, 3) := by decide +kernel
theorem dX10_canBear_4 : decode cX10_canBear 4 = .ok (.bipush 8, 2) := by decide +kernel
theorem dX10_canBear_6 : decode cX10_canBear 6 = .ok (.iload_n 1, 1) := by decide +kernel
theorem dX10_canBear_7 : decode cX10_canBear 7 = .ok (.imul, 1) := by decide +kernel
theorem dX10_canBear_8 : decode cX10_canBear 8 = .ok (.iaload, 1) := by decide +kernel
theorem dX10_canBear_9 : decode cX10_canBear 9 = .ok (.istore_n 2, 1) := by decide +kernel
theorem dX10_canBear_10 : decode cX10_canBear 10 = .ok (.aload_n 0, 1) := by decide +kernel
theorem dX10_canBear_11 : decode cX10_canBear 11 = .ok (.getfield 22, 3) := by decide +kernel
theorem dX10_canBear_14 : decode cX10_canBear 14 = .ok (.bipush 8, 2) := by decide +kernel
theorem dX10_canBear_16 : decode cX10_canBear 16 = .ok (.iload_n 1, 1) := by decide +kernel
theorem dX10_canBear_17 : decode cX10_canBear 17 = .ok (.imul, 1) := by decide +kernel
theorem dX10_canBear_18 : decode cX10_canBear 18 = .ok (.iconst 4, 1) := by decide +kernel
theorem dX10_canBear_19 : decode cX10_canBear 19 = .ok (.iadd, 1) := by decide +kernel
theorem dX10_canBear_20 : decode cX10_canBear 20 = .ok (.iaload, 1) := by decide +kernel
theorem dX10_canBear_21 : decode cX10_canBear 21 = .ok (.iload_n 2, 1) := by decide +kernel
theorem dX10_canBear_22 : decode cX10_canBear 22 = .ok (.iconst 2, 1) := by decide +kernel
theorem dX10_canBear_23 : decode cX10_canBear 23 = .ok (.if_icmp .eq 8, 3) := by decide +kernel
theorem dX10_canBear_26 : decode cX10_canBear 26 = .ok (.iload_n 2, 1) := by decide +kernel
theorem dX10_canBear_27 : decode cX10_canBear 27 = .ok (.iconst 4, 1) := by decide +kernel
theorem dX10_canBear_28 : decode cX10_canBear 28 = .ok (.if_icmp .ne 8, 3) := by decide +kernel
theorem dX10_canBear_31 : decode cX10_canBear 31 = .ok (.bipush 10, 2) := by decide +kernel
theorem dX10_canBear_33 : decode cX10_canBear 33 = .ok (.goto 4, 3) := by decide +kernel
theorem dX10_canBear_36 : decode cX10_canBear 36 = .ok (.iconst 0, 1) := by decide +kernel
theorem dX10_canBear_37 : decode cX10_canBear 37 = .ok (.iadd, 1) := by decide +kernel
theorem dX10_canBear_38 : decode cX10_canBear 38 = .ok (.ireturn, 1) := by decide +kernel
theorem dX10_leans_0 : decode cX10_leans 0 = .ok (.aload_n 0, 1) := by decide +kernel
theorem dX10_leans_1 : decode cX10_leans 1 = .ok (.getfield 22, 3) := by decide +kernel
theorem dX10_leans_4 : decode cX10_leans 4 = .ok (.bipush 8, 2) := by decide +kernel
theorem dX10_leans_6 : decode cX10_leans 6 = .ok (.iload_n 1, 1) := by decide +kernel
theorem dX10_leans_7 : decode cX10_leans 7 = .ok (.imul, 1) := by decide +kernel
theorem dX10_leans_8 : decode cX10_leans 8 = .ok (.iaload, 1) := by decide +kernel
theorem dX10_leans_9 : decode cX10_leans 9 = .ok (.iconst 2, 1) := by decide +kernel
theorem dX10_leans_10 : decode cX10_leans 10 = .ok (.if_icmp .le 7, 3) := by decide +kernel
theorem dX10_leans_13 : decode cX10_leans 13 = .ok (.iconst 0, 1) := by decide +kernel
theorem dX10_leans_14 : decode cX10_leans 14 = .ok (.goto 14, 3) := by decide +kernel
theorem dX10_leans_17 : decode cX10_leans 17 = .ok (.aload_n 0, 1) := by decide +kernel
theorem dX10_leans_18 : decode cX10_leans 18 = .ok (.getfield 22, 3) := by decide +kernel
theorem dX10_leans_21 : decode cX10_leans 21 = .ok (.bipush 8, 2) := by decide +kernel
theorem dX10_leans_23 : decode cX10_leans 23 = .ok (.iload_n 1, 1) := by decide +kernel
theorem dX10_leans_24 : decode cX10_leans 24 = .ok (.imul, 1) := by decide +kernel
theorem dX10_leans_25 : decode cX10_leans 25 = .ok (.iconst 2, 1) := by decide +kernel
theorem dX10_leans_26 : decode cX10_leans 26 = .ok (.iadd, 1) := by decide +kernel
theorem dX10_leans_27 : decode cX10_leans 27 = .ok (.iaload, 1) := by decide +kernel
theorem dX10_leans_28 : decode cX10_leans 28 = .ok (.ireturn, 1) := by decide +kernel
theorem dX10_bears_0 : decode cX10_bears 0 = .ok (.iconst 0, 1) := by decide +kernel
theorem dX10_bears_1 : decode cX10_bears 1 = .ok (.istore 4, 2) := by decide +kernel
theorem dX10_bears_3 : decode cX10_bears 3 = .ok (.iload_n 3, 1) := by decide +kernel
theorem dX10_bears_4 : decode cX10_bears 4 = .ok (.iconst 1, 1) := by decide +kernel
theorem dX10_bears_5 : decode cX10_bears 5 = .ok (.iadd, 1) := by decide +kernel
theorem dX10_bears_6 : decode cX10_bears 6 = .ok (.istore 5, 2) := by decide +kernel
theorem dX10_bears_8 : decode cX10_bears 8 = .ok (.iload 5, 2) := by decide +kernel
theorem dX10_bears_10 : decode cX10_bears 10 = .ok (.iload_n 2, 1) := by decide +kernel
theorem dX10_bears_11 : decode cX10_bears 11 = .ok (.if_icmp .ge 24, 3) := by decide +kernel
theorem dX10_bears_14 : decode cX10_bears 14 = .ok (.iload 4, 2) := by decide +kernel
theorem dX10_bears_16 : decode cX10_bears 16 = .ok (.aload_n 0, 1) := by decide +kernel
theorem dX10_bears_17 : decode cX10_bears 17 = .ok (.aload_n 1, 1) := by decide +kernel
theorem dX10_bears_18 : decode cX10_bears 18 = .ok (.iload 5, 2) := by decide +kernel
theorem dX10_bears_20 : decode cX10_bears 20 = .ok (.iaload, 1) := by decide +kernel
theorem dX10_bears_21 : decode cX10_bears 21 = .ok (.invokevirtual 130, 3) := by decide +kernel
theorem dX10_bears_24 : decode cX10_bears 24 = .ok (.iconst 1, 1) := by decide +kernel
theorem dX10_bears_25 : decode cX10_bears 25 = .ok (.iadd, 1) := by decide +kernel
theorem dX10_bears_26 : decode cX10_bears 26 = .ok (.iadd, 1) := by decide +kernel
theorem dX10_bears_27 : decode cX10_bears 27 = .ok (.istore 4, 2) := by decide +kernel
theorem dX10_bears_29 : decode cX10_bears 29 = .ok (.iinc 5 1, 3) := by decide +kernel
theorem dX10_bears_32 : decode cX10_bears 32 = .ok (.goto (-24), 3) := by decide +kernel
theorem dX10_bears_35 : decode cX10_bears 35 = .ok (.aload_n 0, 1) := by decide +kernel
theorem dX10_bears_36 : decode cX10_bears 36 = .ok (.getfield 22, 3) := by decide +kernel
theorem dX10_bears_39 : decode cX10_bears 39 = .ok (.bipush 8, 2) := by decide +kernel
theorem dX10_bears_41 : decode cX10_bears 41 = .ok (.aload_n 1, 1) := by decide +kernel
theorem dX10_bears_42 : decode cX10_bears 42 = .ok (.iload_n 3, 1) := by decide +kernel
theorem dX10_bears_43 : decode cX10_bears 43 = .ok (.iaload, 1) := by decide +kernel
theorem dX10_bears_44 : decode cX10_bears 44 = .ok (.imul, 1) := by decide +kernel
theorem dX10_bears_45 : decode cX10_bears 45 = .ok (.iaload, 1) := by decide +kernel
theorem dX10_bears_46 : decode cX10_bears 46 = .ok (.iconst 1, 1) := by decide +kernel
theorem dX10_bears_47 : decode cX10_bears 47 = .ok (.if_icmp .ne 12, 3) := by decide +kernel
theorem dX10_bears_50 : decode cX10_bears 50 = .ok (.iload 4, 2) := by decide +kernel
theorem dX10_bears_52 : decode cX10_bears 52 = .ok (.iconst 1, 1) := by decide +kernel
theorem dX10_bears_53 : decode cX10_bears 53 = .ok (.iadd, 1) := by decide +kernel
theorem dX10_bears_54 : decode cX10_bears 54 = .ok (.iconst 2, 1) := by decide +kernel
theorem dX10_bears_55 : decode cX10_bears 55 = .ok (.idiv, 1) := by decide +kernel
theorem dX10_bears_56 : decode cX10_bears 56 = .ok (.goto 5, 3) := by decide +kernel
theorem dX10_bears_59 : decode cX10_bears 59 = .ok (.iload 4, 2) := by decide +kernel
theorem dX10_bears_61 : decode cX10_bears 61 = .ok (.ireturn, 1) := by decide +kernel
theorem dX10_leansOf_0 : decode cX10_leansOf 0 = .ok (.iconst 0, 1) := by decide +kernel
theorem dX10_leansOf_1 : decode cX10_leansOf 1 = .ok (.istore_n 3, 1) := by decide +kernel
theorem dX10_leansOf_2 : decode cX10_leansOf 2 = .ok (.iconst 0, 1) := by decide +kernel
theorem dX10_leansOf_3 : decode cX10_leansOf 3 = .ok (.istore 4, 2) := by decide +kernel
theorem dX10_leansOf_5 : decode cX10_leansOf 5 = .ok (.iload 4, 2) := by decide +kernel
theorem dX10_leansOf_7 : decode cX10_leansOf 7 = .ok (.iload_n 2, 1) := by decide +kernel
theorem dX10_leansOf_8 : decode cX10_leansOf 8 = .ok (.if_icmp .ge 20, 3) := by decide +kernel
theorem dX10_leansOf_11 : decode cX10_leansOf 11 = .ok (.iload_n 3, 1) := by decide +kernel
theorem dX10_leansOf_12 : decode cX10_leansOf 12 = .ok (.aload_n 0, 1) := by decide +kernel
theorem dX10_leansOf_13 : decode cX10_leansOf 13 = .ok (.aload_n 1, 1) := by decide +kernel
theorem dX10_leansOf_14 : decode cX10_leansOf 14 = .ok (.iload 4, 2) := by decide +kernel
theorem dX10_leansOf_16 : decode cX10_leansOf 16 = .ok (.iaload, 1) := by decide +kernel
theorem dX10_leansOf_17 : decode cX10_leansOf 17 = .ok (.invokevirtual 134, 3) := by decide +kernel
theorem dX10_leansOf_20 : decode cX10_leansOf 20 = .ok (.iadd, 1) := by decide +kernel
theorem dX10_leansOf_21 : decode cX10_leansOf 21 = .ok (.istore_n 3, 1) := by decide +kernel
theorem dX10_leansOf_22 : decode cX10_leansOf 22 = .ok (.iinc 4 1, 3) := by decide +kernel
theorem dX10_leansOf_25 : decode cX10_leansOf 25 = .ok (.goto (-20), 3) := by decide +kernel
theorem dX10_leansOf_28 : decode cX10_leansOf 28 = .ok (.iload_n 3, 1) := by decide +kernel
theorem dX10_leansOf_29 : decode cX10_leansOf 29 = .ok (.ifCond .ge 8, 3) := by decide +kernel
theorem dX10_leansOf_32 : decode cX10_leansOf 32 = .ok (.iload_n 3, 1) := by decide +kernel
theorem dX10_leansOf_33 : decode cX10_leansOf 33 = .ok (.ineg, 1) := by decide +kernel
theorem dX10_leansOf_34 : decode cX10_leansOf 34 = .ok (.goto 4, 3) := by decide +kernel
theorem dX10_leansOf_37 : decode cX10_leansOf 37 = .ok (.iload_n 3, 1) := by decide +kernel
theorem dX10_leansOf_38 : decode cX10_leansOf 38 = .ok (.ireturn, 1) := by decide +kernel
theorem dX10_holds_0 : decode cX10_holds 0 = .ok (.aload_n 0, 1) := by decide +kernel
theorem dX10_holds_1 : decode cX10_holds 1 = .ok (.aload_n 1, 1) := by decide +kernel
theorem dX10_holds_2 : decode cX10_holds 2 = .ok (.iload_n 2, 1) := by decide +kernel
theorem dX10_holds_3 : decode cX10_holds 3 = .ok (.invokevirtual 137, 3) := by decide +kernel
theorem dX10_holds_6 : decode cX10_holds 6 = .ok (.aload_n 0, 1) := by decide +kernel
theorem dX10_holds_7 : decode cX10_holds 7 = .ok (.getfield 69, 3) := by decide +kernel
theorem dX10_holds_10 : decode cX10_holds 10 = .ok (.if_icmp .gt 7, 3) := by decide +kernel
theorem dX10_holds_13 : decode cX10_holds 13 = .ok (.iconst 1, 1) := by decide +kernel
theorem dX10_holds_14 : decode cX10_holds 14 = .ok (.goto 4, 3) := by decide +kernel
theorem dX10_holds_17 : decode cX10_holds 17 = .ok (.iconst 0, 1) := by decide +kernel
theorem dX10_holds_18 : decode cX10_holds 18 = .ok (.istore_n 3, 1) := by decide +kernel
theorem dX10_holds_19 : decode cX10_holds 19 = .ok (.iconst 0, 1) := by decide +kernel
theorem dX10_holds_20 : decode cX10_holds 20 = .ok (.istore 4, 2) := by decide +kernel
theorem dX10_holds_22 : decode cX10_holds 22 = .ok (.iload 4, 2) := by decide +kernel
theorem dX10_holds_24 : decode cX10_holds 24 = .ok (.iload_n 2, 1) := by decide +kernel
theorem dX10_holds_25 : decode cX10_holds 25 = .ok (.if_icmp .ge 38, 3) := by decide +kernel
theorem dX10_holds_28 : decode cX10_holds 28 = .ok (.iload_n 3, 1) := by decide +kernel
theorem dX10_holds_29 : decode cX10_holds 29 = .ok (.ifCond .eq 26, 3) := by decide +kernel
theorem dX10_holds_32 : decode cX10_holds 32 = .ok (.aload_n 0, 1) := by decide +kernel
theorem dX10_holds_33 : decode cX10_holds 33 = .ok (.aload_n 1, 1) := by decide +kernel
theorem dX10_holds_34 : decode cX10_holds 34 = .ok (.iload_n 2, 1) := by decide +kernel
theorem dX10_holds_35 : decode cX10_holds 35 = .ok (.iload 4, 2) := by decide +kernel
theorem dX10_holds_37 : decode cX10_holds 37 = .ok (.invokevirtual 141, 3) := by decide +kernel
theorem dX10_holds_40 : decode cX10_holds 40 = .ok (.aload_n 0, 1) := by decide +kernel
theorem dX10_holds_41 : decode cX10_holds 41 = .ok (.aload_n 1, 1) := by decide +kernel
theorem dX10_holds_42 : decode cX10_holds 42 = .ok (.iload 4, 2) := by decide +kernel
theorem dX10_holds_44 : decode cX10_holds 44 = .ok (.iaload, 1) := by decide +kernel
theorem dX10_holds_45 : decode cX10_holds 45 = .ok (.invokevirtual 145, 3) := by decide +kernel
theorem dX10_holds_48 : decode cX10_holds 48 = .ok (.if_icmp .gt 7, 3) := by decide +kernel
theorem dX10_holds_51 : decode cX10_holds 51 = .ok (.iconst 1, 1) := by decide +kernel
theorem dX10_holds_52 : decode cX10_holds 52 = .ok (.goto 4, 3) := by decide +kernel
theorem dX10_holds_55 : decode cX10_holds 55 = .ok (.iconst 0, 1) := by decide +kernel
theorem dX10_holds_56 : decode cX10_holds 56 = .ok (.istore_n 3, 1) := by decide +kernel
theorem dX10_holds_57 : decode cX10_holds 57 = .ok (.iinc 4 1, 3) := by decide +kernel
theorem dX10_holds_60 : decode cX10_holds 60 = .ok (.goto (-38), 3) := by decide +kernel
theorem dX10_holds_63 : decode cX10_holds 63 = .ok (.iload_n 3, 1) := by decide +kernel
theorem dX10_holds_64 : decode cX10_holds 64 = .ok (.ireturn, 1) := by decide +kernel
theorem dX10_billOf_0 : decode cX10_billOf 0 = .ok (.iconst 0, 1) := by decide +kernel
theorem dX10_billOf_1 : decode cX10_billOf 1 = .ok (.istore_n 3, 1) := by decide +kernel
theorem dX10_billOf_2 : decode cX10_billOf 2 = .ok (.iconst 0, 1) := by decide +kernel
theorem dX10_billOf_3 : decode cX10_billOf 3 = .ok (.istore 4, 2) := by decide +kernel
theorem dX10_billOf_5 : decode cX10_billOf 5 = .ok (.iload 4, 2) := by decide +kernel
theorem dX10_billOf_7 : decode cX10_billOf 7 = .ok (.iload_n 2, 1) := by decide +kernel
theorem dX10_billOf_8 : decode cX10_billOf 8 = .ok (.if_icmp .ge 117, 3) := by decide +kernel
theorem dX10_billOf_11 : decode cX10_billOf 11 = .ok (.aload_n 0, 1) := by decide +kernel
theorem dX10_billOf_12 : decode cX10_billOf 12 = .ok (.getfield 22, 3) := by decide +kernel
theorem dX10_billOf_15 : decode cX10_billOf 15 = .ok (.bipush 8, 2) := by decide +kernel
theorem dX10_billOf_17 : decode cX10_billOf 17 = .ok (.aload_n 1, 1) := by decide +kernel
theorem dX10_billOf_18 : decode cX10_billOf 18 = .ok (.iload 4, 2) := by decide +kernel
theorem dX10_billOf_20 : decode cX10_billOf 20 = .ok (.iaload, 1) := by decide +kernel
theorem dX10_billOf_21 : decode cX10_billOf 21 = .ok (.imul, 1) := by decide +kernel
theorem dX10_billOf_22 : decode cX10_billOf 22 = .ok (.iconst 5, 1) := by decide +kernel
theorem dX10_billOf_23 : decode cX10_billOf 23 = .ok (.iadd, 1) := by decide +kernel
theorem dX10_billOf_24 : decode cX10_billOf 24 = .ok (.iaload, 1) := by decide +kernel
theorem dX10_billOf_25 : decode cX10_billOf 25 = .ok (.istore 5, 2) := by decide +kernel
theorem dX10_billOf_27 : decode cX10_billOf 27 = .ok (.aload_n 0, 1) := by decide +kernel
theorem dX10_billOf_28 : decode cX10_billOf 28 = .ok (.getfield 22, 3) := by decide +kernel
theorem dX10_billOf_31 : decode cX10_billOf 31 = .ok (.bipush 8, 2) := by decide +kernel
theorem dX10_billOf_33 : decode cX10_billOf 33 = .ok (.aload_n 1, 1) := by decide +kernel
theorem dX10_billOf_34 : decode cX10_billOf 34 = .ok (.iload 4, 2) := by decide +kernel
theorem dX10_billOf_36 : decode cX10_billOf 36 = .ok (.iaload, 1) := by decide +kernel
theorem dX10_billOf_37 : decode cX10_billOf 37 = .ok (.imul, 1) := by decide +kernel
theorem dX10_billOf_38 : decode cX10_billOf 38 = .ok (.bipush 6, 2) := by decide +kernel
theorem dX10_billOf_40 : decode cX10_billOf 40 = .ok (.iadd, 1) := by decide +kernel
theorem dX10_billOf_41 : decode cX10_billOf 41 = .ok (.iaload, 1) := by decide +kernel
theorem dX10_billOf_42 : decode cX10_billOf 42 = .ok (.istore 6, 2) := by decide +kernel
theorem dX10_billOf_44 : decode cX10_billOf 44 = .ok (.iload 5, 2) := by decide +kernel
theorem dX10_billOf_46 : decode cX10_billOf 46 = .ok (.iconst 1, 1) := by decide +kernel
theorem dX10_billOf_47 : decode cX10_billOf 47 = .ok (.if_icmp .ne 10, 3) := by decide +kernel
theorem dX10_billOf_50 : decode cX10_billOf 50 = .ok (.iload_n 3, 1) := by decide +kernel
theorem dX10_billOf_51 : decode cX10_billOf 51 = .ok (.iload 6, 2) := by decide +kernel
theorem dX10_billOf_53 : decode cX10_billOf 53 = .ok (.iadd, 1) := by decide +kernel
theorem dX10_billOf_54 : decode cX10_billOf 54 = .ok (.goto 41, 3) := by decide +kernel
theorem dX10_billOf_57 : decode cX10_billOf 57 = .ok (.iload 5, 2) := by decide +kernel
theorem dX10_billOf_59 : decode cX10_billOf 59 = .ok (.iconst 2, 1) := by decide +kernel
theorem dX10_billOf_60 : decode cX10_billOf 60 = .ok (.if_icmp .ne 10, 3) := by decide +kernel
theorem dX10_billOf_63 : decode cX10_billOf 63 = .ok (.iload_n 3, 1) := by decide +kernel
theorem dX10_billOf_64 : decode cX10_billOf 64 = .ok (.iload 6, 2) := by decide +kernel
theorem dX10_billOf_66 : decode cX10_billOf 66 = .ok (.isub, 1) := by decide +kernel
theorem dX10_billOf_67 : decode cX10_billOf 67 = .ok (.goto 28, 3) := by decide +kernel
theorem dX10_billOf_70 : decode cX10_billOf 70 = .ok (.iload 5, 2) := by decide +kernel
theorem dX10_billOf_72 : decode cX10_billOf 72 = .ok (.iconst 3, 1) := by decide +kernel
theorem dX10_billOf_73 : decode cX10_billOf 73 = .ok (.if_icmp .ne 10, 3) := by decide +kernel
theorem dX10_billOf_76 : decode cX10_billOf 76 = .ok (.iload_n 3, 1) := by decide +kernel
theorem dX10_billOf_77 : decode cX10_billOf 77 = .ok (.iload 6, 2) := by decide +kernel
theorem dX10_billOf_79 : decode cX10_billOf 79 = .ok (.imul, 1) := by decide +kernel
theorem dX10_billOf_80 : decode cX10_billOf 80 = .ok (.goto 15, 3) := by decide +kernel
theorem dX10_billOf_83 : decode cX10_billOf 83 = .ok (.iload 5, 2) := by decide +kernel
theorem dX10_billOf_85 : decode cX10_billOf 85 = .ok (.iconst 4, 1) := by decide +kernel
theorem dX10_billOf_86 : decode cX10_billOf 86 = .ok (.if_icmp .ne 8, 3) := by decide +kernel
theorem dX10_billOf_89 : decode cX10_billOf 89 = .ok (.iload 6, 2) := by decide +kernel
theorem dX10_billOf_91 : decode cX10_billOf 91 = .ok (.goto 4, 3) := by decide +kernel
theorem dX10_billOf_94 : decode cX10_billOf 94 = .ok (.iload_n 3, 1) := by decide +kernel
theorem dX10_billOf_95 : decode cX10_billOf 95 = .ok (.istore_n 3, 1) := by decide +kernel
theorem dX10_billOf_96 : decode cX10_billOf 96 = .ok (.iload_n 3, 1) := by decide +kernel
theorem dX10_billOf_97 : decode cX10_billOf 97 = .ok (.ifCond .ge 7, 3) := by decide +kernel
theorem dX10_billOf_100 : decode cX10_billOf 100 = .ok (.iconst 0, 1) := by decide +kernel
theorem dX10_billOf_101 : decode cX10_billOf 101 = .ok (.goto 17, 3) := by decide +kernel
theorem dX10_billOf_104 : decode cX10_billOf 104 = .ok (.iload_n 3, 1) := by decide +kernel
theorem dX10_billOf_105 : decode cX10_billOf 105 = .ok (.sipush 999, 3) := by decide +kernel
theorem dX10_billOf_108 : decode cX10_billOf 108 = .ok (.if_icmp .le 9, 3) := by decide +kernel
theorem dX10_billOf_111 : decode cX10_billOf 111 = .ok (.sipush 999, 3) := by decide +kernel
theorem dX10_billOf_114 : decode cX10_billOf 114 = .ok (.goto 4, 3) := by decide +kernel
theorem dX10_billOf_117 : decode cX10_billOf 117 = .ok (.iload_n 3, 1) := by decide +kernel
theorem dX10_billOf_118 : decode cX10_billOf 118 = .ok (.istore_n 3, 1) := by decide +kernel
theorem dX10_billOf_119 : decode cX10_billOf 119 = .ok (.iinc 4 1, 3) := by decide +kernel
theorem dX10_billOf_122 : decode cX10_billOf 122 = .ok (.goto (-117), 3) := by decide +kernel
theorem dX10_billOf_125 : decode cX10_billOf 125 = .ok (.iload_n 3, 1) := by decide +kernel
theorem dX10_billOf_126 : decode cX10_billOf 126 = .ok (.ireturn, 1) := by decide +kernel
theorem dX10_setOf_0 : decode cX10_setOf 0 = .ok (.iconst 0, 1) := by decide +kernel
theorem dX10_setOf_1 : decode cX10_setOf 1 = .ok (.istore_n 2, 1) := by decide +kernel
theorem dX10_setOf_2 : decode cX10_setOf 2 = .ok (.iconst 0, 1) := by decide +kernel
theorem dX10_setOf_3 : decode cX10_setOf 3 = .ok (.istore_n 3, 1) := by decide +kernel
theorem dX10_setOf_4 : decode cX10_setOf 4 = .ok (.iload_n 3, 1) := by decide +kernel
theorem dX10_setOf_5 : decode cX10_setOf 5 = .ok (.iload_n 1, 1) := by decide +kernel
theorem dX10_setOf_6 : decode cX10_setOf 6 = .ok (.if_icmp .ge 17, 3) := by decide +kernel
theorem dX10_setOf_9 : decode cX10_setOf 9 = .ok (.iload_n 2, 1) := by decide +kernel
theorem dX10_setOf_10 : decode cX10_setOf 10 = .ok (.iconst 1, 1) := by decide +kernel
theorem dX10_setOf_11 : decode cX10_setOf 11 = .ok (.aload_n 0, 1) := by decide +kernel
theorem dX10_setOf_12 : decode cX10_setOf 12 = .ok (.iload_n 3, 1) := by decide +kernel
theorem dX10_setOf_13 : decode cX10_setOf 13 = .ok (.iaload, 1) := by decide +kernel
theorem dX10_setOf_14 : decode cX10_setOf 14 = .ok (.ishl, 1) := by decide +kernel
theorem dX10_setOf_15 : decode cX10_setOf 15 = .ok (.ior, 1) := by decide +kernel
theorem dX10_setOf_16 : decode cX10_setOf 16 = .ok (.istore_n 2, 1) := by decide +kernel
theorem dX10_setOf_17 : decode cX10_setOf 17 = .ok (.iinc 3 1, 3) := by decide +kernel
theorem dX10_setOf_20 : decode cX10_setOf 20 = .ok (.goto (-16), 3) := by decide +kernel
theorem dX10_setOf_23 : decode cX10_setOf 23 = .ok (.iload_n 2, 1) := by decide +kernel
theorem dX10_setOf_24 : decode cX10_setOf 24 = .ok (.ireturn, 1) := by decide +kernel
theorem dX10_mayRise_0 : decode cX10_mayRise 0 = .ok (.aload_n 2, 1) := by decide +kernel
theorem dX10_mayRise_1 : decode cX10_mayRise 1 = .ok (.iload_n 3, 1) := by decide +kernel
theorem dX10_mayRise_2 : decode cX10_mayRise 2 = .ok (.invokestatic 148, 3) := by decide +kernel
theorem dX10_mayRise_5 : decode cX10_mayRise 5 = .ok (.istore 4, 2) := by decide +kernel
theorem dX10_mayRise_7 : decode cX10_mayRise 7 = .ok (.iload 4, 2) := by decide +kernel
theorem dX10_mayRise_9 : decode cX10_mayRise 9 = .ok (.iload_n 1, 1) := by decide +kernel
theorem dX10_mayRise_10 : decode cX10_mayRise 10 = .ok (.ishr, 1) := by decide +kernel
theorem dX10_mayRise_11 : decode cX10_mayRise 11 = .ok (.iconst 1, 1) := by decide +kernel
theorem dX10_mayRise_12 : decode cX10_mayRise 12 = .ok (.iand, 1) := by decide +kernel
theorem dX10_mayRise_13 : decode cX10_mayRise 13 = .ok (.ifCond .ne 21, 3) := by decide +kernel
theorem dX10_mayRise_16 : decode cX10_mayRise 16 = .ok (.aload_n 0, 1) := by decide +kernel
theorem dX10_mayRise_17 : decode cX10_mayRise 17 = .ok (.getfield 13, 3) := by decide +kernel
theorem dX10_mayRise_20 : decode cX10_mayRise 20 = .ok (.iload_n 1, 1) := by decide +kernel
theorem dX10_mayRise_21 : decode cX10_mayRise 21 = .ok (.iaload, 1) := by decide +kernel
theorem dX10_mayRise_22 : decode cX10_mayRise 22 = .ok (.iload 4, 2) := by decide +kernel
theorem dX10_mayRise_24 : decode cX10_mayRise 24 = .ok (.iconst (-1), 1) := by decide +kernel
theorem dX10_mayRise_25 : decode cX10_mayRise 25 = .ok (.ixor, 1) := by decide +kernel
theorem dX10_mayRise_26 : decode cX10_mayRise 26 = .ok (.iand, 1) := by decide +kernel
theorem dX10_mayRise_27 : decode cX10_mayRise 27 = .ok (.ifCond .ne 7, 3) := by decide +kernel
theorem dX10_mayRise_30 : decode cX10_mayRise 30 = .ok (.iconst 1, 1) := by decide +kernel
theorem dX10_mayRise_31 : decode cX10_mayRise 31 = .ok (.goto 4, 3) := by decide +kernel
theorem dX10_mayRise_34 : decode cX10_mayRise 34 = .ok (.iconst 0, 1) := by decide +kernel
theorem dX10_mayRise_35 : decode cX10_mayRise 35 = .ok (.ireturn, 1) := by decide +kernel
theorem dX10_heightOf_0 : decode cX10_heightOf 0 = .ok (.iconst 0, 1) := by decide +kernel
theorem dX10_heightOf_1 : decode cX10_heightOf 1 = .ok (.istore_n 2, 1) := by decide +kernel
theorem dX10_heightOf_2 : decode cX10_heightOf 2 = .ok (.iload_n 2, 1) := by decide +kernel
theorem dX10_heightOf_3 : decode cX10_heightOf 3 = .ok (.aload_n 0, 1) := by decide +kernel
theorem dX10_heightOf_4 : decode cX10_heightOf 4 = .ok (.getfield 151, 3) := by decide +kernel
theorem dX10_heightOf_7 : decode cX10_heightOf 7 = .ok (.if_icmp .ge 23, 3) := by decide +kernel
theorem dX10_heightOf_10 : decode cX10_heightOf 10 = .ok (.aload_n 0, 1) := by decide +kernel
theorem dX10_heightOf_11 : decode cX10_heightOf 11 = .ok (.getfield 25, 3) := by decide +kernel
theorem dX10_heightOf_14 : decode cX10_heightOf 14 = .ok (.iload_n 2, 1) := by decide +kernel
theorem dX10_heightOf_15 : decode cX10_heightOf 15 = .ok (.iaload, 1) := by decide +kernel
theorem dX10_heightOf_16 : decode cX10_heightOf 16 = .ok (.iload_n 1, 1) := by decide +kernel
theorem dX10_heightOf_17 : decode cX10_heightOf 17 = .ok (.if_icmp .ne 7, 3) := by decide +kernel
theorem dX10_heightOf_20 : decode cX10_heightOf 20 = .ok (.iload_n 2, 1) := by decide +kernel
theorem dX10_heightOf_21 : decode cX10_heightOf 21 = .ok (.iconst 1, 1) := by decide +kernel
theorem dX10_heightOf_22 : decode cX10_heightOf 22 = .ok (.iadd, 1) := by decide +kernel
theorem dX10_heightOf_23 : decode cX10_heightOf 23 = .ok (.ireturn, 1) := by decide +kernel
theorem dX10_heightOf_24 : decode cX10_heightOf 24 = .ok (.iinc 2 1, 3) := by decide +kernel
theorem dX10_heightOf_27 : decode cX10_heightOf 27 = .ok (.goto (-25), 3) := by decide +kernel
theorem dX10_heightOf_30 : decode cX10_heightOf 30 = .ok (.iconst 0, 1) := by decide +kernel
theorem dX10_heightOf_31 : decode cX10_heightOf 31 = .ok (.ireturn, 1) := by decide +kernel
theorem dX10_tell_0 : decode cX10_tell 0 = .ok (.iload_n 2, 1) := by decide +kernel
theorem dX10_tell_1 : decode cX10_tell 1 = .ok (.tableswitch 98 7 11 #[35, 41, 54, 60, 66], 35) := by decide +kernel
theorem dX10_tell_36 : decode cX10_tell 36 = .ok (.aload_n 0, 1) := by decide +kernel
theorem dX10_tell_37 : decode cX10_tell 37 = .ok (.iload_n 1, 1) := by decide +kernel
theorem dX10_tell_38 : decode cX10_tell 38 = .ok (.invokevirtual 154, 3) := by decide +kernel
theorem dX10_tell_41 : decode cX10_tell 41 = .ok (.ireturn, 1) := by decide +kernel
theorem dX10_tell_42 : decode cX10_tell 42 = .ok (.aload_n 0, 1) := by decide +kernel
theorem dX10_tell_43 : decode cX10_tell 43 = .ok (.getfield 22, 3) := by decide +kernel
theorem dX10_tell_46 : decode cX10_tell 46 = .ok (.bipush 8, 2) := by decide +kernel
theorem dX10_tell_48 : decode cX10_tell 48 = .ok (.iload_n 1, 1) := by decide +kernel
theorem dX10_tell_49 : decode cX10_tell 49 = .ok (.imul, 1) := by decide +kernel
theorem dX10_tell_50 : decode cX10_tell 50 = .ok (.bipush 7, 2) := by decide +kernel
theorem dX10_tell_52 : decode cX10_tell 52 = .ok (.iadd, 1) := by decide +kernel
theorem dX10_tell_53 : decode cX10_tell 53 = .ok (.iaload, 1) := by decide +kernel
theorem dX10_tell_54 : decode cX10_tell 54 = .ok (.ireturn, 1) := by decide +kernel
theorem dX10_tell_55 : decode cX10_tell 55 = .ok (.aload_n 0, 1) := by decide +kernel
theorem dX10_tell_56 : decode cX10_tell 56 = .ok (.iload_n 1, 1) := by decide +kernel
theorem dX10_tell_57 : decode cX10_tell 57 = .ok (.invokevirtual 130, 3) := by decide +kernel
theorem dX10_tell_60 : decode cX10_tell 60 = .ok (.ireturn, 1) := by decide +kernel
theorem dX10_tell_61 : decode cX10_tell 61 = .ok (.aload_n 0, 1) := by decide +kernel
theorem dX10_tell_62 : decode cX10_tell 62 = .ok (.iload_n 1, 1) := by decide +kernel
theorem dX10_tell_63 : decode cX10_tell 63 = .ok (.invokevirtual 145, 3) := by decide +kernel
theorem dX10_tell_66 : decode cX10_tell 66 = .ok (.ireturn, 1) := by decide +kernel
theorem dX10_tell_67 : decode cX10_tell 67 = .ok (.aload_n 0, 1) := by decide +kernel
theorem dX10_tell_68 : decode cX10_tell 68 = .ok (.iload_n 1, 1) := by decide +kernel
theorem dX10_tell_69 : decode cX10_tell 69 = .ok (.invokevirtual 154, 3) := by decide +kernel
theorem dX10_tell_72 : decode cX10_tell 72 = .ok (.ifCond .ne 7, 3) := by decide +kernel
theorem dX10_tell_75 : decode cX10_tell 75 = .ok (.iconst 0, 1) := by decide +kernel
theorem dX10_tell_76 : decode cX10_tell 76 = .ok (.goto 22, 3) := by decide +kernel
theorem dX10_tell_79 : decode cX10_tell 79 = .ok (.aload_n 0, 1) := by decide +kernel
theorem dX10_tell_80 : decode cX10_tell 80 = .ok (.aload_n 0, 1) := by decide +kernel
theorem dX10_tell_81 : decode cX10_tell 81 = .ok (.getfield 25, 3) := by decide +kernel
theorem dX10_tell_84 : decode cX10_tell 84 = .ok (.aload_n 0, 1) := by decide +kernel
theorem dX10_tell_85 : decode cX10_tell 85 = .ok (.getfield 151, 3) := by decide +kernel
theorem dX10_tell_88 : decode cX10_tell 88 = .ok (.aload_n 0, 1) := by decide +kernel
theorem dX10_tell_89 : decode cX10_tell 89 = .ok (.iload_n 1, 1) := by decide +kernel
theorem dX10_tell_90 : decode cX10_tell 90 = .ok (.invokevirtual 154, 3) := by decide +kernel
theorem dX10_tell_93 : decode cX10_tell 93 = .ok (.iconst 1, 1) := by decide +kernel
theorem dX10_tell_94 : decode cX10_tell 94 = .ok (.isub, 1) := by decide +kernel
theorem dX10_tell_95 : decode cX10_tell 95 = .ok (.invokevirtual 141, 3) := by decide +kernel
theorem dX10_tell_98 : decode cX10_tell 98 = .ok (.ireturn, 1) := by decide +kernel
theorem dX10_tell_99 : decode cX10_tell 99 = .ok (.iload_n 2, 1) := by decide +kernel
theorem dX10_tell_100 : decode cX10_tell 100 = .ok (.i2l, 1) := by decide +kernel
theorem dX10_tell_101 : decode cX10_tell 101 = .ok (.lconst 0, 1) := by decide +kernel
theorem dX10_tell_102 : decode cX10_tell 102 = .ok (.ldc2_w 83, 3) := by decide +kernel
theorem dX10_tell_105 : decode cX10_tell 105 = .ok (.invokestatic 85, 3) := by decide +kernel
theorem dX10_tell_108 : decode cX10_tell 108 = .ok (.ifCond .eq 17, 3) := by decide +kernel
theorem dX10_tell_111 : decode cX10_tell 111 = .ok (.aload_n 0, 1) := by decide +kernel
theorem dX10_tell_112 : decode cX10_tell 112 = .ok (.getfield 22, 3) := by decide +kernel
theorem dX10_tell_115 : decode cX10_tell 115 = .ok (.bipush 8, 2) := by decide +kernel
theorem dX10_tell_117 : decode cX10_tell 117 = .ok (.iload_n 1, 1) := by decide +kernel
theorem dX10_tell_118 : decode cX10_tell 118 = .ok (.imul, 1) := by decide +kernel
theorem dX10_tell_119 : decode cX10_tell 119 = .ok (.iload_n 2, 1) := by decide +kernel
theorem dX10_tell_120 : decode cX10_tell 120 = .ok (.iadd, 1) := by decide +kernel
theorem dX10_tell_121 : decode cX10_tell 121 = .ok (.iaload, 1) := by decide +kernel
theorem dX10_tell_122 : decode cX10_tell 122 = .ok (.goto 5, 3) := by decide +kernel
theorem dX10_tell_125 : decode cX10_tell 125 = .ok (.bipush (-102), 2) := by decide +kernel
theorem dX10_tell_127 : decode cX10_tell 127 = .ok (.ireturn, 1) := by decide +kernel
theorem dX10_about_0 : decode cX10_about 0 = .ok (.aload_n 0, 1) := by decide +kernel
theorem dX10_about_1 : decode cX10_about 1 = .ok (.iload_n 1, 1) := by decide +kernel
theorem dX10_about_2 : decode cX10_about 2 = .ok (.invokevirtual 127, 3) := by decide +kernel
theorem dX10_about_5 : decode cX10_about 5 = .ok (.ifCond .eq 12, 3) := by decide +kernel
theorem dX10_about_8 : decode cX10_about 8 = .ok (.aload_n 0, 1) := by decide +kernel
theorem dX10_about_9 : decode cX10_about 9 = .ok (.iload_n 1, 1) := by decide +kernel
theorem dX10_about_10 : decode cX10_about 10 = .ok (.iload_n 2, 1) := by decide +kernel
theorem dX10_about_11 : decode cX10_about 11 = .ok (.invokevirtual 157, 3) := by decide +kernel
theorem dX10_about_14 : decode cX10_about 14 = .ok (.goto 5, 3) := by decide +kernel
theorem dX10_about_17 : decode cX10_about 17 = .ok (.bipush (-101), 2) := by decide +kernel
theorem dX10_about_19 : decode cX10_about 19 = .ok (.ireturn, 1) := by decide +kernel
theorem dX10_as_0 : decode cX10_as 0 = .ok (.aload_n 0, 1) := by decide +kernel
theorem dX10_as_1 : decode cX10_as 1 = .ok (.iload_n 1, 1) := by decide +kernel
theorem dX10_as_2 : decode cX10_as 2 = .ok (.invokevirtual 127, 3) := by decide +kernel
theorem dX10_as_5 : decode cX10_as 5 = .ok (.ifCond .ne 6, 3) := by decide +kernel
theorem dX10_as_8 : decode cX10_as 8 = .ok (.bipush (-101), 2) := by decide +kernel
theorem dX10_as_10 : decode cX10_as 10 = .ok (.ireturn, 1) := by decide +kernel
theorem dX10_as_11 : decode cX10_as 11 = .ok (.iload_n 2, 1) := by decide +kernel
theorem dX10_as_12 : decode cX10_as 12 = .ok (.i2l, 1) := by decide +kernel
theorem dX10_as_13 : decode cX10_as 13 = .ok (.lconst 0, 1) := by decide +kernel
theorem dX10_as_14 : decode cX10_as 14 = .ok (.ldc2_w 117, 3) := by decide +kernel
theorem dX10_as_17 : decode cX10_as 17 = .ok (.invokestatic 85, 3) := by decide +kernel
theorem dX10_as_20 : decode cX10_as 20 = .ok (.ifCond .ne 6, 3) := by decide +kernel
theorem dX10_as_23 : decode cX10_as 23 = .ok (.bipush (-102), 2) := by decide +kernel
theorem dX10_as_25 : decode cX10_as 25 = .ok (.ireturn, 1) := by decide +kernel
theorem dX10_as_26 : decode cX10_as 26 = .ok (.aload_n 0, 1) := by decide +kernel
theorem dX10_as_27 : decode cX10_as 27 = .ok (.getfield 22, 3) := by decide +kernel
theorem dX10_as_30 : decode cX10_as 30 = .ok (.bipush 8, 2) := by decide +kernel
theorem dX10_as_32 : decode cX10_as 32 = .ok (.iload_n 1, 1) := by decide +kernel
theorem dX10_as_33 : decode cX10_as 33 = .ok (.imul, 1) := by decide +kernel
theorem dX10_as_34 : decode cX10_as 34 = .ok (.iaload, 1) := by decide +kernel
theorem dX10_as_35 : decode cX10_as 35 = .ok (.istore_n 3, 1) := by decide +kernel
theorem dX10_as_36 : decode cX10_as 36 = .ok (.iload_n 2, 1) := by decide +kernel
theorem dX10_as_37 : decode cX10_as 37 = .ok (.ifCond .eq 18, 3) := by decide +kernel
theorem dX10_as_40 : decode cX10_as 40 = .ok (.iload_n 2, 1) := by decide +kernel
theorem dX10_as_41 : decode cX10_as 41 = .ok (.iload_n 3, 1) := by decide +kernel
theorem dX10_as_42 : decode cX10_as 42 = .ok (.if_icmp .eq 13, 3) := by decide +kernel
theorem dX10_as_45 : decode cX10_as 45 = .ok (.iload_n 2, 1) := by decide +kernel
theorem dX10_as_46 : decode cX10_as 46 = .ok (.iconst 2, 1) := by decide +kernel
theorem dX10_as_47 : decode cX10_as 47 = .ok (.if_icmp .ne 12, 3) := by decide +kernel
theorem dX10_as_50 : decode cX10_as 50 = .ok (.iload_n 3, 1) := by decide +kernel
theorem dX10_as_51 : decode cX10_as 51 = .ok (.iconst 4, 1) := by decide +kernel
theorem dX10_as_52 : decode cX10_as 52 = .ok (.if_icmp .ne 7, 3) := by decide +kernel
theorem dX10_as_55 : decode cX10_as 55 = .ok (.iconst 1, 1) := by decide +kernel
theorem dX10_as_56 : decode cX10_as 56 = .ok (.goto 4, 3) := by decide +kernel
theorem dX10_as_59 : decode cX10_as 59 = .ok (.iconst 0, 1) := by decide +kernel
theorem dX10_as_60 : decode cX10_as 60 = .ok (.istore 4, 2) := by decide +kernel
theorem dX10_as_62 : decode cX10_as 62 = .ok (.iload 4, 2) := by decide +kernel
theorem dX10_as_64 : decode cX10_as 64 = .ok (.ifCond .eq 7, 3) := by decide +kernel
theorem dX10_as_67 : decode cX10_as 67 = .ok (.iload_n 1, 1) := by decide +kernel
theorem dX10_as_68 : decode cX10_as 68 = .ok (.goto 4, 3) := by decide +kernel
theorem dX10_as_71 : decode cX10_as 71 = .ok (.iconst (-1), 1) := by decide +kernel
theorem dX10_as_72 : decode cX10_as 72 = .ok (.ireturn, 1) := by decide +kernel
theorem dX10_chair_0 : decode cX10_chair 0 = .ok (.aload_n 0, 1) := by decide +kernel
theorem dX10_chair_1 : decode cX10_chair 1 = .ok (.iload_n 1, 1) := by decide +kernel
theorem dX10_chair_2 : decode cX10_chair 2 = .ok (.invokevirtual 127, 3) := by decide +kernel
theorem dX10_chair_5 : decode cX10_chair 5 = .ok (.ifCond .ne 6, 3) := by decide +kernel
theorem dX10_chair_8 : decode cX10_chair 8 = .ok (.bipush (-101), 2) := by decide +kernel
theorem dX10_chair_10 : decode cX10_chair 10 = .ok (.ireturn, 1) := by decide +kernel
theorem dX10_chair_11 : decode cX10_chair 11 = .ok (.iload_n 2, 1) := by decide +kernel
theorem dX10_chair_12 : decode cX10_chair 12 = .ok (.i2l, 1) := by decide +kernel
theorem dX10_chair_13 : decode cX10_chair 13 = .ok (.lconst 0, 1) := by decide +kernel
theorem dX10_chair_14 : decode cX10_chair 14 = .ok (.ldc2_w 125, 3) := by decide +kernel
theorem dX10_chair_17 : decode cX10_chair 17 = .ok (.invokestatic 85, 3) := by decide +kernel
theorem dX10_chair_20 : decode cX10_chair 20 = .ok (.ifCond .ne 6, 3) := by decide +kernel
theorem dX10_chair_23 : decode cX10_chair 23 = .ok (.bipush (-102), 2) := by decide +kernel
theorem dX10_chair_25 : decode cX10_chair 25 = .ok (.ireturn, 1) := by decide +kernel
theorem dX10_chair_26 : decode cX10_chair 26 = .ok (.aload_n 0, 1) := by decide +kernel
theorem dX10_chair_27 : decode cX10_chair 27 = .ok (.iload_n 1, 1) := by decide +kernel
theorem dX10_chair_28 : decode cX10_chair 28 = .ok (.invokevirtual 154, 3) := by decide +kernel
theorem dX10_chair_31 : decode cX10_chair 31 = .ok (.ifCond .le 6, 3) := by decide +kernel
theorem dX10_chair_34 : decode cX10_chair 34 = .ok (.bipush (-103), 2) := by decide +kernel
theorem dX10_chair_36 : decode cX10_chair 36 = .ok (.ireturn, 1) := by decide +kernel
theorem dX10_chair_37 : decode cX10_chair 37 = .ok (.aload_n 0, 1) := by decide +kernel
theorem dX10_chair_38 : decode cX10_chair 38 = .ok (.getfield 22, 3) := by decide +kernel
theorem dX10_chair_41 : decode cX10_chair 41 = .ok (.bipush 8, 2) := by decide +kernel
theorem dX10_chair_43 : decode cX10_chair 43 = .ok (.iload_n 1, 1) := by decide +kernel
theorem dX10_chair_44 : decode cX10_chair 44 = .ok (.imul, 1) := by decide +kernel
theorem dX10_chair_45 : decode cX10_chair 45 = .ok (.iconst 4, 1) := by decide +kernel
theorem dX10_chair_46 : decode cX10_chair 46 = .ok (.iadd, 1) := by decide +kernel
theorem dX10_chair_47 : decode cX10_chair 47 = .ok (.iaload, 1) := by decide +kernel
theorem dX10_chair_48 : decode cX10_chair 48 = .ok (.istore_n 3, 1) := by decide +kernel
theorem dX10_chair_49 : decode cX10_chair 49 = .ok (.aload_n 0, 1) := by decide +kernel
theorem dX10_chair_50 : decode cX10_chair 50 = .ok (.getfield 22, 3) := by decide +kernel
theorem dX10_chair_53 : decode cX10_chair 53 = .ok (.bipush 8, 2) := by decide +kernel
theorem dX10_chair_55 : decode cX10_chair 55 = .ok (.iload_n 1, 1) := by decide +kernel
theorem dX10_chair_56 : decode cX10_chair 56 = .ok (.imul, 1) := by decide +kernel
theorem dX10_chair_57 : decode cX10_chair 57 = .ok (.iconst 4, 1) := by decide +kernel
theorem dX10_chair_58 : decode cX10_chair 58 = .ok (.iadd, 1) := by decide +kernel
theorem dX10_chair_59 : decode cX10_chair 59 = .ok (.iload_n 2, 1) := by decide +kernel
theorem dX10_chair_60 : decode cX10_chair 60 = .ok (.iastore, 1) := by decide +kernel
theorem dX10_chair_61 : decode cX10_chair 61 = .ok (.iload_n 3, 1) := by decide +kernel
theorem dX10_chair_62 : decode cX10_chair 62 = .ok (.ireturn, 1) := by decide +kernel
theorem dX10_may_0 : decode cX10_may 0 = .ok (.aload_n 0, 1) := by decide +kernel
theorem dX10_may_1 : decode cX10_may 1 = .ok (.iload_n 1, 1) := by decide +kernel
theorem dX10_may_2 : decode cX10_may 2 = .ok (.invokevirtual 127, 3) := by decide +kernel
theorem dX10_may_5 : decode cX10_may 5 = .ok (.ifCond .ne 6, 3) := by decide +kernel
theorem dX10_may_8 : decode cX10_may 8 = .ok (.bipush (-101), 2) := by decide +kernel
theorem dX10_may_10 : decode cX10_may 10 = .ok (.ireturn, 1) := by decide +kernel
theorem dX10_may_11 : decode cX10_may 11 = .ok (.aload_n 0, 1) := by decide +kernel
theorem dX10_may_12 : decode cX10_may 12 = .ok (.iload_n 1, 1) := by decide +kernel
theorem dX10_may_13 : decode cX10_may 13 = .ok (.aload_n 0, 1) := by decide +kernel
theorem dX10_may_14 : decode cX10_may 14 = .ok (.getfield 25, 3) := by decide +kernel
theorem dX10_may_17 : decode cX10_may 17 = .ok (.aload_n 0, 1) := by decide +kernel
theorem dX10_may_18 : decode cX10_may 18 = .ok (.getfield 151, 3) := by decide +kernel
theorem dX10_may_21 : decode cX10_may 21 = .ok (.invokevirtual 161, 3) := by decide +kernel
theorem dX10_may_24 : decode cX10_may 24 = .ok (.ifCond .eq 7, 3) := by decide +kernel
theorem dX10_may_27 : decode cX10_may 27 = .ok (.iconst 1, 1) := by decide +kernel
theorem dX10_may_28 : decode cX10_may 28 = .ok (.goto 4, 3) := by decide +kernel
theorem dX10_may_31 : decode cX10_may 31 = .ok (.iconst 0, 1) := by decide +kernel
theorem dX10_may_32 : decode cX10_may 32 = .ok (.ireturn, 1) := by decide +kernel
theorem dX10_rise_0 : decode cX10_rise 0 = .ok (.aload_n 0, 1) := by decide +kernel
theorem dX10_rise_1 : decode cX10_rise 1 = .ok (.iload_n 1, 1) := by decide +kernel
theorem dX10_rise_2 : decode cX10_rise 2 = .ok (.invokevirtual 127, 3) := by decide +kernel
theorem dX10_rise_5 : decode cX10_rise 5 = .ok (.ifCond .ne 6, 3) := by decide +kernel
theorem dX10_rise_8 : decode cX10_rise 8 = .ok (.bipush (-101), 2) := by decide +kernel
theorem dX10_rise_10 : decode cX10_rise 10 = .ok (.ireturn, 1) := by decide +kernel
theorem dX10_rise_11 : decode cX10_rise 11 = .ok (.aload_n 0, 1) := by decide +kernel
theorem dX10_rise_12 : decode cX10_rise 12 = .ok (.iload_n 1, 1) := by decide +kernel
theorem dX10_rise_13 : decode cX10_rise 13 = .ok (.aload_n 0, 1) := by decide +kernel
theorem dX10_rise_14 : decode cX10_rise 14 = .ok (.getfield 25, 3) := by decide +kernel
theorem dX10_rise_17 : decode cX10_rise 17 = .ok (.aload_n 0, 1) := by decide +kernel
theorem dX10_rise_18 : decode cX10_rise 18 = .ok (.getfield 151, 3) := by decide +kernel
theorem dX10_rise_21 : decode cX10_rise 21 = .ok (.invokevirtual 161, 3) := by decide +kernel
theorem dX10_rise_24 : decode cX10_rise 24 = .ok (.ifCond .ne 6, 3) := by decide +kernel
theorem dX10_rise_27 : decode cX10_rise 27 = .ok (.bipush (-103), 2) := by decide +kernel
theorem dX10_rise_29 : decode cX10_rise 29 = .ok (.ireturn, 1) := by decide +kernel
theorem dX10_rise_30 : decode cX10_rise 30 = .ok (.aload_n 0, 1) := by decide +kernel
theorem dX10_rise_31 : decode cX10_rise 31 = .ok (.getfield 25, 3) := by decide +kernel
theorem dX10_rise_34 : decode cX10_rise 34 = .ok (.aload_n 0, 1) := by decide +kernel
theorem dX10_rise_35 : decode cX10_rise 35 = .ok (.getfield 151, 3) := by decide +kernel
theorem dX10_rise_38 : decode cX10_rise 38 = .ok (.iload_n 1, 1) := by decide +kernel
theorem dX10_rise_39 : decode cX10_rise 39 = .ok (.iastore, 1) := by decide +kernel
theorem dX10_rise_40 : decode cX10_rise 40 = .ok (.aload_n 0, 1) := by decide +kernel
theorem dX10_rise_41 : decode cX10_rise 41 = .ok (.dup, 1) := by decide +kernel
theorem dX10_rise_42 : decode cX10_rise 42 = .ok (.getfield 151, 3) := by decide +kernel
theorem dX10_rise_45 : decode cX10_rise 45 = .ok (.iconst 1, 1) := by decide +kernel
theorem dX10_rise_46 : decode cX10_rise 46 = .ok (.iadd, 1) := by decide +kernel
theorem dX10_rise_47 : decode cX10_rise 47 = .ok (.putfield 151, 3) := by decide +kernel
theorem dX10_rise_50 : decode cX10_rise 50 = .ok (.aload_n 0, 1) := by decide +kernel
theorem dX10_rise_51 : decode cX10_rise 51 = .ok (.aload_n 0, 1) := by decide +kernel
theorem dX10_rise_52 : decode cX10_rise 52 = .ok (.getfield 25, 3) := by decide +kernel
theorem dX10_rise_55 : decode cX10_rise 55 = .ok (.aload_n 0, 1) := by decide +kernel
theorem dX10_rise_56 : decode cX10_rise 56 = .ok (.getfield 151, 3) := by decide +kernel
theorem dX10_rise_59 : decode cX10_rise 59 = .ok (.invokevirtual 165, 3) := by decide +kernel
theorem dX10_rise_62 : decode cX10_rise 62 = .ok (.ifCond .ne 55, 3) := by decide +kernel
theorem dX10_rise_65 : decode cX10_rise 65 = .ok (.iconst 0, 1) := by decide +kernel
theorem dX10_rise_66 : decode cX10_rise 66 = .ok (.istore_n 2, 1) := by decide +kernel
theorem dX10_rise_67 : decode cX10_rise 67 = .ok (.iload_n 2, 1) := by decide +kernel
theorem dX10_rise_68 : decode cX10_rise 68 = .ok (.aload_n 0, 1) := by decide +kernel
theorem dX10_rise_69 : decode cX10_rise 69 = .ok (.getfield 151, 3) := by decide +kernel
theorem dX10_rise_72 : decode cX10_rise 72 = .ok (.if_icmp .ge 30, 3) := by decide +kernel
theorem dX10_rise_75 : decode cX10_rise 75 = .ok (.aload_n 0, 1) := by decide +kernel
theorem dX10_rise_76 : decode cX10_rise 76 = .ok (.getfield 22, 3) := by decide +kernel
theorem dX10_rise_79 : decode cX10_rise 79 = .ok (.bipush 8, 2) := by decide +kernel
theorem dX10_rise_81 : decode cX10_rise 81 = .ok (.aload_n 0, 1) := by decide +kernel
theorem dX10_rise_82 : decode cX10_rise 82 = .ok (.getfield 25, 3) := by decide +kernel
theorem dX10_rise_85 : decode cX10_rise 85 = .ok (.iload_n 2, 1) := by decide +kernel
theorem dX10_rise_86 : decode cX10_rise 86 = .ok (.iaload, 1) := by decide +kernel
theorem dX10_rise_87 : decode cX10_rise 87 = .ok (.imul, 1) := by decide +kernel
theorem dX10_rise_88 : decode cX10_rise 88 = .ok (.bipush 7, 2) := by decide +kernel
theorem dX10_rise_90 : decode cX10_rise 90 = .ok (.iadd, 1) := by decide +kernel
theorem dX10_rise_91 : decode cX10_rise 91 = .ok (.dup2, 1) := by decide +kernel
theorem dX10_rise_92 : decode cX10_rise 92 = .ok (.iaload, 1) := by decide +kernel
theorem dX10_rise_93 : decode cX10_rise 93 = .ok (.iconst 1, 1) := by decide +kernel
theorem dX10_rise_94 : decode cX10_rise 94 = .ok (.iadd, 1) := by decide +kernel
theorem dX10_rise_95 : decode cX10_rise 95 = .ok (.iastore, 1) := by decide +kernel
theorem dX10_rise_96 : decode cX10_rise 96 = .ok (.iinc 2 1, 3) := by decide +kernel
theorem dX10_rise_99 : decode cX10_rise 99 = .ok (.goto (-32), 3) := by decide +kernel
theorem dX10_rise_102 : decode cX10_rise 102 = .ok (.aload_n 0, 1) := by decide +kernel
theorem dX10_rise_103 : decode cX10_rise 103 = .ok (.iconst 0, 1) := by decide +kernel
theorem dX10_rise_104 : decode cX10_rise 104 = .ok (.putfield 151, 3) := by decide +kernel
theorem dX10_rise_107 : decode cX10_rise 107 = .ok (.aload_n 0, 1) := by decide +kernel
theorem dX10_rise_108 : decode cX10_rise 108 = .ok (.dup, 1) := by decide +kernel
theorem dX10_rise_109 : decode cX10_rise 109 = .ok (.getfield 169, 3) := by decide +kernel
theorem dX10_rise_112 : decode cX10_rise 112 = .ok (.iconst 1, 1) := by decide +kernel
theorem dX10_rise_113 : decode cX10_rise 113 = .ok (.iadd, 1) := by decide +kernel
theorem dX10_rise_114 : decode cX10_rise 114 = .ok (.putfield 169, 3) := by decide +kernel
theorem dX10_rise_117 : decode cX10_rise 117 = .ok (.aload_n 0, 1) := by decide +kernel
theorem dX10_rise_118 : decode cX10_rise 118 = .ok (.getfield 151, 3) := by decide +kernel
theorem dX10_rise_121 : decode cX10_rise 121 = .ok (.ireturn, 1) := by decide +kernel
theorem dX10_down_0 : decode cX10_down 0 = .ok (.aload_n 0, 1) := by decide +kernel
theorem dX10_down_1 : decode cX10_down 1 = .ok (.getfield 151, 3) := by decide +kernel
theorem dX10_down_4 : decode cX10_down 4 = .ok (.istore_n 1, 1) := by decide +kernel
theorem dX10_down_5 : decode cX10_down 5 = .ok (.aload_n 0, 1) := by decide +kernel
theorem dX10_down_6 : decode cX10_down 6 = .ok (.iconst 0, 1) := by decide +kernel
theorem dX10_down_7 : decode cX10_down 7 = .ok (.putfield 151, 3) := by decide +kernel
theorem dX10_down_10 : decode cX10_down 10 = .ok (.iload_n 1, 1) := by decide +kernel
theorem dX10_down_11 : decode cX10_down 11 = .ok (.ireturn, 1) := by decide +kernel
theorem dX10_at_0 : decode cX10_at 0 = .ok (.iload_n 1, 1) := by decide +kernel
theorem dX10_at_1 : decode cX10_at 1 = .ok (.i2l, 1) := by decide +kernel
theorem dX10_at_2 : decode cX10_at 2 = .ok (.lconst 1, 1) := by decide +kernel
theorem dX10_at_3 : decode cX10_at 3 = .ok (.aload_n 0, 1) := by decide +kernel
theorem dX10_at_4 : decode cX10_at 4 = .ok (.getfield 151, 3) := by decide +kernel
theorem dX10_at_7 : decode cX10_at 7 = .ok (.i2l, 1) := by decide +kernel
theorem dX10_at_8 : decode cX10_at 8 = .ok (.invokestatic 85, 3) := by decide +kernel
theorem dX10_at_11 : decode cX10_at 11 = .ok (.ifCond .eq 14, 3) := by decide +kernel
theorem dX10_at_14 : decode cX10_at 14 = .ok (.aload_n 0, 1) := by decide +kernel
theorem dX10_at_15 : decode cX10_at 15 = .ok (.getfield 25, 3) := by decide +kernel
theorem dX10_at_18 : decode cX10_at 18 = .ok (.iload_n 1, 1) := by decide +kernel
theorem dX10_at_19 : decode cX10_at 19 = .ok (.iconst 1, 1) := by decide +kernel
theorem dX10_at_20 : decode cX10_at 20 = .ok (.isub, 1) := by decide +kernel
theorem dX10_at_21 : decode cX10_at 21 = .ok (.iaload, 1) := by decide +kernel
theorem dX10_at_22 : decode cX10_at 22 = .ok (.goto 5, 3) := by decide +kernel
theorem dX10_at_25 : decode cX10_at 25 = .ok (.bipush (-101), 2) := by decide +kernel
theorem dX10_at_27 : decode cX10_at 27 = .ok (.ireturn, 1) := by decide +kernel
theorem dX10_bill_0 : decode cX10_bill 0 = .ok (.aload_n 0, 1) := by decide +kernel
theorem dX10_bill_1 : decode cX10_bill 1 = .ok (.aload_n 0, 1) := by decide +kernel
theorem dX10_bill_2 : decode cX10_bill 2 = .ok (.getfield 25, 3) := by decide +kernel
theorem dX10_bill_5 : decode cX10_bill 5 = .ok (.aload_n 0, 1) := by decide +kernel
theorem dX10_bill_6 : decode cX10_bill 6 = .ok (.getfield 151, 3) := by decide +kernel
theorem dX10_bill_9 : decode cX10_bill 9 = .ok (.invokevirtual 172, 3) := by decide +kernel
theorem dX10_bill_12 : decode cX10_bill 12 = .ok (.ireturn, 1) := by decide +kernel
theorem dX10_isDebate_0 : decode cX10_isDebate 0 = .ok (.aload_n 0, 1) := by decide +kernel
theorem dX10_isDebate_1 : decode cX10_isDebate 1 = .ok (.invokevirtual 108, 3) := by decide +kernel
theorem dX10_isDebate_4 : decode cX10_isDebate 4 = .ok (.aload_n 0, 1) := by decide +kernel
theorem dX10_isDebate_5 : decode cX10_isDebate 5 = .ok (.getfield 74, 3) := by decide +kernel
theorem dX10_isDebate_8 : decode cX10_isDebate 8 = .ok (.if_icmp .ne 14, 3) := by decide +kernel
theorem dX10_isDebate_11 : decode cX10_isDebate 11 = .ok (.aload_n 0, 1) := by decide +kernel
theorem dX10_isDebate_12 : decode cX10_isDebate 12 = .ok (.getfield 101, 3) := by decide +kernel
theorem dX10_isDebate_15 : decode cX10_isDebate 15 = .ok (.ifCond .le 7, 3) := by decide +kernel
theorem dX10_isDebate_18 : decode cX10_isDebate 18 = .ok (.iconst 1, 1) := by decide +kernel
theorem dX10_isDebate_19 : decode cX10_isDebate 19 = .ok (.goto 4, 3) := by decide +kernel
theorem dX10_isDebate_22 : decode cX10_isDebate 22 = .ok (.iconst 0, 1) := by decide +kernel
theorem dX10_isDebate_23 : decode cX10_isDebate 23 = .ok (.istore_n 1, 1) := by decide +kernel
theorem dX10_isDebate_24 : decode cX10_isDebate 24 = .ok (.iconst 0, 1) := by decide +kernel
theorem dX10_isDebate_25 : decode cX10_isDebate 25 = .ok (.istore_n 2, 1) := by decide +kernel
theorem dX10_isDebate_26 : decode cX10_isDebate 26 = .ok (.iload_n 2, 1) := by decide +kernel
theorem dX10_isDebate_27 : decode cX10_isDebate 27 = .ok (.aload_n 0, 1) := by decide +kernel
theorem dX10_isDebate_28 : decode cX10_isDebate 28 = .ok (.getfield 101, 3) := by decide +kernel
theorem dX10_isDebate_31 : decode cX10_isDebate 31 = .ok (.if_icmp .ge 32, 3) := by decide +kernel
theorem dX10_isDebate_34 : decode cX10_isDebate 34 = .ok (.iload_n 1, 1) := by decide +kernel
theorem dX10_isDebate_35 : decode cX10_isDebate 35 = .ok (.ifCond .eq 20, 3) := by decide +kernel
theorem dX10_isDebate_38 : decode cX10_isDebate 38 = .ok (.aload_n 0, 1) := by decide +kernel
theorem dX10_isDebate_39 : decode cX10_isDebate 39 = .ok (.aload_n 0, 1) := by decide +kernel
theorem dX10_isDebate_40 : decode cX10_isDebate 40 = .ok (.getfield 19, 3) := by decide +kernel
theorem dX10_isDebate_43 : decode cX10_isDebate 43 = .ok (.iload_n 2, 1) := by decide +kernel
theorem dX10_isDebate_44 : decode cX10_isDebate 44 = .ok (.iaload, 1) := by decide +kernel
theorem dX10_isDebate_45 : decode cX10_isDebate 45 = .ok (.invokevirtual 127, 3) := by decide +kernel
theorem dX10_isDebate_48 : decode cX10_isDebate 48 = .ok (.ifCond .eq 7, 3) := by decide +kernel
theorem dX10_isDebate_51 : decode cX10_isDebate 51 = .ok (.iconst 1, 1) := by decide +kernel
theorem dX10_isDebate_52 : decode cX10_isDebate 52 = .ok (.goto 4, 3) := by decide +kernel
theorem dX10_isDebate_55 : decode cX10_isDebate 55 = .ok (.iconst 0, 1) := by decide +kernel
theorem dX10_isDebate_56 : decode cX10_isDebate 56 = .ok (.istore_n 1, 1) := by decide +kernel
theorem dX10_isDebate_57 : decode cX10_isDebate 57 = .ok (.iinc 2 1, 3) := by decide +kernel
theorem dX10_isDebate_60 : decode cX10_isDebate 60 = .ok (.goto (-34), 3) := by decide +kernel
theorem dX10_isDebate_63 : decode cX10_isDebate 63 = .ok (.iload_n 1, 1) := by decide +kernel
theorem dX10_isDebate_64 : decode cX10_isDebate 64 = .ok (.ireturn, 1) := by decide +kernel
theorem dX10_rises_0 : decode cX10_rises 0 = .ok (.aload_n 0, 1) := by decide +kernel
theorem dX10_rises_1 : decode cX10_rises 1 = .ok (.getfield 28, 3) := by decide +kernel
theorem dX10_rises_4 : decode cX10_rises 4 = .ok (.aload_n 0, 1) := by decide +kernel
theorem dX10_rises_5 : decode cX10_rises 5 = .ok (.getfield 175, 3) := by decide +kernel
theorem dX10_rises_8 : decode cX10_rises 8 = .ok (.iload_n 1, 1) := by decide +kernel
theorem dX10_rises_9 : decode cX10_rises 9 = .ok (.iastore, 1) := by decide +kernel
theorem dX10_rises_10 : decode cX10_rises 10 = .ok (.aload_n 0, 1) := by decide +kernel
theorem dX10_rises_11 : decode cX10_rises 11 = .ok (.dup, 1) := by decide +kernel
theorem dX10_rises_12 : decode cX10_rises 12 = .ok (.getfield 175, 3) := by decide +kernel
theorem dX10_rises_15 : decode cX10_rises 15 = .ok (.iconst 1, 1) := by decide +kernel
theorem dX10_rises_16 : decode cX10_rises 16 = .ok (.iadd, 1) := by decide +kernel
theorem dX10_rises_17 : decode cX10_rises 17 = .ok (.putfield 175, 3) := by decide +kernel
theorem dX10_rises_20 : decode cX10_rises 20 = .ok (.aload_n 0, 1) := by decide +kernel
theorem dX10_rises_21 : decode cX10_rises 21 = .ok (.aload_n 0, 1) := by decide +kernel
theorem dX10_rises_22 : decode cX10_rises 22 = .ok (.getfield 28, 3) := by decide +kernel
theorem dX10_rises_25 : decode cX10_rises 25 = .ok (.aload_n 0, 1) := by decide +kernel
theorem dX10_rises_26 : decode cX10_rises 26 = .ok (.getfield 175, 3) := by decide +kernel
theorem dX10_rises_29 : decode cX10_rises 29 = .ok (.invokevirtual 165, 3) := by decide +kernel
theorem dX10_rises_32 : decode cX10_rises 32 = .ok (.ifCond .ne 7, 3) := by decide +kernel
theorem dX10_rises_35 : decode cX10_rises 35 = .ok (.iconst 1, 1) := by decide +kernel
theorem dX10_rises_36 : decode cX10_rises 36 = .ok (.goto 4, 3) := by decide +kernel
theorem dX10_rises_39 : decode cX10_rises 39 = .ok (.iconst 0, 1) := by decide +kernel
theorem dX10_rises_40 : decode cX10_rises 40 = .ok (.istore_n 2, 1) := by decide +kernel
theorem dX10_rises_41 : decode cX10_rises 41 = .ok (.aload_n 0, 1) := by decide +kernel
theorem dX10_rises_42 : decode cX10_rises 42 = .ok (.iload_n 2, 1) := by decide +kernel
theorem dX10_rises_43 : decode cX10_rises 43 = .ok (.ifCond .eq 7, 3) := by decide +kernel
theorem dX10_rises_46 : decode cX10_rises 46 = .ok (.iconst 0, 1) := by decide +kernel
theorem dX10_rises_47 : decode cX10_rises 47 = .ok (.goto 7, 3) := by decide +kernel
theorem dX10_rises_50 : decode cX10_rises 50 = .ok (.aload_n 0, 1) := by decide +kernel
theorem dX10_rises_51 : decode cX10_rises 51 = .ok (.getfield 175, 3) := by decide +kernel
theorem dX10_rises_54 : decode cX10_rises 54 = .ok (.putfield 175, 3) := by decide +kernel
theorem dX10_rises_57 : decode cX10_rises 57 = .ok (.iload_n 2, 1) := by decide +kernel
theorem dX10_rises_58 : decode cX10_rises 58 = .ok (.ireturn, 1) := by decide +kernel
theorem dX10_debate_0 : decode cX10_debate 0 = .ok (.iload_n 1, 1) := by decide +kernel
theorem dX10_debate_1 : decode cX10_debate 1 = .ok (.i2l, 1) := by decide +kernel
theorem dX10_debate_2 : decode cX10_debate 2 = .ok (.lconst 0, 1) := by decide +kernel
theorem dX10_debate_3 : decode cX10_debate 3 = .ok (.lconst 1, 1) := by decide +kernel
theorem dX10_debate_4 : decode cX10_debate 4 = .ok (.invokestatic 85, 3) := by decide +kernel
theorem dX10_debate_7 : decode cX10_debate 7 = .ok (.ifCond .ne 6, 3) := by decide +kernel
theorem dX10_debate_10 : decode cX10_debate 10 = .ok (.bipush (-102), 2) := by decide +kernel
theorem dX10_debate_12 : decode cX10_debate 12 = .ok (.ireturn, 1) := by decide +kernel
theorem dX10_debate_13 : decode cX10_debate 13 = .ok (.aload_n 0, 1) := by decide +kernel
theorem dX10_debate_14 : decode cX10_debate 14 = .ok (.invokevirtual 178, 3) := by decide +kernel
theorem dX10_debate_17 : decode cX10_debate 17 = .ok (.ifCond .ne 6, 3) := by decide +kernel
theorem dX10_debate_20 : decode cX10_debate 20 = .ok (.bipush (-103), 2) := by decide +kernel
theorem dX10_debate_22 : decode cX10_debate 22 = .ok (.ireturn, 1) := by decide +kernel
theorem dX10_debate_23 : decode cX10_debate 23 = .ok (.aload_n 0, 1) := by decide +kernel
theorem dX10_debate_24 : decode cX10_debate 24 = .ok (.iconst 0, 1) := by decide +kernel
theorem dX10_debate_25 : decode cX10_debate 25 = .ok (.putfield 175, 3) := by decide +kernel
theorem dX10_debate_28 : decode cX10_debate 28 = .ok (.iconst 0, 1) := by decide +kernel
theorem dX10_debate_29 : decode cX10_debate 29 = .ok (.istore_n 2, 1) := by decide +kernel
theorem dX10_debate_30 : decode cX10_debate 30 = .ok (.iconst 0, 1) := by decide +kernel
theorem dX10_debate_31 : decode cX10_debate 31 = .ok (.istore_n 3, 1) := by decide +kernel
theorem dX10_debate_32 : decode cX10_debate 32 = .ok (.iload_n 3, 1) := by decide +kernel
theorem dX10_debate_33 : decode cX10_debate 33 = .ok (.aload_n 0, 1) := by decide +kernel
theorem dX10_debate_34 : decode cX10_debate 34 = .ok (.getfield 101, 3) := by decide +kernel
theorem dX10_debate_37 : decode cX10_debate 37 = .ok (.if_icmp .ge 59, 3) := by decide +kernel
theorem dX10_debate_40 : decode cX10_debate 40 = .ok (.iload_n 2, 1) := by decide +kernel
theorem dX10_debate_41 : decode cX10_debate 41 = .ok (.ifCond .ne 55, 3) := by decide +kernel
theorem dX10_debate_44 : decode cX10_debate 44 = .ok (.aload_n 0, 1) := by decide +kernel
theorem dX10_debate_45 : decode cX10_debate 45 = .ok (.aload_n 0, 1) := by decide +kernel
theorem dX10_debate_46 : decode cX10_debate 46 = .ok (.getfield 19, 3) := by decide +kernel
theorem dX10_debate_49 : decode cX10_debate 49 = .ok (.iload_n 3, 1) := by decide +kernel
theorem dX10_debate_50 : decode cX10_debate 50 = .ok (.iaload, 1) := by decide +kernel
theorem dX10_debate_51 : decode cX10_debate 51 = .ok (.aload_n 0, 1) := by decide +kernel
theorem dX10_debate_52 : decode cX10_debate 52 = .ok (.getfield 28, 3) := by decide +kernel
theorem dX10_debate_55 : decode cX10_debate 55 = .ok (.aload_n 0, 1) := by decide +kernel
theorem dX10_debate_56 : decode cX10_debate 56 = .ok (.getfield 175, 3) := by decide +kernel
theorem dX10_debate_59 : decode cX10_debate 59 = .ok (.invokevirtual 161, 3) := by decide +kernel
theorem dX10_debate_62 : decode cX10_debate 62 = .ok (.ifCond .eq 28, 3) := by decide +kernel
theorem dX10_debate_65 : decode cX10_debate 65 = .ok (.aload_n 0, 1) := by decide +kernel
theorem dX10_debate_66 : decode cX10_debate 66 = .ok (.aload_n 0, 1) := by decide +kernel
theorem dX10_debate_67 : decode cX10_debate 67 = .ok (.getfield 19, 3) := by decide +kernel
theorem dX10_debate_70 : decode cX10_debate 70 = .ok (.iload_n 3, 1) := by decide +kernel
theorem dX10_debate_71 : decode cX10_debate 71 = .ok (.iaload, 1) := by decide +kernel
theorem dX10_debate_72 : decode cX10_debate 72 = .ok (.invokevirtual 182, 3) := by decide +kernel
theorem dX10_debate_75 : decode cX10_debate 75 = .ok (.istore 4, 2) := by decide +kernel
theorem dX10_debate_77 : decode cX10_debate 77 = .ok (.iload 4, 2) := by decide +kernel
theorem dX10_debate_79 : decode cX10_debate 79 = .ok (.ifCond .eq 9, 3) := by decide +kernel
theorem dX10_debate_82 : decode cX10_debate 82 = .ok (.iload_n 3, 1) := by decide +kernel
theorem dX10_debate_83 : decode cX10_debate 83 = .ok (.iconst 1, 1) := by decide +kernel
theorem dX10_debate_84 : decode cX10_debate 84 = .ok (.iadd, 1) := by decide +kernel
theorem dX10_debate_85 : decode cX10_debate 85 = .ok (.goto 4, 3) := by decide +kernel
theorem dX10_debate_88 : decode cX10_debate 88 = .ok (.iconst 0, 1) := by decide +kernel
theorem dX10_debate_89 : decode cX10_debate 89 = .ok (.istore_n 2, 1) := by decide +kernel
theorem dX10_debate_90 : decode cX10_debate 90 = .ok (.iinc 3 1, 3) := by decide +kernel
theorem dX10_debate_93 : decode cX10_debate 93 = .ok (.goto (-61), 3) := by decide +kernel
theorem dX10_debate_96 : decode cX10_debate 96 = .ok (.iload_n 1, 1) := by decide +kernel
theorem dX10_debate_97 : decode cX10_debate 97 = .ok (.ifCond .ne 7, 3) := by decide +kernel
theorem dX10_debate_100 : decode cX10_debate 100 = .ok (.iload_n 2, 1) := by decide +kernel
theorem dX10_debate_101 : decode cX10_debate 101 = .ok (.goto 15, 3) := by decide +kernel
theorem dX10_debate_104 : decode cX10_debate 104 = .ok (.aload_n 0, 1) := by decide +kernel
theorem dX10_debate_105 : decode cX10_debate 105 = .ok (.aload_n 0, 1) := by decide +kernel
theorem dX10_debate_106 : decode cX10_debate 106 = .ok (.getfield 28, 3) := by decide +kernel
theorem dX10_debate_109 : decode cX10_debate 109 = .ok (.aload_n 0, 1) := by decide +kernel
theorem dX10_debate_110 : decode cX10_debate 110 = .ok (.getfield 175, 3) := by decide +kernel
theorem dX10_debate_113 : decode cX10_debate 113 = .ok (.invokevirtual 172, 3) := by decide +kernel
theorem dX10_debate_116 : decode cX10_debate 116 = .ok (.ireturn, 1) := by decide +kernel
theorem dX10_nails_0 : decode cX10_nails 0 = .ok (.aload_n 0, 1) := by decide +kernel
theorem dX10_nails_1 : decode cX10_nails 1 = .ok (.invokevirtual 178, 3) := by decide +kernel
theorem dX10_nails_4 : decode cX10_nails 4 = .ok (.ifCond .ne 6, 3) := by decide +kernel
theorem dX10_nails_7 : decode cX10_nails 7 = .ok (.bipush (-103), 2) := by decide +kernel
theorem dX10_nails_9 : decode cX10_nails 9 = .ok (.ireturn, 1) := by decide +kernel
theorem dX10_nails_10 : decode cX10_nails 10 = .ok (.iconst 0, 1) := by decide +kernel
theorem dX10_nails_11 : decode cX10_nails 11 = .ok (.istore_n 1, 1) := by decide +kernel
theorem dX10_nails_12 : decode cX10_nails 12 = .ok (.iconst 0, 1) := by decide +kernel
theorem dX10_nails_13 : decode cX10_nails 13 = .ok (.istore_n 2, 1) := by decide +kernel
theorem dX10_nails_14 : decode cX10_nails 14 = .ok (.iload_n 2, 1) := by decide +kernel
theorem dX10_nails_15 : decode cX10_nails 15 = .ok (.aload_n 0, 1) := by decide +kernel
theorem dX10_nails_16 : decode cX10_nails 16 = .ok (.getfield 101, 3) := by decide +kernel
theorem dX10_nails_19 : decode cX10_nails 19 = .ok (.if_icmp .ge 52, 3) := by decide +kernel
theorem dX10_nails_22 : decode cX10_nails 22 = .ok (.aload_n 0, 1) := by decide +kernel
theorem dX10_nails_23 : decode cX10_nails 23 = .ok (.aload_n 0, 1) := by decide +kernel
theorem dX10_nails_24 : decode cX10_nails 24 = .ok (.getfield 19, 3) := by decide +kernel
theorem dX10_nails_27 : decode cX10_nails 27 = .ok (.aload_n 0, 1) := by decide +kernel
theorem dX10_nails_28 : decode cX10_nails 28 = .ok (.getfield 101, 3) := by decide +kernel
theorem dX10_nails_31 : decode cX10_nails 31 = .ok (.iload_n 2, 1) := by decide +kernel
theorem dX10_nails_32 : decode cX10_nails 32 = .ok (.invokevirtual 141, 3) := by decide +kernel
theorem dX10_nails_35 : decode cX10_nails 35 = .ok (.aload_n 0, 1) := by decide +kernel
theorem dX10_nails_36 : decode cX10_nails 36 = .ok (.aload_n 0, 1) := by decide +kernel
theorem dX10_nails_37 : decode cX10_nails 37 = .ok (.getfield 19, 3) := by decide +kernel
theorem dX10_nails_40 : decode cX10_nails 40 = .ok (.iload_n 2, 1) := by decide +kernel
theorem dX10_nails_41 : decode cX10_nails 41 = .ok (.iaload, 1) := by decide +kernel
theorem dX10_nails_42 : decode cX10_nails 42 = .ok (.invokevirtual 145, 3) := by decide +kernel
theorem dX10_nails_45 : decode cX10_nails 45 = .ok (.isub, 1) := by decide +kernel
theorem dX10_nails_46 : decode cX10_nails 46 = .ok (.istore_n 3, 1) := by decide +kernel
theorem dX10_nails_47 : decode cX10_nails 47 = .ok (.iload_n 1, 1) := by decide +kernel
theorem dX10_nails_48 : decode cX10_nails 48 = .ok (.iload_n 3, 1) := by decide +kernel
theorem dX10_nails_49 : decode cX10_nails 49 = .ok (.ifCond .le 13, 3) := by decide +kernel
theorem dX10_nails_52 : decode cX10_nails 52 = .ok (.iload_n 3, 1) := by decide +kernel
theorem dX10_nails_53 : decode cX10_nails 53 = .ok (.bipush 8, 2) := by decide +kernel
theorem dX10_nails_55 : decode cX10_nails 55 = .ok (.iadd, 1) := by decide +kernel
theorem dX10_nails_56 : decode cX10_nails 56 = .ok (.bipush 9, 2) := by decide +kernel
theorem dX10_nails_58 : decode cX10_nails 58 = .ok (.idiv, 1) := by decide +kernel
theorem dX10_nails_59 : decode cX10_nails 59 = .ok (.goto 4, 3) := by decide +kernel
theorem dX10_nails_62 : decode cX10_nails 62 = .ok (.iconst 0, 1) := by decide +kernel
theorem dX10_nails_63 : decode cX10_nails 63 = .ok (.iadd, 1) := by decide +kernel
theorem dX10_nails_64 : decode cX10_nails 64 = .ok (.istore_n 1, 1) := by decide +kernel
theorem dX10_nails_65 : decode cX10_nails 65 = .ok (.iinc 2 1, 3) := by decide +kernel
theorem dX10_nails_68 : decode cX10_nails 68 = .ok (.goto (-54), 3) := by decide +kernel
theorem dX10_nails_71 : decode cX10_nails 71 = .ok (.aload_n 0, 1) := by decide +kernel
theorem dX10_nails_72 : decode cX10_nails 72 = .ok (.aload_n 0, 1) := by decide +kernel
theorem dX10_nails_73 : decode cX10_nails 73 = .ok (.getfield 19, 3) := by decide +kernel
theorem dX10_nails_76 : decode cX10_nails 76 = .ok (.aload_n 0, 1) := by decide +kernel
theorem dX10_nails_77 : decode cX10_nails 77 = .ok (.getfield 101, 3) := by decide +kernel
theorem dX10_nails_80 : decode cX10_nails 80 = .ok (.invokevirtual 137, 3) := by decide +kernel
theorem dX10_nails_83 : decode cX10_nails 83 = .ok (.aload_n 0, 1) := by decide +kernel
theorem dX10_nails_84 : decode cX10_nails 84 = .ok (.getfield 69, 3) := by decide +kernel
theorem dX10_nails_87 : decode cX10_nails 87 = .ok (.if_icmp .le 7, 3) := by decide +kernel
theorem dX10_nails_90 : decode cX10_nails 90 = .ok (.iconst (-1), 1) := by decide +kernel
theorem dX10_nails_91 : decode cX10_nails 91 = .ok (.goto 4, 3) := by decide +kernel
theorem dX10_nails_94 : decode cX10_nails 94 = .ok (.iload_n 1, 1) := by decide +kernel
theorem dX10_nails_95 : decode cX10_nails 95 = .ok (.ireturn, 1) := by decide +kernel
theorem dX10_shook_0 : decode cX10_shook 0 = .ok (.aload_n 0, 1) := by decide +kernel
theorem dX10_shook_1 : decode cX10_shook 1 = .ok (.invokevirtual 178, 3) := by decide +kernel
theorem dX10_shook_4 : decode cX10_shook 4 = .ok (.ifCond .ne 6, 3) := by decide +kernel
theorem dX10_shook_7 : decode cX10_shook 7 = .ok (.bipush (-103), 2) := by decide +kernel
theorem dX10_shook_9 : decode cX10_shook 9 = .ok (.ireturn, 1) := by decide +kernel
theorem dX10_shook_10 : decode cX10_shook 10 = .ok (.iconst 0, 1) := by decide +kernel
theorem dX10_shook_11 : decode cX10_shook 11 = .ok (.istore_n 1, 1) := by decide +kernel
theorem dX10_shook_12 : decode cX10_shook 12 = .ok (.iconst 0, 1) := by decide +kernel
theorem dX10_shook_13 : decode cX10_shook 13 = .ok (.istore_n 2, 1) := by decide +kernel
theorem dX10_shook_14 : decode cX10_shook 14 = .ok (.iload_n 2, 1) := by decide +kernel
theorem dX10_shook_15 : decode cX10_shook 15 = .ok (.aload_n 0, 1) := by decide +kernel
theorem dX10_shook_16 : decode cX10_shook 16 = .ok (.getfield 101, 3) := by decide +kernel
theorem dX10_shook_19 : decode cX10_shook 19 = .ok (.if_icmp .ge 90, 3) := by decide +kernel
theorem dX10_shook_22 : decode cX10_shook 22 = .ok (.aload_n 0, 1) := by decide +kernel
theorem dX10_shook_23 : decode cX10_shook 23 = .ok (.iconst 0, 1) := by decide +kernel
theorem dX10_shook_24 : decode cX10_shook 24 = .ok (.putfield 175, 3) := by decide +kernel
theorem dX10_shook_27 : decode cX10_shook 27 = .ok (.iconst 0, 1) := by decide +kernel
theorem dX10_shook_28 : decode cX10_shook 28 = .ok (.istore_n 3, 1) := by decide +kernel
theorem dX10_shook_29 : decode cX10_shook 29 = .ok (.iload_n 3, 1) := by decide +kernel
theorem dX10_shook_30 : decode cX10_shook 30 = .ok (.aload_n 0, 1) := by decide +kernel
theorem dX10_shook_31 : decode cX10_shook 31 = .ok (.getfield 101, 3) := by decide +kernel
theorem dX10_shook_34 : decode cX10_shook 34 = .ok (.if_icmp .ge 39, 3) := by decide +kernel
theorem dX10_shook_37 : decode cX10_shook 37 = .ok (.iload_n 3, 1) := by decide +kernel
theorem dX10_shook_38 : decode cX10_shook 38 = .ok (.iload_n 2, 1) := by decide +kernel
theorem dX10_shook_39 : decode cX10_shook 39 = .ok (.if_icmp .eq 28, 3) := by decide +kernel
theorem dX10_shook_42 : decode cX10_shook 42 = .ok (.aload_n 0, 1) := by decide +kernel
theorem dX10_shook_43 : decode cX10_shook 43 = .ok (.getfield 28, 3) := by decide +kernel
theorem dX10_shook_46 : decode cX10_shook 46 = .ok (.aload_n 0, 1) := by decide +kernel
theorem dX10_shook_47 : decode cX10_shook 47 = .ok (.getfield 175, 3) := by decide +kernel
theorem dX10_shook_50 : decode cX10_shook 50 = .ok (.aload_n 0, 1) := by decide +kernel
theorem dX10_shook_51 : decode cX10_shook 51 = .ok (.getfield 19, 3) := by decide +kernel
theorem dX10_shook_54 : decode cX10_shook 54 = .ok (.iload_n 3, 1) := by decide +kernel
theorem dX10_shook_55 : decode cX10_shook 55 = .ok (.iaload, 1) := by decide +kernel
theorem dX10_shook_56 : decode cX10_shook 56 = .ok (.iastore, 1) := by decide +kernel
theorem dX10_shook_57 : decode cX10_shook 57 = .ok (.aload_n 0, 1) := by decide +kernel
theorem dX10_shook_58 : decode cX10_shook 58 = .ok (.dup, 1) := by decide +kernel
theorem dX10_shook_59 : decode cX10_shook 59 = .ok (.getfield 175, 3) := by decide +kernel
theorem dX10_shook_62 : decode cX10_shook 62 = .ok (.iconst 1, 1) := by decide +kernel
theorem dX10_shook_63 : decode cX10_shook 63 = .ok (.iadd, 1) := by decide +kernel
theorem dX10_shook_64 : decode cX10_shook 64 = .ok (.putfield 175, 3) := by decide +kernel
theorem dX10_shook_67 : decode cX10_shook 67 = .ok (.iinc 3 1, 3) := by decide +kernel
theorem dX10_shook_70 : decode cX10_shook 70 = .ok (.goto (-41), 3) := by decide +kernel
theorem dX10_shook_73 : decode cX10_shook 73 = .ok (.iload_n 1, 1) := by decide +kernel
theorem dX10_shook_74 : decode cX10_shook 74 = .ok (.aload_n 0, 1) := by decide +kernel
theorem dX10_shook_75 : decode cX10_shook 75 = .ok (.aload_n 0, 1) := by decide +kernel
theorem dX10_shook_76 : decode cX10_shook 76 = .ok (.getfield 28, 3) := by decide +kernel
theorem dX10_shook_79 : decode cX10_shook 79 = .ok (.aload_n 0, 1) := by decide +kernel
theorem dX10_shook_80 : decode cX10_shook 80 = .ok (.getfield 175, 3) := by decide +kernel
theorem dX10_shook_83 : decode cX10_shook 83 = .ok (.invokevirtual 165, 3) := by decide +kernel
theorem dX10_shook_86 : decode cX10_shook 86 = .ok (.ifCond .eq 14, 3) := by decide +kernel
theorem dX10_shook_89 : decode cX10_shook 89 = .ok (.iconst 1, 1) := by decide +kernel
theorem dX10_shook_90 : decode cX10_shook 90 = .ok (.aload_n 0, 1) := by decide +kernel
theorem dX10_shook_91 : decode cX10_shook 91 = .ok (.getfield 19, 3) := by decide +kernel
theorem dX10_shook_94 : decode cX10_shook 94 = .ok (.iload_n 2, 1) := by decide +kernel
theorem dX10_shook_95 : decode cX10_shook 95 = .ok (.iaload, 1) := by decide +kernel
theorem dX10_shook_96 : decode cX10_shook 96 = .ok (.ishl, 1) := by decide +kernel
theorem dX10_shook_97 : decode cX10_shook 97 = .ok (.goto 4, 3) := by decide +kernel
theorem dX10_shook_100 : decode cX10_shook 100 = .ok (.iconst 0, 1) := by decide +kernel
theorem dX10_shook_101 : decode cX10_shook 101 = .ok (.ior, 1) := by decide +kernel
theorem dX10_shook_102 : decode cX10_shook 102 = .ok (.istore_n 1, 1) := by decide +kernel
theorem dX10_shook_103 : decode cX10_shook 103 = .ok (.iinc 2 1, 3) := by decide +kernel
theorem dX10_shook_106 : decode cX10_shook 106 = .ok (.goto (-92), 3) := by decide +kernel
theorem dX10_shook_109 : decode cX10_shook 109 = .ok (.aload_n 0, 1) := by decide +kernel
theorem dX10_shook_110 : decode cX10_shook 110 = .ok (.aload_n 0, 1) := by decide +kernel
theorem dX10_shook_111 : decode cX10_shook 111 = .ok (.getfield 19, 3) := by decide +kernel
theorem dX10_shook_114 : decode cX10_shook 114 = .ok (.aload_n 0, 1) := by decide +kernel
theorem dX10_shook_115 : decode cX10_shook 115 = .ok (.getfield 101, 3) := by decide +kernel
theorem dX10_shook_118 : decode cX10_shook 118 = .ok (.invokevirtual 165, 3) := by decide +kernel
theorem dX10_shook_121 : decode cX10_shook 121 = .ok (.ifCond .eq 7, 3) := by decide +kernel
theorem dX10_shook_124 : decode cX10_shook 124 = .ok (.iconst 0, 1) := by decide +kernel
theorem dX10_shook_125 : decode cX10_shook 125 = .ok (.goto 4, 3) := by decide +kernel
theorem dX10_shook_128 : decode cX10_shook 128 = .ok (.iload_n 1, 1) := by decide +kernel
theorem dX10_shook_129 : decode cX10_shook 129 = .ok (.ireturn, 1) := by decide +kernel
theorem dX10_ones_0 : decode cX10_ones 0 = .ok (.iconst 0, 1) := by decide +kernel
theorem dX10_ones_1 : decode cX10_ones 1 = .ok (.istore_n 1, 1) := by decide +kernel
theorem dX10_ones_2 : decode cX10_ones 2 = .ok (.iconst 0, 1) := by decide +kernel
theorem dX10_ones_3 : decode cX10_ones 3 = .ok (.istore_n 2, 1) := by decide +kernel
theorem dX10_ones_4 : decode cX10_ones 4 = .ok (.iload_n 2, 1) := by decide +kernel
theorem dX10_ones_5 : decode cX10_ones 5 = .ok (.bipush 7, 2) := by decide +kernel
theorem dX10_ones_7 : decode cX10_ones 7 = .ok (.if_icmp .ge 17, 3) := by decide +kernel
theorem dX10_ones_10 : decode cX10_ones 10 = .ok (.iload_n 1, 1) := by decide +kernel
theorem dX10_ones_11 : decode cX10_ones 11 = .ok (.iload_n 0, 1) := by decide +kernel
theorem dX10_ones_12 : decode cX10_ones 12 = .ok (.iload_n 2, 1) := by decide +kernel
theorem dX10_ones_13 : decode cX10_ones 13 = .ok (.ishr, 1) := by decide +kernel
theorem dX10_ones_14 : decode cX10_ones 14 = .ok (.iconst 1, 1) := by decide +kernel
theorem dX10_ones_15 : decode cX10_ones 15 = .ok (.iand, 1) := by decide +kernel
theorem dX10_ones_16 : decode cX10_ones 16 = .ok (.iadd, 1) := by decide +kernel
theorem dX10_ones_17 : decode cX10_ones 17 = .ok (.istore_n 1, 1) := by decide +kernel
theorem dX10_ones_18 : decode cX10_ones 18 = .ok (.iinc 2 1, 3) := by decide +kernel
theorem dX10_ones_21 : decode cX10_ones 21 = .ok (.goto (-17), 3) := by decide +kernel
theorem dX10_ones_24 : decode cX10_ones 24 = .ok (.iload_n 1, 1) := by decide +kernel
theorem dX10_ones_25 : decode cX10_ones 25 = .ok (.ireturn, 1) := by decide +kernel
theorem dX10_layRows_0 : decode cX10_layRows 0 = .ok (.iconst 0, 1) := by decide +kernel
theorem dX10_layRows_1 : decode cX10_layRows 1 = .ok (.istore_n 2, 1) := by decide +kernel
theorem dX10_layRows_2 : decode cX10_layRows 2 = .ok (.iload_n 2, 1) := by decide +kernel
theorem dX10_layRows_3 : decode cX10_layRows 3 = .ok (.sipush 1000, 3) := by decide +kernel
theorem dX10_layRows_6 : decode cX10_layRows 6 = .ok (.if_icmp .ge 16, 3) := by decide +kernel
theorem dX10_layRows_9 : decode cX10_layRows 9 = .ok (.aload_n 0, 1) := by decide +kernel
theorem dX10_layRows_10 : decode cX10_layRows 10 = .ok (.getfield 34, 3) := by decide +kernel
theorem dX10_layRows_13 : decode cX10_layRows 13 = .ok (.iload_n 2, 1) := by decide +kernel
theorem dX10_layRows_14 : decode cX10_layRows 14 = .ok (.iconst 0, 1) := by decide +kernel
theorem dX10_layRows_15 : decode cX10_layRows 15 = .ok (.bastore, 1) := by decide +kernel
theorem dX10_layRows_16 : decode cX10_layRows 16 = .ok (.iinc 2 1, 3) := by decide +kernel
theorem dX10_layRows_19 : decode cX10_layRows 19 = .ok (.goto (-17), 3) := by decide +kernel
theorem dX10_layRows_22 : decode cX10_layRows 22 = .ok (.aload_n 0, 1) := by decide +kernel
theorem dX10_layRows_23 : decode cX10_layRows 23 = .ok (.iconst (-1), 1) := by decide +kernel
theorem dX10_layRows_24 : decode cX10_layRows 24 = .ok (.putfield 185, 3) := by decide +kernel
theorem dX10_layRows_27 : decode cX10_layRows 27 = .ok (.iconst 0, 1) := by decide +kernel
theorem dX10_layRows_28 : decode cX10_layRows 28 = .ok (.istore_n 2, 1) := by decide +kernel
theorem dX10_layRows_29 : decode cX10_layRows 29 = .ok (.iload_n 2, 1) := by decide +kernel
theorem dX10_layRows_30 : decode cX10_layRows 30 = .ok (.aload_n 0, 1) := by decide +kernel
theorem dX10_layRows_31 : decode cX10_layRows 31 = .ok (.getfield 151, 3) := by decide +kernel
theorem dX10_layRows_34 : decode cX10_layRows 34 = .ok (.if_icmp .ge 21, 3) := by decide +kernel
theorem dX10_layRows_37 : decode cX10_layRows 37 = .ok (.aload_n 0, 1) := by decide +kernel
theorem dX10_layRows_38 : decode cX10_layRows 38 = .ok (.getfield 28, 3) := by decide +kernel
theorem dX10_layRows_41 : decode cX10_layRows 41 = .ok (.iload_n 2, 1) := by decide +kernel
theorem dX10_layRows_42 : decode cX10_layRows 42 = .ok (.aload_n 0, 1) := by decide +kernel
theorem dX10_layRows_43 : decode cX10_layRows 43 = .ok (.getfield 25, 3) := by decide +kernel
theorem dX10_layRows_46 : decode cX10_layRows 46 = .ok (.iload_n 2, 1) := by decide +kernel
theorem dX10_layRows_47 : decode cX10_layRows 47 = .ok (.iaload, 1) := by decide +kernel
theorem dX10_layRows_48 : decode cX10_layRows 48 = .ok (.iastore, 1) := by decide +kernel
theorem dX10_layRows_49 : decode cX10_layRows 49 = .ok (.iinc 2 1, 3) := by decide +kernel
theorem dX10_layRows_52 : decode cX10_layRows 52 = .ok (.goto (-23), 3) := by decide +kernel
theorem dX10_layRows_55 : decode cX10_layRows 55 = .ok (.aload_n 0, 1) := by decide +kernel
theorem dX10_layRows_56 : decode cX10_layRows 56 = .ok (.aload_n 0, 1) := by decide +kernel
theorem dX10_layRows_57 : decode cX10_layRows 57 = .ok (.getfield 151, 3) := by decide +kernel
theorem dX10_layRows_60 : decode cX10_layRows 60 = .ok (.putfield 175, 3) := by decide +kernel
theorem dX10_layRows_63 : decode cX10_layRows 63 = .ok (.aload_n 0, 1) := by decide +kernel
theorem dX10_layRows_64 : decode cX10_layRows 64 = .ok (.getfield 151, 3) := by decide +kernel
theorem dX10_layRows_67 : decode cX10_layRows 67 = .ok (.iload_n 1, 1) := by decide +kernel
theorem dX10_layRows_68 : decode cX10_layRows 68 = .ok (.invokestatic 188, 3) := by decide +kernel
theorem dX10_layRows_71 : decode cX10_layRows 71 = .ok (.iadd, 1) := by decide +kernel
theorem dX10_layRows_72 : decode cX10_layRows 72 = .ok (.istore_n 2, 1) := by decide +kernel
theorem dX10_layRows_73 : decode cX10_layRows 73 = .ok (.aload_n 0, 1) := by decide +kernel
theorem dX10_layRows_74 : decode cX10_layRows 74 = .ok (.getfield 38, 3) := by decide +kernel
theorem dX10_layRows_77 : decode cX10_layRows 77 = .ok (.iconst 0, 1) := by decide +kernel
theorem dX10_layRows_78 : decode cX10_layRows 78 = .ok (.iconst 0, 1) := by decide +kernel
theorem dX10_layRows_79 : decode cX10_layRows 79 = .ok (.iastore, 1) := by decide +kernel
theorem dX10_layRows_80 : decode cX10_layRows 80 = .ok (.iconst 0, 1) := by decide +kernel
theorem dX10_layRows_81 : decode cX10_layRows 81 = .ok (.istore_n 3, 1) := by decide +kernel
theorem dX10_layRows_82 : decode cX10_layRows 82 = .ok (.iload_n 3, 1) := by decide +kernel
theorem dX10_layRows_83 : decode cX10_layRows 83 = .ok (.ifCond .lt 224, 3) := by decide +kernel
theorem dX10_layRows_86 : decode cX10_layRows 86 = .ok (.aload_n 0, 1) := by decide +kernel
theorem dX10_layRows_87 : decode cX10_layRows 87 = .ok (.getfield 175, 3) := by decide +kernel
theorem dX10_layRows_90 : decode cX10_layRows 90 = .ok (.iload_n 2, 1) := by decide +kernel
theorem dX10_layRows_91 : decode cX10_layRows 91 = .ok (.if_icmp .eq 9, 3) := by decide +kernel
theorem dX10_layRows_94 : decode cX10_layRows 94 = .ok (.iload_n 2, 1) := by decide +kernel
theorem dX10_layRows_95 : decode cX10_layRows 95 = .ok (.bipush 7, 2) := by decide +kernel
theorem dX10_layRows_97 : decode cX10_layRows 97 = .ok (.if_icmp .le 56, 3) := by decide +kernel
theorem dX10_layRows_100 : decode cX10_layRows 100 = .ok (.iload_n 2, 1) := by decide +kernel
theorem dX10_layRows_101 : decode cX10_layRows 101 = .ok (.bipush 7, 2) := by decide +kernel
theorem dX10_layRows_103 : decode cX10_layRows 103 = .ok (.if_icmp .gt 26, 3) := by decide +kernel
theorem dX10_layRows_106 : decode cX10_layRows 106 = .ok (.aload_n 0, 1) := by decide +kernel
theorem dX10_layRows_107 : decode cX10_layRows 107 = .ok (.getfield 34, 3) := by decide +kernel
theorem dX10_layRows_110 : decode cX10_layRows 110 = .ok (.aload_n 0, 1) := by decide +kernel
theorem dX10_layRows_111 : decode cX10_layRows 111 = .ok (.aload_n 0, 1) := by decide +kernel
theorem dX10_layRows_112 : decode cX10_layRows 112 = .ok (.getfield 28, 3) := by decide +kernel
theorem dX10_layRows_115 : decode cX10_layRows 115 = .ok (.aload_n 0, 1) := by decide +kernel
theorem dX10_layRows_116 : decode cX10_layRows 116 = .ok (.getfield 175, 3) := by decide +kernel
theorem dX10_layRows_119 : decode cX10_layRows 119 = .ok (.invokevirtual 172, 3) := by decide +kernel
theorem dX10_layRows_122 : decode cX10_layRows 122 = .ok (.iconst 1, 1) := by decide +kernel
theorem dX10_layRows_123 : decode cX10_layRows 123 = .ok (.bastore, 1) := by decide +kernel
theorem dX10_layRows_124 : decode cX10_layRows 124 = .ok (.aload_n 0, 1) := by decide +kernel
theorem dX10_layRows_125 : decode cX10_layRows 125 = .ok (.iload_n 2, 1) := by decide +kernel
theorem dX10_layRows_126 : decode cX10_layRows 126 = .ok (.invokevirtual 191, 3) := by decide +kernel
theorem dX10_layRows_129 : decode cX10_layRows 129 = .ok (.iinc 3 (-1), 3) := by decide +kernel
theorem dX10_layRows_132 : decode cX10_layRows 132 = .ok (.aload_n 0, 1) := by decide +kernel
theorem dX10_layRows_133 : decode cX10_layRows 133 = .ok (.dup, 1) := by decide +kernel
theorem dX10_layRows_134 : decode cX10_layRows 134 = .ok (.getfield 175, 3) := by decide +kernel
theorem dX10_layRows_137 : decode cX10_layRows 137 = .ok (.iload_n 3, 1) := by decide +kernel
theorem dX10_layRows_138 : decode cX10_layRows 138 = .ok (.ifCond .lt 7, 3) := by decide +kernel
theorem dX10_layRows_141 : decode cX10_layRows 141 = .ok (.iconst 1, 1) := by decide +kernel
theorem dX10_layRows_142 : decode cX10_layRows 142 = .ok (.goto 4, 3) := by decide +kernel
theorem dX10_layRows_145 : decode cX10_layRows 145 = .ok (.iconst 0, 1) := by decide +kernel
theorem dX10_layRows_146 : decode cX10_layRows 146 = .ok (.isub, 1) := by decide +kernel
theorem dX10_layRows_147 : decode cX10_layRows 147 = .ok (.putfield 175, 3) := by decide +kernel
theorem dX10_layRows_150 : decode cX10_layRows 150 = .ok (.goto (-68), 3) := by decide +kernel
theorem dX10_layRows_153 : decode cX10_layRows 153 = .ok (.aload_n 0, 1) := by decide +kernel
theorem dX10_layRows_154 : decode cX10_layRows 154 = .ok (.getfield 38, 3) := by decide +kernel
theorem dX10_layRows_157 : decode cX10_layRows 157 = .ok (.iload_n 3, 1) := by decide +kernel
theorem dX10_layRows_158 : decode cX10_layRows 158 = .ok (.iaload, 1) := by decide +kernel
theorem dX10_layRows_159 : decode cX10_layRows 159 = .ok (.istore 4, 2) := by decide +kernel
theorem dX10_layRows_161 : decode cX10_layRows 161 = .ok (.iload 4, 2) := by decide +kernel
theorem dX10_layRows_163 : decode cX10_layRows 163 = .ok (.aload_n 0, 1) := by decide +kernel
theorem dX10_layRows_164 : decode cX10_layRows 164 = .ok (.getfield 114, 3) := by decide +kernel
theorem dX10_layRows_167 : decode cX10_layRows 167 = .ok (.if_icmp .ge 35, 3) := by decide +kernel
theorem dX10_layRows_170 : decode cX10_layRows 170 = .ok (.iload_n 1, 1) := by decide +kernel
theorem dX10_layRows_171 : decode cX10_layRows 171 = .ok (.iload 4, 2) := by decide +kernel
theorem dX10_layRows_173 : decode cX10_layRows 173 = .ok (.ishr, 1) := by decide +kernel
theorem dX10_layRows_174 : decode cX10_layRows 174 = .ok (.iconst 1, 1) := by decide +kernel
theorem dX10_layRows_175 : decode cX10_layRows 175 = .ok (.iand, 1) := by decide +kernel
theorem dX10_layRows_176 : decode cX10_layRows 176 = .ok (.ifCond .eq 20, 3) := by decide +kernel
theorem dX10_layRows_179 : decode cX10_layRows 179 = .ok (.aload_n 0, 1) := by decide +kernel
theorem dX10_layRows_180 : decode cX10_layRows 180 = .ok (.iload 4, 2) := by decide +kernel
theorem dX10_layRows_182 : decode cX10_layRows 182 = .ok (.aload_n 0, 1) := by decide +kernel
theorem dX10_layRows_183 : decode cX10_layRows 183 = .ok (.getfield 28, 3) := by decide +kernel
theorem dX10_layRows_186 : decode cX10_layRows 186 = .ok (.aload_n 0, 1) := by decide +kernel
theorem dX10_layRows_187 : decode cX10_layRows 187 = .ok (.getfield 175, 3) := by decide +kernel
theorem dX10_layRows_190 : decode cX10_layRows 190 = .ok (.invokevirtual 161, 3) := by decide +kernel
theorem dX10_layRows_193 : decode cX10_layRows 193 = .ok (.ifCond .ne 9, 3) := by decide +kernel
theorem dX10_layRows_196 : decode cX10_layRows 196 = .ok (.iinc 4 1, 3) := by decide +kernel
theorem dX10_layRows_199 : decode cX10_layRows 199 = .ok (.goto (-38), 3) := by decide +kernel
theorem dX10_layRows_202 : decode cX10_layRows 202 = .ok (.aload_n 0, 1) := by decide +kernel
theorem dX10_layRows_203 : decode cX10_layRows 203 = .ok (.getfield 38, 3) := by decide +kernel
theorem dX10_layRows_206 : decode cX10_layRows 206 = .ok (.iload_n 3, 1) := by decide +kernel
theorem dX10_layRows_207 : decode cX10_layRows 207 = .ok (.iload 4, 2) := by decide +kernel
theorem dX10_layRows_209 : decode cX10_layRows 209 = .ok (.iconst 1, 1) := by decide +kernel
theorem dX10_layRows_210 : decode cX10_layRows 210 = .ok (.iadd, 1) := by decide +kernel
theorem dX10_layRows_211 : decode cX10_layRows 211 = .ok (.iastore, 1) := by decide +kernel
theorem dX10_layRows_212 : decode cX10_layRows 212 = .ok (.iload 4, 2) := by decide +kernel
theorem dX10_layRows_214 : decode cX10_layRows 214 = .ok (.aload_n 0, 1) := by decide +kernel
theorem dX10_layRows_215 : decode cX10_layRows 215 = .ok (.getfield 114, 3) := by decide +kernel
theorem dX10_layRows_218 : decode cX10_layRows 218 = .ok (.if_icmp .lt 27, 3) := by decide +kernel
theorem dX10_layRows_221 : decode cX10_layRows 221 = .ok (.iinc 3 (-1), 3) := by decide +kernel
theorem dX10_layRows_224 : decode cX10_layRows 224 = .ok (.aload_n 0, 1) := by decide +kernel
theorem dX10_layRows_225 : decode cX10_layRows 225 = .ok (.dup, 1) := by decide +kernel
theorem dX10_layRows_226 : decode cX10_layRows 226 = .ok (.getfield 175, 3) := by decide +kernel
theorem dX10_layRows_229 : decode cX10_layRows 229 = .ok (.iload_n 3, 1) := by decide +kernel
theorem dX10_layRows_230 : decode cX10_layRows 230 = .ok (.ifCond .lt 7, 3) := by decide +kernel
theorem dX10_layRows_233 : decode cX10_layRows 233 = .ok (.iconst 1, 1) := by decide +kernel
theorem dX10_layRows_234 : decode cX10_layRows 234 = .ok (.goto 4, 3) := by decide +kernel
theorem dX10_layRows_237 : decode cX10_layRows 237 = .ok (.iconst 0, 1) := by decide +kernel
theorem dX10_layRows_238 : decode cX10_layRows 238 = .ok (.isub, 1) := by decide +kernel
theorem dX10_layRows_239 : decode cX10_layRows 239 = .ok (.putfield 175, 3) := by decide +kernel
theorem dX10_layRows_242 : decode cX10_layRows 242 = .ok (.goto 62, 3) := by decide +kernel
theorem dX10_layRows_245 : decode cX10_layRows 245 = .ok (.aload_n 0, 1) := by decide +kernel
theorem dX10_layRows_246 : decode cX10_layRows 246 = .ok (.getfield 28, 3) := by decide +kernel
theorem dX10_layRows_249 : decode cX10_layRows 249 = .ok (.aload_n 0, 1) := by decide +kernel
theorem dX10_layRows_250 : decode cX10_layRows 250 = .ok (.getfield 175, 3) := by decide +kernel
theorem dX10_layRows_253 : decode cX10_layRows 253 = .ok (.iload 4, 2) := by decide +kernel
theorem dX10_layRows_255 : decode cX10_layRows 255 = .ok (.iastore, 1) := by decide +kernel
theorem dX10_layRows_256 : decode cX10_layRows 256 = .ok (.aload_n 0, 1) := by decide +kernel
theorem dX10_layRows_257 : decode cX10_layRows 257 = .ok (.dup, 1) := by decide +kernel
theorem dX10_layRows_258 : decode cX10_layRows 258 = .ok (.getfield 175, 3) := by decide +kernel
theorem dX10_layRows_261 : decode cX10_layRows 261 = .ok (.iconst 1, 1) := by decide +kernel
theorem dX10_layRows_262 : decode cX10_layRows 262 = .ok (.iadd, 1) := by decide +kernel
theorem dX10_layRows_263 : decode cX10_layRows 263 = .ok (.putfield 175, 3) := by decide +kernel
theorem dX10_layRows_266 : decode cX10_layRows 266 = .ok (.aload_n 0, 1) := by decide +kernel
theorem dX10_layRows_267 : decode cX10_layRows 267 = .ok (.aload_n 0, 1) := by decide +kernel
theorem dX10_layRows_268 : decode cX10_layRows 268 = .ok (.getfield 28, 3) := by decide +kernel
theorem dX10_layRows_271 : decode cX10_layRows 271 = .ok (.aload_n 0, 1) := by decide +kernel
theorem dX10_layRows_272 : decode cX10_layRows 272 = .ok (.getfield 175, 3) := by decide +kernel
theorem dX10_layRows_275 : decode cX10_layRows 275 = .ok (.invokevirtual 165, 3) := by decide +kernel
theorem dX10_layRows_278 : decode cX10_layRows 278 = .ok (.ifCond .eq 16, 3) := by decide +kernel
theorem dX10_layRows_281 : decode cX10_layRows 281 = .ok (.iinc 3 1, 3) := by decide +kernel
theorem dX10_layRows_284 : decode cX10_layRows 284 = .ok (.aload_n 0, 1) := by decide +kernel
theorem dX10_layRows_285 : decode cX10_layRows 285 = .ok (.getfield 38, 3) := by decide +kernel
theorem dX10_layRows_288 : decode cX10_layRows 288 = .ok (.iload_n 3, 1) := by decide +kernel
theorem dX10_layRows_289 : decode cX10_layRows 289 = .ok (.iconst 0, 1) := by decide +kernel
theorem dX10_layRows_290 : decode cX10_layRows 290 = .ok (.iastore, 1) := by decide +kernel
theorem dX10_layRows_291 : decode cX10_layRows 291 = .ok (.goto 13, 3) := by decide +kernel
theorem dX10_layRows_294 : decode cX10_layRows 294 = .ok (.aload_n 0, 1) := by decide +kernel
theorem dX10_layRows_295 : decode cX10_layRows 295 = .ok (.dup, 1) := by decide +kernel
theorem dX10_layRows_296 : decode cX10_layRows 296 = .ok (.getfield 175, 3) := by decide +kernel
theorem dX10_layRows_299 : decode cX10_layRows 299 = .ok (.iconst 1, 1) := by decide +kernel
theorem dX10_layRows_300 : decode cX10_layRows 300 = .ok (.isub, 1) := by decide +kernel
theorem dX10_layRows_301 : decode cX10_layRows 301 = .ok (.putfield 175, 3) := by decide +kernel
theorem dX10_layRows_304 : decode cX10_layRows 304 = .ok (.goto (-222), 3) := by decide +kernel
theorem dX10_layRows_307 : decode cX10_layRows 307 = .ok (.return_, 1) := by decide +kernel
theorem dX10_layFound_0 : decode cX10_layFound 0 = .ok (.aload_n 0, 1) := by decide +kernel
theorem dX10_layFound_1 : decode cX10_layFound 1 = .ok (.getfield 185, 3) := by decide +kernel
theorem dX10_layFound_4 : decode cX10_layFound 4 = .ok (.iconst (-1), 1) := by decide +kernel
theorem dX10_layFound_5 : decode cX10_layFound 5 = .ok (.if_icmp .ne 46, 3) := by decide +kernel
theorem dX10_layFound_8 : decode cX10_layFound 8 = .ok (.aload_n 0, 1) := by decide +kernel
theorem dX10_layFound_9 : decode cX10_layFound 9 = .ok (.iload_n 1, 1) := by decide +kernel
theorem dX10_layFound_10 : decode cX10_layFound 10 = .ok (.aload_n 0, 1) := by decide +kernel
theorem dX10_layFound_11 : decode cX10_layFound 11 = .ok (.getfield 151, 3) := by decide +kernel
theorem dX10_layFound_14 : decode cX10_layFound 14 = .ok (.isub, 1) := by decide +kernel
theorem dX10_layFound_15 : decode cX10_layFound 15 = .ok (.putfield 185, 3) := by decide +kernel
theorem dX10_layFound_18 : decode cX10_layFound 18 = .ok (.iconst 0, 1) := by decide +kernel
theorem dX10_layFound_19 : decode cX10_layFound 19 = .ok (.istore_n 2, 1) := by decide +kernel
theorem dX10_layFound_20 : decode cX10_layFound 20 = .ok (.iload_n 2, 1) := by decide +kernel
theorem dX10_layFound_21 : decode cX10_layFound 21 = .ok (.aload_n 0, 1) := by decide +kernel
theorem dX10_layFound_22 : decode cX10_layFound 22 = .ok (.getfield 185, 3) := by decide +kernel
theorem dX10_layFound_25 : decode cX10_layFound 25 = .ok (.if_icmp .ge 26, 3) := by decide +kernel
theorem dX10_layFound_28 : decode cX10_layFound 28 = .ok (.aload_n 0, 1) := by decide +kernel
theorem dX10_layFound_29 : decode cX10_layFound 29 = .ok (.getfield 31, 3) := by decide +kernel
theorem dX10_layFound_32 : decode cX10_layFound 32 = .ok (.iload_n 2, 1) := by decide +kernel
theorem dX10_layFound_33 : decode cX10_layFound 33 = .ok (.aload_n 0, 1) := by decide +kernel
theorem dX10_layFound_34 : decode cX10_layFound 34 = .ok (.getfield 28, 3) := by decide +kernel
theorem dX10_layFound_37 : decode cX10_layFound 37 = .ok (.aload_n 0, 1) := by decide +kernel
theorem dX10_layFound_38 : decode cX10_layFound 38 = .ok (.getfield 151, 3) := by decide +kernel
theorem dX10_layFound_41 : decode cX10_layFound 41 = .ok (.iload_n 2, 1) := by decide +kernel
theorem dX10_layFound_42 : decode cX10_layFound 42 = .ok (.iadd, 1) := by decide +kernel
theorem dX10_layFound_43 : decode cX10_layFound 43 = .ok (.iaload, 1) := by decide +kernel
theorem dX10_layFound_44 : decode cX10_layFound 44 = .ok (.iastore, 1) := by decide +kernel
theorem dX10_layFound_45 : decode cX10_layFound 45 = .ok (.iinc 2 1, 3) := by decide +kernel
theorem dX10_layFound_48 : decode cX10_layFound 48 = .ok (.goto (-28), 3) := by decide +kernel
theorem dX10_layFound_51 : decode cX10_layFound 51 = .ok (.return_, 1) := by decide +kernel
theorem dX10_isSet_0 : decode cX10_isSet 0 = .ok (.iload_n 1, 1) := by decide +kernel
theorem dX10_isSet_1 : decode cX10_isSet 1 = .ok (.i2l, 1) := by decide +kernel
theorem dX10_isSet_2 : decode cX10_isSet 2 = .ok (.lconst 0, 1) := by decide +kernel
theorem dX10_isSet_3 : decode cX10_isSet 3 = .ok (.iconst 1, 1) := by decide +kernel
theorem dX10_isSet_4 : decode cX10_isSet 4 = .ok (.aload_n 0, 1) := by decide +kernel
theorem dX10_isSet_5 : decode cX10_isSet 5 = .ok (.getfield 114, 3) := by decide +kernel
theorem dX10_isSet_8 : decode cX10_isSet 8 = .ok (.ishl, 1) := by decide +kernel
theorem dX10_isSet_9 : decode cX10_isSet 9 = .ok (.iconst 1, 1) := by decide +kernel
theorem dX10_isSet_10 : decode cX10_isSet 10 = .ok (.isub, 1) := by decide +kernel
theorem dX10_isSet_11 : decode cX10_isSet 11 = .ok (.i2l, 1) := by decide +kernel
theorem dX10_isSet_12 : decode cX10_isSet 12 = .ok (.invokestatic 85, 3) := by decide +kernel
theorem dX10_isSet_15 : decode cX10_isSet 15 = .ok (.ireturn, 1) := by decide +kernel
theorem dX10_order_0 : decode cX10_order 0 = .ok (.aload_n 0, 1) := by decide +kernel
theorem dX10_order_1 : decode cX10_order 1 = .ok (.iload_n 1, 1) := by decide +kernel
theorem dX10_order_2 : decode cX10_order 2 = .ok (.invokevirtual 195, 3) := by decide +kernel
theorem dX10_order_5 : decode cX10_order 5 = .ok (.ifCond .eq 15, 3) := by decide +kernel
theorem dX10_order_8 : decode cX10_order 8 = .ok (.iload_n 2, 1) := by decide +kernel
theorem dX10_order_9 : decode cX10_order 9 = .ok (.i2l, 1) := by decide +kernel
theorem dX10_order_10 : decode cX10_order 10 = .ok (.lconst 0, 1) := by decide +kernel
theorem dX10_order_11 : decode cX10_order 11 = .ok (.ldc2_w 83, 3) := by decide +kernel
theorem dX10_order_14 : decode cX10_order 14 = .ok (.invokestatic 85, 3) := by decide +kernel
theorem dX10_order_17 : decode cX10_order 17 = .ok (.ifCond .ne 6, 3) := by decide +kernel
theorem dX10_order_20 : decode cX10_order 20 = .ok (.bipush (-102), 2) := by decide +kernel
theorem dX10_order_22 : decode cX10_order 22 = .ok (.ireturn, 1) := by decide +kernel
theorem dX10_order_23 : decode cX10_order 23 = .ok (.aload_n 0, 1) := by decide +kernel
theorem dX10_order_24 : decode cX10_order 24 = .ok (.getfield 198, 3) := by decide +kernel
theorem dX10_order_27 : decode cX10_order 27 = .ok (.bipush 40, 2) := by decide +kernel
theorem dX10_order_29 : decode cX10_order 29 = .ok (.if_icmp .ne 6, 3) := by decide +kernel
theorem dX10_order_32 : decode cX10_order 32 = .ok (.bipush (-103), 2) := by decide +kernel
theorem dX10_order_34 : decode cX10_order 34 = .ok (.ireturn, 1) := by decide +kernel
theorem dX10_order_35 : decode cX10_order 35 = .ok (.aload_n 0, 1) := by decide +kernel
theorem dX10_order_36 : decode cX10_order 36 = .ok (.dup, 1) := by decide +kernel
theorem dX10_order_37 : decode cX10_order 37 = .ok (.getfield 198, 3) := by decide +kernel
theorem dX10_order_40 : decode cX10_order 40 = .ok (.iconst 1, 1) := by decide +kernel
theorem dX10_order_41 : decode cX10_order 41 = .ok (.iadd, 1) := by decide +kernel
theorem dX10_order_42 : decode cX10_order 42 = .ok (.putfield 198, 3) := by decide +kernel
theorem dX10_order_45 : decode cX10_order 45 = .ok (.aload_n 0, 1) := by decide +kernel
theorem dX10_order_46 : decode cX10_order 46 = .ok (.iload_n 1, 1) := by decide +kernel
theorem dX10_order_47 : decode cX10_order 47 = .ok (.invokevirtual 201, 3) := by decide +kernel
theorem dX10_order_50 : decode cX10_order 50 = .ok (.iload_n 2, 1) := by decide +kernel
theorem dX10_order_51 : decode cX10_order 51 = .ok (.aload_n 0, 1) := by decide +kernel
theorem dX10_order_52 : decode cX10_order 52 = .ok (.getfield 185, 3) := by decide +kernel
theorem dX10_order_55 : decode cX10_order 55 = .ok (.if_icmp .ge 12, 3) := by decide +kernel
theorem dX10_order_58 : decode cX10_order 58 = .ok (.aload_n 0, 1) := by decide +kernel
theorem dX10_order_59 : decode cX10_order 59 = .ok (.getfield 31, 3) := by decide +kernel
theorem dX10_order_62 : decode cX10_order 62 = .ok (.iload_n 2, 1) := by decide +kernel
theorem dX10_order_63 : decode cX10_order 63 = .ok (.iaload, 1) := by decide +kernel
theorem dX10_order_64 : decode cX10_order 64 = .ok (.goto 4, 3) := by decide +kernel
theorem dX10_order_67 : decode cX10_order 67 = .ok (.iconst (-1), 1) := by decide +kernel
theorem dX10_order_68 : decode cX10_order 68 = .ok (.ireturn, 1) := by decide +kernel
theorem dX10_laws_0 : decode cX10_laws 0 = .ok (.aload_n 0, 1) := by decide +kernel
theorem dX10_laws_1 : decode cX10_laws 1 = .ok (.iload_n 1, 1) := by decide +kernel
theorem dX10_laws_2 : decode cX10_laws 2 = .ok (.invokevirtual 195, 3) := by decide +kernel
theorem dX10_laws_5 : decode cX10_laws 5 = .ok (.ifCond .eq 13, 3) := by decide +kernel
theorem dX10_laws_8 : decode cX10_laws 8 = .ok (.iload_n 2, 1) := by decide +kernel
theorem dX10_laws_9 : decode cX10_laws 9 = .ok (.i2l, 1) := by decide +kernel
theorem dX10_laws_10 : decode cX10_laws 10 = .ok (.lconst 0, 1) := by decide +kernel
theorem dX10_laws_11 : decode cX10_laws 11 = .ok (.lconst 1, 1) := by decide +kernel
theorem dX10_laws_12 : decode cX10_laws 12 = .ok (.invokestatic 85, 3) := by decide +kernel
theorem dX10_laws_15 : decode cX10_laws 15 = .ok (.ifCond .ne 6, 3) := by decide +kernel
theorem dX10_laws_18 : decode cX10_laws 18 = .ok (.bipush (-102), 2) := by decide +kernel
theorem dX10_laws_20 : decode cX10_laws 20 = .ok (.ireturn, 1) := by decide +kernel
theorem dX10_laws_21 : decode cX10_laws 21 = .ok (.aload_n 0, 1) := by decide +kernel
theorem dX10_laws_22 : decode cX10_laws 22 = .ok (.getfield 198, 3) := by decide +kernel
theorem dX10_laws_25 : decode cX10_laws 25 = .ok (.bipush 40, 2) := by decide +kernel
theorem dX10_laws_27 : decode cX10_laws 27 = .ok (.if_icmp .ne 6, 3) := by decide +kernel
theorem dX10_laws_30 : decode cX10_laws 30 = .ok (.bipush (-103), 2) := by decide +kernel
theorem dX10_laws_32 : decode cX10_laws 32 = .ok (.ireturn, 1) := by decide +kernel
theorem dX10_laws_33 : decode cX10_laws 33 = .ok (.aload_n 0, 1) := by decide +kernel
theorem dX10_laws_34 : decode cX10_laws 34 = .ok (.dup, 1) := by decide +kernel
theorem dX10_laws_35 : decode cX10_laws 35 = .ok (.getfield 198, 3) := by decide +kernel
theorem dX10_laws_38 : decode cX10_laws 38 = .ok (.iconst 1, 1) := by decide +kernel
theorem dX10_laws_39 : decode cX10_laws 39 = .ok (.iadd, 1) := by decide +kernel
theorem dX10_laws_40 : decode cX10_laws 40 = .ok (.putfield 198, 3) := by decide +kernel
theorem dX10_laws_43 : decode cX10_laws 43 = .ok (.aload_n 0, 1) := by decide +kernel
theorem dX10_laws_44 : decode cX10_laws 44 = .ok (.iload_n 1, 1) := by decide +kernel
theorem dX10_laws_45 : decode cX10_laws 45 = .ok (.invokevirtual 201, 3) := by decide +kernel
theorem dX10_laws_48 : decode cX10_laws 48 = .ok (.iconst 0, 1) := by decide +kernel
theorem dX10_laws_49 : decode cX10_laws 49 = .ok (.istore_n 3, 1) := by decide +kernel
theorem dX10_laws_50 : decode cX10_laws 50 = .ok (.iconst (-1), 1) := by decide +kernel
theorem dX10_laws_51 : decode cX10_laws 51 = .ok (.istore 4, 2) := by decide +kernel
theorem dX10_laws_53 : decode cX10_laws 53 = .ok (.iconst 0, 1) := by decide +kernel
theorem dX10_laws_54 : decode cX10_laws 54 = .ok (.istore 5, 2) := by decide +kernel
theorem dX10_laws_56 : decode cX10_laws 56 = .ok (.iload 5, 2) := by decide +kernel
theorem dX10_laws_58 : decode cX10_laws 58 = .ok (.sipush 1000, 3) := by decide +kernel
theorem dX10_laws_61 : decode cX10_laws 61 = .ok (.if_icmp .ge 46, 3) := by decide +kernel
theorem dX10_laws_64 : decode cX10_laws 64 = .ok (.iload_n 3, 1) := by decide +kernel
theorem dX10_laws_65 : decode cX10_laws 65 = .ok (.aload_n 0, 1) := by decide +kernel
theorem dX10_laws_66 : decode cX10_laws 66 = .ok (.getfield 34, 3) := by decide +kernel
theorem dX10_laws_69 : decode cX10_laws 69 = .ok (.iload 5, 2) := by decide +kernel
theorem dX10_laws_71 : decode cX10_laws 71 = .ok (.baload, 1) := by decide +kernel
theorem dX10_laws_72 : decode cX10_laws 72 = .ok (.ifCond .eq 7, 3) := by decide +kernel
theorem dX10_laws_75 : decode cX10_laws 75 = .ok (.iconst 1, 1) := by decide +kernel
theorem dX10_laws_76 : decode cX10_laws 76 = .ok (.goto 4, 3) := by decide +kernel
theorem dX10_laws_79 : decode cX10_laws 79 = .ok (.iconst 0, 1) := by decide +kernel
theorem dX10_laws_80 : decode cX10_laws 80 = .ok (.iadd, 1) := by decide +kernel
theorem dX10_laws_81 : decode cX10_laws 81 = .ok (.istore_n 3, 1) := by decide +kernel
theorem dX10_laws_82 : decode cX10_laws 82 = .ok (.aload_n 0, 1) := by decide +kernel
theorem dX10_laws_83 : decode cX10_laws 83 = .ok (.getfield 34, 3) := by decide +kernel
theorem dX10_laws_86 : decode cX10_laws 86 = .ok (.iload 5, 2) := by decide +kernel
theorem dX10_laws_88 : decode cX10_laws 88 = .ok (.baload, 1) := by decide +kernel
theorem dX10_laws_89 : decode cX10_laws 89 = .ok (.ifCond .eq 8, 3) := by decide +kernel
theorem dX10_laws_92 : decode cX10_laws 92 = .ok (.iload 5, 2) := by decide +kernel
theorem dX10_laws_94 : decode cX10_laws 94 = .ok (.goto 5, 3) := by decide +kernel
theorem dX10_laws_97 : decode cX10_laws 97 = .ok (.iload 4, 2) := by decide +kernel
theorem dX10_laws_99 : decode cX10_laws 99 = .ok (.istore 4, 2) := by decide +kernel
theorem dX10_laws_101 : decode cX10_laws 101 = .ok (.iinc 5 1, 3) := by decide +kernel
theorem dX10_laws_104 : decode cX10_laws 104 = .ok (.goto (-48), 3) := by decide +kernel
theorem dX10_laws_107 : decode cX10_laws 107 = .ok (.iload_n 2, 1) := by decide +kernel
theorem dX10_laws_108 : decode cX10_laws 108 = .ok (.ifCond .ne 7, 3) := by decide +kernel
theorem dX10_laws_111 : decode cX10_laws 111 = .ok (.iload_n 3, 1) := by decide +kernel
theorem dX10_laws_112 : decode cX10_laws 112 = .ok (.goto 5, 3) := by decide +kernel
theorem dX10_laws_115 : decode cX10_laws 115 = .ok (.iload 4, 2) := by decide +kernel
theorem dX10_laws_117 : decode cX10_laws 117 = .ok (.ireturn, 1) := by decide +kernel
theorem dX10_nextGets_0 : decode cX10_nextGets 0 = .ok (.aload_n 0, 1) := by decide +kernel
theorem dX10_nextGets_1 : decode cX10_nextGets 1 = .ok (.getfield 151, 3) := by decide +kernel
theorem dX10_nextGets_4 : decode cX10_nextGets 4 = .ok (.iconst 2, 1) := by decide +kernel
theorem dX10_nextGets_5 : decode cX10_nextGets 5 = .ok (.isub, 1) := by decide +kernel
theorem dX10_nextGets_6 : decode cX10_nextGets 6 = .ok (.istore_n 1, 1) := by decide +kernel
theorem dX10_nextGets_7 : decode cX10_nextGets 7 = .ok (.iload_n 1, 1) := by decide +kernel
theorem dX10_nextGets_8 : decode cX10_nextGets 8 = .ok (.ifCond .lt 26, 3) := by decide +kernel
theorem dX10_nextGets_11 : decode cX10_nextGets 11 = .ok (.aload_n 0, 1) := by decide +kernel
theorem dX10_nextGets_12 : decode cX10_nextGets 12 = .ok (.getfield 41, 3) := by decide +kernel
theorem dX10_nextGets_15 : decode cX10_nextGets 15 = .ok (.iload_n 1, 1) := by decide +kernel
theorem dX10_nextGets_16 : decode cX10_nextGets 16 = .ok (.iaload, 1) := by decide +kernel
theorem dX10_nextGets_17 : decode cX10_nextGets 17 = .ok (.aload_n 0, 1) := by decide +kernel
theorem dX10_nextGets_18 : decode cX10_nextGets 18 = .ok (.getfield 41, 3) := by decide +kernel
theorem dX10_nextGets_21 : decode cX10_nextGets 21 = .ok (.iload_n 1, 1) := by decide +kernel
theorem dX10_nextGets_22 : decode cX10_nextGets 22 = .ok (.iconst 1, 1) := by decide +kernel
theorem dX10_nextGets_23 : decode cX10_nextGets 23 = .ok (.iadd, 1) := by decide +kernel
theorem dX10_nextGets_24 : decode cX10_nextGets 24 = .ok (.iaload, 1) := by decide +kernel
theorem dX10_nextGets_25 : decode cX10_nextGets 25 = .ok (.if_icmp .le 9, 3) := by decide +kernel
theorem dX10_nextGets_28 : decode cX10_nextGets 28 = .ok (.iinc 1 (-1), 3) := by decide +kernel
theorem dX10_nextGets_31 : decode cX10_nextGets 31 = .ok (.goto (-24), 3) := by decide +kernel
theorem dX10_nextGets_34 : decode cX10_nextGets 34 = .ok (.iload_n 1, 1) := by decide +kernel
theorem dX10_nextGets_35 : decode cX10_nextGets 35 = .ok (.ifCond .ge 5, 3) := by decide +kernel
theorem dX10_nextGets_38 : decode cX10_nextGets 38 = .ok (.iconst 0, 1) := by decide +kernel
theorem dX10_nextGets_39 : decode cX10_nextGets 39 = .ok (.ireturn, 1) := by decide +kernel
theorem dX10_nextGets_40 : decode cX10_nextGets 40 = .ok (.aload_n 0, 1) := by decide +kernel
theorem dX10_nextGets_41 : decode cX10_nextGets 41 = .ok (.getfield 151, 3) := by decide +kernel
theorem dX10_nextGets_44 : decode cX10_nextGets 44 = .ok (.iconst 1, 1) := by decide +kernel
theorem dX10_nextGets_45 : decode cX10_nextGets 45 = .ok (.isub, 1) := by decide +kernel
theorem dX10_nextGets_46 : decode cX10_nextGets 46 = .ok (.istore_n 2, 1) := by decide +kernel
theorem dX10_nextGets_47 : decode cX10_nextGets 47 = .ok (.aload_n 0, 1) := by decide +kernel
theorem dX10_nextGets_48 : decode cX10_nextGets 48 = .ok (.getfield 41, 3) := by decide +kernel
theorem dX10_nextGets_51 : decode cX10_nextGets 51 = .ok (.iload_n 2, 1) := by decide +kernel
theorem dX10_nextGets_52 : decode cX10_nextGets 52 = .ok (.iaload, 1) := by decide +kernel
theorem dX10_nextGets_53 : decode cX10_nextGets 53 = .ok (.aload_n 0, 1) := by decide +kernel
theorem dX10_nextGets_54 : decode cX10_nextGets 54 = .ok (.getfield 41, 3) := by decide +kernel
theorem dX10_nextGets_57 : decode cX10_nextGets 57 = .ok (.iload_n 1, 1) := by decide +kernel
theorem dX10_nextGets_58 : decode cX10_nextGets 58 = .ok (.iaload, 1) := by decide +kernel
theorem dX10_nextGets_59 : decode cX10_nextGets 59 = .ok (.if_icmp .ge 9, 3) := by decide +kernel
theorem dX10_nextGets_62 : decode cX10_nextGets 62 = .ok (.iinc 2 (-1), 3) := by decide +kernel
theorem dX10_nextGets_65 : decode cX10_nextGets 65 = .ok (.goto (-18), 3) := by decide +kernel
theorem dX10_nextGets_68 : decode cX10_nextGets 68 = .ok (.aload_n 0, 1) := by decide +kernel
theorem dX10_nextGets_69 : decode cX10_nextGets 69 = .ok (.getfield 41, 3) := by decide +kernel
theorem dX10_nextGets_72 : decode cX10_nextGets 72 = .ok (.iload_n 1, 1) := by decide +kernel
theorem dX10_nextGets_73 : decode cX10_nextGets 73 = .ok (.iaload, 1) := by decide +kernel
theorem dX10_nextGets_74 : decode cX10_nextGets 74 = .ok (.istore_n 3, 1) := by decide +kernel
theorem dX10_nextGets_75 : decode cX10_nextGets 75 = .ok (.aload_n 0, 1) := by decide +kernel
theorem dX10_nextGets_76 : decode cX10_nextGets 76 = .ok (.getfield 41, 3) := by decide +kernel
theorem dX10_nextGets_79 : decode cX10_nextGets 79 = .ok (.iload_n 1, 1) := by decide +kernel
theorem dX10_nextGets_80 : decode cX10_nextGets 80 = .ok (.aload_n 0, 1) := by decide +kernel
theorem dX10_nextGets_81 : decode cX10_nextGets 81 = .ok (.getfield 41, 3) := by decide +kernel
theorem dX10_nextGets_84 : decode cX10_nextGets 84 = .ok (.iload_n 2, 1) := by decide +kernel
theorem dX10_nextGets_85 : decode cX10_nextGets 85 = .ok (.iaload, 1) := by decide +kernel
theorem dX10_nextGets_86 : decode cX10_nextGets 86 = .ok (.iastore, 1) := by decide +kernel
theorem dX10_nextGets_87 : decode cX10_nextGets 87 = .ok (.aload_n 0, 1) := by decide +kernel
theorem dX10_nextGets_88 : decode cX10_nextGets 88 = .ok (.getfield 41, 3) := by decide +kernel
theorem dX10_nextGets_91 : decode cX10_nextGets 91 = .ok (.iload_n 2, 1) := by decide +kernel
theorem dX10_nextGets_92 : decode cX10_nextGets 92 = .ok (.iload_n 3, 1) := by decide +kernel
theorem dX10_nextGets_93 : decode cX10_nextGets 93 = .ok (.iastore, 1) := by decide +kernel
theorem dX10_nextGets_94 : decode cX10_nextGets 94 = .ok (.aload_n 0, 1) := by decide +kernel
theorem dX10_nextGets_95 : decode cX10_nextGets 95 = .ok (.getfield 151, 3) := by decide +kernel
theorem dX10_nextGets_98 : decode cX10_nextGets 98 = .ok (.iconst 1, 1) := by decide +kernel
theorem dX10_nextGets_99 : decode cX10_nextGets 99 = .ok (.isub, 1) := by decide +kernel
theorem dX10_nextGets_100 : decode cX10_nextGets 100 = .ok (.istore 4, 2) := by decide +kernel
theorem dX10_nextGets_102 : decode cX10_nextGets 102 = .ok (.iload_n 1, 1) := by decide +kernel
theorem dX10_nextGets_103 : decode cX10_nextGets 103 = .ok (.iconst 1, 1) := by decide +kernel
theorem dX10_nextGets_104 : decode cX10_nextGets 104 = .ok (.iadd, 1) := by decide +kernel
theorem dX10_nextGets_105 : decode cX10_nextGets 105 = .ok (.istore 5, 2) := by decide +kernel
theorem dX10_nextGets_107 : decode cX10_nextGets 107 = .ok (.iload 5, 2) := by decide +kernel
theorem dX10_nextGets_109 : decode cX10_nextGets 109 = .ok (.iload 4, 2) := by decide +kernel
theorem dX10_nextGets_111 : decode cX10_nextGets 111 = .ok (.if_icmp .ge 42, 3) := by decide +kernel
theorem dX10_nextGets_114 : decode cX10_nextGets 114 = .ok (.aload_n 0, 1) := by decide +kernel
theorem dX10_nextGets_115 : decode cX10_nextGets 115 = .ok (.getfield 41, 3) := by decide +kernel
theorem dX10_nextGets_118 : decode cX10_nextGets 118 = .ok (.iload 5, 2) := by decide +kernel
theorem dX10_nextGets_120 : decode cX10_nextGets 120 = .ok (.iaload, 1) := by decide +kernel
theorem dX10_nextGets_121 : decode cX10_nextGets 121 = .ok (.istore_n 3, 1) := by decide +kernel
theorem dX10_nextGets_122 : decode cX10_nextGets 122 = .ok (.aload_n 0, 1) := by decide +kernel
theorem dX10_nextGets_123 : decode cX10_nextGets 123 = .ok (.getfield 41, 3) := by decide +kernel
theorem dX10_nextGets_126 : decode cX10_nextGets 126 = .ok (.iload 5, 2) := by decide +kernel
theorem dX10_nextGets_128 : decode cX10_nextGets 128 = .ok (.aload_n 0, 1) := by decide +kernel
theorem dX10_nextGets_129 : decode cX10_nextGets 129 = .ok (.getfield 41, 3) := by decide +kernel
theorem dX10_nextGets_132 : decode cX10_nextGets 132 = .ok (.iload 4, 2) := by decide +kernel
theorem dX10_nextGets_134 : decode cX10_nextGets 134 = .ok (.iaload, 1) := by decide +kernel
theorem dX10_nextGets_135 : decode cX10_nextGets 135 = .ok (.iastore, 1) := by decide +kernel
theorem dX10_nextGets_136 : decode cX10_nextGets 136 = .ok (.aload_n 0, 1) := by decide +kernel
theorem dX10_nextGets_137 : decode cX10_nextGets 137 = .ok (.getfield 41, 3) := by decide +kernel
theorem dX10_nextGets_140 : decode cX10_nextGets 140 = .ok (.iload 4, 2) := by decide +kernel
theorem dX10_nextGets_142 : decode cX10_nextGets 142 = .ok (.iload_n 3, 1) := by decide +kernel
theorem dX10_nextGets_143 : decode cX10_nextGets 143 = .ok (.iastore, 1) := by decide +kernel
theorem dX10_nextGets_144 : decode cX10_nextGets 144 = .ok (.iinc 4 (-1), 3) := by decide +kernel
theorem dX10_nextGets_147 : decode cX10_nextGets 147 = .ok (.iinc 5 1, 3) := by decide +kernel
theorem dX10_nextGets_150 : decode cX10_nextGets 150 = .ok (.goto (-43), 3) := by decide +kernel
theorem dX10_nextGets_153 : decode cX10_nextGets 153 = .ok (.iconst 1, 1) := by decide +kernel
theorem dX10_nextGets_154 : decode cX10_nextGets 154 = .ok (.ireturn, 1) := by decide +kernel
theorem dX10_changedOf_0 : decode cX10_changedOf 0 = .ok (.iconst 0, 1) := by decide +kernel
theorem dX10_changedOf_1 : decode cX10_changedOf 1 = .ok (.istore_n 1, 1) := by decide +kernel
theorem dX10_changedOf_2 : decode cX10_changedOf 2 = .ok (.iload_n 1, 1) := by decide +kernel
theorem dX10_changedOf_3 : decode cX10_changedOf 3 = .ok (.bipush 7, 2) := by decide +kernel
theorem dX10_changedOf_5 : decode cX10_changedOf 5 = .ok (.if_icmp .ge 16, 3) := by decide +kernel
theorem dX10_changedOf_8 : decode cX10_changedOf 8 = .ok (.aload_n 0, 1) := by decide +kernel
theorem dX10_changedOf_9 : decode cX10_changedOf 9 = .ok (.getfield 41, 3) := by decide +kernel
theorem dX10_changedOf_12 : decode cX10_changedOf 12 = .ok (.iload_n 1, 1) := by decide +kernel
theorem dX10_changedOf_13 : decode cX10_changedOf 13 = .ok (.iload_n 1, 1) := by decide +kernel
theorem dX10_changedOf_14 : decode cX10_changedOf 14 = .ok (.iastore, 1) := by decide +kernel
theorem dX10_changedOf_15 : decode cX10_changedOf 15 = .ok (.iinc 1 1, 3) := by decide +kernel
theorem dX10_changedOf_18 : decode cX10_changedOf 18 = .ok (.goto (-16), 3) := by decide +kernel
theorem dX10_changedOf_21 : decode cX10_changedOf 21 = .ok (.ldc 204, 2) := by decide +kernel
theorem dX10_changedOf_23 : decode cX10_changedOf 23 = .ok (.istore_n 1, 1) := by decide +kernel
theorem dX10_changedOf_24 : decode cX10_changedOf 24 = .ok (.aload_n 0, 1) := by decide +kernel
theorem dX10_changedOf_25 : decode cX10_changedOf 25 = .ok (.getfield 151, 3) := by decide +kernel
theorem dX10_changedOf_28 : decode cX10_changedOf 28 = .ok (.ifCond .le 7, 3) := by decide +kernel
theorem dX10_changedOf_31 : decode cX10_changedOf 31 = .ok (.iconst 1, 1) := by decide +kernel
theorem dX10_changedOf_32 : decode cX10_changedOf 32 = .ok (.goto 4, 3) := by decide +kernel
theorem dX10_changedOf_35 : decode cX10_changedOf 35 = .ok (.iconst 0, 1) := by decide +kernel
theorem dX10_changedOf_36 : decode cX10_changedOf 36 = .ok (.istore_n 2, 1) := by decide +kernel
theorem dX10_changedOf_37 : decode cX10_changedOf 37 = .ok (.iload_n 2, 1) := by decide +kernel
theorem dX10_changedOf_38 : decode cX10_changedOf 38 = .ok (.ifCond .eq 129, 3) := by decide +kernel
theorem dX10_changedOf_41 : decode cX10_changedOf 41 = .ok (.ldc 205, 2) := by decide +kernel
theorem dX10_changedOf_43 : decode cX10_changedOf 43 = .ok (.istore_n 3, 1) := by decide +kernel
theorem dX10_changedOf_44 : decode cX10_changedOf 44 = .ok (.iconst 0, 1) := by decide +kernel
theorem dX10_changedOf_45 : decode cX10_changedOf 45 = .ok (.istore 4, 2) := by decide +kernel
theorem dX10_changedOf_47 : decode cX10_changedOf 47 = .ok (.iload 4, 2) := by decide +kernel
theorem dX10_changedOf_49 : decode cX10_changedOf 49 = .ok (.aload_n 0, 1) := by decide +kernel
theorem dX10_changedOf_50 : decode cX10_changedOf 50 = .ok (.getfield 151, 3) := by decide +kernel
theorem dX10_changedOf_53 : decode cX10_changedOf 53 = .ok (.if_icmp .ge 95, 3) := by decide +kernel
theorem dX10_changedOf_56 : decode cX10_changedOf 56 = .ok (.aload_n 0, 1) := by decide +kernel
theorem dX10_changedOf_57 : decode cX10_changedOf 57 = .ok (.getfield 22, 3) := by decide +kernel
theorem dX10_changedOf_60 : decode cX10_changedOf 60 = .ok (.bipush 8, 2) := by decide +kernel
theorem dX10_changedOf_62 : decode cX10_changedOf 62 = .ok (.aload_n 0, 1) := by decide +kernel
theorem dX10_changedOf_63 : decode cX10_changedOf 63 = .ok (.getfield 25, 3) := by decide +kernel
theorem dX10_changedOf_66 : decode cX10_changedOf 66 = .ok (.iload 4, 2) := by decide +kernel
theorem dX10_changedOf_68 : decode cX10_changedOf 68 = .ok (.iaload, 1) := by decide +kernel
theorem dX10_changedOf_69 : decode cX10_changedOf 69 = .ok (.imul, 1) := by decide +kernel
theorem dX10_changedOf_70 : decode cX10_changedOf 70 = .ok (.iconst 4, 1) := by decide +kernel
theorem dX10_changedOf_71 : decode cX10_changedOf 71 = .ok (.iadd, 1) := by decide +kernel
theorem dX10_changedOf_72 : decode cX10_changedOf 72 = .ok (.iaload, 1) := by decide +kernel
theorem dX10_changedOf_73 : decode cX10_changedOf 73 = .ok (.istore 5, 2) := by decide +kernel
theorem dX10_changedOf_75 : decode cX10_changedOf 75 = .ok (.aload_n 0, 1) := by decide +kernel
theorem dX10_changedOf_76 : decode cX10_changedOf 76 = .ok (.aload_n 0, 1) := by decide +kernel
theorem dX10_changedOf_77 : decode cX10_changedOf 77 = .ok (.getfield 25, 3) := by decide +kernel
theorem dX10_changedOf_80 : decode cX10_changedOf 80 = .ok (.iload 4, 2) := by decide +kernel
theorem dX10_changedOf_82 : decode cX10_changedOf 82 = .ok (.iaload, 1) := by decide +kernel
theorem dX10_changedOf_83 : decode cX10_changedOf 83 = .ok (.invokevirtual 145, 3) := by decide +kernel
theorem dX10_changedOf_86 : decode cX10_changedOf 86 = .ok (.iload 5, 2) := by decide +kernel
theorem dX10_changedOf_88 : decode cX10_changedOf 88 = .ok (.isub, 1) := by decide +kernel
theorem dX10_changedOf_89 : decode cX10_changedOf 89 = .ok (.aload_n 0, 1) := by decide +kernel
theorem dX10_changedOf_90 : decode cX10_changedOf 90 = .ok (.getfield 22, 3) := by decide +kernel
theorem dX10_changedOf_93 : decode cX10_changedOf 93 = .ok (.bipush 8, 2) := by decide +kernel
theorem dX10_changedOf_95 : decode cX10_changedOf 95 = .ok (.aload_n 0, 1) := by decide +kernel
theorem dX10_changedOf_96 : decode cX10_changedOf 96 = .ok (.getfield 25, 3) := by decide +kernel
theorem dX10_changedOf_99 : decode cX10_changedOf 99 = .ok (.aload_n 0, 1) := by decide +kernel
theorem dX10_changedOf_100 : decode cX10_changedOf 100 = .ok (.getfield 41, 3) := by decide +kernel
theorem dX10_changedOf_103 : decode cX10_changedOf 103 = .ok (.iload 4, 2) := by decide +kernel
theorem dX10_changedOf_105 : decode cX10_changedOf 105 = .ok (.iaload, 1) := by decide +kernel
theorem dX10_changedOf_106 : decode cX10_changedOf 106 = .ok (.iaload, 1) := by decide +kernel
theorem dX10_changedOf_107 : decode cX10_changedOf 107 = .ok (.imul, 1) := by decide +kernel
theorem dX10_changedOf_108 : decode cX10_changedOf 108 = .ok (.iconst 4, 1) := by decide +kernel
theorem dX10_changedOf_109 : decode cX10_changedOf 109 = .ok (.iadd, 1) := by decide +kernel
theorem dX10_changedOf_110 : decode cX10_changedOf 110 = .ok (.iaload, 1) := by decide +kernel
theorem dX10_changedOf_111 : decode cX10_changedOf 111 = .ok (.iadd, 1) := by decide +kernel
theorem dX10_changedOf_112 : decode cX10_changedOf 112 = .ok (.aload_n 0, 1) := by decide +kernel
theorem dX10_changedOf_113 : decode cX10_changedOf 113 = .ok (.aload_n 0, 1) := by decide +kernel
theorem dX10_changedOf_114 : decode cX10_changedOf 114 = .ok (.getfield 25, 3) := by decide +kernel
theorem dX10_changedOf_117 : decode cX10_changedOf 117 = .ok (.aload_n 0, 1) := by decide +kernel
theorem dX10_changedOf_118 : decode cX10_changedOf 118 = .ok (.getfield 151, 3) := by decide +kernel
theorem dX10_changedOf_121 : decode cX10_changedOf 121 = .ok (.iload 4, 2) := by decide +kernel
theorem dX10_changedOf_123 : decode cX10_changedOf 123 = .ok (.invokevirtual 141, 3) := by decide +kernel
theorem dX10_changedOf_126 : decode cX10_changedOf 126 = .ok (.isub, 1) := by decide +kernel
theorem dX10_changedOf_127 : decode cX10_changedOf 127 = .ok (.istore 6, 2) := by decide +kernel
theorem dX10_changedOf_129 : decode cX10_changedOf 129 = .ok (.iload 6, 2) := by decide +kernel
theorem dX10_changedOf_131 : decode cX10_changedOf 131 = .ok (.iload_n 3, 1) := by decide +kernel
theorem dX10_changedOf_132 : decode cX10_changedOf 132 = .ok (.if_icmp .ge 8, 3) := by decide +kernel
theorem dX10_changedOf_135 : decode cX10_changedOf 135 = .ok (.iload 6, 2) := by decide +kernel
theorem dX10_changedOf_137 : decode cX10_changedOf 137 = .ok (.goto 4, 3) := by decide +kernel
theorem dX10_changedOf_140 : decode cX10_changedOf 140 = .ok (.iload_n 3, 1) := by decide +kernel
theorem dX10_changedOf_141 : decode cX10_changedOf 141 = .ok (.istore_n 3, 1) := by decide +kernel
theorem dX10_changedOf_142 : decode cX10_changedOf 142 = .ok (.iinc 4 1, 3) := by decide +kernel
theorem dX10_changedOf_145 : decode cX10_changedOf 145 = .ok (.goto (-98), 3) := by decide +kernel
theorem dX10_changedOf_148 : decode cX10_changedOf 148 = .ok (.iload_n 3, 1) := by decide +kernel
theorem dX10_changedOf_149 : decode cX10_changedOf 149 = .ok (.iload_n 1, 1) := by decide +kernel
theorem dX10_changedOf_150 : decode cX10_changedOf 150 = .ok (.if_icmp .le 7, 3) := by decide +kernel
theorem dX10_changedOf_153 : decode cX10_changedOf 153 = .ok (.iload_n 3, 1) := by decide +kernel
theorem dX10_changedOf_154 : decode cX10_changedOf 154 = .ok (.goto 4, 3) := by decide +kernel
theorem dX10_changedOf_157 : decode cX10_changedOf 157 = .ok (.iload_n 1, 1) := by decide +kernel
theorem dX10_changedOf_158 : decode cX10_changedOf 158 = .ok (.istore_n 1, 1) := by decide +kernel
theorem dX10_changedOf_159 : decode cX10_changedOf 159 = .ok (.aload_n 0, 1) := by decide +kernel
theorem dX10_changedOf_160 : decode cX10_changedOf 160 = .ok (.invokevirtual 206, 3) := by decide +kernel
theorem dX10_changedOf_163 : decode cX10_changedOf 163 = .ok (.istore_n 2, 1) := by decide +kernel
theorem dX10_changedOf_164 : decode cX10_changedOf 164 = .ok (.goto (-127), 3) := by decide +kernel
theorem dX10_changedOf_167 : decode cX10_changedOf 167 = .ok (.aload_n 0, 1) := by decide +kernel
theorem dX10_changedOf_168 : decode cX10_changedOf 168 = .ok (.getfield 151, 3) := by decide +kernel
theorem dX10_changedOf_171 : decode cX10_changedOf 171 = .ok (.ifCond .ne 7, 3) := by decide +kernel
theorem dX10_changedOf_174 : decode cX10_changedOf 174 = .ok (.iconst (-1), 1) := by decide +kernel
theorem dX10_changedOf_175 : decode cX10_changedOf 175 = .ok (.goto 4, 3) := by decide +kernel
theorem dX10_changedOf_178 : decode cX10_changedOf 178 = .ok (.iload_n 1, 1) := by decide +kernel
theorem dX10_changedOf_179 : decode cX10_changedOf 179 = .ok (.ireturn, 1) := by decide +kernel
theorem dX10_changed_0 : decode cX10_changed 0 = .ok (.aload_n 0, 1) := by decide +kernel
theorem dX10_changed_1 : decode cX10_changed 1 = .ok (.invokevirtual 209, 3) := by decide +kernel
theorem dX10_changed_4 : decode cX10_changed 4 = .ok (.ireturn, 1) := by decide +kernel
theorem dX10_onTop_0 : decode cX10_onTop 0 = .ok (.aload_n 0, 1) := by decide +kernel
theorem dX10_onTop_1 : decode cX10_onTop 1 = .ok (.getfield 175, 3) := by decide +kernel
theorem dX10_onTop_4 : decode cX10_onTop 4 = .ok (.ifCond .ne 7, 3) := by decide +kernel
theorem dX10_onTop_7 : decode cX10_onTop 7 = .ok (.iconst 2, 1) := by decide +kernel
theorem dX10_onTop_8 : decode cX10_onTop 8 = .ok (.goto 24, 3) := by decide +kernel
theorem dX10_onTop_11 : decode cX10_onTop 11 = .ok (.aload_n 0, 1) := by decide +kernel
theorem dX10_onTop_12 : decode cX10_onTop 12 = .ok (.getfield 22, 3) := by decide +kernel
theorem dX10_onTop_15 : decode cX10_onTop 15 = .ok (.bipush 8, 2) := by decide +kernel
theorem dX10_onTop_17 : decode cX10_onTop 17 = .ok (.aload_n 0, 1) := by decide +kernel
theorem dX10_onTop_18 : decode cX10_onTop 18 = .ok (.getfield 28, 3) := by decide +kernel
theorem dX10_onTop_21 : decode cX10_onTop 21 = .ok (.aload_n 0, 1) := by decide +kernel
theorem dX10_onTop_22 : decode cX10_onTop 22 = .ok (.getfield 175, 3) := by decide +kernel
theorem dX10_onTop_25 : decode cX10_onTop 25 = .ok (.iconst 1, 1) := by decide +kernel
theorem dX10_onTop_26 : decode cX10_onTop 26 = .ok (.isub, 1) := by decide +kernel
theorem dX10_onTop_27 : decode cX10_onTop 27 = .ok (.iaload, 1) := by decide +kernel
theorem dX10_onTop_28 : decode cX10_onTop 28 = .ok (.imul, 1) := by decide +kernel
theorem dX10_onTop_29 : decode cX10_onTop 29 = .ok (.iconst 3, 1) := by decide +kernel
theorem dX10_onTop_30 : decode cX10_onTop 30 = .ok (.iadd, 1) := by decide +kernel
theorem dX10_onTop_31 : decode cX10_onTop 31 = .ok (.iaload, 1) := by decide +kernel
theorem dX10_onTop_32 : decode cX10_onTop 32 = .ok (.istore_n 1, 1) := by decide +kernel
theorem dX10_onTop_33 : decode cX10_onTop 33 = .ok (.iload_n 1, 1) := by decide +kernel
theorem dX10_onTop_34 : decode cX10_onTop 34 = .ok (.ifCond .ne 7, 3) := by decide +kernel
theorem dX10_onTop_37 : decode cX10_onTop 37 = .ok (.iconst 1, 1) := by decide +kernel
theorem dX10_onTop_38 : decode cX10_onTop 38 = .ok (.goto 13, 3) := by decide +kernel
theorem dX10_onTop_41 : decode cX10_onTop 41 = .ok (.iload_n 1, 1) := by decide +kernel
theorem dX10_onTop_42 : decode cX10_onTop 42 = .ok (.iconst 1, 1) := by decide +kernel
theorem dX10_onTop_43 : decode cX10_onTop 43 = .ok (.if_icmp .ne 7, 3) := by decide +kernel
theorem dX10_onTop_46 : decode cX10_onTop 46 = .ok (.iconst (-1), 1) := by decide +kernel
theorem dX10_onTop_47 : decode cX10_onTop 47 = .ok (.goto 4, 3) := by decide +kernel
theorem dX10_onTop_50 : decode cX10_onTop 50 = .ok (.iconst 0, 1) := by decide +kernel
theorem dX10_onTop_51 : decode cX10_onTop 51 = .ok (.ireturn, 1) := by decide +kernel
theorem dX10_saveAt_0 : decode cX10_saveAt 0 = .ok (.iconst 0, 1) := by decide +kernel
theorem dX10_saveAt_1 : decode cX10_saveAt 1 = .ok (.istore_n 2, 1) := by decide +kernel
theorem dX10_saveAt_2 : decode cX10_saveAt 2 = .ok (.iload_n 2, 1) := by decide +kernel
theorem dX10_saveAt_3 : decode cX10_saveAt 3 = .ok (.aload_n 0, 1) := by decide +kernel
theorem dX10_saveAt_4 : decode cX10_saveAt 4 = .ok (.getfield 175, 3) := by decide +kernel
theorem dX10_saveAt_7 : decode cX10_saveAt 7 = .ok (.if_icmp .ge 26, 3) := by decide +kernel
theorem dX10_saveAt_10 : decode cX10_saveAt 10 = .ok (.aload_n 0, 1) := by decide +kernel
theorem dX10_saveAt_11 : decode cX10_saveAt 11 = .ok (.getfield 50, 3) := by decide +kernel
theorem dX10_saveAt_14 : decode cX10_saveAt 14 = .ok (.bipush 7, 2) := by decide +kernel
theorem dX10_saveAt_16 : decode cX10_saveAt 16 = .ok (.iload_n 1, 1) := by decide +kernel
theorem dX10_saveAt_17 : decode cX10_saveAt 17 = .ok (.imul, 1) := by decide +kernel
theorem dX10_saveAt_18 : decode cX10_saveAt 18 = .ok (.iload_n 2, 1) := by decide +kernel
theorem dX10_saveAt_19 : decode cX10_saveAt 19 = .ok (.iadd, 1) := by decide +kernel
theorem dX10_saveAt_20 : decode cX10_saveAt 20 = .ok (.aload_n 0, 1) := by decide +kernel
theorem dX10_saveAt_21 : decode cX10_saveAt 21 = .ok (.getfield 28, 3) := by decide +kernel
theorem dX10_saveAt_24 : decode cX10_saveAt 24 = .ok (.iload_n 2, 1) := by decide +kernel
theorem dX10_saveAt_25 : decode cX10_saveAt 25 = .ok (.iaload, 1) := by decide +kernel
theorem dX10_saveAt_26 : decode cX10_saveAt 26 = .ok (.iastore, 1) := by decide +kernel
theorem dX10_saveAt_27 : decode cX10_saveAt 27 = .ok (.iinc 2 1, 3) := by decide +kernel
theorem dX10_saveAt_30 : decode cX10_saveAt 30 = .ok (.goto (-28), 3) := by decide +kernel
theorem dX10_saveAt_33 : decode cX10_saveAt 33 = .ok (.aload_n 0, 1) := by decide +kernel
theorem dX10_saveAt_34 : decode cX10_saveAt 34 = .ok (.getfield 53, 3) := by decide +kernel
theorem dX10_saveAt_37 : decode cX10_saveAt 37 = .ok (.iload_n 1, 1) := by decide +kernel
theorem dX10_saveAt_38 : decode cX10_saveAt 38 = .ok (.aload_n 0, 1) := by decide +kernel
theorem dX10_saveAt_39 : decode cX10_saveAt 39 = .ok (.getfield 175, 3) := by decide +kernel
theorem dX10_saveAt_42 : decode cX10_saveAt 42 = .ok (.iastore, 1) := by decide +kernel
theorem dX10_saveAt_43 : decode cX10_saveAt 43 = .ok (.return_, 1) := by decide +kernel
theorem dX10_backTo_0 : decode cX10_backTo 0 = .ok (.aload_n 0, 1) := by decide +kernel
theorem dX10_backTo_1 : decode cX10_backTo 1 = .ok (.aload_n 0, 1) := by decide +kernel
theorem dX10_backTo_2 : decode cX10_backTo 2 = .ok (.getfield 53, 3) := by decide +kernel
theorem dX10_backTo_5 : decode cX10_backTo 5 = .ok (.iload_n 1, 1) := by decide +kernel
theorem dX10_backTo_6 : decode cX10_backTo 6 = .ok (.iaload, 1) := by decide +kernel
theorem dX10_backTo_7 : decode cX10_backTo 7 = .ok (.putfield 175, 3) := by decide +kernel
theorem dX10_backTo_10 : decode cX10_backTo 10 = .ok (.iconst 0, 1) := by decide +kernel
theorem dX10_backTo_11 : decode cX10_backTo 11 = .ok (.istore_n 2, 1) := by decide +kernel
theorem dX10_backTo_12 : decode cX10_backTo 12 = .ok (.iload_n 2, 1) := by decide +kernel
theorem dX10_backTo_13 : decode cX10_backTo 13 = .ok (.aload_n 0, 1) := by decide +kernel
theorem dX10_backTo_14 : decode cX10_backTo 14 = .ok (.getfield 175, 3) := by decide +kernel
theorem dX10_backTo_17 : decode cX10_backTo 17 = .ok (.if_icmp .ge 26, 3) := by decide +kernel
theorem dX10_backTo_20 : decode cX10_backTo 20 = .ok (.aload_n 0, 1) := by decide +kernel
theorem dX10_backTo_21 : decode cX10_backTo 21 = .ok (.getfield 28, 3) := by decide +kernel
theorem dX10_backTo_24 : decode cX10_backTo 24 = .ok (.iload_n 2, 1) := by decide +kernel
theorem dX10_backTo_25 : decode cX10_backTo 25 = .ok (.aload_n 0, 1) := by decide +kernel
theorem dX10_backTo_26 : decode cX10_backTo 26 = .ok (.getfield 50, 3) := by decide +kernel
theorem dX10_backTo_29 : decode cX10_backTo 29 = .ok (.bipush 7, 2) := by decide +kernel
theorem dX10_backTo_31 : decode cX10_backTo 31 = .ok (.iload_n 1, 1) := by decide +kernel
theorem dX10_backTo_32 : decode cX10_backTo 32 = .ok (.imul, 1) := by decide +kernel
theorem dX10_backTo_33 : decode cX10_backTo 33 = .ok (.iload_n 2, 1) := by decide +kernel
theorem dX10_backTo_34 : decode cX10_backTo 34 = .ok (.iadd, 1) := by decide +kernel
theorem dX10_backTo_35 : decode cX10_backTo 35 = .ok (.iaload, 1) := by decide +kernel
theorem dX10_backTo_36 : decode cX10_backTo 36 = .ok (.iastore, 1) := by decide +kernel
theorem dX10_backTo_37 : decode cX10_backTo 37 = .ok (.iinc 2 1, 3) := by decide +kernel
theorem dX10_backTo_40 : decode cX10_backTo 40 = .ok (.goto (-28), 3) := by decide +kernel
theorem dX10_backTo_43 : decode cX10_backTo 43 = .ok (.return_, 1) := by decide +kernel
theorem dX10_nextOne_0 : decode cX10_nextOne 0 = .ok (.iload_n 1, 1) := by decide +kernel
theorem dX10_nextOne_1 : decode cX10_nextOne 1 = .ok (.istore_n 3, 1) := by decide +kernel
theorem dX10_nextOne_2 : decode cX10_nextOne 2 = .ok (.iload_n 3, 1) := by decide +kernel
theorem dX10_nextOne_3 : decode cX10_nextOne 3 = .ok (.aload_n 0, 1) := by decide +kernel
theorem dX10_nextOne_4 : decode cX10_nextOne 4 = .ok (.getfield 114, 3) := by decide +kernel
theorem dX10_nextOne_7 : decode cX10_nextOne 7 = .ok (.if_icmp .ge 40, 3) := by decide +kernel
theorem dX10_nextOne_10 : decode cX10_nextOne 10 = .ok (.aload_n 0, 1) := by decide +kernel
theorem dX10_nextOne_11 : decode cX10_nextOne 11 = .ok (.getfield 22, 3) := by decide +kernel
theorem dX10_nextOne_14 : decode cX10_nextOne 14 = .ok (.bipush 8, 2) := by decide +kernel
theorem dX10_nextOne_16 : decode cX10_nextOne 16 = .ok (.iload_n 3, 1) := by decide +kernel
theorem dX10_nextOne_17 : decode cX10_nextOne 17 = .ok (.imul, 1) := by decide +kernel
theorem dX10_nextOne_18 : decode cX10_nextOne 18 = .ok (.iconst 3, 1) := by decide +kernel
theorem dX10_nextOne_19 : decode cX10_nextOne 19 = .ok (.iadd, 1) := by decide +kernel
theorem dX10_nextOne_20 : decode cX10_nextOne 20 = .ok (.iaload, 1) := by decide +kernel
theorem dX10_nextOne_21 : decode cX10_nextOne 21 = .ok (.iload_n 2, 1) := by decide +kernel
theorem dX10_nextOne_22 : decode cX10_nextOne 22 = .ok (.if_icmp .ne 19, 3) := by decide +kernel
theorem dX10_nextOne_25 : decode cX10_nextOne 25 = .ok (.aload_n 0, 1) := by decide +kernel
theorem dX10_nextOne_26 : decode cX10_nextOne 26 = .ok (.iload_n 3, 1) := by decide +kernel
theorem dX10_nextOne_27 : decode cX10_nextOne 27 = .ok (.aload_n 0, 1) := by decide +kernel
theorem dX10_nextOne_28 : decode cX10_nextOne 28 = .ok (.getfield 28, 3) := by decide +kernel
theorem dX10_nextOne_31 : decode cX10_nextOne 31 = .ok (.aload_n 0, 1) := by decide +kernel
theorem dX10_nextOne_32 : decode cX10_nextOne 32 = .ok (.getfield 175, 3) := by decide +kernel
theorem dX10_nextOne_35 : decode cX10_nextOne 35 = .ok (.invokevirtual 161, 3) := by decide +kernel
theorem dX10_nextOne_38 : decode cX10_nextOne 38 = .ok (.ifCond .ne 9, 3) := by decide +kernel
theorem dX10_nextOne_41 : decode cX10_nextOne 41 = .ok (.iinc 3 1, 3) := by decide +kernel
theorem dX10_nextOne_44 : decode cX10_nextOne 44 = .ok (.goto (-42), 3) := by decide +kernel
theorem dX10_nextOne_47 : decode cX10_nextOne 47 = .ok (.iload_n 3, 1) := by decide +kernel
theorem dX10_nextOne_48 : decode cX10_nextOne 48 = .ok (.ireturn, 1) := by decide +kernel
theorem dX10_midnightOf_0 : decode cX10_midnightOf 0 = .ok (.iconst 0, 1) := by decide +kernel
theorem dX10_midnightOf_1 : decode cX10_midnightOf 1 = .ok (.istore_n 2, 1) := by decide +kernel
theorem dX10_midnightOf_2 : decode cX10_midnightOf 2 = .ok (.iload_n 2, 1) := by decide +kernel
theorem dX10_midnightOf_3 : decode cX10_midnightOf 3 = .ok (.aload_n 0, 1) := by decide +kernel
theorem dX10_midnightOf_4 : decode cX10_midnightOf 4 = .ok (.getfield 151, 3) := by decide +kernel
theorem dX10_midnightOf_7 : decode cX10_midnightOf 7 = .ok (.if_icmp .ge 21, 3) := by decide +kernel
theorem dX10_midnightOf_10 : decode cX10_midnightOf 10 = .ok (.aload_n 0, 1) := by decide +kernel
theorem dX10_midnightOf_11 : decode cX10_midnightOf 11 = .ok (.getfield 28, 3) := by decide +kernel
theorem dX10_midnightOf_14 : decode cX10_midnightOf 14 = .ok (.iload_n 2, 1) := by decide +kernel
theorem dX10_midnightOf_15 : decode cX10_midnightOf 15 = .ok (.aload_n 0, 1) := by decide +kernel
theorem dX10_midnightOf_16 : decode cX10_midnightOf 16 = .ok (.getfield 25, 3) := by decide +kernel
theorem dX10_midnightOf_19 : decode cX10_midnightOf 19 = .ok (.iload_n 2, 1) := by decide +kernel
theorem dX10_midnightOf_20 : decode cX10_midnightOf 20 = .ok (.iaload, 1) := by decide +kernel
theorem dX10_midnightOf_21 : decode cX10_midnightOf 21 = .ok (.iastore, 1) := by decide +kernel
theorem dX10_midnightOf_22 : decode cX10_midnightOf 22 = .ok (.iinc 2 1, 3) := by decide +kernel
theorem dX10_midnightOf_25 : decode cX10_midnightOf 25 = .ok (.goto (-23), 3) := by decide +kernel
theorem dX10_midnightOf_28 : decode cX10_midnightOf 28 = .ok (.aload_n 0, 1) := by decide +kernel
theorem dX10_midnightOf_29 : decode cX10_midnightOf 29 = .ok (.aload_n 0, 1) := by decide +kernel
theorem dX10_midnightOf_30 : decode cX10_midnightOf 30 = .ok (.getfield 151, 3) := by decide +kernel
theorem dX10_midnightOf_33 : decode cX10_midnightOf 33 = .ok (.putfield 175, 3) := by decide +kernel
theorem dX10_midnightOf_36 : decode cX10_midnightOf 36 = .ok (.iconst 0, 1) := by decide +kernel
theorem dX10_midnightOf_37 : decode cX10_midnightOf 37 = .ok (.istore_n 2, 1) := by decide +kernel
theorem dX10_midnightOf_38 : decode cX10_midnightOf 38 = .ok (.aload_n 0, 1) := by decide +kernel
theorem dX10_midnightOf_39 : decode cX10_midnightOf 39 = .ok (.iconst 0, 1) := by decide +kernel
theorem dX10_midnightOf_40 : decode cX10_midnightOf 40 = .ok (.invokevirtual 212, 3) := by decide +kernel
theorem dX10_midnightOf_43 : decode cX10_midnightOf 43 = .ok (.aload_n 0, 1) := by decide +kernel
theorem dX10_midnightOf_44 : decode cX10_midnightOf 44 = .ok (.getfield 44, 3) := by decide +kernel
theorem dX10_midnightOf_47 : decode cX10_midnightOf 47 = .ok (.iconst 0, 1) := by decide +kernel
theorem dX10_midnightOf_48 : decode cX10_midnightOf 48 = .ok (.iconst (-1), 1) := by decide +kernel
theorem dX10_midnightOf_49 : decode cX10_midnightOf 49 = .ok (.iastore, 1) := by decide +kernel
theorem dX10_midnightOf_50 : decode cX10_midnightOf 50 = .ok (.aload_n 0, 1) := by decide +kernel
theorem dX10_midnightOf_51 : decode cX10_midnightOf 51 = .ok (.getfield 47, 3) := by decide +kernel
theorem dX10_midnightOf_54 : decode cX10_midnightOf 54 = .ok (.iconst 0, 1) := by decide +kernel
theorem dX10_midnightOf_55 : decode cX10_midnightOf 55 = .ok (.bipush (-2), 2) := by decide +kernel
theorem dX10_midnightOf_57 : decode cX10_midnightOf 57 = .ok (.iastore, 1) := by decide +kernel
theorem dX10_midnightOf_58 : decode cX10_midnightOf 58 = .ok (.iconst 0, 1) := by decide +kernel
theorem dX10_midnightOf_59 : decode cX10_midnightOf 59 = .ok (.istore_n 3, 1) := by decide +kernel
theorem dX10_midnightOf_60 : decode cX10_midnightOf 60 = .ok (.iload_n 2, 1) := by decide +kernel
theorem dX10_midnightOf_61 : decode cX10_midnightOf 61 = .ok (.ifCond .lt 197, 3) := by decide +kernel
theorem dX10_midnightOf_64 : decode cX10_midnightOf 64 = .ok (.iload_n 2, 1) := by decide +kernel
theorem dX10_midnightOf_65 : decode cX10_midnightOf 65 = .ok (.iconst 2, 1) := by decide +kernel
theorem dX10_midnightOf_66 : decode cX10_midnightOf 66 = .ok (.irem, 1) := by decide +kernel
theorem dX10_midnightOf_67 : decode cX10_midnightOf 67 = .ok (.istore 4, 2) := by decide +kernel
theorem dX10_midnightOf_69 : decode cX10_midnightOf 69 = .ok (.aload_n 0, 1) := by decide +kernel
theorem dX10_midnightOf_70 : decode cX10_midnightOf 70 = .ok (.iload_n 2, 1) := by decide +kernel
theorem dX10_midnightOf_71 : decode cX10_midnightOf 71 = .ok (.invokevirtual 215, 3) := by decide +kernel
theorem dX10_midnightOf_74 : decode cX10_midnightOf 74 = .ok (.aload_n 0, 1) := by decide +kernel
theorem dX10_midnightOf_75 : decode cX10_midnightOf 75 = .ok (.getfield 44, 3) := by decide +kernel
theorem dX10_midnightOf_78 : decode cX10_midnightOf 78 = .ok (.iload_n 2, 1) := by decide +kernel
theorem dX10_midnightOf_79 : decode cX10_midnightOf 79 = .ok (.iaload, 1) := by decide +kernel
theorem dX10_midnightOf_80 : decode cX10_midnightOf 80 = .ok (.iconst (-1), 1) := by decide +kernel
theorem dX10_midnightOf_81 : decode cX10_midnightOf 81 = .ok (.if_icmp .ne 7, 3) := by decide +kernel
theorem dX10_midnightOf_84 : decode cX10_midnightOf 84 = .ok (.iconst (-1), 1) := by decide +kernel
theorem dX10_midnightOf_85 : decode cX10_midnightOf 85 = .ok (.goto 15, 3) := by decide +kernel
theorem dX10_midnightOf_88 : decode cX10_midnightOf 88 = .ok (.aload_n 0, 1) := by decide +kernel
theorem dX10_midnightOf_89 : decode cX10_midnightOf 89 = .ok (.aload_n 0, 1) := by decide +kernel
theorem dX10_midnightOf_90 : decode cX10_midnightOf 90 = .ok (.getfield 44, 3) := by decide +kernel
theorem dX10_midnightOf_93 : decode cX10_midnightOf 93 = .ok (.iload_n 2, 1) := by decide +kernel
theorem dX10_midnightOf_94 : decode cX10_midnightOf 94 = .ok (.iaload, 1) := by decide +kernel
theorem dX10_midnightOf_95 : decode cX10_midnightOf 95 = .ok (.iload 4, 2) := by decide +kernel
theorem dX10_midnightOf_97 : decode cX10_midnightOf 97 = .ok (.invokevirtual 218, 3) := by decide +kernel
theorem dX10_midnightOf_100 : decode cX10_midnightOf 100 = .ok (.istore 5, 2) := by decide +kernel
theorem dX10_midnightOf_102 : decode cX10_midnightOf 102 = .ok (.iload 5, 2) := by decide +kernel
theorem dX10_midnightOf_104 : decode cX10_midnightOf 104 = .ok (.aload_n 0, 1) := by decide +kernel
theorem dX10_midnightOf_105 : decode cX10_midnightOf 105 = .ok (.getfield 114, 3) := by decide +kernel
theorem dX10_midnightOf_108 : decode cX10_midnightOf 108 = .ok (.if_icmp .ne 17, 3) := by decide +kernel
theorem dX10_midnightOf_111 : decode cX10_midnightOf 111 = .ok (.aload_n 0, 1) := by decide +kernel
theorem dX10_midnightOf_112 : decode cX10_midnightOf 112 = .ok (.getfield 44, 3) := by decide +kernel
theorem dX10_midnightOf_115 : decode cX10_midnightOf 115 = .ok (.iload_n 2, 1) := by decide +kernel
theorem dX10_midnightOf_116 : decode cX10_midnightOf 116 = .ok (.iaload, 1) := by decide +kernel
theorem dX10_midnightOf_117 : decode cX10_midnightOf 117 = .ok (.iconst (-1), 1) := by decide +kernel
theorem dX10_midnightOf_118 : decode cX10_midnightOf 118 = .ok (.if_icmp .eq 7, 3) := by decide +kernel
theorem dX10_midnightOf_121 : decode cX10_midnightOf 121 = .ok (.iconst 1, 1) := by decide +kernel
theorem dX10_midnightOf_122 : decode cX10_midnightOf 122 = .ok (.goto 4, 3) := by decide +kernel
theorem dX10_midnightOf_125 : decode cX10_midnightOf 125 = .ok (.iconst 0, 1) := by decide +kernel
theorem dX10_midnightOf_126 : decode cX10_midnightOf 126 = .ok (.istore 6, 2) := by decide +kernel
theorem dX10_midnightOf_128 : decode cX10_midnightOf 128 = .ok (.iload 6, 2) := by decide +kernel
theorem dX10_midnightOf_130 : decode cX10_midnightOf 130 = .ok (.ifCond .eq 41, 3) := by decide +kernel
theorem dX10_midnightOf_133 : decode cX10_midnightOf 133 = .ok (.iload 4, 2) := by decide +kernel
theorem dX10_midnightOf_135 : decode cX10_midnightOf 135 = .ok (.ifCond .ne 12, 3) := by decide +kernel
theorem dX10_midnightOf_138 : decode cX10_midnightOf 138 = .ok (.aload_n 0, 1) := by decide +kernel
theorem dX10_midnightOf_139 : decode cX10_midnightOf 139 = .ok (.getfield 47, 3) := by decide +kernel
theorem dX10_midnightOf_142 : decode cX10_midnightOf 142 = .ok (.iload_n 2, 1) := by decide +kernel
theorem dX10_midnightOf_143 : decode cX10_midnightOf 143 = .ok (.iaload, 1) := by decide +kernel
theorem dX10_midnightOf_144 : decode cX10_midnightOf 144 = .ok (.goto 10, 3) := by decide +kernel
theorem dX10_midnightOf_147 : decode cX10_midnightOf 147 = .ok (.aload_n 0, 1) := by decide +kernel
theorem dX10_midnightOf_148 : decode cX10_midnightOf 148 = .ok (.getfield 47, 3) := by decide +kernel
theorem dX10_midnightOf_151 : decode cX10_midnightOf 151 = .ok (.iload_n 2, 1) := by decide +kernel
theorem dX10_midnightOf_152 : decode cX10_midnightOf 152 = .ok (.iaload, 1) := by decide +kernel
theorem dX10_midnightOf_153 : decode cX10_midnightOf 153 = .ok (.ineg, 1) := by decide +kernel
theorem dX10_midnightOf_154 : decode cX10_midnightOf 154 = .ok (.istore_n 3, 1) := by decide +kernel
theorem dX10_midnightOf_155 : decode cX10_midnightOf 155 = .ok (.iinc 2 (-1), 3) := by decide +kernel
theorem dX10_midnightOf_158 : decode cX10_midnightOf 158 = .ok (.iload_n 2, 1) := by decide +kernel
theorem dX10_midnightOf_159 : decode cX10_midnightOf 159 = .ok (.ifCond .lt 96, 3) := by decide +kernel
theorem dX10_midnightOf_162 : decode cX10_midnightOf 162 = .ok (.aload_n 0, 1) := by decide +kernel
theorem dX10_midnightOf_163 : decode cX10_midnightOf 163 = .ok (.iload_n 2, 1) := by decide +kernel
theorem dX10_midnightOf_164 : decode cX10_midnightOf 164 = .ok (.iload_n 3, 1) := by decide +kernel
theorem dX10_midnightOf_165 : decode cX10_midnightOf 165 = .ok (.invokevirtual 221, 3) := by decide +kernel
theorem dX10_midnightOf_168 : decode cX10_midnightOf 168 = .ok (.goto 87, 3) := by decide +kernel
theorem dX10_midnightOf_171 : decode cX10_midnightOf 171 = .ok (.aload_n 0, 1) := by decide +kernel
theorem dX10_midnightOf_172 : decode cX10_midnightOf 172 = .ok (.getfield 44, 3) := by decide +kernel
theorem dX10_midnightOf_175 : decode cX10_midnightOf 175 = .ok (.iload_n 2, 1) := by decide +kernel
theorem dX10_midnightOf_176 : decode cX10_midnightOf 176 = .ok (.iload 5, 2) := by decide +kernel
theorem dX10_midnightOf_178 : decode cX10_midnightOf 178 = .ok (.iconst (-1), 1) := by decide +kernel
theorem dX10_midnightOf_179 : decode cX10_midnightOf 179 = .ok (.if_icmp .ne 7, 3) := by decide +kernel
theorem dX10_midnightOf_182 : decode cX10_midnightOf 182 = .ok (.iconst 0, 1) := by decide +kernel
theorem dX10_midnightOf_183 : decode cX10_midnightOf 183 = .ok (.goto 7, 3) := by decide +kernel
theorem dX10_midnightOf_186 : decode cX10_midnightOf 186 = .ok (.iload 5, 2) := by decide +kernel
theorem dX10_midnightOf_188 : decode cX10_midnightOf 188 = .ok (.iconst 1, 1) := by decide +kernel
theorem dX10_midnightOf_189 : decode cX10_midnightOf 189 = .ok (.iadd, 1) := by decide +kernel
theorem dX10_midnightOf_190 : decode cX10_midnightOf 190 = .ok (.iastore, 1) := by decide +kernel
theorem dX10_midnightOf_191 : decode cX10_midnightOf 191 = .ok (.iload 5, 2) := by decide +kernel
theorem dX10_midnightOf_193 : decode cX10_midnightOf 193 = .ok (.iconst (-1), 1) := by decide +kernel
theorem dX10_midnightOf_194 : decode cX10_midnightOf 194 = .ok (.if_icmp .eq 16, 3) := by decide +kernel
theorem dX10_midnightOf_197 : decode cX10_midnightOf 197 = .ok (.aload_n 0, 1) := by decide +kernel
theorem dX10_midnightOf_198 : decode cX10_midnightOf 198 = .ok (.iload 5, 2) := by decide +kernel
theorem dX10_midnightOf_200 : decode cX10_midnightOf 200 = .ok (.invokevirtual 182, 3) := by decide +kernel
theorem dX10_midnightOf_203 : decode cX10_midnightOf 203 = .ok (.ifCond .eq 7, 3) := by decide +kernel
theorem dX10_midnightOf_206 : decode cX10_midnightOf 206 = .ok (.iconst 1, 1) := by decide +kernel
theorem dX10_midnightOf_207 : decode cX10_midnightOf 207 = .ok (.goto 4, 3) := by decide +kernel
theorem dX10_midnightOf_210 : decode cX10_midnightOf 210 = .ok (.iconst 0, 1) := by decide +kernel
theorem dX10_midnightOf_211 : decode cX10_midnightOf 211 = .ok (.istore 7, 2) := by decide +kernel
theorem dX10_midnightOf_213 : decode cX10_midnightOf 213 = .ok (.iload_n 2, 1) := by decide +kernel
theorem dX10_midnightOf_214 : decode cX10_midnightOf 214 = .ok (.iconst 1, 1) := by decide +kernel
theorem dX10_midnightOf_215 : decode cX10_midnightOf 215 = .ok (.iadd, 1) := by decide +kernel
theorem dX10_midnightOf_216 : decode cX10_midnightOf 216 = .ok (.iload_n 1, 1) := by decide +kernel
theorem dX10_midnightOf_217 : decode cX10_midnightOf 217 = .ok (.if_icmp .ne 15, 3) := by decide +kernel
theorem dX10_midnightOf_220 : decode cX10_midnightOf 220 = .ok (.aload_n 0, 1) := by decide +kernel
theorem dX10_midnightOf_221 : decode cX10_midnightOf 221 = .ok (.iload_n 2, 1) := by decide +kernel
theorem dX10_midnightOf_222 : decode cX10_midnightOf 222 = .ok (.aload_n 0, 1) := by decide +kernel
theorem dX10_midnightOf_223 : decode cX10_midnightOf 223 = .ok (.invokevirtual 225, 3) := by decide +kernel
theorem dX10_midnightOf_226 : decode cX10_midnightOf 226 = .ok (.invokevirtual 221, 3) := by decide +kernel
theorem dX10_midnightOf_229 : decode cX10_midnightOf 229 = .ok (.goto 26, 3) := by decide +kernel
theorem dX10_midnightOf_232 : decode cX10_midnightOf 232 = .ok (.iinc 2 1, 3) := by decide +kernel
theorem dX10_midnightOf_235 : decode cX10_midnightOf 235 = .ok (.aload_n 0, 1) := by decide +kernel
theorem dX10_midnightOf_236 : decode cX10_midnightOf 236 = .ok (.iload_n 2, 1) := by decide +kernel
theorem dX10_midnightOf_237 : decode cX10_midnightOf 237 = .ok (.invokevirtual 212, 3) := by decide +kernel
theorem dX10_midnightOf_240 : decode cX10_midnightOf 240 = .ok (.aload_n 0, 1) := by decide +kernel
theorem dX10_midnightOf_241 : decode cX10_midnightOf 241 = .ok (.getfield 44, 3) := by decide +kernel
theorem dX10_midnightOf_244 : decode cX10_midnightOf 244 = .ok (.iload_n 2, 1) := by decide +kernel
theorem dX10_midnightOf_245 : decode cX10_midnightOf 245 = .ok (.iconst (-1), 1) := by decide +kernel
theorem dX10_midnightOf_246 : decode cX10_midnightOf 246 = .ok (.iastore, 1) := by decide +kernel
theorem dX10_midnightOf_247 : decode cX10_midnightOf 247 = .ok (.aload_n 0, 1) := by decide +kernel
theorem dX10_midnightOf_248 : decode cX10_midnightOf 248 = .ok (.getfield 47, 3) := by decide +kernel
theorem dX10_midnightOf_251 : decode cX10_midnightOf 251 = .ok (.iload_n 2, 1) := by decide +kernel
theorem dX10_midnightOf_252 : decode cX10_midnightOf 252 = .ok (.bipush (-2), 2) := by decide +kernel
theorem dX10_midnightOf_254 : decode cX10_midnightOf 254 = .ok (.iastore, 1) := by decide +kernel
theorem dX10_midnightOf_255 : decode cX10_midnightOf 255 = .ok (.goto (-195), 3) := by decide +kernel
theorem dX10_midnightOf_258 : decode cX10_midnightOf 258 = .ok (.iload_n 3, 1) := by decide +kernel
theorem dX10_midnightOf_259 : decode cX10_midnightOf 259 = .ok (.ireturn, 1) := by decide +kernel
theorem dX10_keep_0 : decode cX10_keep 0 = .ok (.iload_n 1, 1) := by decide +kernel
theorem dX10_keep_1 : decode cX10_keep 1 = .ok (.iconst 2, 1) := by decide +kernel
theorem dX10_keep_2 : decode cX10_keep 2 = .ok (.irem, 1) := by decide +kernel
theorem dX10_keep_3 : decode cX10_keep 3 = .ok (.ifCond .ne 7, 3) := by decide +kernel
theorem dX10_keep_6 : decode cX10_keep 6 = .ok (.iload_n 2, 1) := by decide +kernel
theorem dX10_keep_7 : decode cX10_keep 7 = .ok (.goto 5, 3) := by decide +kernel
theorem dX10_keep_10 : decode cX10_keep 10 = .ok (.iload_n 2, 1) := by decide +kernel
theorem dX10_keep_11 : decode cX10_keep 11 = .ok (.ineg, 1) := by decide +kernel
theorem dX10_keep_12 : decode cX10_keep 12 = .ok (.istore_n 3, 1) := by decide +kernel
theorem dX10_keep_13 : decode cX10_keep 13 = .ok (.aload_n 0, 1) := by decide +kernel
theorem dX10_keep_14 : decode cX10_keep 14 = .ok (.getfield 47, 3) := by decide +kernel
theorem dX10_keep_17 : decode cX10_keep 17 = .ok (.iload_n 1, 1) := by decide +kernel
theorem dX10_keep_18 : decode cX10_keep 18 = .ok (.iload_n 3, 1) := by decide +kernel
theorem dX10_keep_19 : decode cX10_keep 19 = .ok (.aload_n 0, 1) := by decide +kernel
theorem dX10_keep_20 : decode cX10_keep 20 = .ok (.getfield 47, 3) := by decide +kernel
theorem dX10_keep_23 : decode cX10_keep 23 = .ok (.iload_n 1, 1) := by decide +kernel
theorem dX10_keep_24 : decode cX10_keep 24 = .ok (.iaload, 1) := by decide +kernel
theorem dX10_keep_25 : decode cX10_keep 25 = .ok (.if_icmp .le 7, 3) := by decide +kernel
theorem dX10_keep_28 : decode cX10_keep 28 = .ok (.iload_n 3, 1) := by decide +kernel
theorem dX10_keep_29 : decode cX10_keep 29 = .ok (.goto 9, 3) := by decide +kernel
theorem dX10_keep_32 : decode cX10_keep 32 = .ok (.aload_n 0, 1) := by decide +kernel
theorem dX10_keep_33 : decode cX10_keep 33 = .ok (.getfield 47, 3) := by decide +kernel
theorem dX10_keep_36 : decode cX10_keep 36 = .ok (.iload_n 1, 1) := by decide +kernel
theorem dX10_keep_37 : decode cX10_keep 37 = .ok (.iaload, 1) := by decide +kernel
theorem dX10_keep_38 : decode cX10_keep 38 = .ok (.iastore, 1) := by decide +kernel
theorem dX10_keep_39 : decode cX10_keep 39 = .ok (.return_, 1) := by decide +kernel
theorem dX10_midnight_0 : decode cX10_midnight 0 = .ok (.iload_n 1, 1) := by decide +kernel
theorem dX10_midnight_1 : decode cX10_midnight 1 = .ok (.i2l, 1) := by decide +kernel
theorem dX10_midnight_2 : decode cX10_midnight 2 = .ok (.lconst 1, 1) := by decide +kernel
theorem dX10_midnight_3 : decode cX10_midnight 3 = .ok (.ldc2_w 228, 3) := by decide +kernel
theorem dX10_midnight_6 : decode cX10_midnight 6 = .ok (.invokestatic 85, 3) := by decide +kernel
theorem dX10_midnight_9 : decode cX10_midnight 9 = .ok (.ifCond .ne 6, 3) := by decide +kernel
theorem dX10_midnight_12 : decode cX10_midnight 12 = .ok (.ldc 230, 2) := by decide +kernel
theorem dX10_midnight_14 : decode cX10_midnight 14 = .ok (.ireturn, 1) := by decide +kernel
theorem dX10_midnight_15 : decode cX10_midnight 15 = .ok (.aload_n 0, 1) := by decide +kernel
theorem dX10_midnight_16 : decode cX10_midnight 16 = .ok (.getfield 231, 3) := by decide +kernel
theorem dX10_midnight_19 : decode cX10_midnight 19 = .ok (.bipush 30, 2) := by decide +kernel
theorem dX10_midnight_21 : decode cX10_midnight 21 = .ok (.if_icmp .ne 6, 3) := by decide +kernel
theorem dX10_midnight_24 : decode cX10_midnight 24 = .ok (.ldc 234, 2) := by decide +kernel
theorem dX10_midnight_26 : decode cX10_midnight 26 = .ok (.ireturn, 1) := by decide +kernel
theorem dX10_midnight_27 : decode cX10_midnight 27 = .ok (.aload_n 0, 1) := by decide +kernel
theorem dX10_midnight_28 : decode cX10_midnight 28 = .ok (.dup, 1) := by decide +kernel
theorem dX10_midnight_29 : decode cX10_midnight 29 = .ok (.getfield 231, 3) := by decide +kernel
theorem dX10_midnight_32 : decode cX10_midnight 32 = .ok (.iconst 1, 1) := by decide +kernel
theorem dX10_midnight_33 : decode cX10_midnight 33 = .ok (.iadd, 1) := by decide +kernel
theorem dX10_midnight_34 : decode cX10_midnight 34 = .ok (.putfield 231, 3) := by decide +kernel
theorem dX10_midnight_37 : decode cX10_midnight 37 = .ok (.aload_n 0, 1) := by decide +kernel
theorem dX10_midnight_38 : decode cX10_midnight 38 = .ok (.iload_n 1, 1) := by decide +kernel
theorem dX10_midnight_39 : decode cX10_midnight 39 = .ok (.invokevirtual 235, 3) := by decide +kernel
theorem dX10_midnight_42 : decode cX10_midnight 42 = .ok (.ireturn, 1) := by decide +kernel
theorem dX10_draw_0 : decode cX10_draw 0 = .ok (.aload_n 0, 1) := by decide +kernel
theorem dX10_draw_1 : decode cX10_draw 1 = .ok (.ldc2_w 238, 3) := by decide +kernel
theorem dX10_draw_4 : decode cX10_draw 4 = .ok (.aload_n 0, 1) := by decide +kernel
theorem dX10_draw_5 : decode cX10_draw 5 = .ok (.getfield 240, 3) := by decide +kernel
theorem dX10_draw_8 : decode cX10_draw 8 = .ok (.i2l, 1) := by decide +kernel
theorem dX10_draw_9 : decode cX10_draw 9 = .ok (.lmul, 1) := by decide +kernel
theorem dX10_draw_10 : decode cX10_draw 10 = .ok (.ldc2_w 243, 3) := by decide +kernel
theorem dX10_draw_13 : decode cX10_draw 13 = .ok (.ladd, 1) := by decide +kernel
theorem dX10_draw_14 : decode cX10_draw 14 = .ok (.ldc2_w 245, 3) := by decide +kernel
theorem dX10_draw_17 : decode cX10_draw 17 = .ok (.land, 1) := by decide +kernel
theorem dX10_draw_18 : decode cX10_draw 18 = .ok (.l2i, 1) := by decide +kernel
theorem dX10_draw_19 : decode cX10_draw 19 = .ok (.putfield 240, 3) := by decide +kernel
theorem dX10_draw_22 : decode cX10_draw 22 = .ok (.aload_n 0, 1) := by decide +kernel
theorem dX10_draw_23 : decode cX10_draw 23 = .ok (.getfield 240, 3) := by decide +kernel
theorem dX10_draw_26 : decode cX10_draw 26 = .ok (.ldc 247, 2) := by decide +kernel
theorem dX10_draw_28 : decode cX10_draw 28 = .ok (.idiv, 1) := by decide +kernel
theorem dX10_draw_29 : decode cX10_draw 29 = .ok (.iload_n 1, 1) := by decide +kernel
theorem dX10_draw_30 : decode cX10_draw 30 = .ok (.irem, 1) := by decide +kernel
theorem dX10_draw_31 : decode cX10_draw 31 = .ok (.ireturn, 1) := by decide +kernel
theorem dX10_sessions_0 : decode cX10_sessions 0 = .ok (.iload_n 1, 1) := by decide +kernel
theorem dX10_sessions_1 : decode cX10_sessions 1 = .ok (.i2l, 1) := by decide +kernel
theorem dX10_sessions_2 : decode cX10_sessions 2 = .ok (.lconst 1, 1) := by decide +kernel
theorem dX10_sessions_3 : decode cX10_sessions 3 = .ok (.ldc2_w 248, 3) := by decide +kernel
theorem dX10_sessions_6 : decode cX10_sessions 6 = .ok (.invokestatic 85, 3) := by decide +kernel
theorem dX10_sessions_9 : decode cX10_sessions 9 = .ok (.ifCond .eq 19, 3) := by decide +kernel
theorem dX10_sessions_12 : decode cX10_sessions 12 = .ok (.iload_n 2, 1) := by decide +kernel
theorem dX10_sessions_13 : decode cX10_sessions 13 = .ok (.ifCond .lt 15, 3) := by decide +kernel
theorem dX10_sessions_16 : decode cX10_sessions 16 = .ok (.iload_n 3, 1) := by decide +kernel
theorem dX10_sessions_17 : decode cX10_sessions 17 = .ok (.i2l, 1) := by decide +kernel
theorem dX10_sessions_18 : decode cX10_sessions 18 = .ok (.lconst 0, 1) := by decide +kernel
theorem dX10_sessions_19 : decode cX10_sessions 19 = .ok (.ldc2_w 121, 3) := by decide +kernel
theorem dX10_sessions_22 : decode cX10_sessions 22 = .ok (.invokestatic 85, 3) := by decide +kernel
theorem dX10_sessions_25 : decode cX10_sessions 25 = .ok (.ifCond .ne 6, 3) := by decide +kernel
theorem dX10_sessions_28 : decode cX10_sessions 28 = .ok (.bipush (-102), 2) := by decide +kernel
theorem dX10_sessions_30 : decode cX10_sessions 30 = .ok (.ireturn, 1) := by decide +kernel
theorem dX10_sessions_31 : decode cX10_sessions 31 = .ok (.iconst 0, 1) := by decide +kernel
theorem dX10_sessions_32 : decode cX10_sessions 32 = .ok (.istore 4, 2) := by decide +kernel
theorem dX10_sessions_34 : decode cX10_sessions 34 = .ok (.iload 4, 2) := by decide +kernel
theorem dX10_sessions_36 : decode cX10_sessions 36 = .ok (.aload_n 0, 1) := by decide +kernel
theorem dX10_sessions_37 : decode cX10_sessions 37 = .ok (.getfield 151, 3) := by decide +kernel
theorem dX10_sessions_40 : decode cX10_sessions 40 = .ok (.if_icmp .ge 23, 3) := by decide +kernel
theorem dX10_sessions_43 : decode cX10_sessions 43 = .ok (.aload_n 0, 1) := by decide +kernel
theorem dX10_sessions_44 : decode cX10_sessions 44 = .ok (.getfield 28, 3) := by decide +kernel
theorem dX10_sessions_47 : decode cX10_sessions 47 = .ok (.iload 4, 2) := by decide +kernel
theorem dX10_sessions_49 : decode cX10_sessions 49 = .ok (.aload_n 0, 1) := by decide +kernel
theorem dX10_sessions_50 : decode cX10_sessions 50 = .ok (.getfield 25, 3) := by decide +kernel
theorem dX10_sessions_53 : decode cX10_sessions 53 = .ok (.iload 4, 2) := by decide +kernel
theorem dX10_sessions_55 : decode cX10_sessions 55 = .ok (.iaload, 1) := by decide +kernel
theorem dX10_sessions_56 : decode cX10_sessions 56 = .ok (.iastore, 1) := by decide +kernel
theorem dX10_sessions_57 : decode cX10_sessions 57 = .ok (.iinc 4 1, 3) := by decide +kernel
theorem dX10_sessions_60 : decode cX10_sessions 60 = .ok (.goto (-26), 3) := by decide +kernel
theorem dX10_sessions_63 : decode cX10_sessions 63 = .ok (.aload_n 0, 1) := by decide +kernel
theorem dX10_sessions_64 : decode cX10_sessions 64 = .ok (.aload_n 0, 1) := by decide +kernel
theorem dX10_sessions_65 : decode cX10_sessions 65 = .ok (.getfield 151, 3) := by decide +kernel
theorem dX10_sessions_68 : decode cX10_sessions 68 = .ok (.putfield 175, 3) := by decide +kernel
theorem dX10_sessions_71 : decode cX10_sessions 71 = .ok (.aload_n 0, 1) := by decide +kernel
theorem dX10_sessions_72 : decode cX10_sessions 72 = .ok (.iload_n 2, 1) := by decide +kernel
theorem dX10_sessions_73 : decode cX10_sessions 73 = .ok (.putfield 240, 3) := by decide +kernel
theorem dX10_sessions_76 : decode cX10_sessions 76 = .ok (.iconst 0, 1) := by decide +kernel
theorem dX10_sessions_77 : decode cX10_sessions 77 = .ok (.istore 4, 2) := by decide +kernel
theorem dX10_sessions_79 : decode cX10_sessions 79 = .ok (.iconst 0, 1) := by decide +kernel
theorem dX10_sessions_80 : decode cX10_sessions 80 = .ok (.istore 5, 2) := by decide +kernel
theorem dX10_sessions_82 : decode cX10_sessions 82 = .ok (.iload 5, 2) := by decide +kernel
theorem dX10_sessions_84 : decode cX10_sessions 84 = .ok (.iload_n 1, 1) := by decide +kernel
theorem dX10_sessions_85 : decode cX10_sessions 85 = .ok (.if_icmp .ge 62, 3) := by decide +kernel
theorem dX10_sessions_88 : decode cX10_sessions 88 = .ok (.aload_n 0, 1) := by decide +kernel
theorem dX10_sessions_89 : decode cX10_sessions 89 = .ok (.getfield 114, 3) := by decide +kernel
theorem dX10_sessions_92 : decode cX10_sessions 92 = .ok (.ifCond .le 55, 3) := by decide +kernel
theorem dX10_sessions_95 : decode cX10_sessions 95 = .ok (.aload_n 0, 1) := by decide +kernel
theorem dX10_sessions_96 : decode cX10_sessions 96 = .ok (.aload_n 0, 1) := by decide +kernel
theorem dX10_sessions_97 : decode cX10_sessions 97 = .ok (.getfield 114, 3) := by decide +kernel
theorem dX10_sessions_100 : decode cX10_sessions 100 = .ok (.invokevirtual 250, 3) := by decide +kernel
theorem dX10_sessions_103 : decode cX10_sessions 103 = .ok (.istore 6, 2) := by decide +kernel
theorem dX10_sessions_105 : decode cX10_sessions 105 = .ok (.aload_n 0, 1) := by decide +kernel
theorem dX10_sessions_106 : decode cX10_sessions 106 = .ok (.iload 6, 2) := by decide +kernel
theorem dX10_sessions_108 : decode cX10_sessions 108 = .ok (.aload_n 0, 1) := by decide +kernel
theorem dX10_sessions_109 : decode cX10_sessions 109 = .ok (.getfield 28, 3) := by decide +kernel
theorem dX10_sessions_112 : decode cX10_sessions 112 = .ok (.aload_n 0, 1) := by decide +kernel
theorem dX10_sessions_113 : decode cX10_sessions 113 = .ok (.getfield 175, 3) := by decide +kernel
theorem dX10_sessions_116 : decode cX10_sessions 116 = .ok (.invokevirtual 161, 3) := by decide +kernel
theorem dX10_sessions_119 : decode cX10_sessions 119 = .ok (.ifCond .eq 22, 3) := by decide +kernel
theorem dX10_sessions_122 : decode cX10_sessions 122 = .ok (.iload 4, 2) := by decide +kernel
theorem dX10_sessions_124 : decode cX10_sessions 124 = .ok (.aload_n 0, 1) := by decide +kernel
theorem dX10_sessions_125 : decode cX10_sessions 125 = .ok (.iload 6, 2) := by decide +kernel
theorem dX10_sessions_127 : decode cX10_sessions 127 = .ok (.invokevirtual 182, 3) := by decide +kernel
theorem dX10_sessions_130 : decode cX10_sessions 130 = .ok (.ifCond .eq 7, 3) := by decide +kernel
theorem dX10_sessions_133 : decode cX10_sessions 133 = .ok (.iconst 1, 1) := by decide +kernel
theorem dX10_sessions_134 : decode cX10_sessions 134 = .ok (.goto 4, 3) := by decide +kernel
theorem dX10_sessions_137 : decode cX10_sessions 137 = .ok (.iconst 0, 1) := by decide +kernel
theorem dX10_sessions_138 : decode cX10_sessions 138 = .ok (.iadd, 1) := by decide +kernel
theorem dX10_sessions_139 : decode cX10_sessions 139 = .ok (.istore 4, 2) := by decide +kernel
theorem dX10_sessions_141 : decode cX10_sessions 141 = .ok (.iinc 5 1, 3) := by decide +kernel
theorem dX10_sessions_144 : decode cX10_sessions 144 = .ok (.goto (-62), 3) := by decide +kernel
theorem dX10_sessions_147 : decode cX10_sessions 147 = .ok (.iload_n 3, 1) := by decide +kernel
theorem dX10_sessions_148 : decode cX10_sessions 148 = .ok (.ifCond .ne 10, 3) := by decide +kernel
theorem dX10_sessions_151 : decode cX10_sessions 151 = .ok (.aload_n 0, 1) := by decide +kernel
theorem dX10_sessions_152 : decode cX10_sessions 152 = .ok (.getfield 175, 3) := by decide +kernel
theorem dX10_sessions_155 : decode cX10_sessions 155 = .ok (.goto 37, 3) := by decide +kernel
theorem dX10_sessions_158 : decode cX10_sessions 158 = .ok (.iload_n 3, 1) := by decide +kernel
theorem dX10_sessions_159 : decode cX10_sessions 159 = .ok (.iconst 1, 1) := by decide +kernel
theorem dX10_sessions_160 : decode cX10_sessions 160 = .ok (.if_icmp .ne 8, 3) := by decide +kernel
theorem dX10_sessions_163 : decode cX10_sessions 163 = .ok (.iload 4, 2) := by decide +kernel
theorem dX10_sessions_165 : decode cX10_sessions 165 = .ok (.goto 27, 3) := by decide +kernel
theorem dX10_sessions_168 : decode cX10_sessions 168 = .ok (.iload_n 3, 1) := by decide +kernel
theorem dX10_sessions_169 : decode cX10_sessions 169 = .ok (.iconst 2, 1) := by decide +kernel
theorem dX10_sessions_170 : decode cX10_sessions 170 = .ok (.if_icmp .ne 18, 3) := by decide +kernel
theorem dX10_sessions_173 : decode cX10_sessions 173 = .ok (.aload_n 0, 1) := by decide +kernel
theorem dX10_sessions_174 : decode cX10_sessions 174 = .ok (.aload_n 0, 1) := by decide +kernel
theorem dX10_sessions_175 : decode cX10_sessions 175 = .ok (.getfield 28, 3) := by decide +kernel
theorem dX10_sessions_178 : decode cX10_sessions 178 = .ok (.aload_n 0, 1) := by decide +kernel
theorem dX10_sessions_179 : decode cX10_sessions 179 = .ok (.getfield 175, 3) := by decide +kernel
theorem dX10_sessions_182 : decode cX10_sessions 182 = .ok (.invokevirtual 172, 3) := by decide +kernel
theorem dX10_sessions_185 : decode cX10_sessions 185 = .ok (.goto 7, 3) := by decide +kernel
theorem dX10_sessions_188 : decode cX10_sessions 188 = .ok (.aload_n 0, 1) := by decide +kernel
theorem dX10_sessions_189 : decode cX10_sessions 189 = .ok (.getfield 240, 3) := by decide +kernel
theorem dX10_sessions_192 : decode cX10_sessions 192 = .ok (.ireturn, 1) := by decide +kernel
theorem dX10_image_0 : decode cX10_image 0 = .ok (.iconst 0, 1) := by decide +kernel
theorem dX10_image_1 : decode cX10_image 1 = .ok (.istore_n 1, 1) := by decide +kernel
theorem dX10_image_2 : decode cX10_image 2 = .ok (.iload_n 1, 1) := by decide +kernel
theorem dX10_image_3 : decode cX10_image 3 = .ok (.bipush 7, 2) := by decide +kernel
theorem dX10_image_5 : decode cX10_image 5 = .ok (.if_icmp .ge 56, 3) := by decide +kernel
theorem dX10_image_8 : decode cX10_image 8 = .ok (.aload_n 0, 1) := by decide +kernel
theorem dX10_image_9 : decode cX10_image 9 = .ok (.getfield 56, 3) := by decide +kernel
theorem dX10_image_12 : decode cX10_image 12 = .ok (.iload_n 1, 1) := by decide +kernel
theorem dX10_image_13 : decode cX10_image 13 = .ok (.aload_n 0, 1) := by decide +kernel
theorem dX10_image_14 : decode cX10_image 14 = .ok (.getfield 25, 3) := by decide +kernel
theorem dX10_image_17 : decode cX10_image 17 = .ok (.iload_n 1, 1) := by decide +kernel
theorem dX10_image_18 : decode cX10_image 18 = .ok (.iaload, 1) := by decide +kernel
theorem dX10_image_19 : decode cX10_image 19 = .ok (.iastore, 1) := by decide +kernel
theorem dX10_image_20 : decode cX10_image 20 = .ok (.aload_n 0, 1) := by decide +kernel
theorem dX10_image_21 : decode cX10_image 21 = .ok (.getfield 59, 3) := by decide +kernel
theorem dX10_image_24 : decode cX10_image 24 = .ok (.iload_n 1, 1) := by decide +kernel
theorem dX10_image_25 : decode cX10_image 25 = .ok (.aload_n 0, 1) := by decide +kernel
theorem dX10_image_26 : decode cX10_image 26 = .ok (.getfield 22, 3) := by decide +kernel
theorem dX10_image_29 : decode cX10_image 29 = .ok (.bipush 8, 2) := by decide +kernel
theorem dX10_image_31 : decode cX10_image 31 = .ok (.iload_n 1, 1) := by decide +kernel
theorem dX10_image_32 : decode cX10_image 32 = .ok (.imul, 1) := by decide +kernel
theorem dX10_image_33 : decode cX10_image 33 = .ok (.bipush 7, 2) := by decide +kernel
theorem dX10_image_35 : decode cX10_image 35 = .ok (.iadd, 1) := by decide +kernel
theorem dX10_image_36 : decode cX10_image 36 = .ok (.iaload, 1) := by decide +kernel
theorem dX10_image_37 : decode cX10_image 37 = .ok (.iastore, 1) := by decide +kernel
theorem dX10_image_38 : decode cX10_image 38 = .ok (.aload_n 0, 1) := by decide +kernel
theorem dX10_image_39 : decode cX10_image 39 = .ok (.getfield 62, 3) := by decide +kernel
theorem dX10_image_42 : decode cX10_image 42 = .ok (.iload_n 1, 1) := by decide +kernel
theorem dX10_image_43 : decode cX10_image 43 = .ok (.aload_n 0, 1) := by decide +kernel
theorem dX10_image_44 : decode cX10_image 44 = .ok (.getfield 22, 3) := by decide +kernel
theorem dX10_image_47 : decode cX10_image 47 = .ok (.bipush 8, 2) := by decide +kernel
theorem dX10_image_49 : decode cX10_image 49 = .ok (.iload_n 1, 1) := by decide +kernel
theorem dX10_image_50 : decode cX10_image 50 = .ok (.imul, 1) := by decide +kernel
theorem dX10_image_51 : decode cX10_image 51 = .ok (.iconst 4, 1) := by decide +kernel
theorem dX10_image_52 : decode cX10_image 52 = .ok (.iadd, 1) := by decide +kernel
theorem dX10_image_53 : decode cX10_image 53 = .ok (.iaload, 1) := by decide +kernel
theorem dX10_image_54 : decode cX10_image 54 = .ok (.iastore, 1) := by decide +kernel
theorem dX10_image_55 : decode cX10_image 55 = .ok (.iinc 1 1, 3) := by decide +kernel
theorem dX10_image_58 : decode cX10_image 58 = .ok (.goto (-56), 3) := by decide +kernel
theorem dX10_image_61 : decode cX10_image 61 = .ok (.aload_n 0, 1) := by decide +kernel
theorem dX10_image_62 : decode cX10_image 62 = .ok (.aload_n 0, 1) := by decide +kernel
theorem dX10_image_63 : decode cX10_image 63 = .ok (.getfield 151, 3) := by decide +kernel
theorem dX10_image_66 : decode cX10_image 66 = .ok (.putfield 65, 3) := by decide +kernel
theorem dX10_image_69 : decode cX10_image 69 = .ok (.aload_n 0, 1) := by decide +kernel
theorem dX10_image_70 : decode cX10_image 70 = .ok (.aload_n 0, 1) := by decide +kernel
theorem dX10_image_71 : decode cX10_image 71 = .ok (.getfield 114, 3) := by decide +kernel
theorem dX10_image_74 : decode cX10_image 74 = .ok (.putfield 253, 3) := by decide +kernel
theorem dX10_image_77 : decode cX10_image 77 = .ok (.aload_n 0, 1) := by decide +kernel
theorem dX10_image_78 : decode cX10_image 78 = .ok (.getfield 151, 3) := by decide +kernel
theorem dX10_image_81 : decode cX10_image 81 = .ok (.ireturn, 1) := by decide +kernel
theorem dX10_restore_0 : decode cX10_restore 0 = .ok (.aload_n 0, 1) := by decide +kernel
theorem dX10_restore_1 : decode cX10_restore 1 = .ok (.getfield 65, 3) := by decide +kernel
theorem dX10_restore_4 : decode cX10_restore 4 = .ok (.iconst (-1), 1) := by decide +kernel
theorem dX10_restore_5 : decode cX10_restore 5 = .ok (.if_icmp .eq 14, 3) := by decide +kernel
theorem dX10_restore_8 : decode cX10_restore 8 = .ok (.aload_n 0, 1) := by decide +kernel
theorem dX10_restore_9 : decode cX10_restore 9 = .ok (.getfield 253, 3) := by decide +kernel
theorem dX10_restore_12 : decode cX10_restore 12 = .ok (.aload_n 0, 1) := by decide +kernel
theorem dX10_restore_13 : decode cX10_restore 13 = .ok (.getfield 114, 3) := by decide +kernel
theorem dX10_restore_16 : decode cX10_restore 16 = .ok (.if_icmp .eq 6, 3) := by decide +kernel
theorem dX10_restore_19 : decode cX10_restore 19 = .ok (.bipush (-103), 2) := by decide +kernel
theorem dX10_restore_21 : decode cX10_restore 21 = .ok (.ireturn, 1) := by decide +kernel
theorem dX10_restore_22 : decode cX10_restore 22 = .ok (.iconst 0, 1) := by decide +kernel
theorem dX10_restore_23 : decode cX10_restore 23 = .ok (.istore_n 1, 1) := by decide +kernel
theorem dX10_restore_24 : decode cX10_restore 24 = .ok (.iload_n 1, 1) := by decide +kernel
theorem dX10_restore_25 : decode cX10_restore 25 = .ok (.bipush 7, 2) := by decide +kernel
theorem dX10_restore_27 : decode cX10_restore 27 = .ok (.if_icmp .ge 56, 3) := by decide +kernel
theorem dX10_restore_30 : decode cX10_restore 30 = .ok (.aload_n 0, 1) := by decide +kernel
theorem dX10_restore_31 : decode cX10_restore 31 = .ok (.getfield 25, 3) := by decide +kernel
theorem dX10_restore_34 : decode cX10_restore 34 = .ok (.iload_n 1, 1) := by decide +kernel
theorem dX10_restore_35 : decode cX10_restore 35 = .ok (.aload_n 0, 1) := by decide +kernel
theorem dX10_restore_36 : decode cX10_restore 36 = .ok (.getfield 56, 3) := by decide +kernel
theorem dX10_restore_39 : decode cX10_restore 39 = .ok (.iload_n 1, 1) := by decide +kernel
theorem dX10_restore_40 : decode cX10_restore 40 = .ok (.iaload, 1) := by decide +kernel
theorem dX10_restore_41 : decode cX10_restore 41 = .ok (.iastore, 1) := by decide +kernel
theorem dX10_restore_42 : decode cX10_restore 42 = .ok (.aload_n 0, 1) := by decide +kernel
theorem dX10_restore_43 : decode cX10_restore 43 = .ok (.getfield 22, 3) := by decide +kernel
theorem dX10_restore_46 : decode cX10_restore 46 = .ok (.bipush 8, 2) := by decide +kernel
theorem dX10_restore_48 : decode cX10_restore 48 = .ok (.iload_n 1, 1) := by decide +kernel
theorem dX10_restore_49 : decode cX10_restore 49 = .ok (.imul, 1) := by decide +kernel
theorem dX10_restore_50 : decode cX10_restore 50 = .ok (.bipush 7, 2) := by decide +kernel
theorem dX10_restore_52 : decode cX10_restore 52 = .ok (.iadd, 1) := by decide +kernel
theorem dX10_restore_53 : decode cX10_restore 53 = .ok (.aload_n 0, 1) := by decide +kernel
theorem dX10_restore_54 : decode cX10_restore 54 = .ok (.getfield 59, 3) := by decide +kernel
theorem dX10_restore_57 : decode cX10_restore 57 = .ok (.iload_n 1, 1) := by decide +kernel
theorem dX10_restore_58 : decode cX10_restore 58 = .ok (.iaload, 1) := by decide +kernel
theorem dX10_restore_59 : decode cX10_restore 59 = .ok (.iastore, 1) := by decide +kernel
theorem dX10_restore_60 : decode cX10_restore 60 = .ok (.aload_n 0, 1) := by decide +kernel
theorem dX10_restore_61 : decode cX10_restore 61 = .ok (.getfield 22, 3) := by decide +kernel
theorem dX10_restore_64 : decode cX10_restore 64 = .ok (.bipush 8, 2) := by decide +kernel
theorem dX10_restore_66 : decode cX10_restore 66 = .ok (.iload_n 1, 1) := by decide +kernel
theorem dX10_restore_67 : decode cX10_restore 67 = .ok (.imul, 1) := by decide +kernel
theorem dX10_restore_68 : decode cX10_restore 68 = .ok (.iconst 4, 1) := by decide +kernel
theorem dX10_restore_69 : decode cX10_restore 69 = .ok (.iadd, 1) := by decide +kernel
theorem dX10_restore_70 : decode cX10_restore 70 = .ok (.aload_n 0, 1) := by decide +kernel
theorem dX10_restore_71 : decode cX10_restore 71 = .ok (.getfield 62, 3) := by decide +kernel
theorem dX10_restore_74 : decode cX10_restore 74 = .ok (.iload_n 1, 1) := by decide +kernel
theorem dX10_restore_75 : decode cX10_restore 75 = .ok (.iaload, 1) := by decide +kernel
theorem dX10_restore_76 : decode cX10_restore 76 = .ok (.iastore, 1) := by decide +kernel
theorem dX10_restore_77 : decode cX10_restore 77 = .ok (.iinc 1 1, 3) := by decide +kernel
theorem dX10_restore_80 : decode cX10_restore 80 = .ok (.goto (-56), 3) := by decide +kernel
theorem dX10_restore_83 : decode cX10_restore 83 = .ok (.aload_n 0, 1) := by decide +kernel
theorem dX10_restore_84 : decode cX10_restore 84 = .ok (.aload_n 0, 1) := by decide +kernel
theorem dX10_restore_85 : decode cX10_restore 85 = .ok (.getfield 65, 3) := by decide +kernel
theorem dX10_restore_88 : decode cX10_restore 88 = .ok (.putfield 151, 3) := by decide +kernel
theorem dX10_restore_91 : decode cX10_restore 91 = .ok (.aload_n 0, 1) := by decide +kernel
theorem dX10_restore_92 : decode cX10_restore 92 = .ok (.getfield 151, 3) := by decide +kernel
theorem dX10_restore_95 : decode cX10_restore 95 = .ok (.ireturn, 1) := by decide +kernel
theorem dX10_countOf_0 : decode cX10_countOf 0 = .ok (.iload_n 1, 1) := by decide +kernel
theorem dX10_countOf_1 : decode cX10_countOf 1 = .ok (.tableswitch 87 0 7 #[47, 52, 57, 62, 67, 72, 77, 82], 47) := by decide +kernel
theorem dX10_countOf_48 : decode cX10_countOf 48 = .ok (.aload_n 0, 1) := by decide +kernel
theorem dX10_countOf_49 : decode cX10_countOf 49 = .ok (.getfield 114, 3) := by decide +kernel
theorem dX10_countOf_52 : decode cX10_countOf 52 = .ok (.ireturn, 1) := by decide +kernel
theorem dX10_countOf_53 : decode cX10_countOf 53 = .ok (.aload_n 0, 1) := by decide +kernel
theorem dX10_countOf_54 : decode cX10_countOf 54 = .ok (.getfield 151, 3) := by decide +kernel
theorem dX10_countOf_57 : decode cX10_countOf 57 = .ok (.ireturn, 1) := by decide +kernel
theorem dX10_countOf_58 : decode cX10_countOf 58 = .ok (.aload_n 0, 1) := by decide +kernel
theorem dX10_countOf_59 : decode cX10_countOf 59 = .ok (.getfield 111, 3) := by decide +kernel
theorem dX10_countOf_62 : decode cX10_countOf 62 = .ok (.ireturn, 1) := by decide +kernel
theorem dX10_countOf_63 : decode cX10_countOf 63 = .ok (.aload_n 0, 1) := by decide +kernel
theorem dX10_countOf_64 : decode cX10_countOf 64 = .ok (.getfield 69, 3) := by decide +kernel
theorem dX10_countOf_67 : decode cX10_countOf 67 = .ok (.ireturn, 1) := by decide +kernel
theorem dX10_countOf_68 : decode cX10_countOf 68 = .ok (.aload_n 0, 1) := by decide +kernel
theorem dX10_countOf_69 : decode cX10_countOf 69 = .ok (.getfield 74, 3) := by decide +kernel
theorem dX10_countOf_72 : decode cX10_countOf 72 = .ok (.ireturn, 1) := by decide +kernel
theorem dX10_countOf_73 : decode cX10_countOf 73 = .ok (.aload_n 0, 1) := by decide +kernel
theorem dX10_countOf_74 : decode cX10_countOf 74 = .ok (.getfield 169, 3) := by decide +kernel
theorem dX10_countOf_77 : decode cX10_countOf 77 = .ok (.ireturn, 1) := by decide +kernel
theorem dX10_countOf_78 : decode cX10_countOf 78 = .ok (.aload_n 0, 1) := by decide +kernel
theorem dX10_countOf_79 : decode cX10_countOf 79 = .ok (.getfield 198, 3) := by decide +kernel
theorem dX10_countOf_82 : decode cX10_countOf 82 = .ok (.ireturn, 1) := by decide +kernel
theorem dX10_countOf_83 : decode cX10_countOf 83 = .ok (.aload_n 0, 1) := by decide +kernel
theorem dX10_countOf_84 : decode cX10_countOf 84 = .ok (.getfield 231, 3) := by decide +kernel
theorem dX10_countOf_87 : decode cX10_countOf 87 = .ok (.ireturn, 1) := by decide +kernel
theorem dX10_countOf_88 : decode cX10_countOf 88 = .ok (.bipush (-102), 2) := by decide +kernel
theorem dX10_countOf_90 : decode cX10_countOf 90 = .ok (.ireturn, 1) := by decide +kernel
theorem dX10_count_0 : decode cX10_count 0 = .ok (.aload_n 0, 1) := by decide +kernel
theorem dX10_count_1 : decode cX10_count 1 = .ok (.iload_n 1, 1) := by decide +kernel
theorem dX10_count_2 : decode cX10_count 2 = .ok (.invokevirtual 256, 3) := by decide +kernel
theorem dX10_count_5 : decode cX10_count 5 = .ok (.ireturn, 1) := by decide +kernel
theorem dX10_say_0 : decode cX10_say 0 = .ok (.aload_n 0, 1) := by decide +kernel
theorem dX10_say_1 : decode cX10_say 1 = .ok (.ldc2_w 259, 3) := by decide +kernel
theorem dX10_say_4 : decode cX10_say 4 = .ok (.aload_n 0, 1) := by decide +kernel
theorem dX10_say_5 : decode cX10_say 5 = .ok (.getfield 261, 3) := by decide +kernel
theorem dX10_say_8 : decode cX10_say 8 = .ok (.lmul, 1) := by decide +kernel
theorem dX10_say_9 : decode cX10_say 9 = .ok (.lload_n 1, 1) := by decide +kernel
theorem dX10_say_10 : decode cX10_say 10 = .ok (.ladd, 1) := by decide +kernel
theorem dX10_say_11 : decode cX10_say 11 = .ok (.putfield 261, 3) := by decide +kernel
theorem dX10_say_14 : decode cX10_say 14 = .ok (.return_, 1) := by decide +kernel
theorem dX10_digest_0 : decode cX10_digest 0 = .ok (.aload_n 0, 1) := by decide +kernel
theorem dX10_digest_1 : decode cX10_digest 1 = .ok (.ldc2_w 265, 3) := by decide +kernel
theorem dX10_digest_4 : decode cX10_digest 4 = .ok (.putfield 261, 3) := by decide +kernel
theorem dX10_digest_7 : decode cX10_digest 7 = .ok (.iconst 0, 1) := by decide +kernel
theorem dX10_digest_8 : decode cX10_digest 8 = .ok (.istore_n 1, 1) := by decide +kernel
theorem dX10_digest_9 : decode cX10_digest 9 = .ok (.iload_n 1, 1) := by decide +kernel
theorem dX10_digest_10 : decode cX10_digest 10 = .ok (.bipush 49, 2) := by decide +kernel
theorem dX10_digest_12 : decode cX10_digest 12 = .ok (.if_icmp .ge 30, 3) := by decide +kernel
theorem dX10_digest_15 : decode cX10_digest 15 = .ok (.aload_n 0, 1) := by decide +kernel
theorem dX10_digest_16 : decode cX10_digest 16 = .ok (.aload_n 0, 1) := by decide +kernel
theorem dX10_digest_17 : decode cX10_digest 17 = .ok (.getfield 13, 3) := by decide +kernel
theorem dX10_digest_20 : decode cX10_digest 20 = .ok (.iload_n 1, 1) := by decide +kernel
theorem dX10_digest_21 : decode cX10_digest 21 = .ok (.bipush 7, 2) := by decide +kernel
theorem dX10_digest_23 : decode cX10_digest 23 = .ok (.idiv, 1) := by decide +kernel
theorem dX10_digest_24 : decode cX10_digest 24 = .ok (.iaload, 1) := by decide +kernel
theorem dX10_digest_25 : decode cX10_digest 25 = .ok (.iload_n 1, 1) := by decide +kernel
theorem dX10_digest_26 : decode cX10_digest 26 = .ok (.bipush 7, 2) := by decide +kernel
theorem dX10_digest_28 : decode cX10_digest 28 = .ok (.irem, 1) := by decide +kernel
theorem dX10_digest_29 : decode cX10_digest 29 = .ok (.ishr, 1) := by decide +kernel
theorem dX10_digest_30 : decode cX10_digest 30 = .ok (.iconst 1, 1) := by decide +kernel
theorem dX10_digest_31 : decode cX10_digest 31 = .ok (.iand, 1) := by decide +kernel
theorem dX10_digest_32 : decode cX10_digest 32 = .ok (.i2l, 1) := by decide +kernel
theorem dX10_digest_33 : decode cX10_digest 33 = .ok (.invokevirtual 267, 3) := by decide +kernel
theorem dX10_digest_36 : decode cX10_digest 36 = .ok (.iinc 1 1, 3) := by decide +kernel
theorem dX10_digest_39 : decode cX10_digest 39 = .ok (.goto (-30), 3) := by decide +kernel
theorem dX10_digest_42 : decode cX10_digest 42 = .ok (.iconst 0, 1) := by decide +kernel
theorem dX10_digest_43 : decode cX10_digest 43 = .ok (.istore_n 1, 1) := by decide +kernel
theorem dX10_digest_44 : decode cX10_digest 44 = .ok (.iload_n 1, 1) := by decide +kernel
theorem dX10_digest_45 : decode cX10_digest 45 = .ok (.aload_n 0, 1) := by decide +kernel
theorem dX10_digest_46 : decode cX10_digest 46 = .ok (.getfield 114, 3) := by decide +kernel
theorem dX10_digest_49 : decode cX10_digest 49 = .ok (.if_icmp .ge 59, 3) := by decide +kernel
theorem dX10_digest_52 : decode cX10_digest 52 = .ok (.iconst 0, 1) := by decide +kernel
theorem dX10_digest_53 : decode cX10_digest 53 = .ok (.istore_n 2, 1) := by decide +kernel
theorem dX10_digest_54 : decode cX10_digest 54 = .ok (.iload_n 2, 1) := by decide +kernel
theorem dX10_digest_55 : decode cX10_digest 55 = .ok (.bipush 12, 2) := by decide +kernel
theorem dX10_digest_57 : decode cX10_digest 57 = .ok (.if_icmp .ge 20, 3) := by decide +kernel
theorem dX10_digest_60 : decode cX10_digest 60 = .ok (.aload_n 0, 1) := by decide +kernel
theorem dX10_digest_61 : decode cX10_digest 61 = .ok (.aload_n 0, 1) := by decide +kernel
theorem dX10_digest_62 : decode cX10_digest 62 = .ok (.iload_n 1, 1) := by decide +kernel
theorem dX10_digest_63 : decode cX10_digest 63 = .ok (.iload_n 2, 1) := by decide +kernel
theorem dX10_digest_64 : decode cX10_digest 64 = .ok (.invokevirtual 157, 3) := by decide +kernel
theorem dX10_digest_67 : decode cX10_digest 67 = .ok (.i2l, 1) := by decide +kernel
theorem dX10_digest_68 : decode cX10_digest 68 = .ok (.invokevirtual 267, 3) := by decide +kernel
theorem dX10_digest_71 : decode cX10_digest 71 = .ok (.iinc 2 1, 3) := by decide +kernel
theorem dX10_digest_74 : decode cX10_digest 74 = .ok (.goto (-20), 3) := by decide +kernel
theorem dX10_digest_77 : decode cX10_digest 77 = .ok (.aload_n 0, 1) := by decide +kernel
theorem dX10_digest_78 : decode cX10_digest 78 = .ok (.aload_n 0, 1) := by decide +kernel
theorem dX10_digest_79 : decode cX10_digest 79 = .ok (.iload_n 1, 1) := by decide +kernel
theorem dX10_digest_80 : decode cX10_digest 80 = .ok (.aload_n 0, 1) := by decide +kernel
theorem dX10_digest_81 : decode cX10_digest 81 = .ok (.getfield 25, 3) := by decide +kernel
theorem dX10_digest_84 : decode cX10_digest 84 = .ok (.aload_n 0, 1) := by decide +kernel
theorem dX10_digest_85 : decode cX10_digest 85 = .ok (.getfield 151, 3) := by decide +kernel
theorem dX10_digest_88 : decode cX10_digest 88 = .ok (.invokevirtual 161, 3) := by decide +kernel
theorem dX10_digest_91 : decode cX10_digest 91 = .ok (.ifCond .eq 7, 3) := by decide +kernel
theorem dX10_digest_94 : decode cX10_digest 94 = .ok (.lconst 1, 1) := by decide +kernel
theorem dX10_digest_95 : decode cX10_digest 95 = .ok (.goto 4, 3) := by decide +kernel
theorem dX10_digest_98 : decode cX10_digest 98 = .ok (.lconst 0, 1) := by decide +kernel
theorem dX10_digest_99 : decode cX10_digest 99 = .ok (.invokevirtual 267, 3) := by decide +kernel
theorem dX10_digest_102 : decode cX10_digest 102 = .ok (.iinc 1 1, 3) := by decide +kernel
theorem dX10_digest_105 : decode cX10_digest 105 = .ok (.goto (-61), 3) := by decide +kernel
theorem dX10_digest_108 : decode cX10_digest 108 = .ok (.iconst 0, 1) := by decide +kernel
theorem dX10_digest_109 : decode cX10_digest 109 = .ok (.istore_n 1, 1) := by decide +kernel
theorem dX10_digest_110 : decode cX10_digest 110 = .ok (.iload_n 1, 1) := by decide +kernel
theorem dX10_digest_111 : decode cX10_digest 111 = .ok (.aload_n 0, 1) := by decide +kernel
theorem dX10_digest_112 : decode cX10_digest 112 = .ok (.getfield 151, 3) := by decide +kernel
theorem dX10_digest_115 : decode cX10_digest 115 = .ok (.if_icmp .ge 20, 3) := by decide +kernel
theorem dX10_digest_118 : decode cX10_digest 118 = .ok (.aload_n 0, 1) := by decide +kernel
theorem dX10_digest_119 : decode cX10_digest 119 = .ok (.aload_n 0, 1) := by decide +kernel
theorem dX10_digest_120 : decode cX10_digest 120 = .ok (.getfield 25, 3) := by decide +kernel
theorem dX10_digest_123 : decode cX10_digest 123 = .ok (.iload_n 1, 1) := by decide +kernel
theorem dX10_digest_124 : decode cX10_digest 124 = .ok (.iaload, 1) := by decide +kernel
theorem dX10_digest_125 : decode cX10_digest 125 = .ok (.i2l, 1) := by decide +kernel
theorem dX10_digest_126 : decode cX10_digest 126 = .ok (.invokevirtual 267, 3) := by decide +kernel
theorem dX10_digest_129 : decode cX10_digest 129 = .ok (.iinc 1 1, 3) := by decide +kernel
theorem dX10_digest_132 : decode cX10_digest 132 = .ok (.goto (-22), 3) := by decide +kernel
theorem dX10_digest_135 : decode cX10_digest 135 = .ok (.aload_n 0, 1) := by decide +kernel
theorem dX10_digest_136 : decode cX10_digest 136 = .ok (.aload_n 0, 1) := by decide +kernel
theorem dX10_digest_137 : decode cX10_digest 137 = .ok (.aload_n 0, 1) := by decide +kernel
theorem dX10_digest_138 : decode cX10_digest 138 = .ok (.getfield 25, 3) := by decide +kernel
theorem dX10_digest_141 : decode cX10_digest 141 = .ok (.aload_n 0, 1) := by decide +kernel
theorem dX10_digest_142 : decode cX10_digest 142 = .ok (.getfield 151, 3) := by decide +kernel
theorem dX10_digest_145 : decode cX10_digest 145 = .ok (.invokevirtual 172, 3) := by decide +kernel
theorem dX10_digest_148 : decode cX10_digest 148 = .ok (.i2l, 1) := by decide +kernel
theorem dX10_digest_149 : decode cX10_digest 149 = .ok (.invokevirtual 267, 3) := by decide +kernel
theorem dX10_digest_152 : decode cX10_digest 152 = .ok (.aload_n 0, 1) := by decide +kernel
theorem dX10_digest_153 : decode cX10_digest 153 = .ok (.aload_n 0, 1) := by decide +kernel
theorem dX10_digest_154 : decode cX10_digest 154 = .ok (.invokevirtual 209, 3) := by decide +kernel
theorem dX10_digest_157 : decode cX10_digest 157 = .ok (.i2l, 1) := by decide +kernel
theorem dX10_digest_158 : decode cX10_digest 158 = .ok (.invokevirtual 267, 3) := by decide +kernel
theorem dX10_digest_161 : decode cX10_digest 161 = .ok (.iconst 0, 1) := by decide +kernel
theorem dX10_digest_162 : decode cX10_digest 162 = .ok (.istore_n 1, 1) := by decide +kernel
theorem dX10_digest_163 : decode cX10_digest 163 = .ok (.iload_n 1, 1) := by decide +kernel
theorem dX10_digest_164 : decode cX10_digest 164 = .ok (.aload_n 0, 1) := by decide +kernel
theorem dX10_digest_165 : decode cX10_digest 165 = .ok (.getfield 74, 3) := by decide +kernel
theorem dX10_digest_168 : decode cX10_digest 168 = .ok (.if_icmp .ge 20, 3) := by decide +kernel
theorem dX10_digest_171 : decode cX10_digest 171 = .ok (.aload_n 0, 1) := by decide +kernel
theorem dX10_digest_172 : decode cX10_digest 172 = .ok (.aload_n 0, 1) := by decide +kernel
theorem dX10_digest_173 : decode cX10_digest 173 = .ok (.getfield 7, 3) := by decide +kernel
theorem dX10_digest_176 : decode cX10_digest 176 = .ok (.iload_n 1, 1) := by decide +kernel
theorem dX10_digest_177 : decode cX10_digest 177 = .ok (.iaload, 1) := by decide +kernel
theorem dX10_digest_178 : decode cX10_digest 178 = .ok (.i2l, 1) := by decide +kernel
theorem dX10_digest_179 : decode cX10_digest 179 = .ok (.invokevirtual 267, 3) := by decide +kernel
theorem dX10_digest_182 : decode cX10_digest 182 = .ok (.iinc 1 1, 3) := by decide +kernel
theorem dX10_digest_185 : decode cX10_digest 185 = .ok (.goto (-22), 3) := by decide +kernel
theorem dX10_digest_188 : decode cX10_digest 188 = .ok (.iconst 0, 1) := by decide +kernel
theorem dX10_digest_189 : decode cX10_digest 189 = .ok (.istore_n 1, 1) := by decide +kernel
theorem dX10_digest_190 : decode cX10_digest 190 = .ok (.iload_n 1, 1) := by decide +kernel
theorem dX10_digest_191 : decode cX10_digest 191 = .ok (.bipush 8, 2) := by decide +kernel
theorem dX10_digest_193 : decode cX10_digest 193 = .ok (.if_icmp .ge 19, 3) := by decide +kernel
theorem dX10_digest_196 : decode cX10_digest 196 = .ok (.aload_n 0, 1) := by decide +kernel
theorem dX10_digest_197 : decode cX10_digest 197 = .ok (.aload_n 0, 1) := by decide +kernel
theorem dX10_digest_198 : decode cX10_digest 198 = .ok (.iload_n 1, 1) := by decide +kernel
theorem dX10_digest_199 : decode cX10_digest 199 = .ok (.invokevirtual 256, 3) := by decide +kernel
theorem dX10_digest_202 : decode cX10_digest 202 = .ok (.i2l, 1) := by decide +kernel
theorem dX10_digest_203 : decode cX10_digest 203 = .ok (.invokevirtual 267, 3) := by decide +kernel
theorem dX10_digest_206 : decode cX10_digest 206 = .ok (.iinc 1 1, 3) := by decide +kernel
theorem dX10_digest_209 : decode cX10_digest 209 = .ok (.goto (-19), 3) := by decide +kernel
theorem dX10_digest_212 : decode cX10_digest 212 = .ok (.aload_n 0, 1) := by decide +kernel
theorem dX10_digest_213 : decode cX10_digest 213 = .ok (.getfield 261, 3) := by decide +kernel
theorem dX10_digest_216 : decode cX10_digest 216 = .ok (.lreturn, 1) := by decide +kernel
theorem dJ6_numberOfLeadingZeros_0f7a4_0 : decode cJ6_numberOfLeadingZeros_0f7a4 0 = .ok (.iload_n 0, 1) := by decide +kernel
theorem dJ6_numberOfLeadingZeros_0f7a4_1 : decode cJ6_numberOfLeadingZeros_0f7a4 1 = .ok (.ifCond .gt 14, 3) := by decide +kernel
theorem dJ6_numberOfLeadingZeros_0f7a4_4 : decode cJ6_numberOfLeadingZeros_0f7a4 4 = .ok (.iload_n 0, 1) := by decide +kernel
theorem dJ6_numberOfLeadingZeros_0f7a4_5 : decode cJ6_numberOfLeadingZeros_0f7a4 5 = .ok (.ifCond .ne 8, 3) := by decide +kernel
theorem dJ6_numberOfLeadingZeros_0f7a4_8 : decode cJ6_numberOfLeadingZeros_0f7a4 8 = .ok (.bipush 32, 2) := by decide +kernel
theorem dJ6_numberOfLeadingZeros_0f7a4_10 : decode cJ6_numberOfLeadingZeros_0f7a4 10 = .ok (.goto 4, 3) := by decide +kernel
theorem dJ6_numberOfLeadingZeros_0f7a4_13 : decode cJ6_numberOfLeadingZeros_0f7a4 13 = .ok (.iconst 0, 1) := by decide +kernel
theorem dJ6_numberOfLeadingZeros_0f7a4_14 : decode cJ6_numberOfLeadingZeros_0f7a4 14 = .ok (.ireturn, 1) := by decide +kernel
theorem dJ6_numberOfLeadingZeros_0f7a4_15 : decode cJ6_numberOfLeadingZeros_0f7a4 15 = .ok (.bipush 31, 2) := by decide +kernel
theorem dJ6_numberOfLeadingZeros_0f7a4_17 : decode cJ6_numberOfLeadingZeros_0f7a4 17 = .ok (.istore_n 1, 1) := by decide +kernel
theorem dJ6_numberOfLeadingZeros_0f7a4_18 : decode cJ6_numberOfLeadingZeros_0f7a4 18 = .ok (.iload_n 0, 1) := by decide +kernel
theorem dJ6_numberOfLeadingZeros_0f7a4_19 : decode cJ6_numberOfLeadingZeros_0f7a4 19 = .ok (.ldc_w 264, 3) := by decide +kernel
theorem dJ6_numberOfLeadingZeros_0f7a4_22 : decode cJ6_numberOfLeadingZeros_0f7a4 22 = .ok (.if_icmp .lt 11, 3) := by decide +kernel
theorem dJ6_numberOfLeadingZeros_0f7a4_25 : decode cJ6_numberOfLeadingZeros_0f7a4 25 = .ok (.iinc 1 (-16), 3) := by decide +kernel
theorem dJ6_numberOfLeadingZeros_0f7a4_28 : decode cJ6_numberOfLeadingZeros_0f7a4 28 = .ok (.iload_n 0, 1) := by decide +kernel
theorem dJ6_numberOfLeadingZeros_0f7a4_29 : decode cJ6_numberOfLeadingZeros_0f7a4 29 = .ok (.bipush 16, 2) := by decide +kernel
theorem dJ6_numberOfLeadingZeros_0f7a4_31 : decode cJ6_numberOfLeadingZeros_0f7a4 31 = .ok (.iushr, 1) := by decide +kernel
theorem dJ6_numberOfLeadingZeros_0f7a4_32 : decode cJ6_numberOfLeadingZeros_0f7a4 32 = .ok (.istore_n 0, 1) := by decide +kernel
theorem dJ6_numberOfLeadingZeros_0f7a4_33 : decode cJ6_numberOfLeadingZeros_0f7a4 33 = .ok (.iload_n 0, 1) := by decide +kernel
theorem dJ6_numberOfLeadingZeros_0f7a4_34 : decode cJ6_numberOfLeadingZeros_0f7a4 34 = .ok (.sipush 256, 3) := by decide +kernel
theorem dJ6_numberOfLeadingZeros_0f7a4_37 : decode cJ6_numberOfLeadingZeros_0f7a4 37 = .ok (.if_icmp .lt 11, 3) := by decide +kernel
theorem dJ6_numberOfLeadingZeros_0f7a4_40 : decode cJ6_numberOfLeadingZeros_0f7a4 40 = .ok (.iinc 1 (-8), 3) := by decide +kernel
theorem dJ6_numberOfLeadingZeros_0f7a4_43 : decode cJ6_numberOfLeadingZeros_0f7a4 43 = .ok (.iload_n 0, 1) := by decide +kernel
theorem dJ6_numberOfLeadingZeros_0f7a4_44 : decode cJ6_numberOfLeadingZeros_0f7a4 44 = .ok (.bipush 8, 2) := by decide +kernel
theorem dJ6_numberOfLeadingZeros_0f7a4_46 : decode cJ6_numberOfLeadingZeros_0f7a4 46 = .ok (.iushr, 1) := by decide +kernel
theorem dJ6_numberOfLeadingZeros_0f7a4_47 : decode cJ6_numberOfLeadingZeros_0f7a4 47 = .ok (.istore_n 0, 1) := by decide +kernel
theorem dJ6_numberOfLeadingZeros_0f7a4_48 : decode cJ6_numberOfLeadingZeros_0f7a4 48 = .ok (.iload_n 0, 1) := by decide +kernel
theorem dJ6_numberOfLeadingZeros_0f7a4_49 : decode cJ6_numberOfLeadingZeros_0f7a4 49 = .ok (.bipush 16, 2) := by decide +kernel
theorem dJ6_numberOfLeadingZeros_0f7a4_51 : decode cJ6_numberOfLeadingZeros_0f7a4 51 = .ok (.if_icmp .lt 10, 3) := by decide +kernel
theorem dJ6_numberOfLeadingZeros_0f7a4_54 : decode cJ6_numberOfLeadingZeros_0f7a4 54 = .ok (.iinc 1 (-4), 3) := by decide +kernel
theorem dJ6_numberOfLeadingZeros_0f7a4_57 : decode cJ6_numberOfLeadingZeros_0f7a4 57 = .ok (.iload_n 0, 1) := by decide +kernel
theorem dJ6_numberOfLeadingZeros_0f7a4_58 : decode cJ6_numberOfLeadingZeros_0f7a4 58 = .ok (.iconst 4, 1) := by decide +kernel
theorem dJ6_numberOfLeadingZeros_0f7a4_59 : decode cJ6_numberOfLeadingZeros_0f7a4 59 = .ok (.iushr, 1) := by decide +kernel
theorem dJ6_numberOfLeadingZeros_0f7a4_60 : decode cJ6_numberOfLeadingZeros_0f7a4 60 = .ok (.istore_n 0, 1) := by decide +kernel
theorem dJ6_numberOfLeadingZeros_0f7a4_61 : decode cJ6_numberOfLeadingZeros_0f7a4 61 = .ok (.iload_n 0, 1) := by decide +kernel
theorem dJ6_numberOfLeadingZeros_0f7a4_62 : decode cJ6_numberOfLeadingZeros_0f7a4 62 = .ok (.iconst 4, 1) := by decide +kernel
theorem dJ6_numberOfLeadingZeros_0f7a4_63 : decode cJ6_numberOfLeadingZeros_0f7a4 63 = .ok (.if_icmp .lt 10, 3) := by decide +kernel
theorem dJ6_numberOfLeadingZeros_0f7a4_66 : decode cJ6_numberOfLeadingZeros_0f7a4 66 = .ok (.iinc 1 (-2), 3) := by decide +kernel
theorem dJ6_numberOfLeadingZeros_0f7a4_69 : decode cJ6_numberOfLeadingZeros_0f7a4 69 = .ok (.iload_n 0, 1) := by decide +kernel
theorem dJ6_numberOfLeadingZeros_0f7a4_70 : decode cJ6_numberOfLeadingZeros_0f7a4 70 = .ok (.iconst 2, 1) := by decide +kernel
theorem dJ6_numberOfLeadingZeros_0f7a4_71 : decode cJ6_numberOfLeadingZeros_0f7a4 71 = .ok (.iushr, 1) := by decide +kernel
theorem dJ6_numberOfLeadingZeros_0f7a4_72 : decode cJ6_numberOfLeadingZeros_0f7a4 72 = .ok (.istore_n 0, 1) := by decide +kernel
theorem dJ6_numberOfLeadingZeros_0f7a4_73 : decode cJ6_numberOfLeadingZeros_0f7a4 73 = .ok (.iload_n 1, 1) := by decide +kernel
theorem dJ6_numberOfLeadingZeros_0f7a4_74 : decode cJ6_numberOfLeadingZeros_0f7a4 74 = .ok (.iload_n 0, 1) := by decide +kernel
theorem dJ6_numberOfLeadingZeros_0f7a4_75 : decode cJ6_numberOfLeadingZeros_0f7a4 75 = .ok (.iconst 1, 1) := by decide +kernel
theorem dJ6_numberOfLeadingZeros_0f7a4_76 : decode cJ6_numberOfLeadingZeros_0f7a4 76 = .ok (.iushr, 1) := by decide +kernel
theorem dJ6_numberOfLeadingZeros_0f7a4_77 : decode cJ6_numberOfLeadingZeros_0f7a4 77 = .ok (.isub, 1) := by decide +kernel
theorem dJ6_numberOfLeadingZeros_0f7a4_78 : decode cJ6_numberOfLeadingZeros_0f7a4 78 = .ok (.ireturn, 1) := by decide +kernel
theorem dJ13_numberOfLeadingZeros_95d88_0 : decode cJ13_numberOfLeadingZeros_95d88 0 = .ok (.lload_n 0, 1) := by decide +kernel
theorem dJ13_numberOfLeadingZeros_95d88_1 : decode cJ13_numberOfLeadingZeros_95d88 1 = .ok (.bipush 32, 2) := by decide +kernel
theorem dJ13_numberOfLeadingZeros_95d88_3 : decode cJ13_numberOfLeadingZeros_95d88 3 = .ok (.lushr, 1) := by decide +kernel
theorem dJ13_numberOfLeadingZeros_95d88_4 : decode cJ13_numberOfLeadingZeros_95d88 4 = .ok (.l2i, 1) := by decide +kernel
theorem dJ13_numberOfLeadingZeros_95d88_5 : decode cJ13_numberOfLeadingZeros_95d88 5 = .ok (.istore_n 2, 1) := by decide +kernel
theorem dJ13_numberOfLeadingZeros_95d88_6 : decode cJ13_numberOfLeadingZeros_95d88 6 = .ok (.iload_n 2, 1) := by decide +kernel
theorem dJ13_numberOfLeadingZeros_95d88_7 : decode cJ13_numberOfLeadingZeros_95d88 7 = .ok (.ifCond .ne 14, 3) := by decide +kernel
theorem dJ13_numberOfLeadingZeros_95d88_10 : decode cJ13_numberOfLeadingZeros_95d88 10 = .ok (.bipush 32, 2) := by decide +kernel
theorem dJ13_numberOfLeadingZeros_95d88_12 : decode cJ13_numberOfLeadingZeros_95d88 12 = .ok (.lload_n 0, 1) := by decide +kernel
theorem dJ13_numberOfLeadingZeros_95d88_13 : decode cJ13_numberOfLeadingZeros_95d88 13 = .ok (.l2i, 1) := by decide +kernel
theorem dJ13_numberOfLeadingZeros_95d88_14 : decode cJ13_numberOfLeadingZeros_95d88 14 = .ok (.invokestatic 308, 3) := by decide +kernel
theorem dJ13_numberOfLeadingZeros_95d88_17 : decode cJ13_numberOfLeadingZeros_95d88 17 = .ok (.iadd, 1) := by decide +kernel
theorem dJ13_numberOfLeadingZeros_95d88_18 : decode cJ13_numberOfLeadingZeros_95d88 18 = .ok (.goto 7, 3) := by decide +kernel
theorem dJ13_numberOfLeadingZeros_95d88_21 : decode cJ13_numberOfLeadingZeros_95d88 21 = .ok (.iload_n 2, 1) := by decide +kernel
theorem dJ13_numberOfLeadingZeros_95d88_22 : decode cJ13_numberOfLeadingZeros_95d88 22 = .ok (.invokestatic 308, 3) := by decide +kernel
theorem dJ13_numberOfLeadingZeros_95d88_25 : decode cJ13_numberOfLeadingZeros_95d88 25 = .ok (.ireturn, 1) := by decide +kernel
theorem dJ13_bitCount_95d88_0 : decode cJ13_bitCount_95d88 0 = .ok (.lload_n 0, 1) := by decide +kernel
theorem dJ13_bitCount_95d88_1 : decode cJ13_bitCount_95d88 1 = .ok (.lload_n 0, 1) := by decide +kernel
theorem dJ13_bitCount_95d88_2 : decode cJ13_bitCount_95d88 2 = .ok (.iconst 1, 1) := by decide +kernel
theorem dJ13_bitCount_95d88_3 : decode cJ13_bitCount_95d88 3 = .ok (.lushr, 1) := by decide +kernel
theorem dJ13_bitCount_95d88_4 : decode cJ13_bitCount_95d88 4 = .ok (.ldc2_w 314, 3) := by decide +kernel
theorem dJ13_bitCount_95d88_7 : decode cJ13_bitCount_95d88 7 = .ok (.land, 1) := by decide +kernel
theorem dJ13_bitCount_95d88_8 : decode cJ13_bitCount_95d88 8 = .ok (.lsub, 1) := by decide +kernel
theorem dJ13_bitCount_95d88_9 : decode cJ13_bitCount_95d88 9 = .ok (.lstore_n 0, 1) := by decide +kernel
theorem dJ13_bitCount_95d88_10 : decode cJ13_bitCount_95d88 10 = .ok (.lload_n 0, 1) := by decide +kernel
theorem dJ13_bitCount_95d88_11 : decode cJ13_bitCount_95d88 11 = .ok (.ldc2_w 316, 3) := by decide +kernel
theorem dJ13_bitCount_95d88_14 : decode cJ13_bitCount_95d88 14 = .ok (.land, 1) := by decide +kernel
theorem dJ13_bitCount_95d88_15 : decode cJ13_bitCount_95d88 15 = .ok (.lload_n 0, 1) := by decide +kernel
theorem dJ13_bitCount_95d88_16 : decode cJ13_bitCount_95d88 16 = .ok (.iconst 2, 1) := by decide +kernel
theorem dJ13_bitCount_95d88_17 : decode cJ13_bitCount_95d88 17 = .ok (.lushr, 1) := by decide +kernel
theorem dJ13_bitCount_95d88_18 : decode cJ13_bitCount_95d88 18 = .ok (.ldc2_w 316, 3) := by decide +kernel
theorem dJ13_bitCount_95d88_21 : decode cJ13_bitCount_95d88 21 = .ok (.land, 1) := by decide +kernel
theorem dJ13_bitCount_95d88_22 : decode cJ13_bitCount_95d88 22 = .ok (.ladd, 1) := by decide +kernel
theorem dJ13_bitCount_95d88_23 : decode cJ13_bitCount_95d88 23 = .ok (.lstore_n 0, 1) := by decide +kernel
theorem dJ13_bitCount_95d88_24 : decode cJ13_bitCount_95d88 24 = .ok (.lload_n 0, 1) := by decide +kernel
theorem dJ13_bitCount_95d88_25 : decode cJ13_bitCount_95d88 25 = .ok (.lload_n 0, 1) := by decide +kernel
theorem dJ13_bitCount_95d88_26 : decode cJ13_bitCount_95d88 26 = .ok (.iconst 4, 1) := by decide +kernel
theorem dJ13_bitCount_95d88_27 : decode cJ13_bitCount_95d88 27 = .ok (.lushr, 1) := by decide +kernel
theorem dJ13_bitCount_95d88_28 : decode cJ13_bitCount_95d88 28 = .ok (.ladd, 1) := by decide +kernel
theorem dJ13_bitCount_95d88_29 : decode cJ13_bitCount_95d88 29 = .ok (.ldc2_w 318, 3) := by decide +kernel
theorem dJ13_bitCount_95d88_32 : decode cJ13_bitCount_95d88 32 = .ok (.land, 1) := by decide +kernel
theorem dJ13_bitCount_95d88_33 : decode cJ13_bitCount_95d88 33 = .ok (.lstore_n 0, 1) := by decide +kernel
theorem dJ13_bitCount_95d88_34 : decode cJ13_bitCount_95d88 34 = .ok (.lload_n 0, 1) := by decide +kernel
theorem dJ13_bitCount_95d88_35 : decode cJ13_bitCount_95d88 35 = .ok (.lload_n 0, 1) := by decide +kernel
theorem dJ13_bitCount_95d88_36 : decode cJ13_bitCount_95d88 36 = .ok (.bipush 8, 2) := by decide +kernel
theorem dJ13_bitCount_95d88_38 : decode cJ13_bitCount_95d88 38 = .ok (.lushr, 1) := by decide +kernel
theorem dJ13_bitCount_95d88_39 : decode cJ13_bitCount_95d88 39 = .ok (.ladd, 1) := by decide +kernel
theorem dJ13_bitCount_95d88_40 : decode cJ13_bitCount_95d88 40 = .ok (.lstore_n 0, 1) := by decide +kernel
theorem dJ13_bitCount_95d88_41 : decode cJ13_bitCount_95d88 41 = .ok (.lload_n 0, 1) := by decide +kernel
theorem dJ13_bitCount_95d88_42 : decode cJ13_bitCount_95d88 42 = .ok (.lload_n 0, 1) := by decide +kernel
theorem dJ13_bitCount_95d88_43 : decode cJ13_bitCount_95d88 43 = .ok (.bipush 16, 2) := by decide +kernel
theorem dJ13_bitCount_95d88_45 : decode cJ13_bitCount_95d88 45 = .ok (.lushr, 1) := by decide +kernel
theorem dJ13_bitCount_95d88_46 : decode cJ13_bitCount_95d88 46 = .ok (.ladd, 1) := by decide +kernel
theorem dJ13_bitCount_95d88_47 : decode cJ13_bitCount_95d88 47 = .ok (.lstore_n 0, 1) := by decide +kernel
theorem dJ13_bitCount_95d88_48 : decode cJ13_bitCount_95d88 48 = .ok (.lload_n 0, 1) := by decide +kernel
theorem dJ13_bitCount_95d88_49 : decode cJ13_bitCount_95d88 49 = .ok (.lload_n 0, 1) := by decide +kernel
theorem dJ13_bitCount_95d88_50 : decode cJ13_bitCount_95d88 50 = .ok (.bipush 32, 2) := by decide +kernel
theorem dJ13_bitCount_95d88_52 : decode cJ13_bitCount_95d88 52 = .ok (.lushr, 1) := by decide +kernel
theorem dJ13_bitCount_95d88_53 : decode cJ13_bitCount_95d88 53 = .ok (.ladd, 1) := by decide +kernel
theorem dJ13_bitCount_95d88_54 : decode cJ13_bitCount_95d88 54 = .ok (.lstore_n 0, 1) := by decide +kernel
theorem dJ13_bitCount_95d88_55 : decode cJ13_bitCount_95d88 55 = .ok (.lload_n 0, 1) := by decide +kernel
theorem dJ13_bitCount_95d88_56 : decode cJ13_bitCount_95d88 56 = .ok (.l2i, 1) := by decide +kernel
theorem dJ13_bitCount_95d88_57 : decode cJ13_bitCount_95d88 57 = .ok (.bipush 127, 2) := by decide +kernel
theorem dJ13_bitCount_95d88_59 : decode cJ13_bitCount_95d88 59 = .ok (.iand, 1) := by decide +kernel
theorem dJ13_bitCount_95d88_60 : decode cJ13_bitCount_95d88 60 = .ok (.ireturn, 1) := by decide +kernel
theorem dJ9_abs_0f7a4_0 : decode cJ9_abs_0f7a4 0 = .ok (.iload_n 0, 1) := by decide +kernel
theorem dJ9_abs_0f7a4_1 : decode cJ9_abs_0f7a4 1 = .ok (.ifCond .ge 8, 3) := by decide +kernel
theorem dJ9_abs_0f7a4_4 : decode cJ9_abs_0f7a4 4 = .ok (.iload_n 0, 1) := by decide +kernel
theorem dJ9_abs_0f7a4_5 : decode cJ9_abs_0f7a4 5 = .ok (.ineg, 1) := by decide +kernel
theorem dJ9_abs_0f7a4_6 : decode cJ9_abs_0f7a4 6 = .ok (.goto 4, 3) := by decide +kernel
theorem dJ9_abs_0f7a4_9 : decode cJ9_abs_0f7a4 9 = .ok (.iload_n 0, 1) := by decide +kernel
theorem dJ9_abs_0f7a4_10 : decode cJ9_abs_0f7a4 10 = .ok (.ireturn, 1) := by decide +kernel
theorem dJ9_max_7cf53_0 : decode cJ9_max_7cf53 0 = .ok (.iload_n 0, 1) := by decide +kernel
theorem dJ9_max_7cf53_1 : decode cJ9_max_7cf53 1 = .ok (.iload_n 1, 1) := by decide +kernel
theorem dJ9_max_7cf53_2 : decode cJ9_max_7cf53 2 = .ok (.if_icmp .lt 7, 3) := by decide +kernel
theorem dJ9_max_7cf53_5 : decode cJ9_max_7cf53 5 = .ok (.iload_n 0, 1) := by decide +kernel
theorem dJ9_max_7cf53_6 : decode cJ9_max_7cf53 6 = .ok (.goto 4, 3) := by decide +kernel
theorem dJ9_max_7cf53_9 : decode cJ9_max_7cf53 9 = .ok (.iload_n 1, 1) := by decide +kernel
theorem dJ9_max_7cf53_10 : decode cJ9_max_7cf53 10 = .ok (.ireturn, 1) := by decide +kernel
theorem dJ9_min_7cf53_0 : decode cJ9_min_7cf53 0 = .ok (.iload_n 0, 1) := by decide +kernel
theorem dJ9_min_7cf53_1 : decode cJ9_min_7cf53 1 = .ok (.iload_n 1, 1) := by decide +kernel
theorem dJ9_min_7cf53_2 : decode cJ9_min_7cf53 2 = .ok (.if_icmp .gt 7, 3) := by decide +kernel
theorem dJ9_min_7cf53_5 : decode cJ9_min_7cf53 5 = .ok (.iload_n 0, 1) := by decide +kernel
theorem dJ9_min_7cf53_6 : decode cJ9_min_7cf53 6 = .ok (.goto 4, 3) := by decide +kernel
theorem dJ9_min_7cf53_9 : decode cJ9_min_7cf53 9 = .ok (.iload_n 1, 1) := by decide +kernel
theorem dJ9_min_7cf53_10 : decode cJ9_min_7cf53 10 = .ok (.ireturn, 1) := by decide +kernel
theorem dL_law_0 : decode cL_law 0 = .ok (.new 7, 3) := by decide +kernel
theorem dL_law_3 : decode cL_law 3 = .ok (.dup, 1) := by decide +kernel
theorem dL_law_4 : decode cL_law 4 = .ok (.invokespecial 9, 3) := by decide +kernel
theorem dL_law_7 : decode cL_law 7 = .ok (.astore_n 1, 1) := by decide +kernel
theorem dL_law_8 : decode cL_law 8 = .ok (.new 10, 3) := by decide +kernel
theorem dL_law_11 : decode cL_law 11 = .ok (.dup, 1) := by decide +kernel
theorem dL_law_12 : decode cL_law 12 = .ok (.invokespecial 12, 3) := by decide +kernel
theorem dL_law_15 : decode cL_law 15 = .ok (.astore_n 2, 1) := by decide +kernel
theorem dL_law_16 : decode cL_law 16 = .ok (.iconst 0, 1) := by decide +kernel
theorem dL_law_17 : decode cL_law 17 = .ok (.istore_n 3, 1) := by decide +kernel
theorem dL_law_18 : decode cL_law 18 = .ok (.iload_n 3, 1) := by decide +kernel
theorem dL_law_19 : decode cL_law 19 = .ok (.aload_n 0, 1) := by decide +kernel
theorem dL_law_20 : decode cL_law 20 = .ok (.arraylength, 1) := by decide +kernel
theorem dL_law_21 : decode cL_law 21 = .ok (.bipush 6, 2) := by decide +kernel
theorem dL_law_23 : decode cL_law 23 = .ok (.isub, 1) := by decide +kernel
theorem dL_law_24 : decode cL_law 24 = .ok (.if_icmp .gt 830, 3) := by decide +kernel
theorem dL_law_27 : decode cL_law 27 = .ok (.aload_n 0, 1) := by decide +kernel
theorem dL_law_28 : decode cL_law 28 = .ok (.iload_n 3, 1) := by decide +kernel
theorem dL_law_29 : decode cL_law 29 = .ok (.iaload, 1) := by decide +kernel
theorem dL_law_30 : decode cL_law 30 = .ok (.bipush 31, 2) := by decide +kernel
theorem dL_law_32 : decode cL_law 32 = .ok (.iand, 1) := by decide +kernel
theorem dL_law_33 : decode cL_law 33 = .ok (.tableswitch 815 0 26 #[123, 176, 189, 212, 225, 258, 321, 364, 397, 430, 463, 486, 509, 522, 545, 558, 581, 594, 607, 640, 673, 686, 709, 752, 765, 778, 801], 123) := by decide +kernel
theorem dL_law_156 : decode cL_law 156 = .ok (.aload_n 1, 1) := by decide +kernel
theorem dL_law_157 : decode cL_law 157 = .ok (.aload_n 0, 1) := by decide +kernel
theorem dL_law_158 : decode cL_law 158 = .ok (.iload_n 3, 1) := by decide +kernel
theorem dL_law_159 : decode cL_law 159 = .ok (.iconst 1, 1) := by decide +kernel
theorem dL_law_160 : decode cL_law 160 = .ok (.iadd, 1) := by decide +kernel
theorem dL_law_161 : decode cL_law 161 = .ok (.iaload, 1) := by decide +kernel
theorem dL_law_162 : decode cL_law 162 = .ok (.i2l, 1) := by decide +kernel
theorem dL_law_163 : decode cL_law 163 = .ok (.bipush 32, 2) := by decide +kernel
theorem dL_law_165 : decode cL_law 165 = .ok (.lshl, 1) := by decide +kernel
theorem dL_law_166 : decode cL_law 166 = .ok (.aload_n 0, 1) := by decide +kernel
theorem dL_law_167 : decode cL_law 167 = .ok (.iload_n 3, 1) := by decide +kernel
theorem dL_law_168 : decode cL_law 168 = .ok (.iconst 2, 1) := by decide +kernel
theorem dL_law_169 : decode cL_law 169 = .ok (.iadd, 1) := by decide +kernel
theorem dL_law_170 : decode cL_law 170 = .ok (.iaload, 1) := by decide +kernel
theorem dL_law_171 : decode cL_law 171 = .ok (.i2l, 1) := by decide +kernel
theorem dL_law_172 : decode cL_law 172 = .ok (.ldc2_w 13, 3) := by decide +kernel
theorem dL_law_175 : decode cL_law 175 = .ok (.land, 1) := by decide +kernel
theorem dL_law_176 : decode cL_law 176 = .ok (.lor, 1) := by decide +kernel
theorem dL_law_177 : decode cL_law 177 = .ok (.invokevirtual 15, 3) := by decide +kernel
theorem dL_law_180 : decode cL_law 180 = .ok (.aload_n 2, 1) := by decide +kernel
theorem dL_law_181 : decode cL_law 181 = .ok (.aload_n 0, 1) := by decide +kernel
theorem dL_law_182 : decode cL_law 182 = .ok (.iload_n 3, 1) := by decide +kernel
theorem dL_law_183 : decode cL_law 183 = .ok (.iconst 1, 1) := by decide +kernel
theorem dL_law_184 : decode cL_law 184 = .ok (.iadd, 1) := by decide +kernel
theorem dL_law_185 : decode cL_law 185 = .ok (.iaload, 1) := by decide +kernel
theorem dL_law_186 : decode cL_law 186 = .ok (.i2l, 1) := by decide +kernel
theorem dL_law_187 : decode cL_law 187 = .ok (.bipush 32, 2) := by decide +kernel
theorem dL_law_189 : decode cL_law 189 = .ok (.lshl, 1) := by decide +kernel
theorem dL_law_190 : decode cL_law 190 = .ok (.aload_n 0, 1) := by decide +kernel
theorem dL_law_191 : decode cL_law 191 = .ok (.iload_n 3, 1) := by decide +kernel
theorem dL_law_192 : decode cL_law 192 = .ok (.iconst 2, 1) := by decide +kernel
theorem dL_law_193 : decode cL_law 193 = .ok (.iadd, 1) := by decide +kernel
theorem dL_law_194 : decode cL_law 194 = .ok (.iaload, 1) := by decide +kernel
theorem dL_law_195 : decode cL_law 195 = .ok (.i2l, 1) := by decide +kernel
theorem dL_law_196 : decode cL_law 196 = .ok (.ldc2_w 13, 3) := by decide +kernel
theorem dL_law_199 : decode cL_law 199 = .ok (.land, 1) := by decide +kernel
theorem dL_law_200 : decode cL_law 200 = .ok (.lor, 1) := by decide +kernel
theorem dL_law_201 : decode cL_law 201 = .ok (.invokevirtual 19, 3) := by decide +kernel
theorem dL_law_204 : decode cL_law 204 = .ok (.if_icmp .eq 644, 3) := by decide +kernel
theorem dL_law_207 : decode cL_law 207 = .ok (.iconst 0, 1) := by decide +kernel
theorem dL_law_208 : decode cL_law 208 = .ok (.ireturn, 1) := by decide +kernel
theorem dL_law_209 : decode cL_law 209 = .ok (.aload_n 1, 1) := by decide +kernel
theorem dL_law_210 : decode cL_law 210 = .ok (.invokevirtual 20, 3) := by decide +kernel
theorem dL_law_213 : decode cL_law 213 = .ok (.aload_n 2, 1) := by decide +kernel
theorem dL_law_214 : decode cL_law 214 = .ok (.invokevirtual 24, 3) := by decide +kernel
theorem dL_law_217 : decode cL_law 217 = .ok (.if_icmp .eq 631, 3) := by decide +kernel
theorem dL_law_220 : decode cL_law 220 = .ok (.iconst 0, 1) := by decide +kernel
theorem dL_law_221 : decode cL_law 221 = .ok (.ireturn, 1) := by decide +kernel
theorem dL_law_222 : decode cL_law 222 = .ok (.aload_n 1, 1) := by decide +kernel
theorem dL_law_223 : decode cL_law 223 = .ok (.aload_n 0, 1) := by decide +kernel
theorem dL_law_224 : decode cL_law 224 = .ok (.iload_n 3, 1) := by decide +kernel
theorem dL_law_225 : decode cL_law 225 = .ok (.iconst 1, 1) := by decide +kernel
theorem dL_law_226 : decode cL_law 226 = .ok (.iadd, 1) := by decide +kernel
theorem dL_law_227 : decode cL_law 227 = .ok (.iaload, 1) := by decide +kernel
theorem dL_law_228 : decode cL_law 228 = .ok (.invokevirtual 25, 3) := by decide +kernel
theorem dL_law_231 : decode cL_law 231 = .ok (.aload_n 2, 1) := by decide +kernel
theorem dL_law_232 : decode cL_law 232 = .ok (.aload_n 0, 1) := by decide +kernel
theorem dL_law_233 : decode cL_law 233 = .ok (.iload_n 3, 1) := by decide +kernel
theorem dL_law_234 : decode cL_law 234 = .ok (.iconst 1, 1) := by decide +kernel
theorem dL_law_235 : decode cL_law 235 = .ok (.iadd, 1) := by decide +kernel
theorem dL_law_236 : decode cL_law 236 = .ok (.iaload, 1) := by decide +kernel
theorem dL_law_237 : decode cL_law 237 = .ok (.invokevirtual 29, 3) := by decide +kernel
theorem dL_law_240 : decode cL_law 240 = .ok (.if_icmp .eq 608, 3) := by decide +kernel
theorem dL_law_243 : decode cL_law 243 = .ok (.iconst 0, 1) := by decide +kernel
theorem dL_law_244 : decode cL_law 244 = .ok (.ireturn, 1) := by decide +kernel
theorem dL_law_245 : decode cL_law 245 = .ok (.aload_n 1, 1) := by decide +kernel
theorem dL_law_246 : decode cL_law 246 = .ok (.invokevirtual 30, 3) := by decide +kernel
theorem dL_law_249 : decode cL_law 249 = .ok (.aload_n 2, 1) := by decide +kernel
theorem dL_law_250 : decode cL_law 250 = .ok (.invokevirtual 33, 3) := by decide +kernel
theorem dL_law_253 : decode cL_law 253 = .ok (.if_icmp .eq 595, 3) := by decide +kernel
theorem dL_law_256 : decode cL_law 256 = .ok (.iconst 0, 1) := by decide +kernel
theorem dL_law_257 : decode cL_law 257 = .ok (.ireturn, 1) := by decide +kernel
theorem dL_law_258 : decode cL_law 258 = .ok (.aload_n 1, 1) := by decide +kernel
theorem dL_law_259 : decode cL_law 259 = .ok (.aload_n 0, 1) := by decide +kernel
theorem dL_law_260 : decode cL_law 260 = .ok (.iload_n 3, 1) := by decide +kernel
theorem dL_law_261 : decode cL_law 261 = .ok (.iconst 1, 1) := by decide +kernel
theorem dL_law_262 : decode cL_law 262 = .ok (.iadd, 1) := by decide +kernel
theorem dL_law_263 : decode cL_law 263 = .ok (.iaload, 1) := by decide +kernel
theorem dL_law_264 : decode cL_law 264 = .ok (.aload_n 0, 1) := by decide +kernel
theorem dL_law_265 : decode cL_law 265 = .ok (.iload_n 3, 1) := by decide +kernel
theorem dL_law_266 : decode cL_law 266 = .ok (.iconst 2, 1) := by decide +kernel
theorem dL_law_267 : decode cL_law 267 = .ok (.iadd, 1) := by decide +kernel
theorem dL_law_268 : decode cL_law 268 = .ok (.iaload, 1) := by decide +kernel
theorem dL_law_269 : decode cL_law 269 = .ok (.invokevirtual 34, 3) := by decide +kernel
theorem dL_law_272 : decode cL_law 272 = .ok (.aload_n 2, 1) := by decide +kernel
theorem dL_law_273 : decode cL_law 273 = .ok (.aload_n 0, 1) := by decide +kernel
theorem dL_law_274 : decode cL_law 274 = .ok (.iload_n 3, 1) := by decide +kernel
theorem dL_law_275 : decode cL_law 275 = .ok (.iconst 1, 1) := by decide +kernel
theorem dL_law_276 : decode cL_law 276 = .ok (.iadd, 1) := by decide +kernel
theorem dL_law_277 : decode cL_law 277 = .ok (.iaload, 1) := by decide +kernel
theorem dL_law_278 : decode cL_law 278 = .ok (.aload_n 0, 1) := by decide +kernel
theorem dL_law_279 : decode cL_law 279 = .ok (.iload_n 3, 1) := by decide +kernel
theorem dL_law_280 : decode cL_law 280 = .ok (.iconst 2, 1) := by decide +kernel
theorem dL_law_281 : decode cL_law 281 = .ok (.iadd, 1) := by decide +kernel
theorem dL_law_282 : decode cL_law 282 = .ok (.iaload, 1) := by decide +kernel
theorem dL_law_283 : decode cL_law 283 = .ok (.invokevirtual 38, 3) := by decide +kernel
theorem dL_law_286 : decode cL_law 286 = .ok (.if_icmp .eq 562, 3) := by decide +kernel
theorem dL_law_289 : decode cL_law 289 = .ok (.iconst 0, 1) := by decide +kernel
theorem dL_law_290 : decode cL_law 290 = .ok (.ireturn, 1) := by decide +kernel
theorem dL_law_291 : decode cL_law 291 = .ok (.aload_n 1, 1) := by decide +kernel
theorem dL_law_292 : decode cL_law 292 = .ok (.aload_n 0, 1) := by decide +kernel
theorem dL_law_293 : decode cL_law 293 = .ok (.iload_n 3, 1) := by decide +kernel
theorem dL_law_294 : decode cL_law 294 = .ok (.iconst 1, 1) := by decide +kernel
theorem dL_law_295 : decode cL_law 295 = .ok (.iadd, 1) := by decide +kernel
theorem dL_law_296 : decode cL_law 296 = .ok (.iaload, 1) := by decide +kernel
theorem dL_law_297 : decode cL_law 297 = .ok (.aload_n 0, 1) := by decide +kernel
theorem dL_law_298 : decode cL_law 298 = .ok (.iload_n 3, 1) := by decide +kernel
theorem dL_law_299 : decode cL_law 299 = .ok (.iconst 2, 1) := by decide +kernel
theorem dL_law_300 : decode cL_law 300 = .ok (.iadd, 1) := by decide +kernel
theorem dL_law_301 : decode cL_law 301 = .ok (.iaload, 1) := by decide +kernel
theorem dL_law_302 : decode cL_law 302 = .ok (.aload_n 0, 1) := by decide +kernel
theorem dL_law_303 : decode cL_law 303 = .ok (.iload_n 3, 1) := by decide +kernel
theorem dL_law_304 : decode cL_law 304 = .ok (.iconst 3, 1) := by decide +kernel
theorem dL_law_305 : decode cL_law 305 = .ok (.iadd, 1) := by decide +kernel
theorem dL_law_306 : decode cL_law 306 = .ok (.iaload, 1) := by decide +kernel
theorem dL_law_307 : decode cL_law 307 = .ok (.aload_n 0, 1) := by decide +kernel
theorem dL_law_308 : decode cL_law 308 = .ok (.iload_n 3, 1) := by decide +kernel
theorem dL_law_309 : decode cL_law 309 = .ok (.iconst 4, 1) := by decide +kernel
theorem dL_law_310 : decode cL_law 310 = .ok (.iadd, 1) := by decide +kernel
theorem dL_law_311 : decode cL_law 311 = .ok (.iaload, 1) := by decide +kernel
theorem dL_law_312 : decode cL_law 312 = .ok (.aload_n 0, 1) := by decide +kernel
theorem dL_law_313 : decode cL_law 313 = .ok (.iload_n 3, 1) := by decide +kernel
theorem dL_law_314 : decode cL_law 314 = .ok (.iconst 5, 1) := by decide +kernel
theorem dL_law_315 : decode cL_law 315 = .ok (.iadd, 1) := by decide +kernel
theorem dL_law_316 : decode cL_law 316 = .ok (.iaload, 1) := by decide +kernel
theorem dL_law_317 : decode cL_law 317 = .ok (.invokevirtual 39, 3) := by decide +kernel
theorem dL_law_320 : decode cL_law 320 = .ok (.aload_n 2, 1) := by decide +kernel
theorem dL_law_321 : decode cL_law 321 = .ok (.aload_n 0, 1) := by decide +kernel
theorem dL_law_322 : decode cL_law 322 = .ok (.iload_n 3, 1) := by decide +kernel
theorem dL_law_323 : decode cL_law 323 = .ok (.iconst 1, 1) := by decide +kernel
theorem dL_law_324 : decode cL_law 324 = .ok (.iadd, 1) := by decide +kernel
theorem dL_law_325 : decode cL_law 325 = .ok (.iaload, 1) := by decide +kernel
theorem dL_law_326 : decode cL_law 326 = .ok (.aload_n 0, 1) := by decide +kernel
theorem dL_law_327 : decode cL_law 327 = .ok (.iload_n 3, 1) := by decide +kernel
theorem dL_law_328 : decode cL_law 328 = .ok (.iconst 2, 1) := by decide +kernel
theorem dL_law_329 : decode cL_law 329 = .ok (.iadd, 1) := by decide +kernel
theorem dL_law_330 : decode cL_law 330 = .ok (.iaload, 1) := by decide +kernel
theorem dL_law_331 : decode cL_law 331 = .ok (.aload_n 0, 1) := by decide +kernel
theorem dL_law_332 : decode cL_law 332 = .ok (.iload_n 3, 1) := by decide +kernel
theorem dL_law_333 : decode cL_law 333 = .ok (.iconst 3, 1) := by decide +kernel
theorem dL_law_334 : decode cL_law 334 = .ok (.iadd, 1) := by decide +kernel
theorem dL_law_335 : decode cL_law 335 = .ok (.iaload, 1) := by decide +kernel
theorem dL_law_336 : decode cL_law 336 = .ok (.aload_n 0, 1) := by decide +kernel
theorem dL_law_337 : decode cL_law 337 = .ok (.iload_n 3, 1) := by decide +kernel
theorem dL_law_338 : decode cL_law 338 = .ok (.iconst 4, 1) := by decide +kernel
theorem dL_law_339 : decode cL_law 339 = .ok (.iadd, 1) := by decide +kernel
theorem dL_law_340 : decode cL_law 340 = .ok (.iaload, 1) := by decide +kernel
theorem dL_law_341 : decode cL_law 341 = .ok (.aload_n 0, 1) := by decide +kernel
theorem dL_law_342 : decode cL_law 342 = .ok (.iload_n 3, 1) := by decide +kernel
theorem dL_law_343 : decode cL_law 343 = .ok (.iconst 5, 1) := by decide +kernel
theorem dL_law_344 : decode cL_law 344 = .ok (.iadd, 1) := by decide +kernel
theorem dL_law_345 : decode cL_law 345 = .ok (.iaload, 1) := by decide +kernel
theorem dL_law_346 : decode cL_law 346 = .ok (.invokevirtual 43, 3) := by decide +kernel
theorem dL_law_349 : decode cL_law 349 = .ok (.if_icmp .eq 499, 3) := by decide +kernel
theorem dL_law_352 : decode cL_law 352 = .ok (.iconst 0, 1) := by decide +kernel
theorem dL_law_353 : decode cL_law 353 = .ok (.ireturn, 1) := by decide +kernel
theorem dL_law_354 : decode cL_law 354 = .ok (.aload_n 1, 1) := by decide +kernel
theorem dL_law_355 : decode cL_law 355 = .ok (.aload_n 0, 1) := by decide +kernel
theorem dL_law_356 : decode cL_law 356 = .ok (.iload_n 3, 1) := by decide +kernel
theorem dL_law_357 : decode cL_law 357 = .ok (.iconst 1, 1) := by decide +kernel
theorem dL_law_358 : decode cL_law 358 = .ok (.iadd, 1) := by decide +kernel
theorem dL_law_359 : decode cL_law 359 = .ok (.iaload, 1) := by decide +kernel
theorem dL_law_360 : decode cL_law 360 = .ok (.aload_n 0, 1) := by decide +kernel
theorem dL_law_361 : decode cL_law 361 = .ok (.iload_n 3, 1) := by decide +kernel
theorem dL_law_362 : decode cL_law 362 = .ok (.iconst 2, 1) := by decide +kernel
theorem dL_law_363 : decode cL_law 363 = .ok (.iadd, 1) := by decide +kernel
theorem dL_law_364 : decode cL_law 364 = .ok (.iaload, 1) := by decide +kernel
theorem dL_law_365 : decode cL_law 365 = .ok (.aload_n 0, 1) := by decide +kernel
theorem dL_law_366 : decode cL_law 366 = .ok (.iload_n 3, 1) := by decide +kernel
theorem dL_law_367 : decode cL_law 367 = .ok (.iconst 3, 1) := by decide +kernel
theorem dL_law_368 : decode cL_law 368 = .ok (.iadd, 1) := by decide +kernel
theorem dL_law_369 : decode cL_law 369 = .ok (.iaload, 1) := by decide +kernel
theorem dL_law_370 : decode cL_law 370 = .ok (.invokevirtual 44, 3) := by decide +kernel
theorem dL_law_373 : decode cL_law 373 = .ok (.aload_n 2, 1) := by decide +kernel
theorem dL_law_374 : decode cL_law 374 = .ok (.aload_n 0, 1) := by decide +kernel
theorem dL_law_375 : decode cL_law 375 = .ok (.iload_n 3, 1) := by decide +kernel
theorem dL_law_376 : decode cL_law 376 = .ok (.iconst 1, 1) := by decide +kernel
theorem dL_law_377 : decode cL_law 377 = .ok (.iadd, 1) := by decide +kernel
theorem dL_law_378 : decode cL_law 378 = .ok (.iaload, 1) := by decide +kernel
theorem dL_law_379 : decode cL_law 379 = .ok (.aload_n 0, 1) := by decide +kernel
theorem dL_law_380 : decode cL_law 380 = .ok (.iload_n 3, 1) := by decide +kernel
theorem dL_law_381 : decode cL_law 381 = .ok (.iconst 2, 1) := by decide +kernel
theorem dL_law_382 : decode cL_law 382 = .ok (.iadd, 1) := by decide +kernel
theorem dL_law_383 : decode cL_law 383 = .ok (.iaload, 1) := by decide +kernel
theorem dL_law_384 : decode cL_law 384 = .ok (.aload_n 0, 1) := by decide +kernel
theorem dL_law_385 : decode cL_law 385 = .ok (.iload_n 3, 1) := by decide +kernel
theorem dL_law_386 : decode cL_law 386 = .ok (.iconst 3, 1) := by decide +kernel
theorem dL_law_387 : decode cL_law 387 = .ok (.iadd, 1) := by decide +kernel
theorem dL_law_388 : decode cL_law 388 = .ok (.iaload, 1) := by decide +kernel
theorem dL_law_389 : decode cL_law 389 = .ok (.invokevirtual 48, 3) := by decide +kernel
theorem dL_law_392 : decode cL_law 392 = .ok (.if_icmp .eq 456, 3) := by decide +kernel
theorem dL_law_395 : decode cL_law 395 = .ok (.iconst 0, 1) := by decide +kernel
theorem dL_law_396 : decode cL_law 396 = .ok (.ireturn, 1) := by decide +kernel
theorem dL_law_397 : decode cL_law 397 = .ok (.aload_n 1, 1) := by decide +kernel
theorem dL_law_398 : decode cL_law 398 = .ok (.aload_n 0, 1) := by decide +kernel
theorem dL_law_399 : decode cL_law 399 = .ok (.iload_n 3, 1) := by decide +kernel
theorem dL_law_400 : decode cL_law 400 = .ok (.iconst 1, 1) := by decide +kernel
theorem dL_law_401 : decode cL_law 401 = .ok (.iadd, 1) := by decide +kernel
theorem dL_law_402 : decode cL_law 402 = .ok (.iaload, 1) := by decide +kernel
theorem dL_law_403 : decode cL_law 403 = .ok (.aload_n 0, 1) := by decide +kernel
theorem dL_law_404 : decode cL_law 404 = .ok (.iload_n 3, 1) := by decide +kernel
theorem dL_law_405 : decode cL_law 405 = .ok (.iconst 2, 1) := by decide +kernel
theorem dL_law_406 : decode cL_law 406 = .ok (.iadd, 1) := by decide +kernel
theorem dL_law_407 : decode cL_law 407 = .ok (.iaload, 1) := by decide +kernel
theorem dL_law_408 : decode cL_law 408 = .ok (.invokevirtual 49, 3) := by decide +kernel
theorem dL_law_411 : decode cL_law 411 = .ok (.aload_n 2, 1) := by decide +kernel
theorem dL_law_412 : decode cL_law 412 = .ok (.aload_n 0, 1) := by decide +kernel
theorem dL_law_413 : decode cL_law 413 = .ok (.iload_n 3, 1) := by decide +kernel
theorem dL_law_414 : decode cL_law 414 = .ok (.iconst 1, 1) := by decide +kernel
theorem dL_law_415 : decode cL_law 415 = .ok (.iadd, 1) := by decide +kernel
theorem dL_law_416 : decode cL_law 416 = .ok (.iaload, 1) := by decide +kernel
theorem dL_law_417 : decode cL_law 417 = .ok (.aload_n 0, 1) := by decide +kernel
theorem dL_law_418 : decode cL_law 418 = .ok (.iload_n 3, 1) := by decide +kernel
theorem dL_law_419 : decode cL_law 419 = .ok (.iconst 2, 1) := by decide +kernel
theorem dL_law_420 : decode cL_law 420 = .ok (.iadd, 1) := by decide +kernel
theorem dL_law_421 : decode cL_law 421 = .ok (.iaload, 1) := by decide +kernel
theorem dL_law_422 : decode cL_law 422 = .ok (.invokevirtual 52, 3) := by decide +kernel
theorem dL_law_425 : decode cL_law 425 = .ok (.if_icmp .eq 423, 3) := by decide +kernel
theorem dL_law_428 : decode cL_law 428 = .ok (.iconst 0, 1) := by decide +kernel
theorem dL_law_429 : decode cL_law 429 = .ok (.ireturn, 1) := by decide +kernel
theorem dL_law_430 : decode cL_law 430 = .ok (.aload_n 1, 1) := by decide +kernel
theorem dL_law_431 : decode cL_law 431 = .ok (.aload_n 0, 1) := by decide +kernel
theorem dL_law_432 : decode cL_law 432 = .ok (.iload_n 3, 1) := by decide +kernel
theorem dL_law_433 : decode cL_law 433 = .ok (.iconst 1, 1) := by decide +kernel
theorem dL_law_434 : decode cL_law 434 = .ok (.iadd, 1) := by decide +kernel
theorem dL_law_435 : decode cL_law 435 = .ok (.iaload, 1) := by decide +kernel
theorem dL_law_436 : decode cL_law 436 = .ok (.aload_n 0, 1) := by decide +kernel
theorem dL_law_437 : decode cL_law 437 = .ok (.iload_n 3, 1) := by decide +kernel
theorem dL_law_438 : decode cL_law 438 = .ok (.iconst 2, 1) := by decide +kernel
theorem dL_law_439 : decode cL_law 439 = .ok (.iadd, 1) := by decide +kernel
theorem dL_law_440 : decode cL_law 440 = .ok (.iaload, 1) := by decide +kernel
theorem dL_law_441 : decode cL_law 441 = .ok (.invokevirtual 53, 3) := by decide +kernel
theorem dL_law_444 : decode cL_law 444 = .ok (.aload_n 2, 1) := by decide +kernel
theorem dL_law_445 : decode cL_law 445 = .ok (.aload_n 0, 1) := by decide +kernel
theorem dL_law_446 : decode cL_law 446 = .ok (.iload_n 3, 1) := by decide +kernel
theorem dL_law_447 : decode cL_law 447 = .ok (.iconst 1, 1) := by decide +kernel
theorem dL_law_448 : decode cL_law 448 = .ok (.iadd, 1) := by decide +kernel
theorem dL_law_449 : decode cL_law 449 = .ok (.iaload, 1) := by decide +kernel
theorem dL_law_450 : decode cL_law 450 = .ok (.aload_n 0, 1) := by decide +kernel
theorem dL_law_451 : decode cL_law 451 = .ok (.iload_n 3, 1) := by decide +kernel
theorem dL_law_452 : decode cL_law 452 = .ok (.iconst 2, 1) := by decide +kernel
theorem dL_law_453 : decode cL_law 453 = .ok (.iadd, 1) := by decide +kernel
theorem dL_law_454 : decode cL_law 454 = .ok (.iaload, 1) := by decide +kernel
theorem dL_law_455 : decode cL_law 455 = .ok (.invokevirtual 56, 3) := by decide +kernel
theorem dL_law_458 : decode cL_law 458 = .ok (.if_icmp .eq 390, 3) := by decide +kernel
theorem dL_law_461 : decode cL_law 461 = .ok (.iconst 0, 1) := by decide +kernel
theorem dL_law_462 : decode cL_law 462 = .ok (.ireturn, 1) := by decide +kernel
theorem dL_law_463 : decode cL_law 463 = .ok (.aload_n 1, 1) := by decide +kernel
theorem dL_law_464 : decode cL_law 464 = .ok (.aload_n 0, 1) := by decide +kernel
theorem dL_law_465 : decode cL_law 465 = .ok (.iload_n 3, 1) := by decide +kernel
theorem dL_law_466 : decode cL_law 466 = .ok (.iconst 1, 1) := by decide +kernel
theorem dL_law_467 : decode cL_law 467 = .ok (.iadd, 1) := by decide +kernel
theorem dL_law_468 : decode cL_law 468 = .ok (.iaload, 1) := by decide +kernel
theorem dL_law_469 : decode cL_law 469 = .ok (.aload_n 0, 1) := by decide +kernel
theorem dL_law_470 : decode cL_law 470 = .ok (.iload_n 3, 1) := by decide +kernel
theorem dL_law_471 : decode cL_law 471 = .ok (.iconst 2, 1) := by decide +kernel
theorem dL_law_472 : decode cL_law 472 = .ok (.iadd, 1) := by decide +kernel
theorem dL_law_473 : decode cL_law 473 = .ok (.iaload, 1) := by decide +kernel
theorem dL_law_474 : decode cL_law 474 = .ok (.invokevirtual 57, 3) := by decide +kernel
theorem dL_law_477 : decode cL_law 477 = .ok (.aload_n 2, 1) := by decide +kernel
theorem dL_law_478 : decode cL_law 478 = .ok (.aload_n 0, 1) := by decide +kernel
theorem dL_law_479 : decode cL_law 479 = .ok (.iload_n 3, 1) := by decide +kernel
theorem dL_law_480 : decode cL_law 480 = .ok (.iconst 1, 1) := by decide +kernel
theorem dL_law_481 : decode cL_law 481 = .ok (.iadd, 1) := by decide +kernel
theorem dL_law_482 : decode cL_law 482 = .ok (.iaload, 1) := by decide +kernel
theorem dL_law_483 : decode cL_law 483 = .ok (.aload_n 0, 1) := by decide +kernel
theorem dL_law_484 : decode cL_law 484 = .ok (.iload_n 3, 1) := by decide +kernel
theorem dL_law_485 : decode cL_law 485 = .ok (.iconst 2, 1) := by decide +kernel
theorem dL_law_486 : decode cL_law 486 = .ok (.iadd, 1) := by decide +kernel
theorem dL_law_487 : decode cL_law 487 = .ok (.iaload, 1) := by decide +kernel
theorem dL_law_488 : decode cL_law 488 = .ok (.invokevirtual 60, 3) := by decide +kernel
theorem dL_law_491 : decode cL_law 491 = .ok (.if_icmp .eq 357, 3) := by decide +kernel
theorem dL_law_494 : decode cL_law 494 = .ok (.iconst 0, 1) := by decide +kernel
theorem dL_law_495 : decode cL_law 495 = .ok (.ireturn, 1) := by decide +kernel
theorem dL_law_496 : decode cL_law 496 = .ok (.aload_n 1, 1) := by decide +kernel
theorem dL_law_497 : decode cL_law 497 = .ok (.aload_n 0, 1) := by decide +kernel
theorem dL_law_498 : decode cL_law 498 = .ok (.iload_n 3, 1) := by decide +kernel
theorem dL_law_499 : decode cL_law 499 = .ok (.iconst 1, 1) := by decide +kernel
theorem dL_law_500 : decode cL_law 500 = .ok (.iadd, 1) := by decide +kernel
theorem dL_law_501 : decode cL_law 501 = .ok (.iaload, 1) := by decide +kernel
theorem dL_law_502 : decode cL_law 502 = .ok (.invokevirtual 61, 3) := by decide +kernel
theorem dL_law_505 : decode cL_law 505 = .ok (.aload_n 2, 1) := by decide +kernel
theorem dL_law_506 : decode cL_law 506 = .ok (.aload_n 0, 1) := by decide +kernel
theorem dL_law_507 : decode cL_law 507 = .ok (.iload_n 3, 1) := by decide +kernel
theorem dL_law_508 : decode cL_law 508 = .ok (.iconst 1, 1) := by decide +kernel
theorem dL_law_509 : decode cL_law 509 = .ok (.iadd, 1) := by decide +kernel
theorem dL_law_510 : decode cL_law 510 = .ok (.iaload, 1) := by decide +kernel
theorem dL_law_511 : decode cL_law 511 = .ok (.invokevirtual 64, 3) := by decide +kernel
theorem dL_law_514 : decode cL_law 514 = .ok (.if_icmp .eq 334, 3) := by decide +kernel
theorem dL_law_517 : decode cL_law 517 = .ok (.iconst 0, 1) := by decide +kernel
theorem dL_law_518 : decode cL_law 518 = .ok (.ireturn, 1) := by decide +kernel
theorem dL_law_519 : decode cL_law 519 = .ok (.aload_n 1, 1) := by decide +kernel
theorem dL_law_520 : decode cL_law 520 = .ok (.aload_n 0, 1) := by decide +kernel
theorem dL_law_521 : decode cL_law 521 = .ok (.iload_n 3, 1) := by decide +kernel
theorem dL_law_522 : decode cL_law 522 = .ok (.iconst 1, 1) := by decide +kernel
theorem dL_law_523 : decode cL_law 523 = .ok (.iadd, 1) := by decide +kernel
theorem dL_law_524 : decode cL_law 524 = .ok (.iaload, 1) := by decide +kernel
theorem dL_law_525 : decode cL_law 525 = .ok (.invokevirtual 65, 3) := by decide +kernel
theorem dL_law_528 : decode cL_law 528 = .ok (.aload_n 2, 1) := by decide +kernel
theorem dL_law_529 : decode cL_law 529 = .ok (.aload_n 0, 1) := by decide +kernel
theorem dL_law_530 : decode cL_law 530 = .ok (.iload_n 3, 1) := by decide +kernel
theorem dL_law_531 : decode cL_law 531 = .ok (.iconst 1, 1) := by decide +kernel
theorem dL_law_532 : decode cL_law 532 = .ok (.iadd, 1) := by decide +kernel
theorem dL_law_533 : decode cL_law 533 = .ok (.iaload, 1) := by decide +kernel
theorem dL_law_534 : decode cL_law 534 = .ok (.invokevirtual 68, 3) := by decide +kernel
theorem dL_law_537 : decode cL_law 537 = .ok (.if_icmp .eq 311, 3) := by decide +kernel
theorem dL_law_540 : decode cL_law 540 = .ok (.iconst 0, 1) := by decide +kernel
theorem dL_law_541 : decode cL_law 541 = .ok (.ireturn, 1) := by decide +kernel
theorem dL_law_542 : decode cL_law 542 = .ok (.aload_n 1, 1) := by decide +kernel
theorem dL_law_543 : decode cL_law 543 = .ok (.invokevirtual 69, 3) := by decide +kernel
theorem dL_law_546 : decode cL_law 546 = .ok (.aload_n 2, 1) := by decide +kernel
theorem dL_law_547 : decode cL_law 547 = .ok (.invokevirtual 72, 3) := by decide +kernel
theorem dL_law_550 : decode cL_law 550 = .ok (.if_icmp .eq 298, 3) := by decide +kernel
theorem dL_law_553 : decode cL_law 553 = .ok (.iconst 0, 1) := by decide +kernel
theorem dL_law_554 : decode cL_law 554 = .ok (.ireturn, 1) := by decide +kernel
theorem dL_law_555 : decode cL_law 555 = .ok (.aload_n 1, 1) := by decide +kernel
theorem dL_law_556 : decode cL_law 556 = .ok (.aload_n 0, 1) := by decide +kernel
theorem dL_law_557 : decode cL_law 557 = .ok (.iload_n 3, 1) := by decide +kernel
theorem dL_law_558 : decode cL_law 558 = .ok (.iconst 1, 1) := by decide +kernel
theorem dL_law_559 : decode cL_law 559 = .ok (.iadd, 1) := by decide +kernel
theorem dL_law_560 : decode cL_law 560 = .ok (.iaload, 1) := by decide +kernel
theorem dL_law_561 : decode cL_law 561 = .ok (.invokevirtual 73, 3) := by decide +kernel
theorem dL_law_564 : decode cL_law 564 = .ok (.aload_n 2, 1) := by decide +kernel
theorem dL_law_565 : decode cL_law 565 = .ok (.aload_n 0, 1) := by decide +kernel
theorem dL_law_566 : decode cL_law 566 = .ok (.iload_n 3, 1) := by decide +kernel
theorem dL_law_567 : decode cL_law 567 = .ok (.iconst 1, 1) := by decide +kernel
theorem dL_law_568 : decode cL_law 568 = .ok (.iadd, 1) := by decide +kernel
theorem dL_law_569 : decode cL_law 569 = .ok (.iaload, 1) := by decide +kernel
theorem dL_law_570 : decode cL_law 570 = .ok (.invokevirtual 76, 3) := by decide +kernel
theorem dL_law_573 : decode cL_law 573 = .ok (.if_icmp .eq 275, 3) := by decide +kernel
theorem dL_law_576 : decode cL_law 576 = .ok (.iconst 0, 1) := by decide +kernel
theorem dL_law_577 : decode cL_law 577 = .ok (.ireturn, 1) := by decide +kernel
theorem dL_law_578 : decode cL_law 578 = .ok (.aload_n 1, 1) := by decide +kernel
theorem dL_law_579 : decode cL_law 579 = .ok (.invokevirtual 77, 3) := by decide +kernel
theorem dL_law_582 : decode cL_law 582 = .ok (.aload_n 2, 1) := by decide +kernel
theorem dL_law_583 : decode cL_law 583 = .ok (.invokevirtual 80, 3) := by decide +kernel
theorem dL_law_586 : decode cL_law 586 = .ok (.if_icmp .eq 262, 3) := by decide +kernel
theorem dL_law_589 : decode cL_law 589 = .ok (.iconst 0, 1) := by decide +kernel
theorem dL_law_590 : decode cL_law 590 = .ok (.ireturn, 1) := by decide +kernel
theorem dL_law_591 : decode cL_law 591 = .ok (.aload_n 1, 1) := by decide +kernel
theorem dL_law_592 : decode cL_law 592 = .ok (.aload_n 0, 1) := by decide +kernel
theorem dL_law_593 : decode cL_law 593 = .ok (.iload_n 3, 1) := by decide +kernel
theorem dL_law_594 : decode cL_law 594 = .ok (.iconst 1, 1) := by decide +kernel
theorem dL_law_595 : decode cL_law 595 = .ok (.iadd, 1) := by decide +kernel
theorem dL_law_596 : decode cL_law 596 = .ok (.iaload, 1) := by decide +kernel
theorem dL_law_597 : decode cL_law 597 = .ok (.invokevirtual 81, 3) := by decide +kernel
theorem dL_law_600 : decode cL_law 600 = .ok (.aload_n 2, 1) := by decide +kernel
theorem dL_law_601 : decode cL_law 601 = .ok (.aload_n 0, 1) := by decide +kernel
theorem dL_law_602 : decode cL_law 602 = .ok (.iload_n 3, 1) := by decide +kernel
theorem dL_law_603 : decode cL_law 603 = .ok (.iconst 1, 1) := by decide +kernel
theorem dL_law_604 : decode cL_law 604 = .ok (.iadd, 1) := by decide +kernel
theorem dL_law_605 : decode cL_law 605 = .ok (.iaload, 1) := by decide +kernel
theorem dL_law_606 : decode cL_law 606 = .ok (.invokevirtual 84, 3) := by decide +kernel
theorem dL_law_609 : decode cL_law 609 = .ok (.if_icmp .eq 239, 3) := by decide +kernel
theorem dL_law_612 : decode cL_law 612 = .ok (.iconst 0, 1) := by decide +kernel
theorem dL_law_613 : decode cL_law 613 = .ok (.ireturn, 1) := by decide +kernel
theorem dL_law_614 : decode cL_law 614 = .ok (.aload_n 1, 1) := by decide +kernel
theorem dL_law_615 : decode cL_law 615 = .ok (.invokevirtual 85, 3) := by decide +kernel
theorem dL_law_618 : decode cL_law 618 = .ok (.aload_n 2, 1) := by decide +kernel
theorem dL_law_619 : decode cL_law 619 = .ok (.invokevirtual 88, 3) := by decide +kernel
theorem dL_law_622 : decode cL_law 622 = .ok (.if_icmp .eq 226, 3) := by decide +kernel
theorem dL_law_625 : decode cL_law 625 = .ok (.iconst 0, 1) := by decide +kernel
theorem dL_law_626 : decode cL_law 626 = .ok (.ireturn, 1) := by decide +kernel
theorem dL_law_627 : decode cL_law 627 = .ok (.aload_n 1, 1) := by decide +kernel
theorem dL_law_628 : decode cL_law 628 = .ok (.invokevirtual 89, 3) := by decide +kernel
theorem dL_law_631 : decode cL_law 631 = .ok (.aload_n 2, 1) := by decide +kernel
theorem dL_law_632 : decode cL_law 632 = .ok (.invokevirtual 92, 3) := by decide +kernel
theorem dL_law_635 : decode cL_law 635 = .ok (.if_icmp .eq 213, 3) := by decide +kernel
theorem dL_law_638 : decode cL_law 638 = .ok (.iconst 0, 1) := by decide +kernel
theorem dL_law_639 : decode cL_law 639 = .ok (.ireturn, 1) := by decide +kernel
theorem dL_law_640 : decode cL_law 640 = .ok (.aload_n 1, 1) := by decide +kernel
theorem dL_law_641 : decode cL_law 641 = .ok (.aload_n 0, 1) := by decide +kernel
theorem dL_law_642 : decode cL_law 642 = .ok (.iload_n 3, 1) := by decide +kernel
theorem dL_law_643 : decode cL_law 643 = .ok (.iconst 1, 1) := by decide +kernel
theorem dL_law_644 : decode cL_law 644 = .ok (.iadd, 1) := by decide +kernel
theorem dL_law_645 : decode cL_law 645 = .ok (.iaload, 1) := by decide +kernel
theorem dL_law_646 : decode cL_law 646 = .ok (.aload_n 0, 1) := by decide +kernel
theorem dL_law_647 : decode cL_law 647 = .ok (.iload_n 3, 1) := by decide +kernel
theorem dL_law_648 : decode cL_law 648 = .ok (.iconst 2, 1) := by decide +kernel
theorem dL_law_649 : decode cL_law 649 = .ok (.iadd, 1) := by decide +kernel
theorem dL_law_650 : decode cL_law 650 = .ok (.iaload, 1) := by decide +kernel
theorem dL_law_651 : decode cL_law 651 = .ok (.invokevirtual 93, 3) := by decide +kernel
theorem dL_law_654 : decode cL_law 654 = .ok (.aload_n 2, 1) := by decide +kernel
theorem dL_law_655 : decode cL_law 655 = .ok (.aload_n 0, 1) := by decide +kernel
theorem dL_law_656 : decode cL_law 656 = .ok (.iload_n 3, 1) := by decide +kernel
theorem dL_law_657 : decode cL_law 657 = .ok (.iconst 1, 1) := by decide +kernel
theorem dL_law_658 : decode cL_law 658 = .ok (.iadd, 1) := by decide +kernel
theorem dL_law_659 : decode cL_law 659 = .ok (.iaload, 1) := by decide +kernel
theorem dL_law_660 : decode cL_law 660 = .ok (.aload_n 0, 1) := by decide +kernel
theorem dL_law_661 : decode cL_law 661 = .ok (.iload_n 3, 1) := by decide +kernel
theorem dL_law_662 : decode cL_law 662 = .ok (.iconst 2, 1) := by decide +kernel
theorem dL_law_663 : decode cL_law 663 = .ok (.iadd, 1) := by decide +kernel
theorem dL_law_664 : decode cL_law 664 = .ok (.iaload, 1) := by decide +kernel
theorem dL_law_665 : decode cL_law 665 = .ok (.invokevirtual 96, 3) := by decide +kernel
theorem dL_law_668 : decode cL_law 668 = .ok (.if_icmp .eq 180, 3) := by decide +kernel
theorem dL_law_671 : decode cL_law 671 = .ok (.iconst 0, 1) := by decide +kernel
theorem dL_law_672 : decode cL_law 672 = .ok (.ireturn, 1) := by decide +kernel
theorem dL_law_673 : decode cL_law 673 = .ok (.aload_n 1, 1) := by decide +kernel
theorem dL_law_674 : decode cL_law 674 = .ok (.aload_n 0, 1) := by decide +kernel
theorem dL_law_675 : decode cL_law 675 = .ok (.iload_n 3, 1) := by decide +kernel
theorem dL_law_676 : decode cL_law 676 = .ok (.iconst 1, 1) := by decide +kernel
theorem dL_law_677 : decode cL_law 677 = .ok (.iadd, 1) := by decide +kernel
theorem dL_law_678 : decode cL_law 678 = .ok (.iaload, 1) := by decide +kernel
theorem dL_law_679 : decode cL_law 679 = .ok (.aload_n 0, 1) := by decide +kernel
theorem dL_law_680 : decode cL_law 680 = .ok (.iload_n 3, 1) := by decide +kernel
theorem dL_law_681 : decode cL_law 681 = .ok (.iconst 2, 1) := by decide +kernel
theorem dL_law_682 : decode cL_law 682 = .ok (.iadd, 1) := by decide +kernel
theorem dL_law_683 : decode cL_law 683 = .ok (.iaload, 1) := by decide +kernel
theorem dL_law_684 : decode cL_law 684 = .ok (.invokevirtual 97, 3) := by decide +kernel
theorem dL_law_687 : decode cL_law 687 = .ok (.aload_n 2, 1) := by decide +kernel
theorem dL_law_688 : decode cL_law 688 = .ok (.aload_n 0, 1) := by decide +kernel
theorem dL_law_689 : decode cL_law 689 = .ok (.iload_n 3, 1) := by decide +kernel
theorem dL_law_690 : decode cL_law 690 = .ok (.iconst 1, 1) := by decide +kernel
theorem dL_law_691 : decode cL_law 691 = .ok (.iadd, 1) := by decide +kernel
theorem dL_law_692 : decode cL_law 692 = .ok (.iaload, 1) := by decide +kernel
theorem dL_law_693 : decode cL_law 693 = .ok (.aload_n 0, 1) := by decide +kernel
theorem dL_law_694 : decode cL_law 694 = .ok (.iload_n 3, 1) := by decide +kernel
theorem dL_law_695 : decode cL_law 695 = .ok (.iconst 2, 1) := by decide +kernel
theorem dL_law_696 : decode cL_law 696 = .ok (.iadd, 1) := by decide +kernel
theorem dL_law_697 : decode cL_law 697 = .ok (.iaload, 1) := by decide +kernel
theorem dL_law_698 : decode cL_law 698 = .ok (.invokevirtual 100, 3) := by decide +kernel
theorem dL_law_701 : decode cL_law 701 = .ok (.if_icmp .eq 147, 3) := by decide +kernel
theorem dL_law_704 : decode cL_law 704 = .ok (.iconst 0, 1) := by decide +kernel
theorem dL_law_705 : decode cL_law 705 = .ok (.ireturn, 1) := by decide +kernel
theorem dL_law_706 : decode cL_law 706 = .ok (.aload_n 1, 1) := by decide +kernel
theorem dL_law_707 : decode cL_law 707 = .ok (.invokevirtual 101, 3) := by decide +kernel
theorem dL_law_710 : decode cL_law 710 = .ok (.aload_n 2, 1) := by decide +kernel
theorem dL_law_711 : decode cL_law 711 = .ok (.invokevirtual 104, 3) := by decide +kernel
theorem dL_law_714 : decode cL_law 714 = .ok (.if_icmp .eq 134, 3) := by decide +kernel
theorem dL_law_717 : decode cL_law 717 = .ok (.iconst 0, 1) := by decide +kernel
theorem dL_law_718 : decode cL_law 718 = .ok (.ireturn, 1) := by decide +kernel
theorem dL_law_719 : decode cL_law 719 = .ok (.aload_n 1, 1) := by decide +kernel
theorem dL_law_720 : decode cL_law 720 = .ok (.aload_n 0, 1) := by decide +kernel
theorem dL_law_721 : decode cL_law 721 = .ok (.iload_n 3, 1) := by decide +kernel
theorem dL_law_722 : decode cL_law 722 = .ok (.iconst 1, 1) := by decide +kernel
theorem dL_law_723 : decode cL_law 723 = .ok (.iadd, 1) := by decide +kernel
theorem dL_law_724 : decode cL_law 724 = .ok (.iaload, 1) := by decide +kernel
theorem dL_law_725 : decode cL_law 725 = .ok (.invokevirtual 105, 3) := by decide +kernel
theorem dL_law_728 : decode cL_law 728 = .ok (.aload_n 2, 1) := by decide +kernel
theorem dL_law_729 : decode cL_law 729 = .ok (.aload_n 0, 1) := by decide +kernel
theorem dL_law_730 : decode cL_law 730 = .ok (.iload_n 3, 1) := by decide +kernel
theorem dL_law_731 : decode cL_law 731 = .ok (.iconst 1, 1) := by decide +kernel
theorem dL_law_732 : decode cL_law 732 = .ok (.iadd, 1) := by decide +kernel
theorem dL_law_733 : decode cL_law 733 = .ok (.iaload, 1) := by decide +kernel
theorem dL_law_734 : decode cL_law 734 = .ok (.invokevirtual 108, 3) := by decide +kernel
theorem dL_law_737 : decode cL_law 737 = .ok (.if_icmp .eq 111, 3) := by decide +kernel
theorem dL_law_740 : decode cL_law 740 = .ok (.iconst 0, 1) := by decide +kernel
theorem dL_law_741 : decode cL_law 741 = .ok (.ireturn, 1) := by decide +kernel
theorem dL_law_742 : decode cL_law 742 = .ok (.aload_n 1, 1) := by decide +kernel
theorem dL_law_743 : decode cL_law 743 = .ok (.aload_n 0, 1) := by decide +kernel
theorem dL_law_744 : decode cL_law 744 = .ok (.iload_n 3, 1) := by decide +kernel
theorem dL_law_745 : decode cL_law 745 = .ok (.iconst 1, 1) := by decide +kernel
theorem dL_law_746 : decode cL_law 746 = .ok (.iadd, 1) := by decide +kernel
theorem dL_law_747 : decode cL_law 747 = .ok (.iaload, 1) := by decide +kernel
theorem dL_law_748 : decode cL_law 748 = .ok (.aload_n 0, 1) := by decide +kernel
theorem dL_law_749 : decode cL_law 749 = .ok (.iload_n 3, 1) := by decide +kernel
theorem dL_law_750 : decode cL_law 750 = .ok (.iconst 2, 1) := by decide +kernel
theorem dL_law_751 : decode cL_law 751 = .ok (.iadd, 1) := by decide +kernel
theorem dL_law_752 : decode cL_law 752 = .ok (.iaload, 1) := by decide +kernel
theorem dL_law_753 : decode cL_law 753 = .ok (.aload_n 0, 1) := by decide +kernel
theorem dL_law_754 : decode cL_law 754 = .ok (.iload_n 3, 1) := by decide +kernel
theorem dL_law_755 : decode cL_law 755 = .ok (.iconst 3, 1) := by decide +kernel
theorem dL_law_756 : decode cL_law 756 = .ok (.iadd, 1) := by decide +kernel
theorem dL_law_757 : decode cL_law 757 = .ok (.iaload, 1) := by decide +kernel
theorem dL_law_758 : decode cL_law 758 = .ok (.invokevirtual 109, 3) := by decide +kernel
theorem dL_law_761 : decode cL_law 761 = .ok (.aload_n 2, 1) := by decide +kernel
theorem dL_law_762 : decode cL_law 762 = .ok (.aload_n 0, 1) := by decide +kernel
theorem dL_law_763 : decode cL_law 763 = .ok (.iload_n 3, 1) := by decide +kernel
theorem dL_law_764 : decode cL_law 764 = .ok (.iconst 1, 1) := by decide +kernel
theorem dL_law_765 : decode cL_law 765 = .ok (.iadd, 1) := by decide +kernel
theorem dL_law_766 : decode cL_law 766 = .ok (.iaload, 1) := by decide +kernel
theorem dL_law_767 : decode cL_law 767 = .ok (.aload_n 0, 1) := by decide +kernel
theorem dL_law_768 : decode cL_law 768 = .ok (.iload_n 3, 1) := by decide +kernel
theorem dL_law_769 : decode cL_law 769 = .ok (.iconst 2, 1) := by decide +kernel
theorem dL_law_770 : decode cL_law 770 = .ok (.iadd, 1) := by decide +kernel
theorem dL_law_771 : decode cL_law 771 = .ok (.iaload, 1) := by decide +kernel
theorem dL_law_772 : decode cL_law 772 = .ok (.aload_n 0, 1) := by decide +kernel
theorem dL_law_773 : decode cL_law 773 = .ok (.iload_n 3, 1) := by decide +kernel
theorem dL_law_774 : decode cL_law 774 = .ok (.iconst 3, 1) := by decide +kernel
theorem dL_law_775 : decode cL_law 775 = .ok (.iadd, 1) := by decide +kernel
theorem dL_law_776 : decode cL_law 776 = .ok (.iaload, 1) := by decide +kernel
theorem dL_law_777 : decode cL_law 777 = .ok (.invokevirtual 112, 3) := by decide +kernel
theorem dL_law_780 : decode cL_law 780 = .ok (.if_icmp .eq 68, 3) := by decide +kernel
theorem dL_law_783 : decode cL_law 783 = .ok (.iconst 0, 1) := by decide +kernel
theorem dL_law_784 : decode cL_law 784 = .ok (.ireturn, 1) := by decide +kernel
theorem dL_law_785 : decode cL_law 785 = .ok (.aload_n 1, 1) := by decide +kernel
theorem dL_law_786 : decode cL_law 786 = .ok (.invokevirtual 113, 3) := by decide +kernel
theorem dL_law_789 : decode cL_law 789 = .ok (.aload_n 2, 1) := by decide +kernel
theorem dL_law_790 : decode cL_law 790 = .ok (.invokevirtual 116, 3) := by decide +kernel
theorem dL_law_793 : decode cL_law 793 = .ok (.if_icmp .eq 55, 3) := by decide +kernel
theorem dL_law_796 : decode cL_law 796 = .ok (.iconst 0, 1) := by decide +kernel
theorem dL_law_797 : decode cL_law 797 = .ok (.ireturn, 1) := by decide +kernel
theorem dL_law_798 : decode cL_law 798 = .ok (.aload_n 1, 1) := by decide +kernel
theorem dL_law_799 : decode cL_law 799 = .ok (.invokevirtual 117, 3) := by decide +kernel
theorem dL_law_802 : decode cL_law 802 = .ok (.aload_n 2, 1) := by decide +kernel
theorem dL_law_803 : decode cL_law 803 = .ok (.invokevirtual 120, 3) := by decide +kernel
theorem dL_law_806 : decode cL_law 806 = .ok (.if_icmp .eq 42, 3) := by decide +kernel
theorem dL_law_809 : decode cL_law 809 = .ok (.iconst 0, 1) := by decide +kernel
theorem dL_law_810 : decode cL_law 810 = .ok (.ireturn, 1) := by decide +kernel
theorem dL_law_811 : decode cL_law 811 = .ok (.aload_n 1, 1) := by decide +kernel
theorem dL_law_812 : decode cL_law 812 = .ok (.aload_n 0, 1) := by decide +kernel
theorem dL_law_813 : decode cL_law 813 = .ok (.iload_n 3, 1) := by decide +kernel
theorem dL_law_814 : decode cL_law 814 = .ok (.iconst 1, 1) := by decide +kernel
theorem dL_law_815 : decode cL_law 815 = .ok (.iadd, 1) := by decide +kernel
theorem dL_law_816 : decode cL_law 816 = .ok (.iaload, 1) := by decide +kernel
theorem dL_law_817 : decode cL_law 817 = .ok (.invokevirtual 121, 3) := by decide +kernel
theorem dL_law_820 : decode cL_law 820 = .ok (.aload_n 2, 1) := by decide +kernel
theorem dL_law_821 : decode cL_law 821 = .ok (.aload_n 0, 1) := by decide +kernel
theorem dL_law_822 : decode cL_law 822 = .ok (.iload_n 3, 1) := by decide +kernel
theorem dL_law_823 : decode cL_law 823 = .ok (.iconst 1, 1) := by decide +kernel
theorem dL_law_824 : decode cL_law 824 = .ok (.iadd, 1) := by decide +kernel
theorem dL_law_825 : decode cL_law 825 = .ok (.iaload, 1) := by decide +kernel
theorem dL_law_826 : decode cL_law 826 = .ok (.invokevirtual 124, 3) := by decide +kernel
theorem dL_law_829 : decode cL_law 829 = .ok (.if_icmp .eq 19, 3) := by decide +kernel
theorem dL_law_832 : decode cL_law 832 = .ok (.iconst 0, 1) := by decide +kernel
theorem dL_law_833 : decode cL_law 833 = .ok (.ireturn, 1) := by decide +kernel
theorem dL_law_834 : decode cL_law 834 = .ok (.aload_n 1, 1) := by decide +kernel
theorem dL_law_835 : decode cL_law 835 = .ok (.invokevirtual 125, 3) := by decide +kernel
theorem dL_law_838 : decode cL_law 838 = .ok (.aload_n 2, 1) := by decide +kernel
theorem dL_law_839 : decode cL_law 839 = .ok (.invokevirtual 129, 3) := by decide +kernel
theorem dL_law_842 : decode cL_law 842 = .ok (.lcmp, 1) := by decide +kernel
theorem dL_law_843 : decode cL_law 843 = .ok (.ifCond .eq 5, 3) := by decide +kernel
theorem dL_law_846 : decode cL_law 846 = .ok (.iconst 0, 1) := by decide +kernel
theorem dL_law_847 : decode cL_law 847 = .ok (.ireturn, 1) := by decide +kernel
theorem dL_law_848 : decode cL_law 848 = .ok (.iinc 3 6, 3) := by decide +kernel
theorem dL_law_851 : decode cL_law 851 = .ok (.goto (-833), 3) := by decide +kernel
theorem dL_law_854 : decode cL_law 854 = .ok (.iconst 1, 1) := by decide +kernel
theorem dL_law_855 : decode cL_law 855 = .ok (.ireturn, 1) := by decide +kernel
abbrev vwCl : List vw_C := [(RX0, TX0, 1), (RX1, TX1, 8), (RX2, TX2, 2), (RX3, TX3, 4), (RX4, TX4, 12), (RX5, TX5, 2), (RX7, TX7, 5), (RX9, TX9, 10), (RX10, TX10, 37)]
